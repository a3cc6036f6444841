section
-- ===== PART A: goes FIRST, ahead of the names: the tables' words, and 'selects' of the private methods out of them =====
/-- a private method of a class that the tables say can be made, by its rows of tables_1 -/
def lw_okq (q : MethodName × Nat) : Prop := (q.1.cls ≠ "java/lang/invoke/MethodHandle" ∧ q.1.cls ≠ "java/lang/invoke/VarHandle") ∧ Cond.instantiable q.1.cls q.2 ∈ tables_1 ∧ Cond.privateMethod q.1 ∈ tables_1 ∧ Cond.instanceMethod q.1 ∈ tables_1
theorem lw_p0 : lw_okq (⟨"BoatBridge$Deck", "layLoads", "(I[I)V"⟩, 12) := ⟨⟨by decide +kernel, by decide +kernel⟩, List.mem_of_getElem? (i := 24) (by decide +kernel), List.mem_of_getElem? (i := 330) (by decide +kernel), List.mem_of_getElem? (i := 331) (by decide +kernel)⟩
theorem lw_p1 : lw_okq (⟨"BoatBridge$Deck", "press", "(II)V"⟩, 12) := ⟨⟨by decide +kernel, by decide +kernel⟩, List.mem_of_getElem? (i := 24) (by decide +kernel), List.mem_of_getElem? (i := 335) (by decide +kernel), List.mem_of_getElem? (i := 336) (by decide +kernel)⟩
theorem lw_p2 : lw_okq (⟨"BoatBridge$Deck", "findLeastMargin", "([I)V"⟩, 12) := ⟨⟨by decide +kernel, by decide +kernel⟩, List.mem_of_getElem? (i := 24) (by decide +kernel), List.mem_of_getElem? (i := 347) (by decide +kernel), List.mem_of_getElem? (i := 348) (by decide +kernel)⟩
theorem lw_p3 : lw_okq (⟨"BoatBridge$River", "plan", "()V"⟩, 19) := ⟨⟨by decide +kernel, by decide +kernel⟩, List.mem_of_getElem? (i := 77) (by decide +kernel), List.mem_of_getElem? (i := 401) (by decide +kernel), List.mem_of_getElem? (i := 402) (by decide +kernel)⟩
theorem lw_p4 : lw_okq (⟨"BoatBridge$River", "waitsFrom", "(II)I"⟩, 19) := ⟨⟨by decide +kernel, by decide +kernel⟩, List.mem_of_getElem? (i := 77) (by decide +kernel), List.mem_of_getElem? (i := 406) (by decide +kernel), List.mem_of_getElem? (i := 407) (by decide +kernel)⟩
theorem lw_p5 : lw_okq (⟨"BoatBridge$River", "waitsOfOpening", "(II)I"⟩, 19) := ⟨⟨by decide +kernel, by decide +kernel⟩, List.mem_of_getElem? (i := 77) (by decide +kernel), List.mem_of_getElem? (i := 410) (by decide +kernel), List.mem_of_getElem? (i := 411) (by decide +kernel)⟩
theorem lw_p6 : lw_okq (⟨"BoatBridge$River", "endOfOpening", "(II)I"⟩, 19) := ⟨⟨by decide +kernel, by decide +kernel⟩, List.mem_of_getElem? (i := 77) (by decide +kernel), List.mem_of_getElem? (i := 414) (by decide +kernel), List.mem_of_getElem? (i := 415) (by decide +kernel)⟩
theorem lw_p7 : lw_okq (⟨"BoatBridge$River", "crosserWaits", "(II)I"⟩, 19) := ⟨⟨by decide +kernel, by decide +kernel⟩, List.mem_of_getElem? (i := 77) (by decide +kernel), List.mem_of_getElem? (i := 418) (by decide +kernel), List.mem_of_getElem? (i := 419) (by decide +kernel)⟩
theorem lw_p8 : lw_okq (⟨"BoatBridge$River", "walkBest", "()V"⟩, 19) := ⟨⟨by decide +kernel, by decide +kernel⟩, List.mem_of_getElem? (i := 77) (by decide +kernel), List.mem_of_getElem? (i := 423) (by decide +kernel), List.mem_of_getElem? (i := 424) (by decide +kernel)⟩
theorem lw_p9 : lw_okq (⟨"BoatBridge$Season", "plan", "()V"⟩, 6) := ⟨⟨by decide +kernel, by decide +kernel⟩, List.mem_of_getElem? (i := 141) (by decide +kernel), List.mem_of_getElem? (i := 469) (by decide +kernel), List.mem_of_getElem? (i := 470) (by decide +kernel)⟩
theorem lw_p10 : lw_okq (⟨"BoatBridge$Season", "needIfOut", "(II)I"⟩, 6) := ⟨⟨by decide +kernel, by decide +kernel⟩, List.mem_of_getElem? (i := 141) (by decide +kernel), List.mem_of_getElem? (i := 473) (by decide +kernel), List.mem_of_getElem? (i := 474) (by decide +kernel)⟩
theorem lw_p11 : lw_okq (⟨"BoatBridge$Season", "mayBeIn", "(II)Z"⟩, 6) := ⟨⟨by decide +kernel, by decide +kernel⟩, List.mem_of_getElem? (i := 141) (by decide +kernel), List.mem_of_getElem? (i := 478) (by decide +kernel), List.mem_of_getElem? (i := 479) (by decide +kernel)⟩
theorem lw_p12 : lw_okq (⟨"BoatBridge$Season", "needIfIn", "(I)I"⟩, 6) := ⟨⟨by decide +kernel, by decide +kernel⟩, List.mem_of_getElem? (i := 141) (by decide +kernel), List.mem_of_getElem? (i := 486) (by decide +kernel), List.mem_of_getElem? (i := 487) (by decide +kernel)⟩
theorem lw_p13 : lw_okq (⟨"BoatBridge$Season", "chooseDays", "()V"⟩, 6) := ⟨⟨by decide +kernel, by decide +kernel⟩, List.mem_of_getElem? (i := 141) (by decide +kernel), List.mem_of_getElem? (i := 490) (by decide +kernel), List.mem_of_getElem? (i := 491) (by decide +kernel)⟩
theorem lw_p14 : lw_okq (⟨"BoatBridge$TollReader", "begin", "()V"⟩, 12) := ⟨⟨by decide +kernel, by decide +kernel⟩, List.mem_of_getElem? (i := 182) (by decide +kernel), List.mem_of_getElem? (i := 531) (by decide +kernel), List.mem_of_getElem? (i := 532) (by decide +kernel)⟩
theorem lw_p15 : lw_okq (⟨"BoatBridge$TollReader", "nextToken", "(LBoatBridge$Tape;)V"⟩, 12) := ⟨⟨by decide +kernel, by decide +kernel⟩, List.mem_of_getElem? (i := 182) (by decide +kernel), List.mem_of_getElem? (i := 537) (by decide +kernel), List.mem_of_getElem? (i := 538) (by decide +kernel)⟩
def lw_privs_1 : List (MethodName × Nat) := [(⟨"BoatBridge$Deck", "layLoads", "(I[I)V"⟩, 12), (⟨"BoatBridge$Deck", "press", "(II)V"⟩, 12), (⟨"BoatBridge$Deck", "findLeastMargin", "([I)V"⟩, 12), (⟨"BoatBridge$River", "plan", "()V"⟩, 19), (⟨"BoatBridge$River", "waitsFrom", "(II)I"⟩, 19), (⟨"BoatBridge$River", "waitsOfOpening", "(II)I"⟩, 19), (⟨"BoatBridge$River", "endOfOpening", "(II)I"⟩, 19), (⟨"BoatBridge$River", "crosserWaits", "(II)I"⟩, 19), (⟨"BoatBridge$River", "walkBest", "()V"⟩, 19), (⟨"BoatBridge$Season", "plan", "()V"⟩, 6), (⟨"BoatBridge$Season", "needIfOut", "(II)I"⟩, 6), (⟨"BoatBridge$Season", "mayBeIn", "(II)Z"⟩, 6), (⟨"BoatBridge$Season", "needIfIn", "(I)I"⟩, 6), (⟨"BoatBridge$Season", "chooseDays", "()V"⟩, 6), (⟨"BoatBridge$TollReader", "begin", "()V"⟩, 12), (⟨"BoatBridge$TollReader", "nextToken", "(LBoatBridge$Tape;)V"⟩, 12)]
theorem lw_r1 : ∀ q ∈ lw_privs_1, lw_okq q := List.forall_mem_cons.mpr ⟨lw_p0, List.forall_mem_cons.mpr ⟨lw_p1, List.forall_mem_cons.mpr ⟨lw_p2, List.forall_mem_cons.mpr ⟨lw_p3, List.forall_mem_cons.mpr ⟨lw_p4, List.forall_mem_cons.mpr ⟨lw_p5, List.forall_mem_cons.mpr ⟨lw_p6, List.forall_mem_cons.mpr ⟨lw_p7, List.forall_mem_cons.mpr ⟨lw_p8, List.forall_mem_cons.mpr ⟨lw_p9, List.forall_mem_cons.mpr ⟨lw_p10, List.forall_mem_cons.mpr ⟨lw_p11, List.forall_mem_cons.mpr ⟨lw_p12, List.forall_mem_cons.mpr ⟨lw_p13, List.forall_mem_cons.mpr ⟨lw_p14, List.forall_mem_cons.mpr ⟨lw_p15, fun _ h => absurd h List.not_mem_nil⟩⟩⟩⟩⟩⟩⟩⟩⟩⟩⟩⟩⟩⟩⟩⟩
theorem lw_p16 : lw_okq (⟨"BoatBridge$TollReader", "takeDigits", "(LBoatBridge$Tape;)V"⟩, 12) := ⟨⟨by decide +kernel, by decide +kernel⟩, List.mem_of_getElem? (i := 182) (by decide +kernel), List.mem_of_getElem? (i := 550) (by decide +kernel), List.mem_of_getElem? (i := 551) (by decide +kernel)⟩
theorem lw_p17 : lw_okq (⟨"BoatBridge$TollReader", "takeLetters", "(LBoatBridge$Tape;)V"⟩, 12) := ⟨⟨by decide +kernel, by decide +kernel⟩, List.mem_of_getElem? (i := 182) (by decide +kernel), List.mem_of_getElem? (i := 558) (by decide +kernel), List.mem_of_getElem? (i := 559) (by decide +kernel)⟩
theorem lw_p18 : lw_okq (⟨"BoatBridge$TollReader", "tokenIs", "(LBoatBridge$Tape;Ljava/lang/String;)Z"⟩, 12) := ⟨⟨by decide +kernel, by decide +kernel⟩, List.mem_of_getElem? (i := 182) (by decide +kernel), List.mem_of_getElem? (i := 563) (by decide +kernel), List.mem_of_getElem? (i := 564) (by decide +kernel)⟩
theorem lw_p19 : lw_okq (⟨"BoatBridge$TollReader", "takeToken", "()I"⟩, 12) := ⟨⟨by decide +kernel, by decide +kernel⟩, List.mem_of_getElem? (i := 182) (by decide +kernel), List.mem_of_getElem? (i := 616) (by decide +kernel), List.mem_of_getElem? (i := 617) (by decide +kernel)⟩
theorem lw_p20 : lw_okq (⟨"BoatBridge$TollReader", "takeClauseWord", "()I"⟩, 12) := ⟨⟨by decide +kernel, by decide +kernel⟩, List.mem_of_getElem? (i := 182) (by decide +kernel), List.mem_of_getElem? (i := 620) (by decide +kernel), List.mem_of_getElem? (i := 621) (by decide +kernel)⟩
theorem lw_p21 : lw_okq (⟨"BoatBridge$TollReader", "takeKind", "()I"⟩, 12) := ⟨⟨by decide +kernel, by decide +kernel⟩, List.mem_of_getElem? (i := 182) (by decide +kernel), List.mem_of_getElem? (i := 624) (by decide +kernel), List.mem_of_getElem? (i := 625) (by decide +kernel)⟩
theorem lw_p22 : lw_okq (⟨"BoatBridge$TollReader", "clauseRow", "()[I"⟩, 12) := ⟨⟨by decide +kernel, by decide +kernel⟩, List.mem_of_getElem? (i := 182) (by decide +kernel), List.mem_of_getElem? (i := 628) (by decide +kernel), List.mem_of_getElem? (i := 629) (by decide +kernel)⟩
theorem lw_p23 : lw_okq (⟨"BoatBridge$TollReader", "takeAmount", "()I"⟩, 12) := ⟨⟨by decide +kernel, by decide +kernel⟩, List.mem_of_getElem? (i := 182) (by decide +kernel), List.mem_of_getElem? (i := 632) (by decide +kernel), List.mem_of_getElem? (i := 633) (by decide +kernel)⟩
theorem lw_p24 : lw_okq (⟨"BoatBridge$TollReader", "takeSemicolon", "()I"⟩, 12) := ⟨⟨by decide +kernel, by decide +kernel⟩, List.mem_of_getElem? (i := 182) (by decide +kernel), List.mem_of_getElem? (i := 636) (by decide +kernel), List.mem_of_getElem? (i := 637) (by decide +kernel)⟩
theorem lw_p25 : lw_okq (⟨"BoatBridge$Till", "goesFree", "(III)Z"⟩, 6) := ⟨⟨by decide +kernel, by decide +kernel⟩, List.mem_of_getElem? (i := 225) (by decide +kernel), List.mem_of_getElem? (i := 681) (by decide +kernel), List.mem_of_getElem? (i := 682) (by decide +kernel)⟩
theorem lw_p26 : lw_okq (⟨"BoatBridgeModel", "isHull", "(I)Z"⟩, 40) := ⟨⟨by decide +kernel, by decide +kernel⟩, List.mem_of_getElem? (i := 712) (by decide +kernel), List.mem_of_getElem? (i := 843) (by decide +kernel), List.mem_of_getElem? (i := 844) (by decide +kernel)⟩
theorem lw_p27 : lw_okq (⟨"BoatBridgeModel", "pressOn", "(III)I"⟩, 40) := ⟨⟨by decide +kernel, by decide +kernel⟩, List.mem_of_getElem? (i := 712) (by decide +kernel), List.mem_of_getElem? (i := 875) (by decide +kernel), List.mem_of_getElem? (i := 876) (by decide +kernel)⟩
theorem lw_p28 : lw_okq (⟨"BoatBridgeModel", "placeOf", "(III)I"⟩, 40) := ⟨⟨by decide +kernel, by decide +kernel⟩, List.mem_of_getElem? (i := 712) (by decide +kernel), List.mem_of_getElem? (i := 879) (by decide +kernel), List.mem_of_getElem? (i := 880) (by decide +kernel)⟩
theorem lw_p29 : lw_okq (⟨"BoatBridgeModel", "looks", "(I)V"⟩, 40) := ⟨⟨by decide +kernel, by decide +kernel⟩, List.mem_of_getElem? (i := 712) (by decide +kernel), List.mem_of_getElem? (i := 889) (by decide +kernel), List.mem_of_getElem? (i := 890) (by decide +kernel)⟩
theorem lw_p30 : lw_okq (⟨"BoatBridgeModel", "bestWaits", "()I"⟩, 40) := ⟨⟨by decide +kernel, by decide +kernel⟩, List.mem_of_getElem? (i := 712) (by decide +kernel), List.mem_of_getElem? (i := 916) (by decide +kernel), List.mem_of_getElem? (i := 917) (by decide +kernel)⟩
theorem lw_p31 : lw_okq (⟨"BoatBridgeModel", "sorts", "()V"⟩, 40) := ⟨⟨by decide +kernel, by decide +kernel⟩, List.mem_of_getElem? (i := 712) (by decide +kernel), List.mem_of_getElem? (i := 920) (by decide +kernel), List.mem_of_getElem? (i := 921) (by decide +kernel)⟩
def lw_privs_2 : List (MethodName × Nat) := [(⟨"BoatBridge$TollReader", "takeDigits", "(LBoatBridge$Tape;)V"⟩, 12), (⟨"BoatBridge$TollReader", "takeLetters", "(LBoatBridge$Tape;)V"⟩, 12), (⟨"BoatBridge$TollReader", "tokenIs", "(LBoatBridge$Tape;Ljava/lang/String;)Z"⟩, 12), (⟨"BoatBridge$TollReader", "takeToken", "()I"⟩, 12), (⟨"BoatBridge$TollReader", "takeClauseWord", "()I"⟩, 12), (⟨"BoatBridge$TollReader", "takeKind", "()I"⟩, 12), (⟨"BoatBridge$TollReader", "clauseRow", "()[I"⟩, 12), (⟨"BoatBridge$TollReader", "takeAmount", "()I"⟩, 12), (⟨"BoatBridge$TollReader", "takeSemicolon", "()I"⟩, 12), (⟨"BoatBridge$Till", "goesFree", "(III)Z"⟩, 6), (⟨"BoatBridgeModel", "isHull", "(I)Z"⟩, 40), (⟨"BoatBridgeModel", "pressOn", "(III)I"⟩, 40), (⟨"BoatBridgeModel", "placeOf", "(III)I"⟩, 40), (⟨"BoatBridgeModel", "looks", "(I)V"⟩, 40), (⟨"BoatBridgeModel", "bestWaits", "()I"⟩, 40), (⟨"BoatBridgeModel", "sorts", "()V"⟩, 40)]
theorem lw_r2 : ∀ q ∈ lw_privs_2, lw_okq q := List.forall_mem_cons.mpr ⟨lw_p16, List.forall_mem_cons.mpr ⟨lw_p17, List.forall_mem_cons.mpr ⟨lw_p18, List.forall_mem_cons.mpr ⟨lw_p19, List.forall_mem_cons.mpr ⟨lw_p20, List.forall_mem_cons.mpr ⟨lw_p21, List.forall_mem_cons.mpr ⟨lw_p22, List.forall_mem_cons.mpr ⟨lw_p23, List.forall_mem_cons.mpr ⟨lw_p24, List.forall_mem_cons.mpr ⟨lw_p25, List.forall_mem_cons.mpr ⟨lw_p26, List.forall_mem_cons.mpr ⟨lw_p27, List.forall_mem_cons.mpr ⟨lw_p28, List.forall_mem_cons.mpr ⟨lw_p29, List.forall_mem_cons.mpr ⟨lw_p30, List.forall_mem_cons.mpr ⟨lw_p31, fun _ h => absurd h List.not_mem_nil⟩⟩⟩⟩⟩⟩⟩⟩⟩⟩⟩⟩⟩⟩⟩⟩
theorem lw_p32 : lw_okq (⟨"BoatBridgeModel", "opens", "(II)I"⟩, 40) := ⟨⟨by decide +kernel, by decide +kernel⟩, List.mem_of_getElem? (i := 712) (by decide +kernel), List.mem_of_getElem? (i := 924) (by decide +kernel), List.mem_of_getElem? (i := 925) (by decide +kernel)⟩
theorem lw_p33 : lw_okq (⟨"BoatBridgeModel", "cameBy", "(I)I"⟩, 40) := ⟨⟨by decide +kernel, by decide +kernel⟩, List.mem_of_getElem? (i := 712) (by decide +kernel), List.mem_of_getElem? (i := 928) (by decide +kernel), List.mem_of_getElem? (i := 929) (by decide +kernel)⟩
theorem lw_p34 : lw_okq (⟨"BoatBridgeModel", "endOf", "(II)I"⟩, 40) := ⟨⟨by decide +kernel, by decide +kernel⟩, List.mem_of_getElem? (i := 712) (by decide +kernel), List.mem_of_getElem? (i := 932) (by decide +kernel), List.mem_of_getElem? (i := 933) (by decide +kernel)⟩
theorem lw_p35 : lw_okq (⟨"BoatBridgeModel", "rest", "(II)I"⟩, 40) := ⟨⟨by decide +kernel, by decide +kernel⟩, List.mem_of_getElem? (i := 712) (by decide +kernel), List.mem_of_getElem? (i := 936) (by decide +kernel), List.mem_of_getElem? (i := 937) (by decide +kernel)⟩
theorem lw_p36 : lw_okq (⟨"BoatBridgeModel", "waitsOf", "(II)I"⟩, 40) := ⟨⟨by decide +kernel, by decide +kernel⟩, List.mem_of_getElem? (i := 712) (by decide +kernel), List.mem_of_getElem? (i := 940) (by decide +kernel), List.mem_of_getElem? (i := 941) (by decide +kernel)⟩
theorem lw_p37 : lw_okq (⟨"BoatBridgeModel", "fewestOut", "()I"⟩, 40) := ⟨⟨by decide +kernel, by decide +kernel⟩, List.mem_of_getElem? (i := 712) (by decide +kernel), List.mem_of_getElem? (i := 966) (by decide +kernel), List.mem_of_getElem? (i := 967) (by decide +kernel)⟩
theorem lw_p38 : lw_okq (⟨"BoatBridgeModel", "goes", "(IIZ)I"⟩, 40) := ⟨⟨by decide +kernel, by decide +kernel⟩, List.mem_of_getElem? (i := 712) (by decide +kernel), List.mem_of_getElem? (i := 970) (by decide +kernel), List.mem_of_getElem? (i := 971) (by decide +kernel)⟩
theorem lw_p39 : lw_okq (⟨"BoatBridgeModel", "isBad", "(I)Z"⟩, 40) := ⟨⟨by decide +kernel, by decide +kernel⟩, List.mem_of_getElem? (i := 712) (by decide +kernel), List.mem_of_getElem? (i := 974) (by decide +kernel), List.mem_of_getElem? (i := 975) (by decide +kernel)⟩
theorem lw_p40 : lw_okq (⟨"BoatBridgeModel", "from", "(II)I"⟩, 40) := ⟨⟨by decide +kernel, by decide +kernel⟩, List.mem_of_getElem? (i := 712) (by decide +kernel), List.mem_of_getElem? (i := 978) (by decide +kernel), List.mem_of_getElem? (i := 979) (by decide +kernel)⟩
theorem lw_p41 : lw_okq (⟨"BoatBridgeModel", "put", "(I)V"⟩, 40) := ⟨⟨by decide +kernel, by decide +kernel⟩, List.mem_of_getElem? (i := 712) (by decide +kernel), List.mem_of_getElem? (i := 990) (by decide +kernel), List.mem_of_getElem? (i := 991) (by decide +kernel)⟩
theorem lw_p42 : lw_okq (⟨"BoatBridgeModel", "next", "(I)V"⟩, 40) := ⟨⟨by decide +kernel, by decide +kernel⟩, List.mem_of_getElem? (i := 712) (by decide +kernel), List.mem_of_getElem? (i := 1002) (by decide +kernel), List.mem_of_getElem? (i := 1003) (by decide +kernel)⟩
theorem lw_p43 : lw_okq (⟨"BoatBridgeModel", "clause", "(I)V"⟩, 40) := ⟨⟨by decide +kernel, by decide +kernel⟩, List.mem_of_getElem? (i := 712) (by decide +kernel), List.mem_of_getElem? (i := 1022) (by decide +kernel), List.mem_of_getElem? (i := 1023) (by decide +kernel)⟩
theorem lw_p44 : lw_okq (⟨"BoatBridgeModel", "fails", "(I)V"⟩, 40) := ⟨⟨by decide +kernel, by decide +kernel⟩, List.mem_of_getElem? (i := 712) (by decide +kernel), List.mem_of_getElem? (i := 1026) (by decide +kernel), List.mem_of_getElem? (i := 1027) (by decide +kernel)⟩
def lw_privs_3 : List (MethodName × Nat) := [(⟨"BoatBridgeModel", "opens", "(II)I"⟩, 40), (⟨"BoatBridgeModel", "cameBy", "(I)I"⟩, 40), (⟨"BoatBridgeModel", "endOf", "(II)I"⟩, 40), (⟨"BoatBridgeModel", "rest", "(II)I"⟩, 40), (⟨"BoatBridgeModel", "waitsOf", "(II)I"⟩, 40), (⟨"BoatBridgeModel", "fewestOut", "()I"⟩, 40), (⟨"BoatBridgeModel", "goes", "(IIZ)I"⟩, 40), (⟨"BoatBridgeModel", "isBad", "(I)Z"⟩, 40), (⟨"BoatBridgeModel", "from", "(II)I"⟩, 40), (⟨"BoatBridgeModel", "put", "(I)V"⟩, 40), (⟨"BoatBridgeModel", "next", "(I)V"⟩, 40), (⟨"BoatBridgeModel", "clause", "(I)V"⟩, 40), (⟨"BoatBridgeModel", "fails", "(I)V"⟩, 40)]
theorem lw_r3 : ∀ q ∈ lw_privs_3, lw_okq q := List.forall_mem_cons.mpr ⟨lw_p32, List.forall_mem_cons.mpr ⟨lw_p33, List.forall_mem_cons.mpr ⟨lw_p34, List.forall_mem_cons.mpr ⟨lw_p35, List.forall_mem_cons.mpr ⟨lw_p36, List.forall_mem_cons.mpr ⟨lw_p37, List.forall_mem_cons.mpr ⟨lw_p38, List.forall_mem_cons.mpr ⟨lw_p39, List.forall_mem_cons.mpr ⟨lw_p40, List.forall_mem_cons.mpr ⟨lw_p41, List.forall_mem_cons.mpr ⟨lw_p42, List.forall_mem_cons.mpr ⟨lw_p43, List.forall_mem_cons.mpr ⟨lw_p44, fun _ h => absurd h List.not_mem_nil⟩⟩⟩⟩⟩⟩⟩⟩⟩⟩⟩⟩⟩
def lw_privs : List (MethodName × Nat) := lw_privs_1 ++ (lw_privs_2 ++ (lw_privs_3))
def lw_tbl : List Cond := k2_sels lw_privs ++ tables_1
theorem lw_privs_ok : ∀ q ∈ lw_privs, lw_okq q := by
  show ∀ q ∈ lw_privs_1 ++ (lw_privs_2 ++ (lw_privs_3)), lw_okq q
  exact List.forall_mem_append.mpr ⟨lw_r1, List.forall_mem_append.mpr ⟨lw_r2, lw_r3⟩⟩
-- ===== end of PART A; then your names; then what follows =====
end
section
/-! ===== BEGIN words of one list among another's, by their places ===== -/
/-! ===== END ===== -/

/-! ===== BEGIN printed: names, fields, word lists, decode rows ===== -/
def RX0 : String := "BoatBridge$Deck"
def TX0 : u_T := fun k => match k with
  | 0 => ("BoatBridge$Deck", "hulls", "I", true)
  | 1 => ("BoatBridge$Deck", "bears", "[I", true)
  | 2 => ("BoatBridge$Deck", "anchors", "[I", true)
  | 3 => ("BoatBridge$Deck", "loads", "[I", true)
  | 4 => ("BoatBridge$Deck", "pulls", "[I", true)
  | 5 => ("BoatBridge$Deck", "weights", "[I", true)
  | 6 => ("BoatBridge$Deck", "behindFirst", "[I", true)
  | 7 => ("BoatBridge$Deck", "evenBehind", "[I", true)
  | 8 => ("BoatBridge$Deck", "carts", "I", false)
  | 9 => ("BoatBridge$Deck", "foundMargin", "I", false)
  | 10 => ("BoatBridge$Deck", "foundHull", "I", false)
  | _ => ("BoatBridge$Deck", "foundStep", "I", false)
def tyX0 : Nat → FieldType := fun k => match k with
  | 0 => .int
  | 1 => .array .int
  | 2 => .array .int
  | 3 => .array .int
  | 4 => .array .int
  | 5 => .array .int
  | 6 => .array .int
  | 7 => .array .int
  | 8 => .int
  | 9 => .int
  | 10 => .int
  | _ => .int
abbrev wsX00 : List Cond := u_ws RX0 TX0 12
theorem nmX0 : ∀ a, a < 12 → ∀ b, b < 12 → a ≠ b → (TX0 a).2.1 ≠ (TX0 b).2.1 := by decide +kernel
theorem tyX0_ok : ∀ k, k < 12 → parseFieldDescriptor (TX0 k).2.2.1 = some (tyX0 k) := by decide +kernel
abbrev cX0_init : ByteArray := prog_2_method_1_code
def yX0_init : MethodName := ⟨RX0, "<init>", "(I)V"⟩
abbrev cX0_hullCount : ByteArray := prog_2_method_2_code
def yX0_hullCount : MethodName := ⟨RX0, "hullCount", "()I"⟩
abbrev cX0_cartCount : ByteArray := prog_2_method_3_code
def yX0_cartCount : MethodName := ⟨RX0, "cartCount", "()I"⟩
abbrev cX0_hasHull : ByteArray := prog_2_method_4_code
def yX0_hasHull : MethodName := ⟨RX0, "hasHull", "(I)Z"⟩
abbrev cX0_setHull : ByteArray := prog_2_method_5_code
def yX0_setHull : MethodName := ⟨RX0, "setHull", "(III)V"⟩
abbrev cX0_setPull : ByteArray := prog_2_method_6_code
def yX0_setPull : MethodName := ⟨RX0, "setPull", "(II)V"⟩
abbrev cX0_anchorsBelow : ByteArray := prog_2_method_7_code
def yX0_anchorsBelow : MethodName := ⟨RX0, "anchorsBelow", "(I)I"⟩
abbrev cX0_addCart : ByteArray := prog_2_method_8_code
def yX0_addCart : MethodName := ⟨RX0, "addCart", "(II)I"⟩
abbrev cX0_dropCarts : ByteArray := prog_2_method_9_code
def yX0_dropCarts : MethodName := ⟨RX0, "dropCarts", "()I"⟩
abbrev cX0_loadOn : ByteArray := prog_2_method_10_code
def yX0_loadOn : MethodName := ⟨RX0, "loadOn", "(II)I"⟩
abbrev cX0_leastMargin : ByteArray := prog_2_method_11_code
def yX0_leastMargin : MethodName := ⟨RX0, "leastMargin", "(I)I"⟩
abbrev cX0_leastEvenGap : ByteArray := prog_2_method_12_code
def yX0_leastEvenGap : MethodName := ⟨RX0, "leastEvenGap", "()I"⟩
abbrev cX0_findLeastMargin : ByteArray := prog_2_method_13_code
def yX0_findLeastMargin : MethodName := ⟨RX0, "findLeastMargin", "([I)V"⟩
abbrev cX0_layLoads : ByteArray := prog_2_method_14_code
def yX0_layLoads : MethodName := ⟨RX0, "layLoads", "(I[I)V"⟩
abbrev cX0_press : ByteArray := prog_2_method_15_code
def yX0_press : MethodName := ⟨RX0, "press", "(II)V"⟩
def RX1 : String := "BoatBridge$River"
def TX1 : u_T := fun k => match k with
  | 0 => ("BoatBridge$River", "comings", "[I", true)
  | 1 => ("BoatBridge$River", "comingSums", "[I", true)
  | 2 => ("BoatBridge$River", "shipsBy", "[I", true)
  | 3 => ("BoatBridge$River", "crossersAhead", "[I", true)
  | 4 => ("BoatBridge$River", "crosserSums", "[I", true)
  | 5 => ("BoatBridge$River", "least", "[I", true)
  | 6 => ("BoatBridge$River", "chosen", "[I", true)
  | 7 => ("BoatBridge$River", "openMinutes", "[I", true)
  | 8 => ("BoatBridge$River", "openShips", "[I", true)
  | 9 => ("BoatBridge$River", "openEnds", "[I", true)
  | 10 => ("BoatBridge$River", "ships", "I", false)
  | 11 => ("BoatBridge$River", "crossers", "I", false)
  | 12 => ("BoatBridge$River", "opens", "I", false)
  | 13 => ("BoatBridge$River", "takes", "I", false)
  | 14 => ("BoatBridge$River", "shuts", "I", false)
  | 15 => ("BoatBridge$River", "shipRank", "I", false)
  | 16 => ("BoatBridge$River", "openings", "I", false)
  | 17 => ("BoatBridge$River", "total", "I", false)
  | _ => ("BoatBridge$River", "planned", "Z", false)
def tyX1 : Nat → FieldType := fun k => match k with
  | 0 => .array .int
  | 1 => .array .int
  | 2 => .array .int
  | 3 => .array .int
  | 4 => .array .int
  | 5 => .array .int
  | 6 => .array .int
  | 7 => .array .int
  | 8 => .array .int
  | 9 => .array .int
  | 10 => .int
  | 11 => .int
  | 12 => .int
  | 13 => .int
  | 14 => .int
  | 15 => .int
  | 16 => .int
  | 17 => .int
  | _ => .boolean
abbrev wsX10 : List Cond := u_ws RX1 TX1 19
theorem nmX1 : ∀ a, a < 19 → ∀ b, b < 19 → a ≠ b → (TX1 a).2.1 ≠ (TX1 b).2.1 := by decide +kernel
theorem tyX1_ok : ∀ k, k < 19 → parseFieldDescriptor (TX1 k).2.2.1 = some (tyX1 k) := by decide +kernel
abbrev cX1_init : ByteArray := prog_3_method_1_code
def yX1_init : MethodName := ⟨RX1, "<init>", "()V"⟩
abbrev cX1_shipCount : ByteArray := prog_3_method_2_code
def yX1_shipCount : MethodName := ⟨RX1, "shipCount", "()I"⟩
abbrev cX1_crosserCount : ByteArray := prog_3_method_3_code
def yX1_crosserCount : MethodName := ⟨RX1, "crosserCount", "()I"⟩
abbrev cX1_addShip : ByteArray := prog_3_method_4_code
def yX1_addShip : MethodName := ⟨RX1, "addShip", "(I)I"⟩
abbrev cX1_addCrosser : ByteArray := prog_3_method_5_code
def yX1_addCrosser : MethodName := ⟨RX1, "addCrosser", "(I)I"⟩
abbrev cX1_setTimes : ByteArray := prog_3_method_6_code
def yX1_setTimes : MethodName := ⟨RX1, "setTimes", "(IIII)V"⟩
abbrev cX1_leastWaits : ByteArray := prog_3_method_7_code
def yX1_leastWaits : MethodName := ⟨RX1, "leastWaits", "()I"⟩
abbrev cX1_openingOfBest : ByteArray := prog_3_method_8_code
def yX1_openingOfBest : MethodName := ⟨RX1, "openingOfBest", "(II)I"⟩
abbrev cX1_earliestWaits : ByteArray := prog_3_method_9_code
def yX1_earliestWaits : MethodName := ⟨RX1, "earliestWaits", "()I"⟩
abbrev cX1_plan : ByteArray := prog_3_method_10_code
def yX1_plan : MethodName := ⟨RX1, "plan", "()V"⟩
abbrev cX1_walkBest : ByteArray := prog_3_method_11_code
def yX1_walkBest : MethodName := ⟨RX1, "walkBest", "()V"⟩
abbrev cX1_waitsFrom : ByteArray := prog_3_method_12_code
def yX1_waitsFrom : MethodName := ⟨RX1, "waitsFrom", "(II)I"⟩
abbrev cX1_endOfOpening : ByteArray := prog_3_method_13_code
def yX1_endOfOpening : MethodName := ⟨RX1, "endOfOpening", "(II)I"⟩
abbrev cX1_waitsOfOpening : ByteArray := prog_3_method_14_code
def yX1_waitsOfOpening : MethodName := ⟨RX1, "waitsOfOpening", "(II)I"⟩
abbrev cX1_crosserWaits : ByteArray := prog_3_method_15_code
def yX1_crosserWaits : MethodName := ⟨RX1, "crosserWaits", "(II)I"⟩
def RX2 : String := "BoatBridge$Season"
def TX2 : u_T := fun k => match k with
  | 0 => ("BoatBridge$Season", "highs", "[I", true)
  | 1 => ("BoatBridge$Season", "outDays", "[Z", true)
  | 2 => ("BoatBridge$Season", "needed", "[I", true)
  | 3 => ("BoatBridge$Season", "mostLevel", "I", false)
  | 4 => ("BoatBridge$Season", "laysDays", "I", false)
  | _ => ("BoatBridge$Season", "planned", "Z", false)
def tyX2 : Nat → FieldType := fun k => match k with
  | 0 => .array .int
  | 1 => .array .boolean
  | 2 => .array .int
  | 3 => .int
  | 4 => .int
  | _ => .boolean
abbrev wsX20 : List Cond := u_ws RX2 TX2 6
theorem nmX2 : ∀ a, a < 6 → ∀ b, b < 6 → a ≠ b → (TX2 a).2.1 ≠ (TX2 b).2.1 := by decide +kernel
theorem tyX2_ok : ∀ k, k < 6 → parseFieldDescriptor (TX2 k).2.2.1 = some (tyX2 k) := by decide +kernel
abbrev cX2_init : ByteArray := prog_4_method_1_code
def yX2_init : MethodName := ⟨RX2, "<init>", "()V"⟩
abbrev cX2_foretell : ByteArray := prog_4_method_2_code
def yX2_foretell : MethodName := ⟨RX2, "foretell", "(II)V"⟩
abbrev cX2_setLimits : ByteArray := prog_4_method_3_code
def yX2_setLimits : MethodName := ⟨RX2, "setLimits", "(II)V"⟩
abbrev cX2_isBad : ByteArray := prog_4_method_4_code
def yX2_isBad : MethodName := ⟨RX2, "isBad", "(I)Z"⟩
abbrev cX2_isOut : ByteArray := prog_4_method_5_code
def yX2_isOut : MethodName := ⟨RX2, "isOut", "(I)Z"⟩
abbrev cX2_fewest : ByteArray := prog_4_method_6_code
def yX2_fewest : MethodName := ⟨RX2, "fewest", "()I"⟩
abbrev cX2_plan : ByteArray := prog_4_method_7_code
def yX2_plan : MethodName := ⟨RX2, "plan", "()V"⟩
abbrev cX2_chooseDays : ByteArray := prog_4_method_8_code
def yX2_chooseDays : MethodName := ⟨RX2, "chooseDays", "()V"⟩
abbrev cX2_mayBeIn : ByteArray := prog_4_method_9_code
def yX2_mayBeIn : MethodName := ⟨RX2, "mayBeIn", "(II)Z"⟩
abbrev cX2_needIfIn : ByteArray := prog_4_method_10_code
def yX2_needIfIn : MethodName := ⟨RX2, "needIfIn", "(I)I"⟩
abbrev cX2_needIfOut : ByteArray := prog_4_method_11_code
def yX2_needIfOut : MethodName := ⟨RX2, "needIfOut", "(II)I"⟩
def RX3 : String := "BoatBridge$Tape"
def TX3 : u_T := fun k => match k with
  | 0 => ("BoatBridge$Tape", "bytes", "[B", true)
  | _ => ("BoatBridge$Tape", "length", "I", false)
def tyX3 : Nat → FieldType := fun k => match k with
  | 0 => .array .byte
  | _ => .int
abbrev wsX30 : List Cond := u_ws RX3 TX3 2
theorem nmX3 : ∀ a, a < 2 → ∀ b, b < 2 → a ≠ b → (TX3 a).2.1 ≠ (TX3 b).2.1 := by decide +kernel
theorem tyX3_ok : ∀ k, k < 2 → parseFieldDescriptor (TX3 k).2.2.1 = some (tyX3 k) := by decide +kernel
abbrev cX3_init : ByteArray := prog_5_method_1_code
def yX3_init : MethodName := ⟨RX3, "<init>", "()V"⟩
abbrev cX3_size : ByteArray := prog_5_method_2_code
def yX3_size : MethodName := ⟨RX3, "size", "()I"⟩
abbrev cX3_byteAt : ByteArray := prog_5_method_3_code
def yX3_byteAt : MethodName := ⟨RX3, "byteAt", "(I)I"⟩
abbrev cX3_addWord : ByteArray := prog_5_method_4_code
def yX3_addWord : MethodName := ⟨RX3, "addWord", "(I)V"⟩
abbrev cX3_cutTo : ByteArray := prog_5_method_5_code
def yX3_cutTo : MethodName := ⟨RX3, "cutTo", "(I)V"⟩
def RX4 : String := "BoatBridge$Till"
def TX4 : u_T := fun k => match k with
  | 0 => ("BoatBridge$Till", "tollRow", "[I", true)
  | 1 => ("BoatBridge$Till", "againRow", "[I", true)
  | 2 => ("BoatBridge$Till", "openReturns", "[I", true)
  | 3 => ("BoatBridge$Till", "latest", "I", false)
  | 4 => ("BoatBridge$Till", "paid", "I", false)
  | _ => ("BoatBridge$Till", "free", "I", false)
def tyX4 : Nat → FieldType := fun k => match k with
  | 0 => .array .int
  | 1 => .array .int
  | 2 => .array .int
  | 3 => .int
  | 4 => .int
  | _ => .int
abbrev wsX40 : List Cond := u_ws RX4 TX4 6
theorem nmX4 : ∀ a, a < 6 → ∀ b, b < 6 → a ≠ b → (TX4 a).2.1 ≠ (TX4 b).2.1 := by decide +kernel
theorem tyX4_ok : ∀ k, k < 6 → parseFieldDescriptor (TX4 k).2.2.1 = some (tyX4 k) := by decide +kernel
abbrev cX4_init : ByteArray := prog_6_method_1_code
def yX4_init : MethodName := ⟨RX4, "<init>", "()V"⟩
abbrev cX4_tollOf : ByteArray := prog_6_method_2_code
def yX4_tollOf : MethodName := ⟨RX4, "tollOf", "(I)I"⟩
abbrev cX4_againOf : ByteArray := prog_6_method_3_code
def yX4_againOf : MethodName := ⟨RX4, "againOf", "(I)I"⟩
abbrev cX4_latestMinute : ByteArray := prog_6_method_4_code
def yX4_latestMinute : MethodName := ⟨RX4, "latestMinute", "()I"⟩
abbrev cX4_paidTogether : ByteArray := prog_6_method_5_code
def yX4_paidTogether : MethodName := ⟨RX4, "paidTogether", "()I"⟩
abbrev cX4_wentFree : ByteArray := prog_6_method_6_code
def yX4_wentFree : MethodName := ⟨RX4, "wentFree", "()I"⟩
abbrev cX4_adopt : ByteArray := prog_6_method_7_code
def yX4_adopt : MethodName := ⟨RX4, "adopt", "(LBoatBridge$TollReader;)V"⟩
abbrev cX4_charge : ByteArray := prog_6_method_8_code
def yX4_charge : MethodName := ⟨RX4, "charge", "(III)I"⟩
abbrev cX4_goesFree : ByteArray := prog_6_method_9_code
def yX4_goesFree : MethodName := ⟨RX4, "goesFree", "(III)Z"⟩
def RX5 : String := "BoatBridge$TollReader"
def TX5 : u_T := fun k => match k with
  | 0 => ("BoatBridge$TollReader", "tollRow", "[I", true)
  | 1 => ("BoatBridge$TollReader", "againRow", "[I", true)
  | 2 => ("BoatBridge$TollReader", "clauses", "I", false)
  | 3 => ("BoatBridge$TollReader", "faultCode", "I", false)
  | 4 => ("BoatBridge$TollReader", "faultPlace", "I", false)
  | 5 => ("BoatBridge$TollReader", "cursor", "I", false)
  | 6 => ("BoatBridge$TollReader", "tokenType", "I", false)
  | 7 => ("BoatBridge$TollReader", "tokenStart", "I", false)
  | 8 => ("BoatBridge$TollReader", "tokenValue", "I", false)
  | 9 => ("BoatBridge$TollReader", "due", "I", false)
  | 10 => ("BoatBridge$TollReader", "clauseType", "I", false)
  | _ => ("BoatBridge$TollReader", "clauseKind", "I", false)
def tyX5 : Nat → FieldType := fun k => match k with
  | 0 => .array .int
  | 1 => .array .int
  | 2 => .int
  | 3 => .int
  | 4 => .int
  | 5 => .int
  | 6 => .int
  | 7 => .int
  | 8 => .int
  | 9 => .int
  | 10 => .int
  | _ => .int
abbrev wsX50 : List Cond := u_ws RX5 TX5 12
theorem nmX5 : ∀ a, a < 12 → ∀ b, b < 12 → a ≠ b → (TX5 a).2.1 ≠ (TX5 b).2.1 := by decide +kernel
theorem tyX5_ok : ∀ k, k < 12 → parseFieldDescriptor (TX5 k).2.2.1 = some (tyX5 k) := by decide +kernel
abbrev cX5_init : ByteArray := prog_7_method_1_code
def yX5_init : MethodName := ⟨RX5, "<init>", "()V"⟩
abbrev cX5_clauseCount : ByteArray := prog_7_method_2_code
def yX5_clauseCount : MethodName := ⟨RX5, "clauseCount", "()I"⟩
abbrev cX5_faultNumber : ByteArray := prog_7_method_3_code
def yX5_faultNumber : MethodName := ⟨RX5, "faultNumber", "()I"⟩
abbrev cX5_faultAt : ByteArray := prog_7_method_4_code
def yX5_faultAt : MethodName := ⟨RX5, "faultAt", "()I"⟩
abbrev cX5_readToll : ByteArray := prog_7_method_5_code
def yX5_readToll : MethodName := ⟨RX5, "readToll", "(I)I"⟩
abbrev cX5_readAgain : ByteArray := prog_7_method_6_code
def yX5_readAgain : MethodName := ⟨RX5, "readAgain", "(I)I"⟩
abbrev cX5_read : ByteArray := prog_7_method_7_code
def yX5_read : MethodName := ⟨RX5, "read", "(LBoatBridge$Tape;)Z"⟩
abbrev cX5_begin : ByteArray := prog_7_method_8_code
def yX5_begin : MethodName := ⟨RX5, "begin", "()V"⟩
abbrev cX5_nextToken : ByteArray := prog_7_method_9_code
def yX5_nextToken : MethodName := ⟨RX5, "nextToken", "(LBoatBridge$Tape;)V"⟩
abbrev cX5_takeDigits : ByteArray := prog_7_method_10_code
def yX5_takeDigits : MethodName := ⟨RX5, "takeDigits", "(LBoatBridge$Tape;)V"⟩
abbrev cX5_takeLetters : ByteArray := prog_7_method_11_code
def yX5_takeLetters : MethodName := ⟨RX5, "takeLetters", "(LBoatBridge$Tape;)V"⟩
abbrev cX5_tokenIs : ByteArray := prog_7_method_12_code
def yX5_tokenIs : MethodName := ⟨RX5, "tokenIs", "(LBoatBridge$Tape;Ljava/lang/String;)Z"⟩
abbrev cX5_takeToken : ByteArray := prog_7_method_13_code
def yX5_takeToken : MethodName := ⟨RX5, "takeToken", "()I"⟩
abbrev cX5_takeClauseWord : ByteArray := prog_7_method_14_code
def yX5_takeClauseWord : MethodName := ⟨RX5, "takeClauseWord", "()I"⟩
abbrev cX5_takeKind : ByteArray := prog_7_method_15_code
def yX5_takeKind : MethodName := ⟨RX5, "takeKind", "()I"⟩
abbrev cX5_takeAmount : ByteArray := prog_7_method_16_code
def yX5_takeAmount : MethodName := ⟨RX5, "takeAmount", "()I"⟩
abbrev cX5_takeSemicolon : ByteArray := prog_7_method_17_code
def yX5_takeSemicolon : MethodName := ⟨RX5, "takeSemicolon", "()I"⟩
abbrev cX5_clauseRow : ByteArray := prog_7_method_18_code
def yX5_clauseRow : MethodName := ⟨RX5, "clauseRow", "()[I"⟩
abbrev cX5_isDigit : ByteArray := prog_7_method_19_code
def yX5_isDigit : MethodName := ⟨RX5, "isDigit", "(I)Z"⟩
abbrev cX5_isLetter : ByteArray := prog_7_method_20_code
def yX5_isLetter : MethodName := ⟨RX5, "isLetter", "(I)Z"⟩
def RX6 : String := "BoatBridge"
def TX6 : u_T := fun k => match k with
  | 0 => ("BoatBridge", "deck", "LBoatBridge$Deck;", true)
  | 1 => ("BoatBridge", "river", "LBoatBridge$River;", true)
  | 2 => ("BoatBridge", "season", "LBoatBridge$Season;", true)
  | 3 => ("BoatBridge", "tape", "LBoatBridge$Tape;", true)
  | 4 => ("BoatBridge", "reader", "LBoatBridge$TollReader;", true)
  | _ => ("BoatBridge", "till", "LBoatBridge$Till;", true)
def tyX6 : Nat → FieldType := fun k => match k with
  | 0 => .object "BoatBridge$Deck"
  | 1 => .object "BoatBridge$River"
  | 2 => .object "BoatBridge$Season"
  | 3 => .object "BoatBridge$Tape"
  | 4 => .object "BoatBridge$TollReader"
  | _ => .object "BoatBridge$Till"
abbrev wsX60 : List Cond := u_ws RX6 TX6 6
theorem nmX6 : ∀ a, a < 6 → ∀ b, b < 6 → a ≠ b → (TX6 a).2.1 ≠ (TX6 b).2.1 := by decide +kernel
theorem tyX6_ok : ∀ k, k < 6 → parseFieldDescriptor (TX6 k).2.2.1 = some (tyX6 k) := by decide +kernel
abbrev cX6_init : ByteArray := prog_1_method_1_code
def yX6_init : MethodName := ⟨RX6, "<init>", "(I)V"⟩
abbrev cX6_hull : ByteArray := prog_1_method_2_code
def yX6_hull : MethodName := ⟨RX6, "hull", "(III)Z"⟩
abbrev cX6_pull : ByteArray := prog_1_method_3_code
def yX6_pull : MethodName := ⟨RX6, "pull", "(II)Z"⟩
abbrev cX6_drags : ByteArray := prog_1_method_4_code
def yX6_drags : MethodName := ⟨RX6, "drags", "(I)I"⟩
abbrev cX6_cart : ByteArray := prog_1_method_5_code
def yX6_cart : MethodName := ⟨RX6, "cart", "(II)I"⟩
abbrev cX6_clear : ByteArray := prog_1_method_6_code
def yX6_clear : MethodName := ⟨RX6, "clear", "()I"⟩
abbrev cX6_pressed : ByteArray := prog_1_method_7_code
def yX6_pressed : MethodName := ⟨RX6, "pressed", "(II)I"⟩
abbrev cX6_worst : ByteArray := prog_1_method_8_code
def yX6_worst : MethodName := ⟨RX6, "worst", "(I)I"⟩
abbrev cX6_gap : ByteArray := prog_1_method_9_code
def yX6_gap : MethodName := ⟨RX6, "gap", "()I"⟩
abbrev cX6_ship : ByteArray := prog_1_method_10_code
def yX6_ship : MethodName := ⟨RX6, "ship", "(I)I"⟩
abbrev cX6_crosser : ByteArray := prog_1_method_11_code
def yX6_crosser : MethodName := ⟨RX6, "crosser", "(I)I"⟩
abbrev cX6_times : ByteArray := prog_1_method_12_code
def yX6_times : MethodName := ⟨RX6, "times", "(IIII)Z"⟩
abbrev cX6_waits : ByteArray := prog_1_method_13_code
def yX6_waits : MethodName := ⟨RX6, "waits", "()I"⟩
abbrev cX6_opening : ByteArray := prog_1_method_14_code
def yX6_opening : MethodName := ⟨RX6, "opening", "(II)I"⟩
abbrev cX6_atOnce : ByteArray := prog_1_method_15_code
def yX6_atOnce : MethodName := ⟨RX6, "atOnce", "()I"⟩
abbrev cX6_level : ByteArray := prog_1_method_16_code
def yX6_level : MethodName := ⟨RX6, "level", "(III)Z"⟩
abbrev cX6_flood : ByteArray := prog_1_method_17_code
def yX6_flood : MethodName := ⟨RX6, "flood", "(II)Z"⟩
abbrev cX6_out : ByteArray := prog_1_method_18_code
def yX6_out : MethodName := ⟨RX6, "out", "()I"⟩
abbrev cX6_outOn : ByteArray := prog_1_method_19_code
def yX6_outOn : MethodName := ⟨RX6, "outOn", "(II)I"⟩
abbrev cX6_feed : ByteArray := prog_1_method_20_code
def yX6_feed : MethodName := ⟨RX6, "feed", "(IIIII)I"⟩
abbrev cX6_end : ByteArray := prog_1_method_21_code
def yX6_end : MethodName := ⟨RX6, "end", "(I)I"⟩
abbrev cX6_tolls : ByteArray := prog_1_method_22_code
def yX6_tolls : MethodName := ⟨RX6, "tolls", "()I"⟩
abbrev cX6_fault : ByteArray := prog_1_method_23_code
def yX6_fault : MethodName := ⟨RX6, "fault", "(I)I"⟩
abbrev cX6_pass : ByteArray := prog_1_method_24_code
def yX6_pass : MethodName := ⟨RX6, "pass", "(III)I"⟩
abbrev cX6_about : ByteArray := prog_1_method_25_code
def yX6_about : MethodName := ⟨RX6, "about", "(I)I"⟩
abbrev cX6_within : ByteArray := prog_1_method_26_code
def yX6_within : MethodName := ⟨RX6, "within", "(III)Z"⟩
def RX7 : String := "BoatBridgeModel"
def TX7 : u_T := fun k => match k with
  | 0 => ("BoatBridgeModel", "hulls", "I", true)
  | 1 => ("BoatBridgeModel", "bears", "[I", true)
  | 2 => ("BoatBridgeModel", "anchor", "[I", true)
  | 3 => ("BoatBridgeModel", "pull", "[I", true)
  | 4 => ("BoatBridgeModel", "carts", "I", false)
  | 5 => ("BoatBridgeModel", "weight", "[I", true)
  | 6 => ("BoatBridgeModel", "gap", "[I", true)
  | 7 => ("BoatBridgeModel", "ships", "I", false)
  | 8 => ("BoatBridgeModel", "comes", "[I", true)
  | 9 => ("BoatBridgeModel", "crossers", "I", false)
  | 10 => ("BoatBridgeModel", "crosses", "[I", true)
  | 11 => ("BoatBridgeModel", "time", "[I", true)
  | 12 => ("BoatBridgeModel", "low", "[I", true)
  | 13 => ("BoatBridgeModel", "high", "[I", true)
  | 14 => ("BoatBridgeModel", "mostLevel", "I", false)
  | 15 => ("BoatBridgeModel", "lays", "I", false)
  | 16 => ("BoatBridgeModel", "tape", "[B", true)
  | 17 => ("BoatBridgeModel", "taped", "I", false)
  | 18 => ("BoatBridgeModel", "at", "I", false)
  | 19 => ("BoatBridgeModel", "token", "I", false)
  | 20 => ("BoatBridgeModel", "sort", "I", false)
  | 21 => ("BoatBridgeModel", "told", "I", false)
  | 22 => ("BoatBridgeModel", "wrong", "I", false)
  | 23 => ("BoatBridgeModel", "wrongAt", "I", false)
  | 24 => ("BoatBridgeModel", "fault", "I", false)
  | 25 => ("BoatBridgeModel", "faultAt", "I", false)
  | 26 => ("BoatBridgeModel", "newToll", "[I", true)
  | 27 => ("BoatBridgeModel", "newAgain", "[I", true)
  | 28 => ("BoatBridgeModel", "toll", "[I", true)
  | 29 => ("BoatBridgeModel", "again", "[I", true)
  | 30 => ("BoatBridgeModel", "latest", "I", false)
  | 31 => ("BoatBridgeModel", "paid", "I", false)
  | 32 => ("BoatBridgeModel", "free", "I", false)
  | 33 => ("BoatBridgeModel", "paidAt", "[I", true)
  | 34 => ("BoatBridgeModel", "worstMargin", "I", false)
  | 35 => ("BoatBridgeModel", "worstHull", "I", false)
  | 36 => ("BoatBridgeModel", "worstStep", "I", false)
  | 37 => ("BoatBridgeModel", "order", "[I", true)
  | 38 => ("BoatBridgeModel", "least", "[I", true)
  | _ => ("BoatBridgeModel", "fewest", "[I", true)
def tyX7 : Nat → FieldType := fun k => match k with
  | 0 => .int
  | 1 => .array .int
  | 2 => .array .int
  | 3 => .array .int
  | 4 => .int
  | 5 => .array .int
  | 6 => .array .int
  | 7 => .int
  | 8 => .array .int
  | 9 => .int
  | 10 => .array .int
  | 11 => .array .int
  | 12 => .array .int
  | 13 => .array .int
  | 14 => .int
  | 15 => .int
  | 16 => .array .byte
  | 17 => .int
  | 18 => .int
  | 19 => .int
  | 20 => .int
  | 21 => .int
  | 22 => .int
  | 23 => .int
  | 24 => .int
  | 25 => .int
  | 26 => .array .int
  | 27 => .array .int
  | 28 => .array .int
  | 29 => .array .int
  | 30 => .int
  | 31 => .int
  | 32 => .int
  | 33 => .array .int
  | 34 => .int
  | 35 => .int
  | 36 => .int
  | 37 => .array .int
  | 38 => .array .int
  | _ => .array .int
abbrev wsX70 : List Cond := u_ws RX7 TX7 40
theorem nmX7 : ∀ a, a < 40 → ∀ b, b < 40 → a ≠ b → (TX7 a).2.1 ≠ (TX7 b).2.1 := by decide +kernel
theorem tyX7_ok : ∀ k, k < 40 → parseFieldDescriptor (TX7 k).2.2.1 = some (tyX7 k) := by decide +kernel
abbrev cX7_init : ByteArray := prog_9_method_1_code
def yX7_init : MethodName := ⟨RX7, "<init>", "(I)V"⟩
abbrev cX7_in : ByteArray := prog_9_method_2_code
def yX7_in : MethodName := ⟨RX7, "in", "(JJJ)Z"⟩
abbrev cX7_isHull : ByteArray := prog_9_method_3_code
def yX7_isHull : MethodName := ⟨RX7, "isHull", "(I)Z"⟩
abbrev cX7_hull : ByteArray := prog_9_method_4_code
def yX7_hull : MethodName := ⟨RX7, "hull", "(III)Z"⟩
abbrev cX7_pull : ByteArray := prog_9_method_5_code
def yX7_pull : MethodName := ⟨RX7, "pull", "(II)Z"⟩
abbrev cX7_drags : ByteArray := prog_9_method_6_code
def yX7_drags : MethodName := ⟨RX7, "drags", "(I)I"⟩
abbrev cX7_cart : ByteArray := prog_9_method_7_code
def yX7_cart : MethodName := ⟨RX7, "cart", "(II)I"⟩
abbrev cX7_clear : ByteArray := prog_9_method_8_code
def yX7_clear : MethodName := ⟨RX7, "clear", "()I"⟩
abbrev cX7_placeOf : ByteArray := prog_9_method_9_code
def yX7_placeOf : MethodName := ⟨RX7, "placeOf", "(III)I"⟩
abbrev cX7_pressOn : ByteArray := prog_9_method_10_code
def yX7_pressOn : MethodName := ⟨RX7, "pressOn", "(III)I"⟩
abbrev cX7_pressed : ByteArray := prog_9_method_11_code
def yX7_pressed : MethodName := ⟨RX7, "pressed", "(II)I"⟩
abbrev cX7_looks : ByteArray := prog_9_method_12_code
def yX7_looks : MethodName := ⟨RX7, "looks", "(I)V"⟩
abbrev cX7_worst : ByteArray := prog_9_method_13_code
def yX7_worst : MethodName := ⟨RX7, "worst", "(I)I"⟩
abbrev cX7_gap : ByteArray := prog_9_method_14_code
def yX7_gap : MethodName := ⟨RX7, "gap", "()I"⟩
abbrev cX7_ship : ByteArray := prog_9_method_15_code
def yX7_ship : MethodName := ⟨RX7, "ship", "(I)I"⟩
abbrev cX7_crosser : ByteArray := prog_9_method_16_code
def yX7_crosser : MethodName := ⟨RX7, "crosser", "(I)I"⟩
abbrev cX7_times : ByteArray := prog_9_method_17_code
def yX7_times : MethodName := ⟨RX7, "times", "(IIII)Z"⟩
abbrev cX7_sorts : ByteArray := prog_9_method_18_code
def yX7_sorts : MethodName := ⟨RX7, "sorts", "()V"⟩
abbrev cX7_cameBy : ByteArray := prog_9_method_19_code
def yX7_cameBy : MethodName := ⟨RX7, "cameBy", "(I)I"⟩
abbrev cX7_endOf : ByteArray := prog_9_method_20_code
def yX7_endOf : MethodName := ⟨RX7, "endOf", "(II)I"⟩
abbrev cX7_waitsOf : ByteArray := prog_9_method_21_code
def yX7_waitsOf : MethodName := ⟨RX7, "waitsOf", "(II)I"⟩
abbrev cX7_rest : ByteArray := prog_9_method_22_code
def yX7_rest : MethodName := ⟨RX7, "rest", "(II)I"⟩
abbrev cX7_opens : ByteArray := prog_9_method_23_code
def yX7_opens : MethodName := ⟨RX7, "opens", "(II)I"⟩
abbrev cX7_bestWaits : ByteArray := prog_9_method_24_code
def yX7_bestWaits : MethodName := ⟨RX7, "bestWaits", "()I"⟩
abbrev cX7_waits : ByteArray := prog_9_method_25_code
def yX7_waits : MethodName := ⟨RX7, "waits", "()I"⟩
abbrev cX7_opening : ByteArray := prog_9_method_26_code
def yX7_opening : MethodName := ⟨RX7, "opening", "(II)I"⟩
abbrev cX7_atOnce : ByteArray := prog_9_method_27_code
def yX7_atOnce : MethodName := ⟨RX7, "atOnce", "()I"⟩
abbrev cX7_level : ByteArray := prog_9_method_28_code
def yX7_level : MethodName := ⟨RX7, "level", "(III)Z"⟩
abbrev cX7_flood : ByteArray := prog_9_method_29_code
def yX7_flood : MethodName := ⟨RX7, "flood", "(II)Z"⟩
abbrev cX7_isBad : ByteArray := prog_9_method_30_code
def yX7_isBad : MethodName := ⟨RX7, "isBad", "(I)Z"⟩
abbrev cX7_from : ByteArray := prog_9_method_31_code
def yX7_from : MethodName := ⟨RX7, "from", "(II)I"⟩
abbrev cX7_goes : ByteArray := prog_9_method_32_code
def yX7_goes : MethodName := ⟨RX7, "goes", "(IIZ)I"⟩
abbrev cX7_fewestOut : ByteArray := prog_9_method_33_code
def yX7_fewestOut : MethodName := ⟨RX7, "fewestOut", "()I"⟩
abbrev cX7_out : ByteArray := prog_9_method_34_code
def yX7_out : MethodName := ⟨RX7, "out", "()I"⟩
abbrev cX7_outOn : ByteArray := prog_9_method_35_code
def yX7_outOn : MethodName := ⟨RX7, "outOn", "(II)I"⟩
abbrev cX7_put : ByteArray := prog_9_method_36_code
def yX7_put : MethodName := ⟨RX7, "put", "(I)V"⟩
abbrev cX7_feed : ByteArray := prog_9_method_37_code
def yX7_feed : MethodName := ⟨RX7, "feed", "(IIIII)I"⟩
abbrev cX7_end : ByteArray := prog_9_method_38_code
def yX7_end : MethodName := ⟨RX7, "end", "(I)I"⟩
abbrev cX7_isLetter : ByteArray := prog_9_method_39_code
def yX7_isLetter : MethodName := ⟨RX7, "isLetter", "(I)Z"⟩
abbrev cX7_wordOf : ByteArray := prog_9_method_40_code
def yX7_wordOf : MethodName := ⟨RX7, "wordOf", "(J)I"⟩
abbrev cX7_next : ByteArray := prog_9_method_41_code
def yX7_next : MethodName := ⟨RX7, "next", "(I)V"⟩
abbrev cX7_fails : ByteArray := prog_9_method_42_code
def yX7_fails : MethodName := ⟨RX7, "fails", "(I)V"⟩
abbrev cX7_clause : ByteArray := prog_9_method_43_code
def yX7_clause : MethodName := ⟨RX7, "clause", "(I)V"⟩
abbrev cX7_tolls : ByteArray := prog_9_method_44_code
def yX7_tolls : MethodName := ⟨RX7, "tolls", "()I"⟩
abbrev cX7_fault : ByteArray := prog_9_method_45_code
def yX7_fault : MethodName := ⟨RX7, "fault", "(I)I"⟩
abbrev cX7_pass : ByteArray := prog_9_method_46_code
def yX7_pass : MethodName := ⟨RX7, "pass", "(III)I"⟩
abbrev cX7_about : ByteArray := prog_9_method_47_code
def yX7_about : MethodName := ⟨RX7, "about", "(I)I"⟩
def RJ9 : String := "java/lang/Math"
def TJ9 : u_T := fun k => match k with
  | _ => ("", "", "", false)
def tyJ9 : Nat → FieldType := fun k => match k with
  | _ => .int
abbrev wsJ90 : List Cond := u_ws RJ9 TJ9 0
theorem nmJ9 : ∀ a, a < 0 → ∀ b, b < 0 → a ≠ b → (TJ9 a).2.1 ≠ (TJ9 b).2.1 := by decide +kernel
theorem tyJ9_ok : ∀ k, k < 0 → parseFieldDescriptor (TJ9 k).2.2.1 = some (tyJ9 k) := by decide +kernel
abbrev cJ9_max_7cf53 : ByteArray := prog_10_method_65_code
def yJ9_max_7cf53 : MethodName := ⟨RJ9, "max", "(II)I"⟩
abbrev cJ9_min_7cf53 : ByteArray := prog_10_method_69_code
def yJ9_min_7cf53 : MethodName := ⟨RJ9, "min", "(II)I"⟩
def RJ0 : String := "java/lang/String"
def TJ0 : u_T := fun k => match k with
  | _ => ("", "", "", false)
def tyJ0 : Nat → FieldType := fun k => match k with
  | _ => .int
abbrev wsJ00 : List Cond := u_ws RJ0 TJ0 0
theorem nmJ0 : ∀ a, a < 0 → ∀ b, b < 0 → a ≠ b → (TJ0 a).2.1 ≠ (TJ0 b).2.1 := by decide +kernel
theorem tyJ0_ok : ∀ k, k < 0 → parseFieldDescriptor (TJ0 k).2.2.1 = some (tyJ0 k) := by decide +kernel
abbrev cJ0_length_8abf5 : ByteArray := prog_11_method_54_code
def yJ0_length_8abf5 : MethodName := ⟨RJ0, "length", "()I"⟩
abbrev cJ0_charAt_5068e : ByteArray := prog_11_method_56_code
def yJ0_charAt_5068e : MethodName := ⟨RJ0, "charAt", "(I)C"⟩
abbrev cJ0_coder_7d493 : ByteArray := prog_11_method_152_code
def yJ0_coder_7d493 : MethodName := ⟨RJ0, "coder", "()B"⟩
abbrev cJ0_isLatin1_aae02 : ByteArray := prog_11_method_154_code
def yJ0_isLatin1_aae02 : MethodName := ⟨RJ0, "isLatin1", "()Z"⟩
abbrev cJ0_checkIndex_df160 : ByteArray := prog_11_method_155_code
def yJ0_checkIndex_df160 : MethodName := ⟨RJ0, "checkIndex", "(II)V"⟩
def RJ1 : String := "java/lang/StringLatin1"
def TJ1 : u_T := fun k => match k with
  | _ => ("", "", "", false)
def tyJ1 : Nat → FieldType := fun k => match k with
  | _ => .int
abbrev wsJ10 : List Cond := u_ws RJ1 TJ1 0
theorem nmJ1 : ∀ a, a < 0 → ∀ b, b < 0 → a ≠ b → (TJ1 a).2.1 ≠ (TJ1 b).2.1 := by decide +kernel
theorem tyJ1_ok : ∀ k, k < 0 → parseFieldDescriptor (TJ1 k).2.2.1 = some (tyJ1 k) := by decide +kernel
abbrev cJ1_charAt_3b067 : ByteArray := prog_12_method_2_code
def yJ1_charAt_3b067 : MethodName := ⟨RJ1, "charAt", "([BI)C"⟩
def RJ2 : String := "java/lang/StringUTF16"
def TJ2 : u_T := fun k => match k with
  | _ => ("", "", "", false)
def tyJ2 : Nat → FieldType := fun k => match k with
  | _ => .int
abbrev wsJ20 : List Cond := u_ws RJ2 TJ2 0
theorem nmJ2 : ∀ a, a < 0 → ∀ b, b < 0 → a ≠ b → (TJ2 a).2.1 ≠ (TJ2 b).2.1 := by decide +kernel
theorem tyJ2_ok : ∀ k, k < 0 → parseFieldDescriptor (TJ2 k).2.2.1 = some (tyJ2 k) := by decide +kernel
abbrev cJ2_getChar_3b067 : ByteArray := prog_13_method_5_code
def yJ2_getChar_3b067 : MethodName := ⟨RJ2, "getChar", "([BI)C"⟩
abbrev cJ2_length_9d52b : ByteArray := prog_13_method_6_code
def yJ2_length_9d52b : MethodName := ⟨RJ2, "length", "([B)I"⟩
abbrev cJ2_charAt_3b067 : ByteArray := prog_13_method_83_code
def yJ2_charAt_3b067 : MethodName := ⟨RJ2, "charAt", "([BI)C"⟩
abbrev cJ2_checkIndex_2214a : ByteArray := prog_13_method_91_code
def yJ2_checkIndex_2214a : MethodName := ⟨RJ2, "checkIndex", "(I[B)V"⟩
def RJ7 : String := "java/util/Arrays"
def TJ7 : u_T := fun k => match k with
  | _ => ("", "", "", false)
def tyJ7 : Nat → FieldType := fun k => match k with
  | _ => .int
abbrev wsJ70 : List Cond := u_ws RJ7 TJ7 0
theorem nmJ7 : ∀ a, a < 0 → ∀ b, b < 0 → a ≠ b → (TJ7 a).2.1 ≠ (TJ7 b).2.1 := by decide +kernel
theorem tyJ7_ok : ∀ k, k < 0 → parseFieldDescriptor (TJ7 k).2.2.1 = some (tyJ7 k) := by decide +kernel
abbrev cJ7_fill_53178 : ByteArray := prog_14_method_103_code
def yJ7_fill_53178 : MethodName := ⟨RJ7, "fill", "([II)V"⟩
def RJ3 : String := "jdk/internal/util/Preconditions"
def TJ3 : u_T := fun k => match k with
  | _ => ("", "", "", false)
def tyJ3 : Nat → FieldType := fun k => match k with
  | _ => .int
abbrev wsJ30 : List Cond := u_ws RJ3 TJ3 0
theorem nmJ3 : ∀ a, a < 0 → ∀ b, b < 0 → a ≠ b → (TJ3 a).2.1 ≠ (TJ3 b).2.1 := by decide +kernel
theorem tyJ3_ok : ∀ k, k < 0 → parseFieldDescriptor (TJ3 k).2.2.1 = some (tyJ3 k) := by decide +kernel
abbrev cJ3_checkIndex_8e157 : ByteArray := prog_15_method_11_code
def yJ3_checkIndex_8e157 : MethodName := ⟨RJ3, "checkIndex", "(IILjava/util/function/BiFunction;)I"⟩
def RL : String := "BoatBridgeLaw"
abbrev cL_cell : ByteArray := method_2_code
def yL_cell : MethodName := ⟨RL, "cell", "([II)I"⟩
abbrev cL_law : ByteArray := code
def yL_law : MethodName := ⟨RL, "law", "([I)Z"⟩
abbrev vwCl : List vw_C := [(RX0, TX0, 12), (RX1, TX1, 19), (RX2, TX2, 6), (RX3, TX3, 2), (RX4, TX4, 6), (RX5, TX5, 12), (RX6, TX6, 6), (RX7, TX7, 40)]
end
section
theorem dX0_init_0 : decode cX0_init 0 = .ok (.aload_n 0, 1) := by decide +kernel
theorem dX0_init_1 : decode cX0_init 1 = .ok (.invokespecial 3, 3) := by decide +kernel
theorem dX0_init_4 : decode cX0_init 4 = .ok (.aload_n 0, 1) := by decide +kernel
theorem dX0_init_5 : decode cX0_init 5 = .ok (.bipush 10, 2) := by decide +kernel
theorem dX0_init_7 : decode cX0_init 7 = .ok (.newarray .int, 2) := by decide +kernel
theorem dX0_init_9 : decode cX0_init 9 = .ok (.putfield 9, 3) := by decide +kernel
theorem dX0_init_12 : decode cX0_init 12 = .ok (.aload_n 0, 1) := by decide +kernel
theorem dX0_init_13 : decode cX0_init 13 = .ok (.bipush 6, 2) := by decide +kernel
theorem dX0_init_15 : decode cX0_init 15 = .ok (.newarray .int, 2) := by decide +kernel
theorem dX0_init_17 : decode cX0_init 17 = .ok (.putfield 15, 3) := by decide +kernel
theorem dX0_init_20 : decode cX0_init 20 = .ok (.aload_n 0, 1) := by decide +kernel
theorem dX0_init_21 : decode cX0_init 21 = .ok (.bipush 6, 2) := by decide +kernel
theorem dX0_init_23 : decode cX0_init 23 = .ok (.newarray .int, 2) := by decide +kernel
theorem dX0_init_25 : decode cX0_init 25 = .ok (.putfield 18, 3) := by decide +kernel
theorem dX0_init_28 : decode cX0_init 28 = .ok (.aload_n 0, 1) := by decide +kernel
theorem dX0_init_29 : decode cX0_init 29 = .ok (.bipush 6, 2) := by decide +kernel
theorem dX0_init_31 : decode cX0_init 31 = .ok (.newarray .int, 2) := by decide +kernel
theorem dX0_init_33 : decode cX0_init 33 = .ok (.putfield 21, 3) := by decide +kernel
theorem dX0_init_36 : decode cX0_init 36 = .ok (.aload_n 0, 1) := by decide +kernel
theorem dX0_init_37 : decode cX0_init 37 = .ok (.iload_n 1, 1) := by decide +kernel
theorem dX0_init_38 : decode cX0_init 38 = .ok (.putfield 24, 3) := by decide +kernel
theorem dX0_init_41 : decode cX0_init 41 = .ok (.aload_n 0, 1) := by decide +kernel
theorem dX0_init_42 : decode cX0_init 42 = .ok (.iload_n 1, 1) := by decide +kernel
theorem dX0_init_43 : decode cX0_init 43 = .ok (.newarray .int, 2) := by decide +kernel
theorem dX0_init_45 : decode cX0_init 45 = .ok (.putfield 28, 3) := by decide +kernel
theorem dX0_init_48 : decode cX0_init 48 = .ok (.aload_n 0, 1) := by decide +kernel
theorem dX0_init_49 : decode cX0_init 49 = .ok (.iload_n 1, 1) := by decide +kernel
theorem dX0_init_50 : decode cX0_init 50 = .ok (.newarray .int, 2) := by decide +kernel
theorem dX0_init_52 : decode cX0_init 52 = .ok (.putfield 31, 3) := by decide +kernel
theorem dX0_init_55 : decode cX0_init 55 = .ok (.aload_n 0, 1) := by decide +kernel
theorem dX0_init_56 : decode cX0_init 56 = .ok (.iload_n 1, 1) := by decide +kernel
theorem dX0_init_57 : decode cX0_init 57 = .ok (.newarray .int, 2) := by decide +kernel
theorem dX0_init_59 : decode cX0_init 59 = .ok (.putfield 34, 3) := by decide +kernel
theorem dX0_init_62 : decode cX0_init 62 = .ok (.aload_n 0, 1) := by decide +kernel
theorem dX0_init_63 : decode cX0_init 63 = .ok (.getfield 28, 3) := by decide +kernel
theorem dX0_init_66 : decode cX0_init 66 = .ok (.bipush 100, 2) := by decide +kernel
theorem dX0_init_68 : decode cX0_init 68 = .ok (.invokestatic 37, 3) := by decide +kernel
theorem dX0_init_71 : decode cX0_init 71 = .ok (.aload_n 0, 1) := by decide +kernel
theorem dX0_init_72 : decode cX0_init 72 = .ok (.getfield 31, 3) := by decide +kernel
theorem dX0_init_75 : decode cX0_init 75 = .ok (.bipush 100, 2) := by decide +kernel
theorem dX0_init_77 : decode cX0_init 77 = .ok (.invokestatic 37, 3) := by decide +kernel
theorem dX0_init_80 : decode cX0_init 80 = .ok (.return_, 1) := by decide +kernel
theorem dX0_hullCount_0 : decode cX0_hullCount 0 = .ok (.aload_n 0, 1) := by decide +kernel
theorem dX0_hullCount_1 : decode cX0_hullCount 1 = .ok (.getfield 24, 3) := by decide +kernel
theorem dX0_hullCount_4 : decode cX0_hullCount 4 = .ok (.ireturn, 1) := by decide +kernel
theorem dX0_cartCount_0 : decode cX0_cartCount 0 = .ok (.aload_n 0, 1) := by decide +kernel
theorem dX0_cartCount_1 : decode cX0_cartCount 1 = .ok (.getfield 43, 3) := by decide +kernel
theorem dX0_cartCount_4 : decode cX0_cartCount 4 = .ok (.ireturn, 1) := by decide +kernel
theorem dX0_hasHull_0 : decode cX0_hasHull 0 = .ok (.iload_n 1, 1) := by decide +kernel
theorem dX0_hasHull_1 : decode cX0_hasHull 1 = .ok (.iconst 0, 1) := by decide +kernel
theorem dX0_hasHull_2 : decode cX0_hasHull 2 = .ok (.aload_n 0, 1) := by decide +kernel
theorem dX0_hasHull_3 : decode cX0_hasHull 3 = .ok (.getfield 24, 3) := by decide +kernel
theorem dX0_hasHull_6 : decode cX0_hasHull 6 = .ok (.iconst 1, 1) := by decide +kernel
theorem dX0_hasHull_7 : decode cX0_hasHull 7 = .ok (.isub, 1) := by decide +kernel
theorem dX0_hasHull_8 : decode cX0_hasHull 8 = .ok (.invokestatic 46, 3) := by decide +kernel
theorem dX0_hasHull_11 : decode cX0_hasHull 11 = .ok (.ireturn, 1) := by decide +kernel
theorem dX0_setHull_0 : decode cX0_setHull 0 = .ok (.aload_n 0, 1) := by decide +kernel
theorem dX0_setHull_1 : decode cX0_setHull 1 = .ok (.getfield 28, 3) := by decide +kernel
theorem dX0_setHull_4 : decode cX0_setHull 4 = .ok (.iload_n 1, 1) := by decide +kernel
theorem dX0_setHull_5 : decode cX0_setHull 5 = .ok (.iload_n 2, 1) := by decide +kernel
theorem dX0_setHull_6 : decode cX0_setHull 6 = .ok (.iastore, 1) := by decide +kernel
theorem dX0_setHull_7 : decode cX0_setHull 7 = .ok (.aload_n 0, 1) := by decide +kernel
theorem dX0_setHull_8 : decode cX0_setHull 8 = .ok (.getfield 31, 3) := by decide +kernel
theorem dX0_setHull_11 : decode cX0_setHull 11 = .ok (.iload_n 1, 1) := by decide +kernel
theorem dX0_setHull_12 : decode cX0_setHull 12 = .ok (.iload_n 3, 1) := by decide +kernel
theorem dX0_setHull_13 : decode cX0_setHull 13 = .ok (.iastore, 1) := by decide +kernel
theorem dX0_setHull_14 : decode cX0_setHull 14 = .ok (.return_, 1) := by decide +kernel
theorem dX0_setPull_0 : decode cX0_setPull 0 = .ok (.aload_n 0, 1) := by decide +kernel
theorem dX0_setPull_1 : decode cX0_setPull 1 = .ok (.getfield 9, 3) := by decide +kernel
theorem dX0_setPull_4 : decode cX0_setPull 4 = .ok (.iload_n 1, 1) := by decide +kernel
theorem dX0_setPull_5 : decode cX0_setPull 5 = .ok (.iload_n 2, 1) := by decide +kernel
theorem dX0_setPull_6 : decode cX0_setPull 6 = .ok (.iastore, 1) := by decide +kernel
theorem dX0_setPull_7 : decode cX0_setPull 7 = .ok (.return_, 1) := by decide +kernel
theorem dX0_anchorsBelow_0 : decode cX0_anchorsBelow 0 = .ok (.iconst 0, 1) := by decide +kernel
theorem dX0_anchorsBelow_1 : decode cX0_anchorsBelow 1 = .ok (.istore_n 2, 1) := by decide +kernel
theorem dX0_anchorsBelow_2 : decode cX0_anchorsBelow 2 = .ok (.iconst 0, 1) := by decide +kernel
theorem dX0_anchorsBelow_3 : decode cX0_anchorsBelow 3 = .ok (.istore_n 3, 1) := by decide +kernel
theorem dX0_anchorsBelow_4 : decode cX0_anchorsBelow 4 = .ok (.iload_n 3, 1) := by decide +kernel
theorem dX0_anchorsBelow_5 : decode cX0_anchorsBelow 5 = .ok (.aload_n 0, 1) := by decide +kernel
theorem dX0_anchorsBelow_6 : decode cX0_anchorsBelow 6 = .ok (.getfield 24, 3) := by decide +kernel
theorem dX0_anchorsBelow_9 : decode cX0_anchorsBelow 9 = .ok (.if_icmp .ge 27, 3) := by decide +kernel
theorem dX0_anchorsBelow_12 : decode cX0_anchorsBelow 12 = .ok (.aload_n 0, 1) := by decide +kernel
theorem dX0_anchorsBelow_13 : decode cX0_anchorsBelow 13 = .ok (.getfield 31, 3) := by decide +kernel
theorem dX0_anchorsBelow_16 : decode cX0_anchorsBelow 16 = .ok (.iload_n 3, 1) := by decide +kernel
theorem dX0_anchorsBelow_17 : decode cX0_anchorsBelow 17 = .ok (.iaload, 1) := by decide +kernel
theorem dX0_anchorsBelow_18 : decode cX0_anchorsBelow 18 = .ok (.aload_n 0, 1) := by decide +kernel
theorem dX0_anchorsBelow_19 : decode cX0_anchorsBelow 19 = .ok (.getfield 9, 3) := by decide +kernel
theorem dX0_anchorsBelow_22 : decode cX0_anchorsBelow 22 = .ok (.iload_n 1, 1) := by decide +kernel
theorem dX0_anchorsBelow_23 : decode cX0_anchorsBelow 23 = .ok (.iaload, 1) := by decide +kernel
theorem dX0_anchorsBelow_24 : decode cX0_anchorsBelow 24 = .ok (.if_icmp .ge 6, 3) := by decide +kernel
theorem dX0_anchorsBelow_27 : decode cX0_anchorsBelow 27 = .ok (.iinc 2 1, 3) := by decide +kernel
theorem dX0_anchorsBelow_30 : decode cX0_anchorsBelow 30 = .ok (.iinc 3 1, 3) := by decide +kernel
theorem dX0_anchorsBelow_33 : decode cX0_anchorsBelow 33 = .ok (.goto (-29), 3) := by decide +kernel
theorem dX0_anchorsBelow_36 : decode cX0_anchorsBelow 36 = .ok (.iload_n 2, 1) := by decide +kernel
theorem dX0_anchorsBelow_37 : decode cX0_anchorsBelow 37 = .ok (.ireturn, 1) := by decide +kernel
theorem dX0_addCart_0 : decode cX0_addCart 0 = .ok (.aload_n 0, 1) := by decide +kernel
theorem dX0_addCart_1 : decode cX0_addCart 1 = .ok (.getfield 15, 3) := by decide +kernel
theorem dX0_addCart_4 : decode cX0_addCart 4 = .ok (.aload_n 0, 1) := by decide +kernel
theorem dX0_addCart_5 : decode cX0_addCart 5 = .ok (.getfield 43, 3) := by decide +kernel
theorem dX0_addCart_8 : decode cX0_addCart 8 = .ok (.iload_n 1, 1) := by decide +kernel
theorem dX0_addCart_9 : decode cX0_addCart 9 = .ok (.iastore, 1) := by decide +kernel
theorem dX0_addCart_10 : decode cX0_addCart 10 = .ok (.aload_n 0, 1) := by decide +kernel
theorem dX0_addCart_11 : decode cX0_addCart 11 = .ok (.getfield 18, 3) := by decide +kernel
theorem dX0_addCart_14 : decode cX0_addCart 14 = .ok (.aload_n 0, 1) := by decide +kernel
theorem dX0_addCart_15 : decode cX0_addCart 15 = .ok (.getfield 43, 3) := by decide +kernel
theorem dX0_addCart_18 : decode cX0_addCart 18 = .ok (.aload_n 0, 1) := by decide +kernel
theorem dX0_addCart_19 : decode cX0_addCart 19 = .ok (.getfield 43, 3) := by decide +kernel
theorem dX0_addCart_22 : decode cX0_addCart 22 = .ok (.ifCond .ne 7, 3) := by decide +kernel
theorem dX0_addCart_25 : decode cX0_addCart 25 = .ok (.iconst 0, 1) := by decide +kernel
theorem dX0_addCart_26 : decode cX0_addCart 26 = .ok (.goto 16, 3) := by decide +kernel
theorem dX0_addCart_29 : decode cX0_addCart 29 = .ok (.aload_n 0, 1) := by decide +kernel
theorem dX0_addCart_30 : decode cX0_addCart 30 = .ok (.getfield 18, 3) := by decide +kernel
theorem dX0_addCart_33 : decode cX0_addCart 33 = .ok (.aload_n 0, 1) := by decide +kernel
theorem dX0_addCart_34 : decode cX0_addCart 34 = .ok (.getfield 43, 3) := by decide +kernel
theorem dX0_addCart_37 : decode cX0_addCart 37 = .ok (.iconst 1, 1) := by decide +kernel
theorem dX0_addCart_38 : decode cX0_addCart 38 = .ok (.isub, 1) := by decide +kernel
theorem dX0_addCart_39 : decode cX0_addCart 39 = .ok (.iaload, 1) := by decide +kernel
theorem dX0_addCart_40 : decode cX0_addCart 40 = .ok (.iload_n 2, 1) := by decide +kernel
theorem dX0_addCart_41 : decode cX0_addCart 41 = .ok (.iadd, 1) := by decide +kernel
theorem dX0_addCart_42 : decode cX0_addCart 42 = .ok (.iastore, 1) := by decide +kernel
theorem dX0_addCart_43 : decode cX0_addCart 43 = .ok (.aload_n 0, 1) := by decide +kernel
theorem dX0_addCart_44 : decode cX0_addCart 44 = .ok (.dup, 1) := by decide +kernel
theorem dX0_addCart_45 : decode cX0_addCart 45 = .ok (.getfield 43, 3) := by decide +kernel
theorem dX0_addCart_48 : decode cX0_addCart 48 = .ok (.iconst 1, 1) := by decide +kernel
theorem dX0_addCart_49 : decode cX0_addCart 49 = .ok (.iadd, 1) := by decide +kernel
theorem dX0_addCart_50 : decode cX0_addCart 50 = .ok (.putfield 43, 3) := by decide +kernel
theorem dX0_addCart_53 : decode cX0_addCart 53 = .ok (.aload_n 0, 1) := by decide +kernel
theorem dX0_addCart_54 : decode cX0_addCart 54 = .ok (.getfield 43, 3) := by decide +kernel
theorem dX0_addCart_57 : decode cX0_addCart 57 = .ok (.ireturn, 1) := by decide +kernel
theorem dX0_dropCarts_0 : decode cX0_dropCarts 0 = .ok (.aload_n 0, 1) := by decide +kernel
theorem dX0_dropCarts_1 : decode cX0_dropCarts 1 = .ok (.getfield 43, 3) := by decide +kernel
theorem dX0_dropCarts_4 : decode cX0_dropCarts 4 = .ok (.istore_n 1, 1) := by decide +kernel
theorem dX0_dropCarts_5 : decode cX0_dropCarts 5 = .ok (.aload_n 0, 1) := by decide +kernel
theorem dX0_dropCarts_6 : decode cX0_dropCarts 6 = .ok (.iconst 0, 1) := by decide +kernel
theorem dX0_dropCarts_7 : decode cX0_dropCarts 7 = .ok (.putfield 43, 3) := by decide +kernel
theorem dX0_dropCarts_10 : decode cX0_dropCarts 10 = .ok (.iload_n 1, 1) := by decide +kernel
theorem dX0_dropCarts_11 : decode cX0_dropCarts 11 = .ok (.ireturn, 1) := by decide +kernel
theorem dX0_loadOn_0 : decode cX0_loadOn 0 = .ok (.aload_n 0, 1) := by decide +kernel
theorem dX0_loadOn_1 : decode cX0_loadOn 1 = .ok (.iload_n 2, 1) := by decide +kernel
theorem dX0_loadOn_2 : decode cX0_loadOn 2 = .ok (.aload_n 0, 1) := by decide +kernel
theorem dX0_loadOn_3 : decode cX0_loadOn 3 = .ok (.getfield 18, 3) := by decide +kernel
theorem dX0_loadOn_6 : decode cX0_loadOn 6 = .ok (.invokevirtual 50, 3) := by decide +kernel
theorem dX0_loadOn_9 : decode cX0_loadOn 9 = .ok (.aload_n 0, 1) := by decide +kernel
theorem dX0_loadOn_10 : decode cX0_loadOn 10 = .ok (.getfield 34, 3) := by decide +kernel
theorem dX0_loadOn_13 : decode cX0_loadOn 13 = .ok (.iload_n 1, 1) := by decide +kernel
theorem dX0_loadOn_14 : decode cX0_loadOn 14 = .ok (.iaload, 1) := by decide +kernel
theorem dX0_loadOn_15 : decode cX0_loadOn 15 = .ok (.ireturn, 1) := by decide +kernel
theorem dX0_leastMargin_0 : decode cX0_leastMargin 0 = .ok (.aload_n 0, 1) := by decide +kernel
theorem dX0_leastMargin_1 : decode cX0_leastMargin 1 = .ok (.aload_n 0, 1) := by decide +kernel
theorem dX0_leastMargin_2 : decode cX0_leastMargin 2 = .ok (.getfield 18, 3) := by decide +kernel
theorem dX0_leastMargin_5 : decode cX0_leastMargin 5 = .ok (.invokevirtual 54, 3) := by decide +kernel
theorem dX0_leastMargin_8 : decode cX0_leastMargin 8 = .ok (.iload_n 1, 1) := by decide +kernel
theorem dX0_leastMargin_9 : decode cX0_leastMargin 9 = .ok (.ifCond .ne 8, 3) := by decide +kernel
theorem dX0_leastMargin_12 : decode cX0_leastMargin 12 = .ok (.aload_n 0, 1) := by decide +kernel
theorem dX0_leastMargin_13 : decode cX0_leastMargin 13 = .ok (.getfield 58, 3) := by decide +kernel
theorem dX0_leastMargin_16 : decode cX0_leastMargin 16 = .ok (.ireturn, 1) := by decide +kernel
theorem dX0_leastMargin_17 : decode cX0_leastMargin 17 = .ok (.iload_n 1, 1) := by decide +kernel
theorem dX0_leastMargin_18 : decode cX0_leastMargin 18 = .ok (.iconst 1, 1) := by decide +kernel
theorem dX0_leastMargin_19 : decode cX0_leastMargin 19 = .ok (.if_icmp .ne 10, 3) := by decide +kernel
theorem dX0_leastMargin_22 : decode cX0_leastMargin 22 = .ok (.aload_n 0, 1) := by decide +kernel
theorem dX0_leastMargin_23 : decode cX0_leastMargin 23 = .ok (.getfield 61, 3) := by decide +kernel
theorem dX0_leastMargin_26 : decode cX0_leastMargin 26 = .ok (.goto 7, 3) := by decide +kernel
theorem dX0_leastMargin_29 : decode cX0_leastMargin 29 = .ok (.aload_n 0, 1) := by decide +kernel
theorem dX0_leastMargin_30 : decode cX0_leastMargin 30 = .ok (.getfield 64, 3) := by decide +kernel
theorem dX0_leastMargin_33 : decode cX0_leastMargin 33 = .ok (.ireturn, 1) := by decide +kernel
theorem dX0_leastEvenGap_0 : decode cX0_leastEvenGap 0 = .ok (.iconst 1, 1) := by decide +kernel
theorem dX0_leastEvenGap_1 : decode cX0_leastEvenGap 1 = .ok (.istore_n 1, 1) := by decide +kernel
theorem dX0_leastEvenGap_2 : decode cX0_leastEvenGap 2 = .ok (.iload_n 1, 1) := by decide +kernel
theorem dX0_leastEvenGap_3 : decode cX0_leastEvenGap 3 = .ok (.bipush 12, 2) := by decide +kernel
theorem dX0_leastEvenGap_5 : decode cX0_leastEvenGap 5 = .ok (.if_icmp .gt 51, 3) := by decide +kernel
theorem dX0_leastEvenGap_8 : decode cX0_leastEvenGap 8 = .ok (.iconst 0, 1) := by decide +kernel
theorem dX0_leastEvenGap_9 : decode cX0_leastEvenGap 9 = .ok (.istore_n 2, 1) := by decide +kernel
theorem dX0_leastEvenGap_10 : decode cX0_leastEvenGap 10 = .ok (.iload_n 2, 1) := by decide +kernel
theorem dX0_leastEvenGap_11 : decode cX0_leastEvenGap 11 = .ok (.aload_n 0, 1) := by decide +kernel
theorem dX0_leastEvenGap_12 : decode cX0_leastEvenGap 12 = .ok (.getfield 43, 3) := by decide +kernel
theorem dX0_leastEvenGap_15 : decode cX0_leastEvenGap 15 = .ok (.if_icmp .ge 18, 3) := by decide +kernel
theorem dX0_leastEvenGap_18 : decode cX0_leastEvenGap 18 = .ok (.aload_n 0, 1) := by decide +kernel
theorem dX0_leastEvenGap_19 : decode cX0_leastEvenGap 19 = .ok (.getfield 21, 3) := by decide +kernel
theorem dX0_leastEvenGap_22 : decode cX0_leastEvenGap 22 = .ok (.iload_n 2, 1) := by decide +kernel
theorem dX0_leastEvenGap_23 : decode cX0_leastEvenGap 23 = .ok (.iload_n 2, 1) := by decide +kernel
theorem dX0_leastEvenGap_24 : decode cX0_leastEvenGap 24 = .ok (.iload_n 1, 1) := by decide +kernel
theorem dX0_leastEvenGap_25 : decode cX0_leastEvenGap 25 = .ok (.imul, 1) := by decide +kernel
theorem dX0_leastEvenGap_26 : decode cX0_leastEvenGap 26 = .ok (.iastore, 1) := by decide +kernel
theorem dX0_leastEvenGap_27 : decode cX0_leastEvenGap 27 = .ok (.iinc 2 1, 3) := by decide +kernel
theorem dX0_leastEvenGap_30 : decode cX0_leastEvenGap 30 = .ok (.goto (-20), 3) := by decide +kernel
theorem dX0_leastEvenGap_33 : decode cX0_leastEvenGap 33 = .ok (.aload_n 0, 1) := by decide +kernel
theorem dX0_leastEvenGap_34 : decode cX0_leastEvenGap 34 = .ok (.aload_n 0, 1) := by decide +kernel
theorem dX0_leastEvenGap_35 : decode cX0_leastEvenGap 35 = .ok (.getfield 21, 3) := by decide +kernel
theorem dX0_leastEvenGap_38 : decode cX0_leastEvenGap 38 = .ok (.invokevirtual 54, 3) := by decide +kernel
theorem dX0_leastEvenGap_41 : decode cX0_leastEvenGap 41 = .ok (.aload_n 0, 1) := by decide +kernel
theorem dX0_leastEvenGap_42 : decode cX0_leastEvenGap 42 = .ok (.getfield 58, 3) := by decide +kernel
theorem dX0_leastEvenGap_45 : decode cX0_leastEvenGap 45 = .ok (.ifCond .lt 5, 3) := by decide +kernel
theorem dX0_leastEvenGap_48 : decode cX0_leastEvenGap 48 = .ok (.iload_n 1, 1) := by decide +kernel
theorem dX0_leastEvenGap_49 : decode cX0_leastEvenGap 49 = .ok (.ireturn, 1) := by decide +kernel
theorem dX0_leastEvenGap_50 : decode cX0_leastEvenGap 50 = .ok (.iinc 1 1, 3) := by decide +kernel
theorem dX0_leastEvenGap_53 : decode cX0_leastEvenGap 53 = .ok (.goto (-51), 3) := by decide +kernel
theorem dX0_leastEvenGap_56 : decode cX0_leastEvenGap 56 = .ok (.iconst (-1), 1) := by decide +kernel
theorem dX0_leastEvenGap_57 : decode cX0_leastEvenGap 57 = .ok (.ireturn, 1) := by decide +kernel
theorem dX0_findLeastMargin_0 : decode cX0_findLeastMargin 0 = .ok (.aload_n 0, 1) := by decide +kernel
theorem dX0_findLeastMargin_1 : decode cX0_findLeastMargin 1 = .ok (.ldc 69, 2) := by decide +kernel
theorem dX0_findLeastMargin_3 : decode cX0_findLeastMargin 3 = .ok (.putfield 58, 3) := by decide +kernel
theorem dX0_findLeastMargin_6 : decode cX0_findLeastMargin 6 = .ok (.aload_n 0, 1) := by decide +kernel
theorem dX0_findLeastMargin_7 : decode cX0_findLeastMargin 7 = .ok (.iconst (-1), 1) := by decide +kernel
theorem dX0_findLeastMargin_8 : decode cX0_findLeastMargin 8 = .ok (.putfield 61, 3) := by decide +kernel
theorem dX0_findLeastMargin_11 : decode cX0_findLeastMargin 11 = .ok (.aload_n 0, 1) := by decide +kernel
theorem dX0_findLeastMargin_12 : decode cX0_findLeastMargin 12 = .ok (.iconst (-1), 1) := by decide +kernel
theorem dX0_findLeastMargin_13 : decode cX0_findLeastMargin 13 = .ok (.putfield 64, 3) := by decide +kernel
theorem dX0_findLeastMargin_16 : decode cX0_findLeastMargin 16 = .ok (.aload_n 0, 1) := by decide +kernel
theorem dX0_findLeastMargin_17 : decode cX0_findLeastMargin 17 = .ok (.getfield 43, 3) := by decide +kernel
theorem dX0_findLeastMargin_20 : decode cX0_findLeastMargin 20 = .ok (.ifCond .le 21, 3) := by decide +kernel
theorem dX0_findLeastMargin_23 : decode cX0_findLeastMargin 23 = .ok (.aload_n 0, 1) := by decide +kernel
theorem dX0_findLeastMargin_24 : decode cX0_findLeastMargin 24 = .ok (.getfield 24, 3) := by decide +kernel
theorem dX0_findLeastMargin_27 : decode cX0_findLeastMargin 27 = .ok (.iconst 1, 1) := by decide +kernel
theorem dX0_findLeastMargin_28 : decode cX0_findLeastMargin 28 = .ok (.isub, 1) := by decide +kernel
theorem dX0_findLeastMargin_29 : decode cX0_findLeastMargin 29 = .ok (.aload_n 1, 1) := by decide +kernel
theorem dX0_findLeastMargin_30 : decode cX0_findLeastMargin 30 = .ok (.aload_n 0, 1) := by decide +kernel
theorem dX0_findLeastMargin_31 : decode cX0_findLeastMargin 31 = .ok (.getfield 43, 3) := by decide +kernel
theorem dX0_findLeastMargin_34 : decode cX0_findLeastMargin 34 = .ok (.iconst 1, 1) := by decide +kernel
theorem dX0_findLeastMargin_35 : decode cX0_findLeastMargin 35 = .ok (.isub, 1) := by decide +kernel
theorem dX0_findLeastMargin_36 : decode cX0_findLeastMargin 36 = .ok (.iaload, 1) := by decide +kernel
theorem dX0_findLeastMargin_37 : decode cX0_findLeastMargin 37 = .ok (.iadd, 1) := by decide +kernel
theorem dX0_findLeastMargin_38 : decode cX0_findLeastMargin 38 = .ok (.goto 4, 3) := by decide +kernel
theorem dX0_findLeastMargin_41 : decode cX0_findLeastMargin 41 = .ok (.iconst (-1), 1) := by decide +kernel
theorem dX0_findLeastMargin_42 : decode cX0_findLeastMargin 42 = .ok (.istore_n 2, 1) := by decide +kernel
theorem dX0_findLeastMargin_43 : decode cX0_findLeastMargin 43 = .ok (.iconst 0, 1) := by decide +kernel
theorem dX0_findLeastMargin_44 : decode cX0_findLeastMargin 44 = .ok (.istore_n 3, 1) := by decide +kernel
theorem dX0_findLeastMargin_45 : decode cX0_findLeastMargin 45 = .ok (.iload_n 3, 1) := by decide +kernel
theorem dX0_findLeastMargin_46 : decode cX0_findLeastMargin 46 = .ok (.iload_n 2, 1) := by decide +kernel
theorem dX0_findLeastMargin_47 : decode cX0_findLeastMargin 47 = .ok (.if_icmp .gt 78, 3) := by decide +kernel
theorem dX0_findLeastMargin_50 : decode cX0_findLeastMargin 50 = .ok (.aload_n 0, 1) := by decide +kernel
theorem dX0_findLeastMargin_51 : decode cX0_findLeastMargin 51 = .ok (.iload_n 3, 1) := by decide +kernel
theorem dX0_findLeastMargin_52 : decode cX0_findLeastMargin 52 = .ok (.aload_n 1, 1) := by decide +kernel
theorem dX0_findLeastMargin_53 : decode cX0_findLeastMargin 53 = .ok (.invokevirtual 50, 3) := by decide +kernel
theorem dX0_findLeastMargin_56 : decode cX0_findLeastMargin 56 = .ok (.iconst 0, 1) := by decide +kernel
theorem dX0_findLeastMargin_57 : decode cX0_findLeastMargin 57 = .ok (.istore 4, 2) := by decide +kernel
theorem dX0_findLeastMargin_59 : decode cX0_findLeastMargin 59 = .ok (.iload 4, 2) := by decide +kernel
theorem dX0_findLeastMargin_61 : decode cX0_findLeastMargin 61 = .ok (.aload_n 0, 1) := by decide +kernel
theorem dX0_findLeastMargin_62 : decode cX0_findLeastMargin 62 = .ok (.getfield 24, 3) := by decide +kernel
theorem dX0_findLeastMargin_65 : decode cX0_findLeastMargin 65 = .ok (.if_icmp .ge 54, 3) := by decide +kernel
theorem dX0_findLeastMargin_68 : decode cX0_findLeastMargin 68 = .ok (.iconst 4, 1) := by decide +kernel
theorem dX0_findLeastMargin_69 : decode cX0_findLeastMargin 69 = .ok (.aload_n 0, 1) := by decide +kernel
theorem dX0_findLeastMargin_70 : decode cX0_findLeastMargin 70 = .ok (.getfield 28, 3) := by decide +kernel
theorem dX0_findLeastMargin_73 : decode cX0_findLeastMargin 73 = .ok (.iload 4, 2) := by decide +kernel
theorem dX0_findLeastMargin_75 : decode cX0_findLeastMargin 75 = .ok (.iaload, 1) := by decide +kernel
theorem dX0_findLeastMargin_76 : decode cX0_findLeastMargin 76 = .ok (.imul, 1) := by decide +kernel
theorem dX0_findLeastMargin_77 : decode cX0_findLeastMargin 77 = .ok (.aload_n 0, 1) := by decide +kernel
theorem dX0_findLeastMargin_78 : decode cX0_findLeastMargin 78 = .ok (.getfield 34, 3) := by decide +kernel
theorem dX0_findLeastMargin_81 : decode cX0_findLeastMargin 81 = .ok (.iload 4, 2) := by decide +kernel
theorem dX0_findLeastMargin_83 : decode cX0_findLeastMargin 83 = .ok (.iaload, 1) := by decide +kernel
theorem dX0_findLeastMargin_84 : decode cX0_findLeastMargin 84 = .ok (.isub, 1) := by decide +kernel
theorem dX0_findLeastMargin_85 : decode cX0_findLeastMargin 85 = .ok (.istore 5, 2) := by decide +kernel
theorem dX0_findLeastMargin_87 : decode cX0_findLeastMargin 87 = .ok (.iload 5, 2) := by decide +kernel
theorem dX0_findLeastMargin_89 : decode cX0_findLeastMargin 89 = .ok (.aload_n 0, 1) := by decide +kernel
theorem dX0_findLeastMargin_90 : decode cX0_findLeastMargin 90 = .ok (.getfield 58, 3) := by decide +kernel
theorem dX0_findLeastMargin_93 : decode cX0_findLeastMargin 93 = .ok (.if_icmp .ge 20, 3) := by decide +kernel
theorem dX0_findLeastMargin_96 : decode cX0_findLeastMargin 96 = .ok (.aload_n 0, 1) := by decide +kernel
theorem dX0_findLeastMargin_97 : decode cX0_findLeastMargin 97 = .ok (.iload 5, 2) := by decide +kernel
theorem dX0_findLeastMargin_99 : decode cX0_findLeastMargin 99 = .ok (.putfield 58, 3) := by decide +kernel
theorem dX0_findLeastMargin_102 : decode cX0_findLeastMargin 102 = .ok (.aload_n 0, 1) := by decide +kernel
theorem dX0_findLeastMargin_103 : decode cX0_findLeastMargin 103 = .ok (.iload 4, 2) := by decide +kernel
theorem dX0_findLeastMargin_105 : decode cX0_findLeastMargin 105 = .ok (.putfield 61, 3) := by decide +kernel
theorem dX0_findLeastMargin_108 : decode cX0_findLeastMargin 108 = .ok (.aload_n 0, 1) := by decide +kernel
theorem dX0_findLeastMargin_109 : decode cX0_findLeastMargin 109 = .ok (.iload_n 3, 1) := by decide +kernel
theorem dX0_findLeastMargin_110 : decode cX0_findLeastMargin 110 = .ok (.putfield 64, 3) := by decide +kernel
theorem dX0_findLeastMargin_113 : decode cX0_findLeastMargin 113 = .ok (.iinc 4 1, 3) := by decide +kernel
theorem dX0_findLeastMargin_116 : decode cX0_findLeastMargin 116 = .ok (.goto (-57), 3) := by decide +kernel
theorem dX0_findLeastMargin_119 : decode cX0_findLeastMargin 119 = .ok (.iinc 3 1, 3) := by decide +kernel
theorem dX0_findLeastMargin_122 : decode cX0_findLeastMargin 122 = .ok (.goto (-77), 3) := by decide +kernel
theorem dX0_findLeastMargin_125 : decode cX0_findLeastMargin 125 = .ok (.return_, 1) := by decide +kernel
theorem dX0_layLoads_0 : decode cX0_layLoads 0 = .ok (.aload_n 0, 1) := by decide +kernel
theorem dX0_layLoads_1 : decode cX0_layLoads 1 = .ok (.getfield 34, 3) := by decide +kernel
theorem dX0_layLoads_4 : decode cX0_layLoads 4 = .ok (.iconst 0, 1) := by decide +kernel
theorem dX0_layLoads_5 : decode cX0_layLoads 5 = .ok (.invokestatic 37, 3) := by decide +kernel
theorem dX0_layLoads_8 : decode cX0_layLoads 8 = .ok (.iconst 0, 1) := by decide +kernel
theorem dX0_layLoads_9 : decode cX0_layLoads 9 = .ok (.istore_n 3, 1) := by decide +kernel
theorem dX0_layLoads_10 : decode cX0_layLoads 10 = .ok (.iload_n 3, 1) := by decide +kernel
theorem dX0_layLoads_11 : decode cX0_layLoads 11 = .ok (.aload_n 0, 1) := by decide +kernel
theorem dX0_layLoads_12 : decode cX0_layLoads 12 = .ok (.getfield 43, 3) := by decide +kernel
theorem dX0_layLoads_15 : decode cX0_layLoads 15 = .ok (.if_icmp .ge 67, 3) := by decide +kernel
theorem dX0_layLoads_18 : decode cX0_layLoads 18 = .ok (.iload_n 1, 1) := by decide +kernel
theorem dX0_layLoads_19 : decode cX0_layLoads 19 = .ok (.aload_n 2, 1) := by decide +kernel
theorem dX0_layLoads_20 : decode cX0_layLoads 20 = .ok (.iload_n 3, 1) := by decide +kernel
theorem dX0_layLoads_21 : decode cX0_layLoads 21 = .ok (.iaload, 1) := by decide +kernel
theorem dX0_layLoads_22 : decode cX0_layLoads 22 = .ok (.isub, 1) := by decide +kernel
theorem dX0_layLoads_23 : decode cX0_layLoads 23 = .ok (.istore 4, 2) := by decide +kernel
theorem dX0_layLoads_25 : decode cX0_layLoads 25 = .ok (.aload_n 0, 1) := by decide +kernel
theorem dX0_layLoads_26 : decode cX0_layLoads 26 = .ok (.iload 4, 2) := by decide +kernel
theorem dX0_layLoads_28 : decode cX0_layLoads 28 = .ok (.invokevirtual 70, 3) := by decide +kernel
theorem dX0_layLoads_31 : decode cX0_layLoads 31 = .ok (.ifCond .eq 45, 3) := by decide +kernel
theorem dX0_layLoads_34 : decode cX0_layLoads 34 = .ok (.aload_n 0, 1) := by decide +kernel
theorem dX0_layLoads_35 : decode cX0_layLoads 35 = .ok (.iload 4, 2) := by decide +kernel
theorem dX0_layLoads_37 : decode cX0_layLoads 37 = .ok (.iconst 2, 1) := by decide +kernel
theorem dX0_layLoads_38 : decode cX0_layLoads 38 = .ok (.aload_n 0, 1) := by decide +kernel
theorem dX0_layLoads_39 : decode cX0_layLoads 39 = .ok (.getfield 15, 3) := by decide +kernel
theorem dX0_layLoads_42 : decode cX0_layLoads 42 = .ok (.iload_n 3, 1) := by decide +kernel
theorem dX0_layLoads_43 : decode cX0_layLoads 43 = .ok (.iaload, 1) := by decide +kernel
theorem dX0_layLoads_44 : decode cX0_layLoads 44 = .ok (.imul, 1) := by decide +kernel
theorem dX0_layLoads_45 : decode cX0_layLoads 45 = .ok (.invokevirtual 74, 3) := by decide +kernel
theorem dX0_layLoads_48 : decode cX0_layLoads 48 = .ok (.aload_n 0, 1) := by decide +kernel
theorem dX0_layLoads_49 : decode cX0_layLoads 49 = .ok (.iload 4, 2) := by decide +kernel
theorem dX0_layLoads_51 : decode cX0_layLoads 51 = .ok (.iconst 1, 1) := by decide +kernel
theorem dX0_layLoads_52 : decode cX0_layLoads 52 = .ok (.isub, 1) := by decide +kernel
theorem dX0_layLoads_53 : decode cX0_layLoads 53 = .ok (.aload_n 0, 1) := by decide +kernel
theorem dX0_layLoads_54 : decode cX0_layLoads 54 = .ok (.getfield 15, 3) := by decide +kernel
theorem dX0_layLoads_57 : decode cX0_layLoads 57 = .ok (.iload_n 3, 1) := by decide +kernel
theorem dX0_layLoads_58 : decode cX0_layLoads 58 = .ok (.iaload, 1) := by decide +kernel
theorem dX0_layLoads_59 : decode cX0_layLoads 59 = .ok (.invokevirtual 74, 3) := by decide +kernel
theorem dX0_layLoads_62 : decode cX0_layLoads 62 = .ok (.aload_n 0, 1) := by decide +kernel
theorem dX0_layLoads_63 : decode cX0_layLoads 63 = .ok (.iload 4, 2) := by decide +kernel
theorem dX0_layLoads_65 : decode cX0_layLoads 65 = .ok (.iconst 1, 1) := by decide +kernel
theorem dX0_layLoads_66 : decode cX0_layLoads 66 = .ok (.iadd, 1) := by decide +kernel
theorem dX0_layLoads_67 : decode cX0_layLoads 67 = .ok (.aload_n 0, 1) := by decide +kernel
theorem dX0_layLoads_68 : decode cX0_layLoads 68 = .ok (.getfield 15, 3) := by decide +kernel
theorem dX0_layLoads_71 : decode cX0_layLoads 71 = .ok (.iload_n 3, 1) := by decide +kernel
theorem dX0_layLoads_72 : decode cX0_layLoads 72 = .ok (.iaload, 1) := by decide +kernel
theorem dX0_layLoads_73 : decode cX0_layLoads 73 = .ok (.invokevirtual 74, 3) := by decide +kernel
theorem dX0_layLoads_76 : decode cX0_layLoads 76 = .ok (.iinc 3 1, 3) := by decide +kernel
theorem dX0_layLoads_79 : decode cX0_layLoads 79 = .ok (.goto (-69), 3) := by decide +kernel
theorem dX0_layLoads_82 : decode cX0_layLoads 82 = .ok (.return_, 1) := by decide +kernel
theorem dX0_press_0 : decode cX0_press 0 = .ok (.aload_n 0, 1) := by decide +kernel
theorem dX0_press_1 : decode cX0_press 1 = .ok (.iload_n 1, 1) := by decide +kernel
theorem dX0_press_2 : decode cX0_press 2 = .ok (.invokevirtual 70, 3) := by decide +kernel
theorem dX0_press_5 : decode cX0_press 5 = .ok (.ifCond .eq 13, 3) := by decide +kernel
theorem dX0_press_8 : decode cX0_press 8 = .ok (.aload_n 0, 1) := by decide +kernel
theorem dX0_press_9 : decode cX0_press 9 = .ok (.getfield 34, 3) := by decide +kernel
theorem dX0_press_12 : decode cX0_press 12 = .ok (.iload_n 1, 1) := by decide +kernel
theorem dX0_press_13 : decode cX0_press 13 = .ok (.dup2, 1) := by decide +kernel
theorem dX0_press_14 : decode cX0_press 14 = .ok (.iaload, 1) := by decide +kernel
theorem dX0_press_15 : decode cX0_press 15 = .ok (.iload_n 2, 1) := by decide +kernel
theorem dX0_press_16 : decode cX0_press 16 = .ok (.iadd, 1) := by decide +kernel
theorem dX0_press_17 : decode cX0_press 17 = .ok (.iastore, 1) := by decide +kernel
theorem dX0_press_18 : decode cX0_press 18 = .ok (.return_, 1) := by decide +kernel
theorem dX1_init_0 : decode cX1_init 0 = .ok (.aload_n 0, 1) := by decide +kernel
theorem dX1_init_1 : decode cX1_init 1 = .ok (.invokespecial 3, 3) := by decide +kernel
theorem dX1_init_4 : decode cX1_init 4 = .ok (.aload_n 0, 1) := by decide +kernel
theorem dX1_init_5 : decode cX1_init 5 = .ok (.bipush 10, 2) := by decide +kernel
theorem dX1_init_7 : decode cX1_init 7 = .ok (.newarray .int, 2) := by decide +kernel
theorem dX1_init_9 : decode cX1_init 9 = .ok (.putfield 9, 3) := by decide +kernel
theorem dX1_init_12 : decode cX1_init 12 = .ok (.aload_n 0, 1) := by decide +kernel
theorem dX1_init_13 : decode cX1_init 13 = .ok (.bipush 11, 2) := by decide +kernel
theorem dX1_init_15 : decode cX1_init 15 = .ok (.newarray .int, 2) := by decide +kernel
theorem dX1_init_17 : decode cX1_init 17 = .ok (.putfield 15, 3) := by decide +kernel
theorem dX1_init_20 : decode cX1_init 20 = .ok (.aload_n 0, 1) := by decide +kernel
theorem dX1_init_21 : decode cX1_init 21 = .ok (.sipush 300, 3) := by decide +kernel
theorem dX1_init_24 : decode cX1_init 24 = .ok (.newarray .int, 2) := by decide +kernel
theorem dX1_init_26 : decode cX1_init 26 = .ok (.putfield 18, 3) := by decide +kernel
theorem dX1_init_29 : decode cX1_init 29 = .ok (.aload_n 0, 1) := by decide +kernel
theorem dX1_init_30 : decode cX1_init 30 = .ok (.sipush 241, 3) := by decide +kernel
theorem dX1_init_33 : decode cX1_init 33 = .ok (.newarray .int, 2) := by decide +kernel
theorem dX1_init_35 : decode cX1_init 35 = .ok (.putfield 21, 3) := by decide +kernel
theorem dX1_init_38 : decode cX1_init 38 = .ok (.aload_n 0, 1) := by decide +kernel
theorem dX1_init_39 : decode cX1_init 39 = .ok (.sipush 241, 3) := by decide +kernel
theorem dX1_init_42 : decode cX1_init 42 = .ok (.newarray .int, 2) := by decide +kernel
theorem dX1_init_44 : decode cX1_init 44 = .ok (.putfield 24, 3) := by decide +kernel
theorem dX1_init_47 : decode cX1_init 47 = .ok (.aload_n 0, 1) := by decide +kernel
theorem dX1_init_48 : decode cX1_init 48 = .ok (.sipush 3010, 3) := by decide +kernel
theorem dX1_init_51 : decode cX1_init 51 = .ok (.newarray .int, 2) := by decide +kernel
theorem dX1_init_53 : decode cX1_init 53 = .ok (.putfield 27, 3) := by decide +kernel
theorem dX1_init_56 : decode cX1_init 56 = .ok (.aload_n 0, 1) := by decide +kernel
theorem dX1_init_57 : decode cX1_init 57 = .ok (.sipush 3010, 3) := by decide +kernel
theorem dX1_init_60 : decode cX1_init 60 = .ok (.newarray .int, 2) := by decide +kernel
theorem dX1_init_62 : decode cX1_init 62 = .ok (.putfield 30, 3) := by decide +kernel
theorem dX1_init_65 : decode cX1_init 65 = .ok (.aload_n 0, 1) := by decide +kernel
theorem dX1_init_66 : decode cX1_init 66 = .ok (.bipush 10, 2) := by decide +kernel
theorem dX1_init_68 : decode cX1_init 68 = .ok (.newarray .int, 2) := by decide +kernel
theorem dX1_init_70 : decode cX1_init 70 = .ok (.putfield 33, 3) := by decide +kernel
theorem dX1_init_73 : decode cX1_init 73 = .ok (.aload_n 0, 1) := by decide +kernel
theorem dX1_init_74 : decode cX1_init 74 = .ok (.bipush 10, 2) := by decide +kernel
theorem dX1_init_76 : decode cX1_init 76 = .ok (.newarray .int, 2) := by decide +kernel
theorem dX1_init_78 : decode cX1_init 78 = .ok (.putfield 36, 3) := by decide +kernel
theorem dX1_init_81 : decode cX1_init 81 = .ok (.aload_n 0, 1) := by decide +kernel
theorem dX1_init_82 : decode cX1_init 82 = .ok (.bipush 10, 2) := by decide +kernel
theorem dX1_init_84 : decode cX1_init 84 = .ok (.newarray .int, 2) := by decide +kernel
theorem dX1_init_86 : decode cX1_init 86 = .ok (.putfield 39, 3) := by decide +kernel
theorem dX1_init_89 : decode cX1_init 89 = .ok (.aload_n 0, 1) := by decide +kernel
theorem dX1_init_90 : decode cX1_init 90 = .ok (.iconst 3, 1) := by decide +kernel
theorem dX1_init_91 : decode cX1_init 91 = .ok (.putfield 42, 3) := by decide +kernel
theorem dX1_init_94 : decode cX1_init 94 = .ok (.aload_n 0, 1) := by decide +kernel
theorem dX1_init_95 : decode cX1_init 95 = .ok (.iconst 2, 1) := by decide +kernel
theorem dX1_init_96 : decode cX1_init 96 = .ok (.putfield 46, 3) := by decide +kernel
theorem dX1_init_99 : decode cX1_init 99 = .ok (.aload_n 0, 1) := by decide +kernel
theorem dX1_init_100 : decode cX1_init 100 = .ok (.iconst 3, 1) := by decide +kernel
theorem dX1_init_101 : decode cX1_init 101 = .ok (.putfield 49, 3) := by decide +kernel
theorem dX1_init_104 : decode cX1_init 104 = .ok (.aload_n 0, 1) := by decide +kernel
theorem dX1_init_105 : decode cX1_init 105 = .ok (.iconst 2, 1) := by decide +kernel
theorem dX1_init_106 : decode cX1_init 106 = .ok (.putfield 52, 3) := by decide +kernel
theorem dX1_init_109 : decode cX1_init 109 = .ok (.return_, 1) := by decide +kernel
theorem dX1_shipCount_0 : decode cX1_shipCount 0 = .ok (.aload_n 0, 1) := by decide +kernel
theorem dX1_shipCount_1 : decode cX1_shipCount 1 = .ok (.getfield 55, 3) := by decide +kernel
theorem dX1_shipCount_4 : decode cX1_shipCount 4 = .ok (.ireturn, 1) := by decide +kernel
theorem dX1_crosserCount_0 : decode cX1_crosserCount 0 = .ok (.aload_n 0, 1) := by decide +kernel
theorem dX1_crosserCount_1 : decode cX1_crosserCount 1 = .ok (.getfield 58, 3) := by decide +kernel
theorem dX1_crosserCount_4 : decode cX1_crosserCount 4 = .ok (.ireturn, 1) := by decide +kernel
theorem dX1_addShip_0 : decode cX1_addShip 0 = .ok (.aload_n 0, 1) := by decide +kernel
theorem dX1_addShip_1 : decode cX1_addShip 1 = .ok (.getfield 55, 3) := by decide +kernel
theorem dX1_addShip_4 : decode cX1_addShip 4 = .ok (.istore_n 2, 1) := by decide +kernel
theorem dX1_addShip_5 : decode cX1_addShip 5 = .ok (.aload_n 0, 1) := by decide +kernel
theorem dX1_addShip_6 : decode cX1_addShip 6 = .ok (.getfield 55, 3) := by decide +kernel
theorem dX1_addShip_9 : decode cX1_addShip 9 = .ok (.istore_n 3, 1) := by decide +kernel
theorem dX1_addShip_10 : decode cX1_addShip 10 = .ok (.iload_n 3, 1) := by decide +kernel
theorem dX1_addShip_11 : decode cX1_addShip 11 = .ok (.ifCond .le 39, 3) := by decide +kernel
theorem dX1_addShip_14 : decode cX1_addShip 14 = .ok (.aload_n 0, 1) := by decide +kernel
theorem dX1_addShip_15 : decode cX1_addShip 15 = .ok (.getfield 9, 3) := by decide +kernel
theorem dX1_addShip_18 : decode cX1_addShip 18 = .ok (.iload_n 3, 1) := by decide +kernel
theorem dX1_addShip_19 : decode cX1_addShip 19 = .ok (.iconst 1, 1) := by decide +kernel
theorem dX1_addShip_20 : decode cX1_addShip 20 = .ok (.isub, 1) := by decide +kernel
theorem dX1_addShip_21 : decode cX1_addShip 21 = .ok (.iaload, 1) := by decide +kernel
theorem dX1_addShip_22 : decode cX1_addShip 22 = .ok (.iload_n 1, 1) := by decide +kernel
theorem dX1_addShip_23 : decode cX1_addShip 23 = .ok (.if_icmp .le 27, 3) := by decide +kernel
theorem dX1_addShip_26 : decode cX1_addShip 26 = .ok (.aload_n 0, 1) := by decide +kernel
theorem dX1_addShip_27 : decode cX1_addShip 27 = .ok (.getfield 9, 3) := by decide +kernel
theorem dX1_addShip_30 : decode cX1_addShip 30 = .ok (.iload_n 3, 1) := by decide +kernel
theorem dX1_addShip_31 : decode cX1_addShip 31 = .ok (.aload_n 0, 1) := by decide +kernel
theorem dX1_addShip_32 : decode cX1_addShip 32 = .ok (.getfield 9, 3) := by decide +kernel
theorem dX1_addShip_35 : decode cX1_addShip 35 = .ok (.iload_n 3, 1) := by decide +kernel
theorem dX1_addShip_36 : decode cX1_addShip 36 = .ok (.iconst 1, 1) := by decide +kernel
theorem dX1_addShip_37 : decode cX1_addShip 37 = .ok (.isub, 1) := by decide +kernel
theorem dX1_addShip_38 : decode cX1_addShip 38 = .ok (.iaload, 1) := by decide +kernel
theorem dX1_addShip_39 : decode cX1_addShip 39 = .ok (.iastore, 1) := by decide +kernel
theorem dX1_addShip_40 : decode cX1_addShip 40 = .ok (.iload_n 3, 1) := by decide +kernel
theorem dX1_addShip_41 : decode cX1_addShip 41 = .ok (.iconst 1, 1) := by decide +kernel
theorem dX1_addShip_42 : decode cX1_addShip 42 = .ok (.isub, 1) := by decide +kernel
theorem dX1_addShip_43 : decode cX1_addShip 43 = .ok (.istore_n 2, 1) := by decide +kernel
theorem dX1_addShip_44 : decode cX1_addShip 44 = .ok (.iinc 3 (-1), 3) := by decide +kernel
theorem dX1_addShip_47 : decode cX1_addShip 47 = .ok (.goto (-37), 3) := by decide +kernel
theorem dX1_addShip_50 : decode cX1_addShip 50 = .ok (.aload_n 0, 1) := by decide +kernel
theorem dX1_addShip_51 : decode cX1_addShip 51 = .ok (.getfield 9, 3) := by decide +kernel
theorem dX1_addShip_54 : decode cX1_addShip 54 = .ok (.iload_n 2, 1) := by decide +kernel
theorem dX1_addShip_55 : decode cX1_addShip 55 = .ok (.iload_n 1, 1) := by decide +kernel
theorem dX1_addShip_56 : decode cX1_addShip 56 = .ok (.iastore, 1) := by decide +kernel
theorem dX1_addShip_57 : decode cX1_addShip 57 = .ok (.aload_n 0, 1) := by decide +kernel
theorem dX1_addShip_58 : decode cX1_addShip 58 = .ok (.dup, 1) := by decide +kernel
theorem dX1_addShip_59 : decode cX1_addShip 59 = .ok (.getfield 55, 3) := by decide +kernel
theorem dX1_addShip_62 : decode cX1_addShip 62 = .ok (.iconst 1, 1) := by decide +kernel
theorem dX1_addShip_63 : decode cX1_addShip 63 = .ok (.iadd, 1) := by decide +kernel
theorem dX1_addShip_64 : decode cX1_addShip 64 = .ok (.putfield 55, 3) := by decide +kernel
theorem dX1_addShip_67 : decode cX1_addShip 67 = .ok (.iconst 0, 1) := by decide +kernel
theorem dX1_addShip_68 : decode cX1_addShip 68 = .ok (.istore_n 3, 1) := by decide +kernel
theorem dX1_addShip_69 : decode cX1_addShip 69 = .ok (.iload_n 3, 1) := by decide +kernel
theorem dX1_addShip_70 : decode cX1_addShip 70 = .ok (.aload_n 0, 1) := by decide +kernel
theorem dX1_addShip_71 : decode cX1_addShip 71 = .ok (.getfield 55, 3) := by decide +kernel
theorem dX1_addShip_74 : decode cX1_addShip 74 = .ok (.if_icmp .ge 30, 3) := by decide +kernel
theorem dX1_addShip_77 : decode cX1_addShip 77 = .ok (.aload_n 0, 1) := by decide +kernel
theorem dX1_addShip_78 : decode cX1_addShip 78 = .ok (.getfield 15, 3) := by decide +kernel
theorem dX1_addShip_81 : decode cX1_addShip 81 = .ok (.iload_n 3, 1) := by decide +kernel
theorem dX1_addShip_82 : decode cX1_addShip 82 = .ok (.iconst 1, 1) := by decide +kernel
theorem dX1_addShip_83 : decode cX1_addShip 83 = .ok (.iadd, 1) := by decide +kernel
theorem dX1_addShip_84 : decode cX1_addShip 84 = .ok (.aload_n 0, 1) := by decide +kernel
theorem dX1_addShip_85 : decode cX1_addShip 85 = .ok (.getfield 15, 3) := by decide +kernel
theorem dX1_addShip_88 : decode cX1_addShip 88 = .ok (.iload_n 3, 1) := by decide +kernel
theorem dX1_addShip_89 : decode cX1_addShip 89 = .ok (.iaload, 1) := by decide +kernel
theorem dX1_addShip_90 : decode cX1_addShip 90 = .ok (.aload_n 0, 1) := by decide +kernel
theorem dX1_addShip_91 : decode cX1_addShip 91 = .ok (.getfield 9, 3) := by decide +kernel
theorem dX1_addShip_94 : decode cX1_addShip 94 = .ok (.iload_n 3, 1) := by decide +kernel
theorem dX1_addShip_95 : decode cX1_addShip 95 = .ok (.iaload, 1) := by decide +kernel
theorem dX1_addShip_96 : decode cX1_addShip 96 = .ok (.iadd, 1) := by decide +kernel
theorem dX1_addShip_97 : decode cX1_addShip 97 = .ok (.iastore, 1) := by decide +kernel
theorem dX1_addShip_98 : decode cX1_addShip 98 = .ok (.iinc 3 1, 3) := by decide +kernel
theorem dX1_addShip_101 : decode cX1_addShip 101 = .ok (.goto (-32), 3) := by decide +kernel
theorem dX1_addShip_104 : decode cX1_addShip 104 = .ok (.iload_n 1, 1) := by decide +kernel
theorem dX1_addShip_105 : decode cX1_addShip 105 = .ok (.istore_n 3, 1) := by decide +kernel
theorem dX1_addShip_106 : decode cX1_addShip 106 = .ok (.iload_n 3, 1) := by decide +kernel
theorem dX1_addShip_107 : decode cX1_addShip 107 = .ok (.sipush 300, 3) := by decide +kernel
theorem dX1_addShip_110 : decode cX1_addShip 110 = .ok (.if_icmp .ge 19, 3) := by decide +kernel
theorem dX1_addShip_113 : decode cX1_addShip 113 = .ok (.aload_n 0, 1) := by decide +kernel
theorem dX1_addShip_114 : decode cX1_addShip 114 = .ok (.getfield 18, 3) := by decide +kernel
theorem dX1_addShip_117 : decode cX1_addShip 117 = .ok (.iload_n 3, 1) := by decide +kernel
theorem dX1_addShip_118 : decode cX1_addShip 118 = .ok (.dup2, 1) := by decide +kernel
theorem dX1_addShip_119 : decode cX1_addShip 119 = .ok (.iaload, 1) := by decide +kernel
theorem dX1_addShip_120 : decode cX1_addShip 120 = .ok (.iconst 1, 1) := by decide +kernel
theorem dX1_addShip_121 : decode cX1_addShip 121 = .ok (.iadd, 1) := by decide +kernel
theorem dX1_addShip_122 : decode cX1_addShip 122 = .ok (.iastore, 1) := by decide +kernel
theorem dX1_addShip_123 : decode cX1_addShip 123 = .ok (.iinc 3 1, 3) := by decide +kernel
theorem dX1_addShip_126 : decode cX1_addShip 126 = .ok (.goto (-20), 3) := by decide +kernel
theorem dX1_addShip_129 : decode cX1_addShip 129 = .ok (.aload_n 0, 1) := by decide +kernel
theorem dX1_addShip_130 : decode cX1_addShip 130 = .ok (.iconst 0, 1) := by decide +kernel
theorem dX1_addShip_131 : decode cX1_addShip 131 = .ok (.putfield 61, 3) := by decide +kernel
theorem dX1_addShip_134 : decode cX1_addShip 134 = .ok (.aload_n 0, 1) := by decide +kernel
theorem dX1_addShip_135 : decode cX1_addShip 135 = .ok (.getfield 55, 3) := by decide +kernel
theorem dX1_addShip_138 : decode cX1_addShip 138 = .ok (.iconst 1, 1) := by decide +kernel
theorem dX1_addShip_139 : decode cX1_addShip 139 = .ok (.isub, 1) := by decide +kernel
theorem dX1_addShip_140 : decode cX1_addShip 140 = .ok (.ireturn, 1) := by decide +kernel
theorem dX1_addCrosser_0 : decode cX1_addCrosser 0 = .ok (.iload_n 1, 1) := by decide +kernel
theorem dX1_addCrosser_1 : decode cX1_addCrosser 1 = .ok (.iconst 1, 1) := by decide +kernel
theorem dX1_addCrosser_2 : decode cX1_addCrosser 2 = .ok (.iadd, 1) := by decide +kernel
theorem dX1_addCrosser_3 : decode cX1_addCrosser 3 = .ok (.istore_n 2, 1) := by decide +kernel
theorem dX1_addCrosser_4 : decode cX1_addCrosser 4 = .ok (.iload_n 2, 1) := by decide +kernel
theorem dX1_addCrosser_5 : decode cX1_addCrosser 5 = .ok (.aload_n 0, 1) := by decide +kernel
theorem dX1_addCrosser_6 : decode cX1_addCrosser 6 = .ok (.getfield 21, 3) := by decide +kernel
theorem dX1_addCrosser_9 : decode cX1_addCrosser 9 = .ok (.arraylength, 1) := by decide +kernel
theorem dX1_addCrosser_10 : decode cX1_addCrosser 10 = .ok (.if_icmp .ge 29, 3) := by decide +kernel
theorem dX1_addCrosser_13 : decode cX1_addCrosser 13 = .ok (.aload_n 0, 1) := by decide +kernel
theorem dX1_addCrosser_14 : decode cX1_addCrosser 14 = .ok (.getfield 21, 3) := by decide +kernel
theorem dX1_addCrosser_17 : decode cX1_addCrosser 17 = .ok (.iload_n 2, 1) := by decide +kernel
theorem dX1_addCrosser_18 : decode cX1_addCrosser 18 = .ok (.dup2, 1) := by decide +kernel
theorem dX1_addCrosser_19 : decode cX1_addCrosser 19 = .ok (.iaload, 1) := by decide +kernel
theorem dX1_addCrosser_20 : decode cX1_addCrosser 20 = .ok (.iconst 1, 1) := by decide +kernel
theorem dX1_addCrosser_21 : decode cX1_addCrosser 21 = .ok (.iadd, 1) := by decide +kernel
theorem dX1_addCrosser_22 : decode cX1_addCrosser 22 = .ok (.iastore, 1) := by decide +kernel
theorem dX1_addCrosser_23 : decode cX1_addCrosser 23 = .ok (.aload_n 0, 1) := by decide +kernel
theorem dX1_addCrosser_24 : decode cX1_addCrosser 24 = .ok (.getfield 24, 3) := by decide +kernel
theorem dX1_addCrosser_27 : decode cX1_addCrosser 27 = .ok (.iload_n 2, 1) := by decide +kernel
theorem dX1_addCrosser_28 : decode cX1_addCrosser 28 = .ok (.dup2, 1) := by decide +kernel
theorem dX1_addCrosser_29 : decode cX1_addCrosser 29 = .ok (.iaload, 1) := by decide +kernel
theorem dX1_addCrosser_30 : decode cX1_addCrosser 30 = .ok (.iload_n 1, 1) := by decide +kernel
theorem dX1_addCrosser_31 : decode cX1_addCrosser 31 = .ok (.iadd, 1) := by decide +kernel
theorem dX1_addCrosser_32 : decode cX1_addCrosser 32 = .ok (.iastore, 1) := by decide +kernel
theorem dX1_addCrosser_33 : decode cX1_addCrosser 33 = .ok (.iinc 2 1, 3) := by decide +kernel
theorem dX1_addCrosser_36 : decode cX1_addCrosser 36 = .ok (.goto (-32), 3) := by decide +kernel
theorem dX1_addCrosser_39 : decode cX1_addCrosser 39 = .ok (.aload_n 0, 1) := by decide +kernel
theorem dX1_addCrosser_40 : decode cX1_addCrosser 40 = .ok (.dup, 1) := by decide +kernel
theorem dX1_addCrosser_41 : decode cX1_addCrosser 41 = .ok (.getfield 58, 3) := by decide +kernel
theorem dX1_addCrosser_44 : decode cX1_addCrosser 44 = .ok (.iconst 1, 1) := by decide +kernel
theorem dX1_addCrosser_45 : decode cX1_addCrosser 45 = .ok (.iadd, 1) := by decide +kernel
theorem dX1_addCrosser_46 : decode cX1_addCrosser 46 = .ok (.putfield 58, 3) := by decide +kernel
theorem dX1_addCrosser_49 : decode cX1_addCrosser 49 = .ok (.aload_n 0, 1) := by decide +kernel
theorem dX1_addCrosser_50 : decode cX1_addCrosser 50 = .ok (.iconst 0, 1) := by decide +kernel
theorem dX1_addCrosser_51 : decode cX1_addCrosser 51 = .ok (.putfield 61, 3) := by decide +kernel
theorem dX1_addCrosser_54 : decode cX1_addCrosser 54 = .ok (.aload_n 0, 1) := by decide +kernel
theorem dX1_addCrosser_55 : decode cX1_addCrosser 55 = .ok (.getfield 58, 3) := by decide +kernel
theorem dX1_addCrosser_58 : decode cX1_addCrosser 58 = .ok (.ireturn, 1) := by decide +kernel
theorem dX1_setTimes_0 : decode cX1_setTimes 0 = .ok (.aload_n 0, 1) := by decide +kernel
theorem dX1_setTimes_1 : decode cX1_setTimes 1 = .ok (.iload_n 1, 1) := by decide +kernel
theorem dX1_setTimes_2 : decode cX1_setTimes 2 = .ok (.putfield 42, 3) := by decide +kernel
theorem dX1_setTimes_5 : decode cX1_setTimes 5 = .ok (.aload_n 0, 1) := by decide +kernel
theorem dX1_setTimes_6 : decode cX1_setTimes 6 = .ok (.iload_n 2, 1) := by decide +kernel
theorem dX1_setTimes_7 : decode cX1_setTimes 7 = .ok (.putfield 46, 3) := by decide +kernel
theorem dX1_setTimes_10 : decode cX1_setTimes 10 = .ok (.aload_n 0, 1) := by decide +kernel
theorem dX1_setTimes_11 : decode cX1_setTimes 11 = .ok (.iload_n 3, 1) := by decide +kernel
theorem dX1_setTimes_12 : decode cX1_setTimes 12 = .ok (.putfield 49, 3) := by decide +kernel
theorem dX1_setTimes_15 : decode cX1_setTimes 15 = .ok (.aload_n 0, 1) := by decide +kernel
theorem dX1_setTimes_16 : decode cX1_setTimes 16 = .ok (.iload 4, 2) := by decide +kernel
theorem dX1_setTimes_18 : decode cX1_setTimes 18 = .ok (.putfield 52, 3) := by decide +kernel
theorem dX1_setTimes_21 : decode cX1_setTimes 21 = .ok (.aload_n 0, 1) := by decide +kernel
theorem dX1_setTimes_22 : decode cX1_setTimes 22 = .ok (.iconst 0, 1) := by decide +kernel
theorem dX1_setTimes_23 : decode cX1_setTimes 23 = .ok (.putfield 61, 3) := by decide +kernel
theorem dX1_setTimes_26 : decode cX1_setTimes 26 = .ok (.return_, 1) := by decide +kernel
theorem dX1_leastWaits_0 : decode cX1_leastWaits 0 = .ok (.aload_n 0, 1) := by decide +kernel
theorem dX1_leastWaits_1 : decode cX1_leastWaits 1 = .ok (.invokevirtual 65, 3) := by decide +kernel
theorem dX1_leastWaits_4 : decode cX1_leastWaits 4 = .ok (.aload_n 0, 1) := by decide +kernel
theorem dX1_leastWaits_5 : decode cX1_leastWaits 5 = .ok (.getfield 68, 3) := by decide +kernel
theorem dX1_leastWaits_8 : decode cX1_leastWaits 8 = .ok (.ldc 71, 2) := by decide +kernel
theorem dX1_leastWaits_10 : decode cX1_leastWaits 10 = .ok (.if_icmp .ge 10, 3) := by decide +kernel
theorem dX1_leastWaits_13 : decode cX1_leastWaits 13 = .ok (.aload_n 0, 1) := by decide +kernel
theorem dX1_leastWaits_14 : decode cX1_leastWaits 14 = .ok (.getfield 68, 3) := by decide +kernel
theorem dX1_leastWaits_17 : decode cX1_leastWaits 17 = .ok (.goto 4, 3) := by decide +kernel
theorem dX1_leastWaits_20 : decode cX1_leastWaits 20 = .ok (.iconst (-1), 1) := by decide +kernel
theorem dX1_leastWaits_21 : decode cX1_leastWaits 21 = .ok (.ireturn, 1) := by decide +kernel
theorem dX1_openingOfBest_0 : decode cX1_openingOfBest 0 = .ok (.aload_n 0, 1) := by decide +kernel
theorem dX1_openingOfBest_1 : decode cX1_openingOfBest 1 = .ok (.invokevirtual 65, 3) := by decide +kernel
theorem dX1_openingOfBest_4 : decode cX1_openingOfBest 4 = .ok (.iload_n 1, 1) := by decide +kernel
theorem dX1_openingOfBest_5 : decode cX1_openingOfBest 5 = .ok (.iconst 0, 1) := by decide +kernel
theorem dX1_openingOfBest_6 : decode cX1_openingOfBest 6 = .ok (.aload_n 0, 1) := by decide +kernel
theorem dX1_openingOfBest_7 : decode cX1_openingOfBest 7 = .ok (.getfield 72, 3) := by decide +kernel
theorem dX1_openingOfBest_10 : decode cX1_openingOfBest 10 = .ok (.iconst 1, 1) := by decide +kernel
theorem dX1_openingOfBest_11 : decode cX1_openingOfBest 11 = .ok (.isub, 1) := by decide +kernel
theorem dX1_openingOfBest_12 : decode cX1_openingOfBest 12 = .ok (.invokestatic 75, 3) := by decide +kernel
theorem dX1_openingOfBest_15 : decode cX1_openingOfBest 15 = .ok (.ifCond .ne 5, 3) := by decide +kernel
theorem dX1_openingOfBest_18 : decode cX1_openingOfBest 18 = .ok (.iconst (-1), 1) := by decide +kernel
theorem dX1_openingOfBest_19 : decode cX1_openingOfBest 19 = .ok (.ireturn, 1) := by decide +kernel
theorem dX1_openingOfBest_20 : decode cX1_openingOfBest 20 = .ok (.iload_n 2, 1) := by decide +kernel
theorem dX1_openingOfBest_21 : decode cX1_openingOfBest 21 = .ok (.tableswitch 48 0 2 #[27, 34, 41], 27) := by decide +kernel
theorem dX1_openingOfBest_48 : decode cX1_openingOfBest 48 = .ok (.aload_n 0, 1) := by decide +kernel
theorem dX1_openingOfBest_49 : decode cX1_openingOfBest 49 = .ok (.getfield 33, 3) := by decide +kernel
theorem dX1_openingOfBest_52 : decode cX1_openingOfBest 52 = .ok (.iload_n 1, 1) := by decide +kernel
theorem dX1_openingOfBest_53 : decode cX1_openingOfBest 53 = .ok (.iaload, 1) := by decide +kernel
theorem dX1_openingOfBest_54 : decode cX1_openingOfBest 54 = .ok (.ireturn, 1) := by decide +kernel
theorem dX1_openingOfBest_55 : decode cX1_openingOfBest 55 = .ok (.aload_n 0, 1) := by decide +kernel
theorem dX1_openingOfBest_56 : decode cX1_openingOfBest 56 = .ok (.getfield 36, 3) := by decide +kernel
theorem dX1_openingOfBest_59 : decode cX1_openingOfBest 59 = .ok (.iload_n 1, 1) := by decide +kernel
theorem dX1_openingOfBest_60 : decode cX1_openingOfBest 60 = .ok (.iaload, 1) := by decide +kernel
theorem dX1_openingOfBest_61 : decode cX1_openingOfBest 61 = .ok (.ireturn, 1) := by decide +kernel
theorem dX1_openingOfBest_62 : decode cX1_openingOfBest 62 = .ok (.aload_n 0, 1) := by decide +kernel
theorem dX1_openingOfBest_63 : decode cX1_openingOfBest 63 = .ok (.getfield 39, 3) := by decide +kernel
theorem dX1_openingOfBest_66 : decode cX1_openingOfBest 66 = .ok (.iload_n 1, 1) := by decide +kernel
theorem dX1_openingOfBest_67 : decode cX1_openingOfBest 67 = .ok (.iaload, 1) := by decide +kernel
theorem dX1_openingOfBest_68 : decode cX1_openingOfBest 68 = .ok (.ireturn, 1) := by decide +kernel
theorem dX1_openingOfBest_69 : decode cX1_openingOfBest 69 = .ok (.iconst (-1), 1) := by decide +kernel
theorem dX1_openingOfBest_70 : decode cX1_openingOfBest 70 = .ok (.ireturn, 1) := by decide +kernel
theorem dX1_earliestWaits_0 : decode cX1_earliestWaits 0 = .ok (.iconst 0, 1) := by decide +kernel
theorem dX1_earliestWaits_1 : decode cX1_earliestWaits 1 = .ok (.istore_n 1, 1) := by decide +kernel
theorem dX1_earliestWaits_2 : decode cX1_earliestWaits 2 = .ok (.iconst 0, 1) := by decide +kernel
theorem dX1_earliestWaits_3 : decode cX1_earliestWaits 3 = .ok (.istore_n 2, 1) := by decide +kernel
theorem dX1_earliestWaits_4 : decode cX1_earliestWaits 4 = .ok (.iconst 0, 1) := by decide +kernel
theorem dX1_earliestWaits_5 : decode cX1_earliestWaits 5 = .ok (.istore_n 3, 1) := by decide +kernel
theorem dX1_earliestWaits_6 : decode cX1_earliestWaits 6 = .ok (.iconst 0, 1) := by decide +kernel
theorem dX1_earliestWaits_7 : decode cX1_earliestWaits 7 = .ok (.istore 4, 2) := by decide +kernel
theorem dX1_earliestWaits_9 : decode cX1_earliestWaits 9 = .ok (.iload 4, 2) := by decide +kernel
theorem dX1_earliestWaits_11 : decode cX1_earliestWaits 11 = .ok (.bipush 10, 2) := by decide +kernel
theorem dX1_earliestWaits_13 : decode cX1_earliestWaits 13 = .ok (.if_icmp .ge 65, 3) := by decide +kernel
theorem dX1_earliestWaits_16 : decode cX1_earliestWaits 16 = .ok (.iload_n 1, 1) := by decide +kernel
theorem dX1_earliestWaits_17 : decode cX1_earliestWaits 17 = .ok (.aload_n 0, 1) := by decide +kernel
theorem dX1_earliestWaits_18 : decode cX1_earliestWaits 18 = .ok (.getfield 55, 3) := by decide +kernel
theorem dX1_earliestWaits_21 : decode cX1_earliestWaits 21 = .ok (.if_icmp .ge 57, 3) := by decide +kernel
theorem dX1_earliestWaits_24 : decode cX1_earliestWaits 24 = .ok (.iload_n 2, 1) := by decide +kernel
theorem dX1_earliestWaits_25 : decode cX1_earliestWaits 25 = .ok (.aload_n 0, 1) := by decide +kernel
theorem dX1_earliestWaits_26 : decode cX1_earliestWaits 26 = .ok (.getfield 9, 3) := by decide +kernel
theorem dX1_earliestWaits_29 : decode cX1_earliestWaits 29 = .ok (.iload_n 1, 1) := by decide +kernel
theorem dX1_earliestWaits_30 : decode cX1_earliestWaits 30 = .ok (.iaload, 1) := by decide +kernel
theorem dX1_earliestWaits_31 : decode cX1_earliestWaits 31 = .ok (.invokestatic 79, 3) := by decide +kernel
theorem dX1_earliestWaits_34 : decode cX1_earliestWaits 34 = .ok (.istore 5, 2) := by decide +kernel
theorem dX1_earliestWaits_36 : decode cX1_earliestWaits 36 = .ok (.iload 5, 2) := by decide +kernel
theorem dX1_earliestWaits_38 : decode cX1_earliestWaits 38 = .ok (.sipush 300, 3) := by decide +kernel
theorem dX1_earliestWaits_41 : decode cX1_earliestWaits 41 = .ok (.if_icmp .lt 5, 3) := by decide +kernel
theorem dX1_earliestWaits_44 : decode cX1_earliestWaits 44 = .ok (.iconst (-1), 1) := by decide +kernel
theorem dX1_earliestWaits_45 : decode cX1_earliestWaits 45 = .ok (.ireturn, 1) := by decide +kernel
theorem dX1_earliestWaits_46 : decode cX1_earliestWaits 46 = .ok (.iload_n 3, 1) := by decide +kernel
theorem dX1_earliestWaits_47 : decode cX1_earliestWaits 47 = .ok (.aload_n 0, 1) := by decide +kernel
theorem dX1_earliestWaits_48 : decode cX1_earliestWaits 48 = .ok (.iload_n 1, 1) := by decide +kernel
theorem dX1_earliestWaits_49 : decode cX1_earliestWaits 49 = .ok (.iload 5, 2) := by decide +kernel
theorem dX1_earliestWaits_51 : decode cX1_earliestWaits 51 = .ok (.invokevirtual 85, 3) := by decide +kernel
theorem dX1_earliestWaits_54 : decode cX1_earliestWaits 54 = .ok (.iadd, 1) := by decide +kernel
theorem dX1_earliestWaits_55 : decode cX1_earliestWaits 55 = .ok (.istore_n 3, 1) := by decide +kernel
theorem dX1_earliestWaits_56 : decode cX1_earliestWaits 56 = .ok (.aload_n 0, 1) := by decide +kernel
theorem dX1_earliestWaits_57 : decode cX1_earliestWaits 57 = .ok (.iload_n 1, 1) := by decide +kernel
theorem dX1_earliestWaits_58 : decode cX1_earliestWaits 58 = .ok (.iload 5, 2) := by decide +kernel
theorem dX1_earliestWaits_60 : decode cX1_earliestWaits 60 = .ok (.invokevirtual 88, 3) := by decide +kernel
theorem dX1_earliestWaits_63 : decode cX1_earliestWaits 63 = .ok (.istore_n 2, 1) := by decide +kernel
theorem dX1_earliestWaits_64 : decode cX1_earliestWaits 64 = .ok (.aload_n 0, 1) := by decide +kernel
theorem dX1_earliestWaits_65 : decode cX1_earliestWaits 65 = .ok (.getfield 18, 3) := by decide +kernel
theorem dX1_earliestWaits_68 : decode cX1_earliestWaits 68 = .ok (.iload 5, 2) := by decide +kernel
theorem dX1_earliestWaits_70 : decode cX1_earliestWaits 70 = .ok (.iaload, 1) := by decide +kernel
theorem dX1_earliestWaits_71 : decode cX1_earliestWaits 71 = .ok (.istore_n 1, 1) := by decide +kernel
theorem dX1_earliestWaits_72 : decode cX1_earliestWaits 72 = .ok (.iinc 4 1, 3) := by decide +kernel
theorem dX1_earliestWaits_75 : decode cX1_earliestWaits 75 = .ok (.goto (-66), 3) := by decide +kernel
theorem dX1_earliestWaits_78 : decode cX1_earliestWaits 78 = .ok (.iload_n 3, 1) := by decide +kernel
theorem dX1_earliestWaits_79 : decode cX1_earliestWaits 79 = .ok (.ireturn, 1) := by decide +kernel
theorem dX1_plan_0 : decode cX1_plan 0 = .ok (.aload_n 0, 1) := by decide +kernel
theorem dX1_plan_1 : decode cX1_plan 1 = .ok (.getfield 61, 3) := by decide +kernel
theorem dX1_plan_4 : decode cX1_plan 4 = .ok (.ifCond .eq 4, 3) := by decide +kernel
theorem dX1_plan_7 : decode cX1_plan 7 = .ok (.return_, 1) := by decide +kernel
theorem dX1_plan_8 : decode cX1_plan 8 = .ok (.aload_n 0, 1) := by decide +kernel
theorem dX1_plan_9 : decode cX1_plan 9 = .ok (.iconst 1, 1) := by decide +kernel
theorem dX1_plan_10 : decode cX1_plan 10 = .ok (.putfield 61, 3) := by decide +kernel
theorem dX1_plan_13 : decode cX1_plan 13 = .ok (.aload_n 0, 1) := by decide +kernel
theorem dX1_plan_14 : decode cX1_plan 14 = .ok (.getfield 55, 3) := by decide +kernel
theorem dX1_plan_17 : decode cX1_plan 17 = .ok (.iconst 1, 1) := by decide +kernel
theorem dX1_plan_18 : decode cX1_plan 18 = .ok (.isub, 1) := by decide +kernel
theorem dX1_plan_19 : decode cX1_plan 19 = .ok (.istore_n 1, 1) := by decide +kernel
theorem dX1_plan_20 : decode cX1_plan 20 = .ok (.iload_n 1, 1) := by decide +kernel
theorem dX1_plan_21 : decode cX1_plan 21 = .ok (.ifCond .lt 110, 3) := by decide +kernel
theorem dX1_plan_24 : decode cX1_plan 24 = .ok (.ldc 71, 2) := by decide +kernel
theorem dX1_plan_26 : decode cX1_plan 26 = .ok (.istore_n 2, 1) := by decide +kernel
theorem dX1_plan_27 : decode cX1_plan 27 = .ok (.iconst (-1), 1) := by decide +kernel
theorem dX1_plan_28 : decode cX1_plan 28 = .ok (.istore_n 3, 1) := by decide +kernel
theorem dX1_plan_29 : decode cX1_plan 29 = .ok (.sipush 300, 3) := by decide +kernel
theorem dX1_plan_32 : decode cX1_plan 32 = .ok (.istore 4, 2) := by decide +kernel
theorem dX1_plan_34 : decode cX1_plan 34 = .ok (.iload 4, 2) := by decide +kernel
theorem dX1_plan_36 : decode cX1_plan 36 = .ok (.ifCond .lt 89, 3) := by decide +kernel
theorem dX1_plan_39 : decode cX1_plan 39 = .ok (.iload 4, 2) := by decide +kernel
theorem dX1_plan_41 : decode cX1_plan 41 = .ok (.sipush 300, 3) := by decide +kernel
theorem dX1_plan_44 : decode cX1_plan 44 = .ok (.if_icmp .ge 24, 3) := by decide +kernel
theorem dX1_plan_47 : decode cX1_plan 47 = .ok (.iload 4, 2) := by decide +kernel
theorem dX1_plan_49 : decode cX1_plan 49 = .ok (.aload_n 0, 1) := by decide +kernel
theorem dX1_plan_50 : decode cX1_plan 50 = .ok (.getfield 9, 3) := by decide +kernel
theorem dX1_plan_53 : decode cX1_plan 53 = .ok (.iload_n 1, 1) := by decide +kernel
theorem dX1_plan_54 : decode cX1_plan 54 = .ok (.iaload, 1) := by decide +kernel
theorem dX1_plan_55 : decode cX1_plan 55 = .ok (.if_icmp .lt 13, 3) := by decide +kernel
theorem dX1_plan_58 : decode cX1_plan 58 = .ok (.aload_n 0, 1) := by decide +kernel
theorem dX1_plan_59 : decode cX1_plan 59 = .ok (.iload_n 1, 1) := by decide +kernel
theorem dX1_plan_60 : decode cX1_plan 60 = .ok (.iload 4, 2) := by decide +kernel
theorem dX1_plan_62 : decode cX1_plan 62 = .ok (.invokevirtual 91, 3) := by decide +kernel
theorem dX1_plan_65 : decode cX1_plan 65 = .ok (.goto 5, 3) := by decide +kernel
theorem dX1_plan_68 : decode cX1_plan 68 = .ok (.ldc 71, 2) := by decide +kernel
theorem dX1_plan_70 : decode cX1_plan 70 = .ok (.istore 5, 2) := by decide +kernel
theorem dX1_plan_72 : decode cX1_plan 72 = .ok (.iload 5, 2) := by decide +kernel
theorem dX1_plan_74 : decode cX1_plan 74 = .ok (.ldc 71, 2) := by decide +kernel
theorem dX1_plan_76 : decode cX1_plan 76 = .ok (.if_icmp .ge 15, 3) := by decide +kernel
theorem dX1_plan_79 : decode cX1_plan 79 = .ok (.iload 5, 2) := by decide +kernel
theorem dX1_plan_81 : decode cX1_plan 81 = .ok (.iload_n 2, 1) := by decide +kernel
theorem dX1_plan_82 : decode cX1_plan 82 = .ok (.if_icmp .gt 9, 3) := by decide +kernel
theorem dX1_plan_85 : decode cX1_plan 85 = .ok (.iload 5, 2) := by decide +kernel
theorem dX1_plan_87 : decode cX1_plan 87 = .ok (.istore_n 2, 1) := by decide +kernel
theorem dX1_plan_88 : decode cX1_plan 88 = .ok (.iload 4, 2) := by decide +kernel
theorem dX1_plan_90 : decode cX1_plan 90 = .ok (.istore_n 3, 1) := by decide +kernel
theorem dX1_plan_91 : decode cX1_plan 91 = .ok (.aload_n 0, 1) := by decide +kernel
theorem dX1_plan_92 : decode cX1_plan 92 = .ok (.getfield 27, 3) := by decide +kernel
theorem dX1_plan_95 : decode cX1_plan 95 = .ok (.iload_n 1, 1) := by decide +kernel
theorem dX1_plan_96 : decode cX1_plan 96 = .ok (.sipush 301, 3) := by decide +kernel
theorem dX1_plan_99 : decode cX1_plan 99 = .ok (.imul, 1) := by decide +kernel
theorem dX1_plan_100 : decode cX1_plan 100 = .ok (.iload 4, 2) := by decide +kernel
theorem dX1_plan_102 : decode cX1_plan 102 = .ok (.iadd, 1) := by decide +kernel
theorem dX1_plan_103 : decode cX1_plan 103 = .ok (.iload_n 2, 1) := by decide +kernel
theorem dX1_plan_104 : decode cX1_plan 104 = .ok (.iastore, 1) := by decide +kernel
theorem dX1_plan_105 : decode cX1_plan 105 = .ok (.aload_n 0, 1) := by decide +kernel
theorem dX1_plan_106 : decode cX1_plan 106 = .ok (.getfield 30, 3) := by decide +kernel
theorem dX1_plan_109 : decode cX1_plan 109 = .ok (.iload_n 1, 1) := by decide +kernel
theorem dX1_plan_110 : decode cX1_plan 110 = .ok (.sipush 301, 3) := by decide +kernel
theorem dX1_plan_113 : decode cX1_plan 113 = .ok (.imul, 1) := by decide +kernel
theorem dX1_plan_114 : decode cX1_plan 114 = .ok (.iload 4, 2) := by decide +kernel
theorem dX1_plan_116 : decode cX1_plan 116 = .ok (.iadd, 1) := by decide +kernel
theorem dX1_plan_117 : decode cX1_plan 117 = .ok (.iload_n 3, 1) := by decide +kernel
theorem dX1_plan_118 : decode cX1_plan 118 = .ok (.iastore, 1) := by decide +kernel
theorem dX1_plan_119 : decode cX1_plan 119 = .ok (.iinc 4 (-1), 3) := by decide +kernel
theorem dX1_plan_122 : decode cX1_plan 122 = .ok (.goto (-88), 3) := by decide +kernel
theorem dX1_plan_125 : decode cX1_plan 125 = .ok (.iinc 1 (-1), 3) := by decide +kernel
theorem dX1_plan_128 : decode cX1_plan 128 = .ok (.goto (-108), 3) := by decide +kernel
theorem dX1_plan_131 : decode cX1_plan 131 = .ok (.aload_n 0, 1) := by decide +kernel
theorem dX1_plan_132 : decode cX1_plan 132 = .ok (.aload_n 0, 1) := by decide +kernel
theorem dX1_plan_133 : decode cX1_plan 133 = .ok (.getfield 55, 3) := by decide +kernel
theorem dX1_plan_136 : decode cX1_plan 136 = .ok (.ifCond .le 12, 3) := by decide +kernel
theorem dX1_plan_139 : decode cX1_plan 139 = .ok (.aload_n 0, 1) := by decide +kernel
theorem dX1_plan_140 : decode cX1_plan 140 = .ok (.getfield 27, 3) := by decide +kernel
theorem dX1_plan_143 : decode cX1_plan 143 = .ok (.iconst 0, 1) := by decide +kernel
theorem dX1_plan_144 : decode cX1_plan 144 = .ok (.iaload, 1) := by decide +kernel
theorem dX1_plan_145 : decode cX1_plan 145 = .ok (.goto 4, 3) := by decide +kernel
theorem dX1_plan_148 : decode cX1_plan 148 = .ok (.iconst 0, 1) := by decide +kernel
theorem dX1_plan_149 : decode cX1_plan 149 = .ok (.putfield 68, 3) := by decide +kernel
theorem dX1_plan_152 : decode cX1_plan 152 = .ok (.aload_n 0, 1) := by decide +kernel
theorem dX1_plan_153 : decode cX1_plan 153 = .ok (.invokevirtual 94, 3) := by decide +kernel
theorem dX1_plan_156 : decode cX1_plan 156 = .ok (.return_, 1) := by decide +kernel
theorem dX1_walkBest_0 : decode cX1_walkBest 0 = .ok (.aload_n 0, 1) := by decide +kernel
theorem dX1_walkBest_1 : decode cX1_walkBest 1 = .ok (.iconst 0, 1) := by decide +kernel
theorem dX1_walkBest_2 : decode cX1_walkBest 2 = .ok (.putfield 72, 3) := by decide +kernel
theorem dX1_walkBest_5 : decode cX1_walkBest 5 = .ok (.iconst 0, 1) := by decide +kernel
theorem dX1_walkBest_6 : decode cX1_walkBest 6 = .ok (.istore_n 1, 1) := by decide +kernel
theorem dX1_walkBest_7 : decode cX1_walkBest 7 = .ok (.iconst 0, 1) := by decide +kernel
theorem dX1_walkBest_8 : decode cX1_walkBest 8 = .ok (.istore_n 2, 1) := by decide +kernel
theorem dX1_walkBest_9 : decode cX1_walkBest 9 = .ok (.iconst 0, 1) := by decide +kernel
theorem dX1_walkBest_10 : decode cX1_walkBest 10 = .ok (.istore_n 3, 1) := by decide +kernel
theorem dX1_walkBest_11 : decode cX1_walkBest 11 = .ok (.iload_n 3, 1) := by decide +kernel
theorem dX1_walkBest_12 : decode cX1_walkBest 12 = .ok (.bipush 10, 2) := by decide +kernel
theorem dX1_walkBest_14 : decode cX1_walkBest 14 = .ok (.if_icmp .ge 102, 3) := by decide +kernel
theorem dX1_walkBest_17 : decode cX1_walkBest 17 = .ok (.iload_n 1, 1) := by decide +kernel
theorem dX1_walkBest_18 : decode cX1_walkBest 18 = .ok (.aload_n 0, 1) := by decide +kernel
theorem dX1_walkBest_19 : decode cX1_walkBest 19 = .ok (.getfield 55, 3) := by decide +kernel
theorem dX1_walkBest_22 : decode cX1_walkBest 22 = .ok (.if_icmp .ge 94, 3) := by decide +kernel
theorem dX1_walkBest_25 : decode cX1_walkBest 25 = .ok (.aload_n 0, 1) := by decide +kernel
theorem dX1_walkBest_26 : decode cX1_walkBest 26 = .ok (.getfield 30, 3) := by decide +kernel
theorem dX1_walkBest_29 : decode cX1_walkBest 29 = .ok (.iload_n 1, 1) := by decide +kernel
theorem dX1_walkBest_30 : decode cX1_walkBest 30 = .ok (.sipush 301, 3) := by decide +kernel
theorem dX1_walkBest_33 : decode cX1_walkBest 33 = .ok (.imul, 1) := by decide +kernel
theorem dX1_walkBest_34 : decode cX1_walkBest 34 = .ok (.iload_n 2, 1) := by decide +kernel
theorem dX1_walkBest_35 : decode cX1_walkBest 35 = .ok (.sipush 300, 3) := by decide +kernel
theorem dX1_walkBest_38 : decode cX1_walkBest 38 = .ok (.invokestatic 97, 3) := by decide +kernel
theorem dX1_walkBest_41 : decode cX1_walkBest 41 = .ok (.iadd, 1) := by decide +kernel
theorem dX1_walkBest_42 : decode cX1_walkBest 42 = .ok (.iaload, 1) := by decide +kernel
theorem dX1_walkBest_43 : decode cX1_walkBest 43 = .ok (.istore 4, 2) := by decide +kernel
theorem dX1_walkBest_45 : decode cX1_walkBest 45 = .ok (.iload 4, 2) := by decide +kernel
theorem dX1_walkBest_47 : decode cX1_walkBest 47 = .ok (.iconst (-1), 1) := by decide +kernel
theorem dX1_walkBest_48 : decode cX1_walkBest 48 = .ok (.if_icmp .ne 4, 3) := by decide +kernel
theorem dX1_walkBest_51 : decode cX1_walkBest 51 = .ok (.return_, 1) := by decide +kernel
theorem dX1_walkBest_52 : decode cX1_walkBest 52 = .ok (.aload_n 0, 1) := by decide +kernel
theorem dX1_walkBest_53 : decode cX1_walkBest 53 = .ok (.getfield 33, 3) := by decide +kernel
theorem dX1_walkBest_56 : decode cX1_walkBest 56 = .ok (.iload_n 3, 1) := by decide +kernel
theorem dX1_walkBest_57 : decode cX1_walkBest 57 = .ok (.iload 4, 2) := by decide +kernel
theorem dX1_walkBest_59 : decode cX1_walkBest 59 = .ok (.iastore, 1) := by decide +kernel
theorem dX1_walkBest_60 : decode cX1_walkBest 60 = .ok (.aload_n 0, 1) := by decide +kernel
theorem dX1_walkBest_61 : decode cX1_walkBest 61 = .ok (.getfield 36, 3) := by decide +kernel
theorem dX1_walkBest_64 : decode cX1_walkBest 64 = .ok (.iload_n 3, 1) := by decide +kernel
theorem dX1_walkBest_65 : decode cX1_walkBest 65 = .ok (.aload_n 0, 1) := by decide +kernel
theorem dX1_walkBest_66 : decode cX1_walkBest 66 = .ok (.getfield 18, 3) := by decide +kernel
theorem dX1_walkBest_69 : decode cX1_walkBest 69 = .ok (.iload 4, 2) := by decide +kernel
theorem dX1_walkBest_71 : decode cX1_walkBest 71 = .ok (.iaload, 1) := by decide +kernel
theorem dX1_walkBest_72 : decode cX1_walkBest 72 = .ok (.iload_n 1, 1) := by decide +kernel
theorem dX1_walkBest_73 : decode cX1_walkBest 73 = .ok (.isub, 1) := by decide +kernel
theorem dX1_walkBest_74 : decode cX1_walkBest 74 = .ok (.iastore, 1) := by decide +kernel
theorem dX1_walkBest_75 : decode cX1_walkBest 75 = .ok (.aload_n 0, 1) := by decide +kernel
theorem dX1_walkBest_76 : decode cX1_walkBest 76 = .ok (.getfield 39, 3) := by decide +kernel
theorem dX1_walkBest_79 : decode cX1_walkBest 79 = .ok (.iload_n 3, 1) := by decide +kernel
theorem dX1_walkBest_80 : decode cX1_walkBest 80 = .ok (.aload_n 0, 1) := by decide +kernel
theorem dX1_walkBest_81 : decode cX1_walkBest 81 = .ok (.iload_n 1, 1) := by decide +kernel
theorem dX1_walkBest_82 : decode cX1_walkBest 82 = .ok (.iload 4, 2) := by decide +kernel
theorem dX1_walkBest_84 : decode cX1_walkBest 84 = .ok (.invokevirtual 88, 3) := by decide +kernel
theorem dX1_walkBest_87 : decode cX1_walkBest 87 = .ok (.iastore, 1) := by decide +kernel
theorem dX1_walkBest_88 : decode cX1_walkBest 88 = .ok (.aload_n 0, 1) := by decide +kernel
theorem dX1_walkBest_89 : decode cX1_walkBest 89 = .ok (.iload_n 3, 1) := by decide +kernel
theorem dX1_walkBest_90 : decode cX1_walkBest 90 = .ok (.iconst 1, 1) := by decide +kernel
theorem dX1_walkBest_91 : decode cX1_walkBest 91 = .ok (.iadd, 1) := by decide +kernel
theorem dX1_walkBest_92 : decode cX1_walkBest 92 = .ok (.putfield 72, 3) := by decide +kernel
theorem dX1_walkBest_95 : decode cX1_walkBest 95 = .ok (.aload_n 0, 1) := by decide +kernel
theorem dX1_walkBest_96 : decode cX1_walkBest 96 = .ok (.getfield 39, 3) := by decide +kernel
theorem dX1_walkBest_99 : decode cX1_walkBest 99 = .ok (.iload_n 3, 1) := by decide +kernel
theorem dX1_walkBest_100 : decode cX1_walkBest 100 = .ok (.iaload, 1) := by decide +kernel
theorem dX1_walkBest_101 : decode cX1_walkBest 101 = .ok (.istore_n 2, 1) := by decide +kernel
theorem dX1_walkBest_102 : decode cX1_walkBest 102 = .ok (.aload_n 0, 1) := by decide +kernel
theorem dX1_walkBest_103 : decode cX1_walkBest 103 = .ok (.getfield 18, 3) := by decide +kernel
theorem dX1_walkBest_106 : decode cX1_walkBest 106 = .ok (.iload 4, 2) := by decide +kernel
theorem dX1_walkBest_108 : decode cX1_walkBest 108 = .ok (.iaload, 1) := by decide +kernel
theorem dX1_walkBest_109 : decode cX1_walkBest 109 = .ok (.istore_n 1, 1) := by decide +kernel
theorem dX1_walkBest_110 : decode cX1_walkBest 110 = .ok (.iinc 3 1, 3) := by decide +kernel
theorem dX1_walkBest_113 : decode cX1_walkBest 113 = .ok (.goto (-102), 3) := by decide +kernel
theorem dX1_walkBest_116 : decode cX1_walkBest 116 = .ok (.return_, 1) := by decide +kernel
theorem dX1_waitsFrom_0 : decode cX1_waitsFrom 0 = .ok (.aload_n 0, 1) := by decide +kernel
theorem dX1_waitsFrom_1 : decode cX1_waitsFrom 1 = .ok (.iload_n 1, 1) := by decide +kernel
theorem dX1_waitsFrom_2 : decode cX1_waitsFrom 2 = .ok (.iload_n 2, 1) := by decide +kernel
theorem dX1_waitsFrom_3 : decode cX1_waitsFrom 3 = .ok (.invokevirtual 85, 3) := by decide +kernel
theorem dX1_waitsFrom_6 : decode cX1_waitsFrom 6 = .ok (.istore_n 3, 1) := by decide +kernel
theorem dX1_waitsFrom_7 : decode cX1_waitsFrom 7 = .ok (.aload_n 0, 1) := by decide +kernel
theorem dX1_waitsFrom_8 : decode cX1_waitsFrom 8 = .ok (.getfield 18, 3) := by decide +kernel
theorem dX1_waitsFrom_11 : decode cX1_waitsFrom 11 = .ok (.iload_n 2, 1) := by decide +kernel
theorem dX1_waitsFrom_12 : decode cX1_waitsFrom 12 = .ok (.iaload, 1) := by decide +kernel
theorem dX1_waitsFrom_13 : decode cX1_waitsFrom 13 = .ok (.istore 4, 2) := by decide +kernel
theorem dX1_waitsFrom_15 : decode cX1_waitsFrom 15 = .ok (.iload 4, 2) := by decide +kernel
theorem dX1_waitsFrom_17 : decode cX1_waitsFrom 17 = .ok (.aload_n 0, 1) := by decide +kernel
theorem dX1_waitsFrom_18 : decode cX1_waitsFrom 18 = .ok (.getfield 55, 3) := by decide +kernel
theorem dX1_waitsFrom_21 : decode cX1_waitsFrom 21 = .ok (.if_icmp .lt 5, 3) := by decide +kernel
theorem dX1_waitsFrom_24 : decode cX1_waitsFrom 24 = .ok (.iload_n 3, 1) := by decide +kernel
theorem dX1_waitsFrom_25 : decode cX1_waitsFrom 25 = .ok (.ireturn, 1) := by decide +kernel
theorem dX1_waitsFrom_26 : decode cX1_waitsFrom 26 = .ok (.aload_n 0, 1) := by decide +kernel
theorem dX1_waitsFrom_27 : decode cX1_waitsFrom 27 = .ok (.getfield 27, 3) := by decide +kernel
theorem dX1_waitsFrom_30 : decode cX1_waitsFrom 30 = .ok (.iload 4, 2) := by decide +kernel
theorem dX1_waitsFrom_32 : decode cX1_waitsFrom 32 = .ok (.sipush 301, 3) := by decide +kernel
theorem dX1_waitsFrom_35 : decode cX1_waitsFrom 35 = .ok (.imul, 1) := by decide +kernel
theorem dX1_waitsFrom_36 : decode cX1_waitsFrom 36 = .ok (.aload_n 0, 1) := by decide +kernel
theorem dX1_waitsFrom_37 : decode cX1_waitsFrom 37 = .ok (.iload_n 1, 1) := by decide +kernel
theorem dX1_waitsFrom_38 : decode cX1_waitsFrom 38 = .ok (.iload_n 2, 1) := by decide +kernel
theorem dX1_waitsFrom_39 : decode cX1_waitsFrom 39 = .ok (.invokevirtual 88, 3) := by decide +kernel
theorem dX1_waitsFrom_42 : decode cX1_waitsFrom 42 = .ok (.sipush 300, 3) := by decide +kernel
theorem dX1_waitsFrom_45 : decode cX1_waitsFrom 45 = .ok (.invokestatic 97, 3) := by decide +kernel
theorem dX1_waitsFrom_48 : decode cX1_waitsFrom 48 = .ok (.iadd, 1) := by decide +kernel
theorem dX1_waitsFrom_49 : decode cX1_waitsFrom 49 = .ok (.iaload, 1) := by decide +kernel
theorem dX1_waitsFrom_50 : decode cX1_waitsFrom 50 = .ok (.istore 5, 2) := by decide +kernel
theorem dX1_waitsFrom_52 : decode cX1_waitsFrom 52 = .ok (.iload 5, 2) := by decide +kernel
theorem dX1_waitsFrom_54 : decode cX1_waitsFrom 54 = .ok (.ldc 71, 2) := by decide +kernel
theorem dX1_waitsFrom_56 : decode cX1_waitsFrom 56 = .ok (.if_icmp .lt 8, 3) := by decide +kernel
theorem dX1_waitsFrom_59 : decode cX1_waitsFrom 59 = .ok (.ldc 71, 2) := by decide +kernel
theorem dX1_waitsFrom_61 : decode cX1_waitsFrom 61 = .ok (.goto 7, 3) := by decide +kernel
theorem dX1_waitsFrom_64 : decode cX1_waitsFrom 64 = .ok (.iload_n 3, 1) := by decide +kernel
theorem dX1_waitsFrom_65 : decode cX1_waitsFrom 65 = .ok (.iload 5, 2) := by decide +kernel
theorem dX1_waitsFrom_67 : decode cX1_waitsFrom 67 = .ok (.iadd, 1) := by decide +kernel
theorem dX1_waitsFrom_68 : decode cX1_waitsFrom 68 = .ok (.ireturn, 1) := by decide +kernel
theorem dX1_endOfOpening_0 : decode cX1_endOfOpening 0 = .ok (.iload_n 2, 1) := by decide +kernel
theorem dX1_endOfOpening_1 : decode cX1_endOfOpening 1 = .ok (.aload_n 0, 1) := by decide +kernel
theorem dX1_endOfOpening_2 : decode cX1_endOfOpening 2 = .ok (.getfield 42, 3) := by decide +kernel
theorem dX1_endOfOpening_5 : decode cX1_endOfOpening 5 = .ok (.iadd, 1) := by decide +kernel
theorem dX1_endOfOpening_6 : decode cX1_endOfOpening 6 = .ok (.aload_n 0, 1) := by decide +kernel
theorem dX1_endOfOpening_7 : decode cX1_endOfOpening 7 = .ok (.getfield 46, 3) := by decide +kernel
theorem dX1_endOfOpening_10 : decode cX1_endOfOpening 10 = .ok (.aload_n 0, 1) := by decide +kernel
theorem dX1_endOfOpening_11 : decode cX1_endOfOpening 11 = .ok (.getfield 18, 3) := by decide +kernel
theorem dX1_endOfOpening_14 : decode cX1_endOfOpening 14 = .ok (.iload_n 2, 1) := by decide +kernel
theorem dX1_endOfOpening_15 : decode cX1_endOfOpening 15 = .ok (.iaload, 1) := by decide +kernel
theorem dX1_endOfOpening_16 : decode cX1_endOfOpening 16 = .ok (.iload_n 1, 1) := by decide +kernel
theorem dX1_endOfOpening_17 : decode cX1_endOfOpening 17 = .ok (.isub, 1) := by decide +kernel
theorem dX1_endOfOpening_18 : decode cX1_endOfOpening 18 = .ok (.imul, 1) := by decide +kernel
theorem dX1_endOfOpening_19 : decode cX1_endOfOpening 19 = .ok (.iadd, 1) := by decide +kernel
theorem dX1_endOfOpening_20 : decode cX1_endOfOpening 20 = .ok (.aload_n 0, 1) := by decide +kernel
theorem dX1_endOfOpening_21 : decode cX1_endOfOpening 21 = .ok (.getfield 49, 3) := by decide +kernel
theorem dX1_endOfOpening_24 : decode cX1_endOfOpening 24 = .ok (.iadd, 1) := by decide +kernel
theorem dX1_endOfOpening_25 : decode cX1_endOfOpening 25 = .ok (.ireturn, 1) := by decide +kernel
theorem dX1_waitsOfOpening_0 : decode cX1_waitsOfOpening 0 = .ok (.aload_n 0, 1) := by decide +kernel
theorem dX1_waitsOfOpening_1 : decode cX1_waitsOfOpening 1 = .ok (.getfield 18, 3) := by decide +kernel
theorem dX1_waitsOfOpening_4 : decode cX1_waitsOfOpening 4 = .ok (.iload_n 2, 1) := by decide +kernel
theorem dX1_waitsOfOpening_5 : decode cX1_waitsOfOpening 5 = .ok (.iaload, 1) := by decide +kernel
theorem dX1_waitsOfOpening_6 : decode cX1_waitsOfOpening 6 = .ok (.istore_n 3, 1) := by decide +kernel
theorem dX1_waitsOfOpening_7 : decode cX1_waitsOfOpening 7 = .ok (.iload_n 3, 1) := by decide +kernel
theorem dX1_waitsOfOpening_8 : decode cX1_waitsOfOpening 8 = .ok (.iload_n 1, 1) := by decide +kernel
theorem dX1_waitsOfOpening_9 : decode cX1_waitsOfOpening 9 = .ok (.isub, 1) := by decide +kernel
theorem dX1_waitsOfOpening_10 : decode cX1_waitsOfOpening 10 = .ok (.istore 4, 2) := by decide +kernel
theorem dX1_waitsOfOpening_12 : decode cX1_waitsOfOpening 12 = .ok (.iload 4, 2) := by decide +kernel
theorem dX1_waitsOfOpening_14 : decode cX1_waitsOfOpening 14 = .ok (.iload_n 2, 1) := by decide +kernel
theorem dX1_waitsOfOpening_15 : decode cX1_waitsOfOpening 15 = .ok (.aload_n 0, 1) := by decide +kernel
theorem dX1_waitsOfOpening_16 : decode cX1_waitsOfOpening 16 = .ok (.getfield 42, 3) := by decide +kernel
theorem dX1_waitsOfOpening_19 : decode cX1_waitsOfOpening 19 = .ok (.iadd, 1) := by decide +kernel
theorem dX1_waitsOfOpening_20 : decode cX1_waitsOfOpening 20 = .ok (.imul, 1) := by decide +kernel
theorem dX1_waitsOfOpening_21 : decode cX1_waitsOfOpening 21 = .ok (.aload_n 0, 1) := by decide +kernel
theorem dX1_waitsOfOpening_22 : decode cX1_waitsOfOpening 22 = .ok (.getfield 46, 3) := by decide +kernel
theorem dX1_waitsOfOpening_25 : decode cX1_waitsOfOpening 25 = .ok (.iload 4, 2) := by decide +kernel
theorem dX1_waitsOfOpening_27 : decode cX1_waitsOfOpening 27 = .ok (.iload 4, 2) := by decide +kernel
theorem dX1_waitsOfOpening_29 : decode cX1_waitsOfOpening 29 = .ok (.iconst 1, 1) := by decide +kernel
theorem dX1_waitsOfOpening_30 : decode cX1_waitsOfOpening 30 = .ok (.iadd, 1) := by decide +kernel
theorem dX1_waitsOfOpening_31 : decode cX1_waitsOfOpening 31 = .ok (.imul, 1) := by decide +kernel
theorem dX1_waitsOfOpening_32 : decode cX1_waitsOfOpening 32 = .ok (.iconst 2, 1) := by decide +kernel
theorem dX1_waitsOfOpening_33 : decode cX1_waitsOfOpening 33 = .ok (.idiv, 1) := by decide +kernel
theorem dX1_waitsOfOpening_34 : decode cX1_waitsOfOpening 34 = .ok (.imul, 1) := by decide +kernel
theorem dX1_waitsOfOpening_35 : decode cX1_waitsOfOpening 35 = .ok (.iadd, 1) := by decide +kernel
theorem dX1_waitsOfOpening_36 : decode cX1_waitsOfOpening 36 = .ok (.istore 5, 2) := by decide +kernel
theorem dX1_waitsOfOpening_38 : decode cX1_waitsOfOpening 38 = .ok (.iload 5, 2) := by decide +kernel
theorem dX1_waitsOfOpening_40 : decode cX1_waitsOfOpening 40 = .ok (.aload_n 0, 1) := by decide +kernel
theorem dX1_waitsOfOpening_41 : decode cX1_waitsOfOpening 41 = .ok (.getfield 15, 3) := by decide +kernel
theorem dX1_waitsOfOpening_44 : decode cX1_waitsOfOpening 44 = .ok (.iload_n 3, 1) := by decide +kernel
theorem dX1_waitsOfOpening_45 : decode cX1_waitsOfOpening 45 = .ok (.iaload, 1) := by decide +kernel
theorem dX1_waitsOfOpening_46 : decode cX1_waitsOfOpening 46 = .ok (.aload_n 0, 1) := by decide +kernel
theorem dX1_waitsOfOpening_47 : decode cX1_waitsOfOpening 47 = .ok (.getfield 15, 3) := by decide +kernel
theorem dX1_waitsOfOpening_50 : decode cX1_waitsOfOpening 50 = .ok (.iload_n 1, 1) := by decide +kernel
theorem dX1_waitsOfOpening_51 : decode cX1_waitsOfOpening 51 = .ok (.iaload, 1) := by decide +kernel
theorem dX1_waitsOfOpening_52 : decode cX1_waitsOfOpening 52 = .ok (.isub, 1) := by decide +kernel
theorem dX1_waitsOfOpening_53 : decode cX1_waitsOfOpening 53 = .ok (.isub, 1) := by decide +kernel
theorem dX1_waitsOfOpening_54 : decode cX1_waitsOfOpening 54 = .ok (.istore 6, 2) := by decide +kernel
theorem dX1_waitsOfOpening_56 : decode cX1_waitsOfOpening 56 = .ok (.aload_n 0, 1) := by decide +kernel
theorem dX1_waitsOfOpening_57 : decode cX1_waitsOfOpening 57 = .ok (.getfield 52, 3) := by decide +kernel
theorem dX1_waitsOfOpening_60 : decode cX1_waitsOfOpening 60 = .ok (.iload 6, 2) := by decide +kernel
theorem dX1_waitsOfOpening_62 : decode cX1_waitsOfOpening 62 = .ok (.imul, 1) := by decide +kernel
theorem dX1_waitsOfOpening_63 : decode cX1_waitsOfOpening 63 = .ok (.aload_n 0, 1) := by decide +kernel
theorem dX1_waitsOfOpening_64 : decode cX1_waitsOfOpening 64 = .ok (.iload_n 2, 1) := by decide +kernel
theorem dX1_waitsOfOpening_65 : decode cX1_waitsOfOpening 65 = .ok (.aload_n 0, 1) := by decide +kernel
theorem dX1_waitsOfOpening_66 : decode cX1_waitsOfOpening 66 = .ok (.iload_n 1, 1) := by decide +kernel
theorem dX1_waitsOfOpening_67 : decode cX1_waitsOfOpening 67 = .ok (.iload_n 2, 1) := by decide +kernel
theorem dX1_waitsOfOpening_68 : decode cX1_waitsOfOpening 68 = .ok (.invokevirtual 88, 3) := by decide +kernel
theorem dX1_waitsOfOpening_71 : decode cX1_waitsOfOpening 71 = .ok (.invokevirtual 100, 3) := by decide +kernel
theorem dX1_waitsOfOpening_74 : decode cX1_waitsOfOpening 74 = .ok (.iadd, 1) := by decide +kernel
theorem dX1_waitsOfOpening_75 : decode cX1_waitsOfOpening 75 = .ok (.ireturn, 1) := by decide +kernel
theorem dX1_crosserWaits_0 : decode cX1_crosserWaits 0 = .ok (.iload_n 1, 1) := by decide +kernel
theorem dX1_crosserWaits_1 : decode cX1_crosserWaits 1 = .ok (.sipush 240, 3) := by decide +kernel
theorem dX1_crosserWaits_4 : decode cX1_crosserWaits 4 = .ok (.invokestatic 97, 3) := by decide +kernel
theorem dX1_crosserWaits_7 : decode cX1_crosserWaits 7 = .ok (.istore_n 3, 1) := by decide +kernel
theorem dX1_crosserWaits_8 : decode cX1_crosserWaits 8 = .ok (.iload_n 2, 1) := by decide +kernel
theorem dX1_crosserWaits_9 : decode cX1_crosserWaits 9 = .ok (.sipush 240, 3) := by decide +kernel
theorem dX1_crosserWaits_12 : decode cX1_crosserWaits 12 = .ok (.invokestatic 97, 3) := by decide +kernel
theorem dX1_crosserWaits_15 : decode cX1_crosserWaits 15 = .ok (.istore 4, 2) := by decide +kernel
theorem dX1_crosserWaits_17 : decode cX1_crosserWaits 17 = .ok (.aload_n 0, 1) := by decide +kernel
theorem dX1_crosserWaits_18 : decode cX1_crosserWaits 18 = .ok (.getfield 21, 3) := by decide +kernel
theorem dX1_crosserWaits_21 : decode cX1_crosserWaits 21 = .ok (.iload 4, 2) := by decide +kernel
theorem dX1_crosserWaits_23 : decode cX1_crosserWaits 23 = .ok (.iaload, 1) := by decide +kernel
theorem dX1_crosserWaits_24 : decode cX1_crosserWaits 24 = .ok (.aload_n 0, 1) := by decide +kernel
theorem dX1_crosserWaits_25 : decode cX1_crosserWaits 25 = .ok (.getfield 21, 3) := by decide +kernel
theorem dX1_crosserWaits_28 : decode cX1_crosserWaits 28 = .ok (.iload_n 3, 1) := by decide +kernel
theorem dX1_crosserWaits_29 : decode cX1_crosserWaits 29 = .ok (.iaload, 1) := by decide +kernel
theorem dX1_crosserWaits_30 : decode cX1_crosserWaits 30 = .ok (.isub, 1) := by decide +kernel
theorem dX1_crosserWaits_31 : decode cX1_crosserWaits 31 = .ok (.istore 5, 2) := by decide +kernel
theorem dX1_crosserWaits_33 : decode cX1_crosserWaits 33 = .ok (.iload 5, 2) := by decide +kernel
theorem dX1_crosserWaits_35 : decode cX1_crosserWaits 35 = .ok (.iload_n 2, 1) := by decide +kernel
theorem dX1_crosserWaits_36 : decode cX1_crosserWaits 36 = .ok (.imul, 1) := by decide +kernel
theorem dX1_crosserWaits_37 : decode cX1_crosserWaits 37 = .ok (.aload_n 0, 1) := by decide +kernel
theorem dX1_crosserWaits_38 : decode cX1_crosserWaits 38 = .ok (.getfield 24, 3) := by decide +kernel
theorem dX1_crosserWaits_41 : decode cX1_crosserWaits 41 = .ok (.iload 4, 2) := by decide +kernel
theorem dX1_crosserWaits_43 : decode cX1_crosserWaits 43 = .ok (.iaload, 1) := by decide +kernel
theorem dX1_crosserWaits_44 : decode cX1_crosserWaits 44 = .ok (.aload_n 0, 1) := by decide +kernel
theorem dX1_crosserWaits_45 : decode cX1_crosserWaits 45 = .ok (.getfield 24, 3) := by decide +kernel
theorem dX1_crosserWaits_48 : decode cX1_crosserWaits 48 = .ok (.iload_n 3, 1) := by decide +kernel
theorem dX1_crosserWaits_49 : decode cX1_crosserWaits 49 = .ok (.iaload, 1) := by decide +kernel
theorem dX1_crosserWaits_50 : decode cX1_crosserWaits 50 = .ok (.isub, 1) := by decide +kernel
theorem dX1_crosserWaits_51 : decode cX1_crosserWaits 51 = .ok (.isub, 1) := by decide +kernel
theorem dX1_crosserWaits_52 : decode cX1_crosserWaits 52 = .ok (.ireturn, 1) := by decide +kernel
theorem dX2_init_0 : decode cX2_init 0 = .ok (.aload_n 0, 1) := by decide +kernel
theorem dX2_init_1 : decode cX2_init 1 = .ok (.invokespecial 3, 3) := by decide +kernel
theorem dX2_init_4 : decode cX2_init 4 = .ok (.aload_n 0, 1) := by decide +kernel
theorem dX2_init_5 : decode cX2_init 5 = .ok (.bipush 60, 2) := by decide +kernel
theorem dX2_init_7 : decode cX2_init 7 = .ok (.newarray .int, 2) := by decide +kernel
theorem dX2_init_9 : decode cX2_init 9 = .ok (.putfield 9, 3) := by decide +kernel
theorem dX2_init_12 : decode cX2_init 12 = .ok (.aload_n 0, 1) := by decide +kernel
theorem dX2_init_13 : decode cX2_init 13 = .ok (.bipush 60, 2) := by decide +kernel
theorem dX2_init_15 : decode cX2_init 15 = .ok (.newarray .boolean, 2) := by decide +kernel
theorem dX2_init_17 : decode cX2_init 17 = .ok (.putfield 15, 3) := by decide +kernel
theorem dX2_init_20 : decode cX2_init 20 = .ok (.aload_n 0, 1) := by decide +kernel
theorem dX2_init_21 : decode cX2_init 21 = .ok (.sipush 610, 3) := by decide +kernel
theorem dX2_init_24 : decode cX2_init 24 = .ok (.newarray .int, 2) := by decide +kernel
theorem dX2_init_26 : decode cX2_init 26 = .ok (.putfield 19, 3) := by decide +kernel
theorem dX2_init_29 : decode cX2_init 29 = .ok (.aload_n 0, 1) := by decide +kernel
theorem dX2_init_30 : decode cX2_init 30 = .ok (.bipush 50, 2) := by decide +kernel
theorem dX2_init_32 : decode cX2_init 32 = .ok (.putfield 22, 3) := by decide +kernel
theorem dX2_init_35 : decode cX2_init 35 = .ok (.aload_n 0, 1) := by decide +kernel
theorem dX2_init_36 : decode cX2_init 36 = .ok (.iconst 3, 1) := by decide +kernel
theorem dX2_init_37 : decode cX2_init 37 = .ok (.putfield 26, 3) := by decide +kernel
theorem dX2_init_40 : decode cX2_init 40 = .ok (.aload_n 0, 1) := by decide +kernel
theorem dX2_init_41 : decode cX2_init 41 = .ok (.getfield 9, 3) := by decide +kernel
theorem dX2_init_44 : decode cX2_init 44 = .ok (.iconst (-1), 1) := by decide +kernel
theorem dX2_init_45 : decode cX2_init 45 = .ok (.invokestatic 29, 3) := by decide +kernel
theorem dX2_init_48 : decode cX2_init 48 = .ok (.return_, 1) := by decide +kernel
theorem dX2_foretell_0 : decode cX2_foretell 0 = .ok (.aload_n 0, 1) := by decide +kernel
theorem dX2_foretell_1 : decode cX2_foretell 1 = .ok (.getfield 9, 3) := by decide +kernel
theorem dX2_foretell_4 : decode cX2_foretell 4 = .ok (.iload_n 1, 1) := by decide +kernel
theorem dX2_foretell_5 : decode cX2_foretell 5 = .ok (.iload_n 2, 1) := by decide +kernel
theorem dX2_foretell_6 : decode cX2_foretell 6 = .ok (.iastore, 1) := by decide +kernel
theorem dX2_foretell_7 : decode cX2_foretell 7 = .ok (.aload_n 0, 1) := by decide +kernel
theorem dX2_foretell_8 : decode cX2_foretell 8 = .ok (.iconst 0, 1) := by decide +kernel
theorem dX2_foretell_9 : decode cX2_foretell 9 = .ok (.putfield 35, 3) := by decide +kernel
theorem dX2_foretell_12 : decode cX2_foretell 12 = .ok (.return_, 1) := by decide +kernel
theorem dX2_setLimits_0 : decode cX2_setLimits 0 = .ok (.aload_n 0, 1) := by decide +kernel
theorem dX2_setLimits_1 : decode cX2_setLimits 1 = .ok (.iload_n 1, 1) := by decide +kernel
theorem dX2_setLimits_2 : decode cX2_setLimits 2 = .ok (.putfield 22, 3) := by decide +kernel
theorem dX2_setLimits_5 : decode cX2_setLimits 5 = .ok (.aload_n 0, 1) := by decide +kernel
theorem dX2_setLimits_6 : decode cX2_setLimits 6 = .ok (.iload_n 2, 1) := by decide +kernel
theorem dX2_setLimits_7 : decode cX2_setLimits 7 = .ok (.putfield 26, 3) := by decide +kernel
theorem dX2_setLimits_10 : decode cX2_setLimits 10 = .ok (.aload_n 0, 1) := by decide +kernel
theorem dX2_setLimits_11 : decode cX2_setLimits 11 = .ok (.iconst 0, 1) := by decide +kernel
theorem dX2_setLimits_12 : decode cX2_setLimits 12 = .ok (.putfield 35, 3) := by decide +kernel
theorem dX2_setLimits_15 : decode cX2_setLimits 15 = .ok (.return_, 1) := by decide +kernel
theorem dX2_isBad_0 : decode cX2_isBad 0 = .ok (.aload_n 0, 1) := by decide +kernel
theorem dX2_isBad_1 : decode cX2_isBad 1 = .ok (.getfield 9, 3) := by decide +kernel
theorem dX2_isBad_4 : decode cX2_isBad 4 = .ok (.iload_n 1, 1) := by decide +kernel
theorem dX2_isBad_5 : decode cX2_isBad 5 = .ok (.iaload, 1) := by decide +kernel
theorem dX2_isBad_6 : decode cX2_isBad 6 = .ok (.iconst (-1), 1) := by decide +kernel
theorem dX2_isBad_7 : decode cX2_isBad 7 = .ok (.if_icmp .eq 16, 3) := by decide +kernel
theorem dX2_isBad_10 : decode cX2_isBad 10 = .ok (.aload_n 0, 1) := by decide +kernel
theorem dX2_isBad_11 : decode cX2_isBad 11 = .ok (.getfield 9, 3) := by decide +kernel
theorem dX2_isBad_14 : decode cX2_isBad 14 = .ok (.iload_n 1, 1) := by decide +kernel
theorem dX2_isBad_15 : decode cX2_isBad 15 = .ok (.iaload, 1) := by decide +kernel
theorem dX2_isBad_16 : decode cX2_isBad 16 = .ok (.aload_n 0, 1) := by decide +kernel
theorem dX2_isBad_17 : decode cX2_isBad 17 = .ok (.getfield 22, 3) := by decide +kernel
theorem dX2_isBad_20 : decode cX2_isBad 20 = .ok (.if_icmp .le 7, 3) := by decide +kernel
theorem dX2_isBad_23 : decode cX2_isBad 23 = .ok (.iconst 1, 1) := by decide +kernel
theorem dX2_isBad_24 : decode cX2_isBad 24 = .ok (.goto 4, 3) := by decide +kernel
theorem dX2_isBad_27 : decode cX2_isBad 27 = .ok (.iconst 0, 1) := by decide +kernel
theorem dX2_isBad_28 : decode cX2_isBad 28 = .ok (.ireturn, 1) := by decide +kernel
theorem dX2_isOut_0 : decode cX2_isOut 0 = .ok (.aload_n 0, 1) := by decide +kernel
theorem dX2_isOut_1 : decode cX2_isOut 1 = .ok (.invokevirtual 39, 3) := by decide +kernel
theorem dX2_isOut_4 : decode cX2_isOut 4 = .ok (.aload_n 0, 1) := by decide +kernel
theorem dX2_isOut_5 : decode cX2_isOut 5 = .ok (.getfield 15, 3) := by decide +kernel
theorem dX2_isOut_8 : decode cX2_isOut 8 = .ok (.iload_n 1, 1) := by decide +kernel
theorem dX2_isOut_9 : decode cX2_isOut 9 = .ok (.baload, 1) := by decide +kernel
theorem dX2_isOut_10 : decode cX2_isOut 10 = .ok (.ireturn, 1) := by decide +kernel
theorem dX2_fewest_0 : decode cX2_fewest 0 = .ok (.aload_n 0, 1) := by decide +kernel
theorem dX2_fewest_1 : decode cX2_fewest 1 = .ok (.invokevirtual 39, 3) := by decide +kernel
theorem dX2_fewest_4 : decode cX2_fewest 4 = .ok (.aload_n 0, 1) := by decide +kernel
theorem dX2_fewest_5 : decode cX2_fewest 5 = .ok (.getfield 19, 3) := by decide +kernel
theorem dX2_fewest_8 : decode cX2_fewest 8 = .ok (.iconst 0, 1) := by decide +kernel
theorem dX2_fewest_9 : decode cX2_fewest 9 = .ok (.iaload, 1) := by decide +kernel
theorem dX2_fewest_10 : decode cX2_fewest 10 = .ok (.ireturn, 1) := by decide +kernel
theorem dX2_plan_0 : decode cX2_plan 0 = .ok (.aload_n 0, 1) := by decide +kernel
end
section
theorem dX2_plan_1 : decode cX2_plan 1 = .ok (.getfield 35, 3) := by decide +kernel
theorem dX2_plan_4 : decode cX2_plan 4 = .ok (.ifCond .eq 4, 3) := by decide +kernel
theorem dX2_plan_7 : decode cX2_plan 7 = .ok (.return_, 1) := by decide +kernel
theorem dX2_plan_8 : decode cX2_plan 8 = .ok (.aload_n 0, 1) := by decide +kernel
theorem dX2_plan_9 : decode cX2_plan 9 = .ok (.iconst 1, 1) := by decide +kernel
theorem dX2_plan_10 : decode cX2_plan 10 = .ok (.putfield 35, 3) := by decide +kernel
theorem dX2_plan_13 : decode cX2_plan 13 = .ok (.bipush 59, 2) := by decide +kernel
theorem dX2_plan_15 : decode cX2_plan 15 = .ok (.istore_n 1, 1) := by decide +kernel
theorem dX2_plan_16 : decode cX2_plan 16 = .ok (.iload_n 1, 1) := by decide +kernel
theorem dX2_plan_17 : decode cX2_plan 17 = .ok (.ifCond .lt 63, 3) := by decide +kernel
theorem dX2_plan_20 : decode cX2_plan 20 = .ok (.iconst 0, 1) := by decide +kernel
theorem dX2_plan_21 : decode cX2_plan 21 = .ok (.istore_n 2, 1) := by decide +kernel
theorem dX2_plan_22 : decode cX2_plan 22 = .ok (.iload_n 2, 1) := by decide +kernel
theorem dX2_plan_23 : decode cX2_plan 23 = .ok (.aload_n 0, 1) := by decide +kernel
theorem dX2_plan_24 : decode cX2_plan 24 = .ok (.getfield 26, 3) := by decide +kernel
theorem dX2_plan_27 : decode cX2_plan 27 = .ok (.if_icmp .gt 47, 3) := by decide +kernel
theorem dX2_plan_30 : decode cX2_plan 30 = .ok (.aload_n 0, 1) := by decide +kernel
theorem dX2_plan_31 : decode cX2_plan 31 = .ok (.iload_n 1, 1) := by decide +kernel
theorem dX2_plan_32 : decode cX2_plan 32 = .ok (.iload_n 2, 1) := by decide +kernel
theorem dX2_plan_33 : decode cX2_plan 33 = .ok (.invokevirtual 42, 3) := by decide +kernel
theorem dX2_plan_36 : decode cX2_plan 36 = .ok (.istore_n 3, 1) := by decide +kernel
theorem dX2_plan_37 : decode cX2_plan 37 = .ok (.aload_n 0, 1) := by decide +kernel
theorem dX2_plan_38 : decode cX2_plan 38 = .ok (.iload_n 1, 1) := by decide +kernel
theorem dX2_plan_39 : decode cX2_plan 39 = .ok (.iload_n 2, 1) := by decide +kernel
theorem dX2_plan_40 : decode cX2_plan 40 = .ok (.invokevirtual 46, 3) := by decide +kernel
theorem dX2_plan_43 : decode cX2_plan 43 = .ok (.ifCond .eq 13, 3) := by decide +kernel
theorem dX2_plan_46 : decode cX2_plan 46 = .ok (.iload_n 3, 1) := by decide +kernel
theorem dX2_plan_47 : decode cX2_plan 47 = .ok (.aload_n 0, 1) := by decide +kernel
theorem dX2_plan_48 : decode cX2_plan 48 = .ok (.iload_n 1, 1) := by decide +kernel
theorem dX2_plan_49 : decode cX2_plan 49 = .ok (.invokevirtual 50, 3) := by decide +kernel
theorem dX2_plan_52 : decode cX2_plan 52 = .ok (.invokestatic 54, 3) := by decide +kernel
theorem dX2_plan_55 : decode cX2_plan 55 = .ok (.istore_n 3, 1) := by decide +kernel
theorem dX2_plan_56 : decode cX2_plan 56 = .ok (.aload_n 0, 1) := by decide +kernel
theorem dX2_plan_57 : decode cX2_plan 57 = .ok (.getfield 19, 3) := by decide +kernel
theorem dX2_plan_60 : decode cX2_plan 60 = .ok (.iload_n 1, 1) := by decide +kernel
theorem dX2_plan_61 : decode cX2_plan 61 = .ok (.bipush 10, 2) := by decide +kernel
theorem dX2_plan_63 : decode cX2_plan 63 = .ok (.imul, 1) := by decide +kernel
theorem dX2_plan_64 : decode cX2_plan 64 = .ok (.iload_n 2, 1) := by decide +kernel
theorem dX2_plan_65 : decode cX2_plan 65 = .ok (.iadd, 1) := by decide +kernel
theorem dX2_plan_66 : decode cX2_plan 66 = .ok (.iload_n 3, 1) := by decide +kernel
theorem dX2_plan_67 : decode cX2_plan 67 = .ok (.iastore, 1) := by decide +kernel
theorem dX2_plan_68 : decode cX2_plan 68 = .ok (.iinc 2 1, 3) := by decide +kernel
theorem dX2_plan_71 : decode cX2_plan 71 = .ok (.goto (-49), 3) := by decide +kernel
theorem dX2_plan_74 : decode cX2_plan 74 = .ok (.iinc 1 (-1), 3) := by decide +kernel
theorem dX2_plan_77 : decode cX2_plan 77 = .ok (.goto (-61), 3) := by decide +kernel
theorem dX2_plan_80 : decode cX2_plan 80 = .ok (.aload_n 0, 1) := by decide +kernel
theorem dX2_plan_81 : decode cX2_plan 81 = .ok (.invokevirtual 59, 3) := by decide +kernel
theorem dX2_plan_84 : decode cX2_plan 84 = .ok (.return_, 1) := by decide +kernel
theorem dX2_chooseDays_0 : decode cX2_chooseDays 0 = .ok (.iconst 0, 1) := by decide +kernel
theorem dX2_chooseDays_1 : decode cX2_chooseDays 1 = .ok (.istore_n 1, 1) := by decide +kernel
theorem dX2_chooseDays_2 : decode cX2_chooseDays 2 = .ok (.iconst 0, 1) := by decide +kernel
theorem dX2_chooseDays_3 : decode cX2_chooseDays 3 = .ok (.istore_n 2, 1) := by decide +kernel
theorem dX2_chooseDays_4 : decode cX2_chooseDays 4 = .ok (.iload_n 2, 1) := by decide +kernel
theorem dX2_chooseDays_5 : decode cX2_chooseDays 5 = .ok (.bipush 60, 2) := by decide +kernel
theorem dX2_chooseDays_7 : decode cX2_chooseDays 7 = .ok (.if_icmp .ge 72, 3) := by decide +kernel
theorem dX2_chooseDays_10 : decode cX2_chooseDays 10 = .ok (.aload_n 0, 1) := by decide +kernel
theorem dX2_chooseDays_11 : decode cX2_chooseDays 11 = .ok (.iload_n 2, 1) := by decide +kernel
theorem dX2_chooseDays_12 : decode cX2_chooseDays 12 = .ok (.iload_n 1, 1) := by decide +kernel
theorem dX2_chooseDays_13 : decode cX2_chooseDays 13 = .ok (.invokevirtual 46, 3) := by decide +kernel
theorem dX2_chooseDays_16 : decode cX2_chooseDays 16 = .ok (.ifCond .eq 21, 3) := by decide +kernel
theorem dX2_chooseDays_19 : decode cX2_chooseDays 19 = .ok (.aload_n 0, 1) := by decide +kernel
theorem dX2_chooseDays_20 : decode cX2_chooseDays 20 = .ok (.iload_n 2, 1) := by decide +kernel
theorem dX2_chooseDays_21 : decode cX2_chooseDays 21 = .ok (.invokevirtual 50, 3) := by decide +kernel
theorem dX2_chooseDays_24 : decode cX2_chooseDays 24 = .ok (.aload_n 0, 1) := by decide +kernel
theorem dX2_chooseDays_25 : decode cX2_chooseDays 25 = .ok (.iload_n 2, 1) := by decide +kernel
theorem dX2_chooseDays_26 : decode cX2_chooseDays 26 = .ok (.iload_n 1, 1) := by decide +kernel
theorem dX2_chooseDays_27 : decode cX2_chooseDays 27 = .ok (.invokevirtual 42, 3) := by decide +kernel
theorem dX2_chooseDays_30 : decode cX2_chooseDays 30 = .ok (.if_icmp .gt 7, 3) := by decide +kernel
theorem dX2_chooseDays_33 : decode cX2_chooseDays 33 = .ok (.iconst 1, 1) := by decide +kernel
theorem dX2_chooseDays_34 : decode cX2_chooseDays 34 = .ok (.goto 4, 3) := by decide +kernel
theorem dX2_chooseDays_37 : decode cX2_chooseDays 37 = .ok (.iconst 0, 1) := by decide +kernel
theorem dX2_chooseDays_38 : decode cX2_chooseDays 38 = .ok (.istore_n 3, 1) := by decide +kernel
theorem dX2_chooseDays_39 : decode cX2_chooseDays 39 = .ok (.aload_n 0, 1) := by decide +kernel
theorem dX2_chooseDays_40 : decode cX2_chooseDays 40 = .ok (.getfield 15, 3) := by decide +kernel
theorem dX2_chooseDays_43 : decode cX2_chooseDays 43 = .ok (.iload_n 2, 1) := by decide +kernel
theorem dX2_chooseDays_44 : decode cX2_chooseDays 44 = .ok (.iload_n 3, 1) := by decide +kernel
theorem dX2_chooseDays_45 : decode cX2_chooseDays 45 = .ok (.ifCond .ne 7, 3) := by decide +kernel
theorem dX2_chooseDays_48 : decode cX2_chooseDays 48 = .ok (.iconst 1, 1) := by decide +kernel
theorem dX2_chooseDays_49 : decode cX2_chooseDays 49 = .ok (.goto 4, 3) := by decide +kernel
theorem dX2_chooseDays_52 : decode cX2_chooseDays 52 = .ok (.iconst 0, 1) := by decide +kernel
theorem dX2_chooseDays_53 : decode cX2_chooseDays 53 = .ok (.bastore, 1) := by decide +kernel
theorem dX2_chooseDays_54 : decode cX2_chooseDays 54 = .ok (.iload_n 3, 1) := by decide +kernel
theorem dX2_chooseDays_55 : decode cX2_chooseDays 55 = .ok (.ifCond .eq 7, 3) := by decide +kernel
theorem dX2_chooseDays_58 : decode cX2_chooseDays 58 = .ok (.iconst 0, 1) := by decide +kernel
theorem dX2_chooseDays_59 : decode cX2_chooseDays 59 = .ok (.goto 13, 3) := by decide +kernel
theorem dX2_chooseDays_62 : decode cX2_chooseDays 62 = .ok (.iload_n 1, 1) := by decide +kernel
theorem dX2_chooseDays_63 : decode cX2_chooseDays 63 = .ok (.iconst 1, 1) := by decide +kernel
theorem dX2_chooseDays_64 : decode cX2_chooseDays 64 = .ok (.iadd, 1) := by decide +kernel
theorem dX2_chooseDays_65 : decode cX2_chooseDays 65 = .ok (.aload_n 0, 1) := by decide +kernel
theorem dX2_chooseDays_66 : decode cX2_chooseDays 66 = .ok (.getfield 26, 3) := by decide +kernel
theorem dX2_chooseDays_69 : decode cX2_chooseDays 69 = .ok (.invokestatic 54, 3) := by decide +kernel
theorem dX2_chooseDays_72 : decode cX2_chooseDays 72 = .ok (.istore_n 1, 1) := by decide +kernel
theorem dX2_chooseDays_73 : decode cX2_chooseDays 73 = .ok (.iinc 2 1, 3) := by decide +kernel
theorem dX2_chooseDays_76 : decode cX2_chooseDays 76 = .ok (.goto (-72), 3) := by decide +kernel
theorem dX2_chooseDays_79 : decode cX2_chooseDays 79 = .ok (.return_, 1) := by decide +kernel
theorem dX2_mayBeIn_0 : decode cX2_mayBeIn 0 = .ok (.aload_n 0, 1) := by decide +kernel
theorem dX2_mayBeIn_1 : decode cX2_mayBeIn 1 = .ok (.iload_n 1, 1) := by decide +kernel
theorem dX2_mayBeIn_2 : decode cX2_mayBeIn 2 = .ok (.invokevirtual 62, 3) := by decide +kernel
theorem dX2_mayBeIn_5 : decode cX2_mayBeIn 5 = .ok (.ifCond .ne 19, 3) := by decide +kernel
theorem dX2_mayBeIn_8 : decode cX2_mayBeIn 8 = .ok (.iload_n 2, 1) := by decide +kernel
theorem dX2_mayBeIn_9 : decode cX2_mayBeIn 9 = .ok (.ifCond .eq 11, 3) := by decide +kernel
theorem dX2_mayBeIn_12 : decode cX2_mayBeIn 12 = .ok (.iload_n 2, 1) := by decide +kernel
theorem dX2_mayBeIn_13 : decode cX2_mayBeIn 13 = .ok (.aload_n 0, 1) := by decide +kernel
theorem dX2_mayBeIn_14 : decode cX2_mayBeIn 14 = .ok (.getfield 26, 3) := by decide +kernel
theorem dX2_mayBeIn_17 : decode cX2_mayBeIn 17 = .ok (.if_icmp .ne 7, 3) := by decide +kernel
theorem dX2_mayBeIn_20 : decode cX2_mayBeIn 20 = .ok (.iconst 1, 1) := by decide +kernel
theorem dX2_mayBeIn_21 : decode cX2_mayBeIn 21 = .ok (.goto 4, 3) := by decide +kernel
theorem dX2_mayBeIn_24 : decode cX2_mayBeIn 24 = .ok (.iconst 0, 1) := by decide +kernel
theorem dX2_mayBeIn_25 : decode cX2_mayBeIn 25 = .ok (.ireturn, 1) := by decide +kernel
theorem dX2_needIfIn_0 : decode cX2_needIfIn 0 = .ok (.aload_n 0, 1) := by decide +kernel
theorem dX2_needIfIn_1 : decode cX2_needIfIn 1 = .ok (.getfield 19, 3) := by decide +kernel
theorem dX2_needIfIn_4 : decode cX2_needIfIn 4 = .ok (.iload_n 1, 1) := by decide +kernel
theorem dX2_needIfIn_5 : decode cX2_needIfIn 5 = .ok (.iconst 1, 1) := by decide +kernel
theorem dX2_needIfIn_6 : decode cX2_needIfIn 6 = .ok (.iadd, 1) := by decide +kernel
theorem dX2_needIfIn_7 : decode cX2_needIfIn 7 = .ok (.bipush 10, 2) := by decide +kernel
theorem dX2_needIfIn_9 : decode cX2_needIfIn 9 = .ok (.imul, 1) := by decide +kernel
theorem dX2_needIfIn_10 : decode cX2_needIfIn 10 = .ok (.iaload, 1) := by decide +kernel
theorem dX2_needIfIn_11 : decode cX2_needIfIn 11 = .ok (.ireturn, 1) := by decide +kernel
theorem dX2_needIfOut_0 : decode cX2_needIfOut 0 = .ok (.iconst 1, 1) := by decide +kernel
theorem dX2_needIfOut_1 : decode cX2_needIfOut 1 = .ok (.aload_n 0, 1) := by decide +kernel
theorem dX2_needIfOut_2 : decode cX2_needIfOut 2 = .ok (.getfield 19, 3) := by decide +kernel
theorem dX2_needIfOut_5 : decode cX2_needIfOut 5 = .ok (.iload_n 1, 1) := by decide +kernel
theorem dX2_needIfOut_6 : decode cX2_needIfOut 6 = .ok (.iconst 1, 1) := by decide +kernel
theorem dX2_needIfOut_7 : decode cX2_needIfOut 7 = .ok (.iadd, 1) := by decide +kernel
theorem dX2_needIfOut_8 : decode cX2_needIfOut 8 = .ok (.bipush 10, 2) := by decide +kernel
theorem dX2_needIfOut_10 : decode cX2_needIfOut 10 = .ok (.imul, 1) := by decide +kernel
theorem dX2_needIfOut_11 : decode cX2_needIfOut 11 = .ok (.iload_n 2, 1) := by decide +kernel
theorem dX2_needIfOut_12 : decode cX2_needIfOut 12 = .ok (.iconst 1, 1) := by decide +kernel
theorem dX2_needIfOut_13 : decode cX2_needIfOut 13 = .ok (.iadd, 1) := by decide +kernel
theorem dX2_needIfOut_14 : decode cX2_needIfOut 14 = .ok (.aload_n 0, 1) := by decide +kernel
theorem dX2_needIfOut_15 : decode cX2_needIfOut 15 = .ok (.getfield 26, 3) := by decide +kernel
theorem dX2_needIfOut_18 : decode cX2_needIfOut 18 = .ok (.invokestatic 54, 3) := by decide +kernel
theorem dX2_needIfOut_21 : decode cX2_needIfOut 21 = .ok (.iadd, 1) := by decide +kernel
theorem dX2_needIfOut_22 : decode cX2_needIfOut 22 = .ok (.iaload, 1) := by decide +kernel
theorem dX2_needIfOut_23 : decode cX2_needIfOut 23 = .ok (.iadd, 1) := by decide +kernel
theorem dX2_needIfOut_24 : decode cX2_needIfOut 24 = .ok (.ireturn, 1) := by decide +kernel
theorem dX3_init_0 : decode cX3_init 0 = .ok (.aload_n 0, 1) := by decide +kernel
theorem dX3_init_1 : decode cX3_init 1 = .ok (.invokespecial 3, 3) := by decide +kernel
theorem dX3_init_4 : decode cX3_init 4 = .ok (.aload_n 0, 1) := by decide +kernel
theorem dX3_init_5 : decode cX3_init 5 = .ok (.sipush 200, 3) := by decide +kernel
theorem dX3_init_8 : decode cX3_init 8 = .ok (.newarray .byte, 2) := by decide +kernel
theorem dX3_init_10 : decode cX3_init 10 = .ok (.putfield 9, 3) := by decide +kernel
theorem dX3_init_13 : decode cX3_init 13 = .ok (.return_, 1) := by decide +kernel
theorem dX3_size_0 : decode cX3_size 0 = .ok (.aload_n 0, 1) := by decide +kernel
theorem dX3_size_1 : decode cX3_size 1 = .ok (.getfield 15, 3) := by decide +kernel
theorem dX3_size_4 : decode cX3_size 4 = .ok (.ireturn, 1) := by decide +kernel
theorem dX3_byteAt_0 : decode cX3_byteAt 0 = .ok (.iload_n 1, 1) := by decide +kernel
theorem dX3_byteAt_1 : decode cX3_byteAt 1 = .ok (.iconst 0, 1) := by decide +kernel
theorem dX3_byteAt_2 : decode cX3_byteAt 2 = .ok (.aload_n 0, 1) := by decide +kernel
theorem dX3_byteAt_3 : decode cX3_byteAt 3 = .ok (.getfield 15, 3) := by decide +kernel
theorem dX3_byteAt_6 : decode cX3_byteAt 6 = .ok (.iconst 1, 1) := by decide +kernel
theorem dX3_byteAt_7 : decode cX3_byteAt 7 = .ok (.isub, 1) := by decide +kernel
theorem dX3_byteAt_8 : decode cX3_byteAt 8 = .ok (.invokestatic 19, 3) := by decide +kernel
theorem dX3_byteAt_11 : decode cX3_byteAt 11 = .ok (.ifCond .eq 16, 3) := by decide +kernel
theorem dX3_byteAt_14 : decode cX3_byteAt 14 = .ok (.aload_n 0, 1) := by decide +kernel
theorem dX3_byteAt_15 : decode cX3_byteAt 15 = .ok (.getfield 9, 3) := by decide +kernel
theorem dX3_byteAt_18 : decode cX3_byteAt 18 = .ok (.iload_n 1, 1) := by decide +kernel
theorem dX3_byteAt_19 : decode cX3_byteAt 19 = .ok (.baload, 1) := by decide +kernel
theorem dX3_byteAt_20 : decode cX3_byteAt 20 = .ok (.sipush 255, 3) := by decide +kernel
theorem dX3_byteAt_23 : decode cX3_byteAt 23 = .ok (.iand, 1) := by decide +kernel
theorem dX3_byteAt_24 : decode cX3_byteAt 24 = .ok (.goto 4, 3) := by decide +kernel
theorem dX3_byteAt_27 : decode cX3_byteAt 27 = .ok (.iconst (-1), 1) := by decide +kernel
theorem dX3_byteAt_28 : decode cX3_byteAt 28 = .ok (.ireturn, 1) := by decide +kernel
theorem dX3_addWord_0 : decode cX3_addWord 0 = .ok (.bipush 24, 2) := by decide +kernel
theorem dX3_addWord_2 : decode cX3_addWord 2 = .ok (.istore_n 2, 1) := by decide +kernel
theorem dX3_addWord_3 : decode cX3_addWord 3 = .ok (.iload_n 2, 1) := by decide +kernel
theorem dX3_addWord_4 : decode cX3_addWord 4 = .ok (.ifCond .lt 42, 3) := by decide +kernel
theorem dX3_addWord_7 : decode cX3_addWord 7 = .ok (.aload_n 0, 1) := by decide +kernel
theorem dX3_addWord_8 : decode cX3_addWord 8 = .ok (.getfield 15, 3) := by decide +kernel
theorem dX3_addWord_11 : decode cX3_addWord 11 = .ok (.sipush 200, 3) := by decide +kernel
theorem dX3_addWord_14 : decode cX3_addWord 14 = .ok (.if_icmp .ge 32, 3) := by decide +kernel
theorem dX3_addWord_17 : decode cX3_addWord 17 = .ok (.aload_n 0, 1) := by decide +kernel
theorem dX3_addWord_18 : decode cX3_addWord 18 = .ok (.getfield 9, 3) := by decide +kernel
theorem dX3_addWord_21 : decode cX3_addWord 21 = .ok (.aload_n 0, 1) := by decide +kernel
theorem dX3_addWord_22 : decode cX3_addWord 22 = .ok (.getfield 15, 3) := by decide +kernel
theorem dX3_addWord_25 : decode cX3_addWord 25 = .ok (.iload_n 1, 1) := by decide +kernel
theorem dX3_addWord_26 : decode cX3_addWord 26 = .ok (.iload_n 2, 1) := by decide +kernel
theorem dX3_addWord_27 : decode cX3_addWord 27 = .ok (.ishr, 1) := by decide +kernel
theorem dX3_addWord_28 : decode cX3_addWord 28 = .ok (.i2b, 1) := by decide +kernel
theorem dX3_addWord_29 : decode cX3_addWord 29 = .ok (.bastore, 1) := by decide +kernel
theorem dX3_addWord_30 : decode cX3_addWord 30 = .ok (.aload_n 0, 1) := by decide +kernel
theorem dX3_addWord_31 : decode cX3_addWord 31 = .ok (.dup, 1) := by decide +kernel
theorem dX3_addWord_32 : decode cX3_addWord 32 = .ok (.getfield 15, 3) := by decide +kernel
theorem dX3_addWord_35 : decode cX3_addWord 35 = .ok (.iconst 1, 1) := by decide +kernel
theorem dX3_addWord_36 : decode cX3_addWord 36 = .ok (.iadd, 1) := by decide +kernel
theorem dX3_addWord_37 : decode cX3_addWord 37 = .ok (.putfield 15, 3) := by decide +kernel
theorem dX3_addWord_40 : decode cX3_addWord 40 = .ok (.iinc 2 (-8), 3) := by decide +kernel
theorem dX3_addWord_43 : decode cX3_addWord 43 = .ok (.goto (-40), 3) := by decide +kernel
theorem dX3_addWord_46 : decode cX3_addWord 46 = .ok (.return_, 1) := by decide +kernel
theorem dX3_cutTo_0 : decode cX3_cutTo 0 = .ok (.aload_n 0, 1) := by decide +kernel
theorem dX3_cutTo_1 : decode cX3_cutTo 1 = .ok (.iload_n 1, 1) := by decide +kernel
theorem dX3_cutTo_2 : decode cX3_cutTo 2 = .ok (.putfield 15, 3) := by decide +kernel
theorem dX3_cutTo_5 : decode cX3_cutTo 5 = .ok (.return_, 1) := by decide +kernel
theorem dX4_init_0 : decode cX4_init 0 = .ok (.aload_n 0, 1) := by decide +kernel
theorem dX4_init_1 : decode cX4_init 1 = .ok (.invokespecial 3, 3) := by decide +kernel
theorem dX4_init_4 : decode cX4_init 4 = .ok (.aload_n 0, 1) := by decide +kernel
theorem dX4_init_5 : decode cX4_init 5 = .ok (.bipush 6, 2) := by decide +kernel
theorem dX4_init_7 : decode cX4_init 7 = .ok (.newarray .int, 2) := by decide +kernel
theorem dX4_init_9 : decode cX4_init 9 = .ok (.putfield 9, 3) := by decide +kernel
theorem dX4_init_12 : decode cX4_init 12 = .ok (.aload_n 0, 1) := by decide +kernel
theorem dX4_init_13 : decode cX4_init 13 = .ok (.bipush 6, 2) := by decide +kernel
theorem dX4_init_15 : decode cX4_init 15 = .ok (.newarray .int, 2) := by decide +kernel
theorem dX4_init_17 : decode cX4_init 17 = .ok (.putfield 15, 3) := by decide +kernel
theorem dX4_init_20 : decode cX4_init 20 = .ok (.aload_n 0, 1) := by decide +kernel
theorem dX4_init_21 : decode cX4_init 21 = .ok (.bipush 120, 2) := by decide +kernel
theorem dX4_init_23 : decode cX4_init 23 = .ok (.newarray .int, 2) := by decide +kernel
theorem dX4_init_25 : decode cX4_init 25 = .ok (.putfield 18, 3) := by decide +kernel
theorem dX4_init_28 : decode cX4_init 28 = .ok (.aload_n 0, 1) := by decide +kernel
theorem dX4_init_29 : decode cX4_init 29 = .ok (.getfield 18, 3) := by decide +kernel
theorem dX4_init_32 : decode cX4_init 32 = .ok (.iconst (-1), 1) := by decide +kernel
theorem dX4_init_33 : decode cX4_init 33 = .ok (.invokestatic 21, 3) := by decide +kernel
theorem dX4_init_36 : decode cX4_init 36 = .ok (.return_, 1) := by decide +kernel
theorem dX4_tollOf_0 : decode cX4_tollOf 0 = .ok (.aload_n 0, 1) := by decide +kernel
theorem dX4_tollOf_1 : decode cX4_tollOf 1 = .ok (.getfield 9, 3) := by decide +kernel
theorem dX4_tollOf_4 : decode cX4_tollOf 4 = .ok (.iload_n 1, 1) := by decide +kernel
theorem dX4_tollOf_5 : decode cX4_tollOf 5 = .ok (.iaload, 1) := by decide +kernel
theorem dX4_tollOf_6 : decode cX4_tollOf 6 = .ok (.ireturn, 1) := by decide +kernel
theorem dX4_againOf_0 : decode cX4_againOf 0 = .ok (.aload_n 0, 1) := by decide +kernel
theorem dX4_againOf_1 : decode cX4_againOf 1 = .ok (.getfield 15, 3) := by decide +kernel
theorem dX4_againOf_4 : decode cX4_againOf 4 = .ok (.iload_n 1, 1) := by decide +kernel
theorem dX4_againOf_5 : decode cX4_againOf 5 = .ok (.iaload, 1) := by decide +kernel
theorem dX4_againOf_6 : decode cX4_againOf 6 = .ok (.ireturn, 1) := by decide +kernel
theorem dX4_latestMinute_0 : decode cX4_latestMinute 0 = .ok (.aload_n 0, 1) := by decide +kernel
theorem dX4_latestMinute_1 : decode cX4_latestMinute 1 = .ok (.getfield 27, 3) := by decide +kernel
theorem dX4_latestMinute_4 : decode cX4_latestMinute 4 = .ok (.ireturn, 1) := by decide +kernel
theorem dX4_paidTogether_0 : decode cX4_paidTogether 0 = .ok (.aload_n 0, 1) := by decide +kernel
theorem dX4_paidTogether_1 : decode cX4_paidTogether 1 = .ok (.getfield 31, 3) := by decide +kernel
theorem dX4_paidTogether_4 : decode cX4_paidTogether 4 = .ok (.ireturn, 1) := by decide +kernel
theorem dX4_wentFree_0 : decode cX4_wentFree 0 = .ok (.aload_n 0, 1) := by decide +kernel
theorem dX4_wentFree_1 : decode cX4_wentFree 1 = .ok (.getfield 34, 3) := by decide +kernel
theorem dX4_wentFree_4 : decode cX4_wentFree 4 = .ok (.ireturn, 1) := by decide +kernel
theorem dX4_adopt_0 : decode cX4_adopt 0 = .ok (.iconst 0, 1) := by decide +kernel
theorem dX4_adopt_1 : decode cX4_adopt 1 = .ok (.istore_n 2, 1) := by decide +kernel
theorem dX4_adopt_2 : decode cX4_adopt 2 = .ok (.iload_n 2, 1) := by decide +kernel
theorem dX4_adopt_3 : decode cX4_adopt 3 = .ok (.bipush 6, 2) := by decide +kernel
theorem dX4_adopt_5 : decode cX4_adopt 5 = .ok (.if_icmp .ge 31, 3) := by decide +kernel
theorem dX4_adopt_8 : decode cX4_adopt 8 = .ok (.aload_n 0, 1) := by decide +kernel
theorem dX4_adopt_9 : decode cX4_adopt 9 = .ok (.getfield 9, 3) := by decide +kernel
theorem dX4_adopt_12 : decode cX4_adopt 12 = .ok (.iload_n 2, 1) := by decide +kernel
theorem dX4_adopt_13 : decode cX4_adopt 13 = .ok (.aload_n 1, 1) := by decide +kernel
theorem dX4_adopt_14 : decode cX4_adopt 14 = .ok (.iload_n 2, 1) := by decide +kernel
theorem dX4_adopt_15 : decode cX4_adopt 15 = .ok (.invokevirtual 37, 3) := by decide +kernel
theorem dX4_adopt_18 : decode cX4_adopt 18 = .ok (.iastore, 1) := by decide +kernel
theorem dX4_adopt_19 : decode cX4_adopt 19 = .ok (.aload_n 0, 1) := by decide +kernel
theorem dX4_adopt_20 : decode cX4_adopt 20 = .ok (.getfield 15, 3) := by decide +kernel
theorem dX4_adopt_23 : decode cX4_adopt 23 = .ok (.iload_n 2, 1) := by decide +kernel
theorem dX4_adopt_24 : decode cX4_adopt 24 = .ok (.aload_n 1, 1) := by decide +kernel
theorem dX4_adopt_25 : decode cX4_adopt 25 = .ok (.iload_n 2, 1) := by decide +kernel
theorem dX4_adopt_26 : decode cX4_adopt 26 = .ok (.invokevirtual 43, 3) := by decide +kernel
theorem dX4_adopt_29 : decode cX4_adopt 29 = .ok (.iastore, 1) := by decide +kernel
theorem dX4_adopt_30 : decode cX4_adopt 30 = .ok (.iinc 2 1, 3) := by decide +kernel
theorem dX4_adopt_33 : decode cX4_adopt 33 = .ok (.goto (-31), 3) := by decide +kernel
theorem dX4_adopt_36 : decode cX4_adopt 36 = .ok (.return_, 1) := by decide +kernel
theorem dX4_charge_0 : decode cX4_charge 0 = .ok (.aload_n 0, 1) := by decide +kernel
theorem dX4_charge_1 : decode cX4_charge 1 = .ok (.iload_n 3, 1) := by decide +kernel
theorem dX4_charge_2 : decode cX4_charge 2 = .ok (.putfield 27, 3) := by decide +kernel
theorem dX4_charge_5 : decode cX4_charge 5 = .ok (.iload_n 2, 1) := by decide +kernel
theorem dX4_charge_6 : decode cX4_charge 6 = .ok (.bipush 6, 2) := by decide +kernel
theorem dX4_charge_8 : decode cX4_charge 8 = .ok (.imul, 1) := by decide +kernel
theorem dX4_charge_9 : decode cX4_charge 9 = .ok (.iload_n 1, 1) := by decide +kernel
theorem dX4_charge_10 : decode cX4_charge 10 = .ok (.iadd, 1) := by decide +kernel
theorem dX4_charge_11 : decode cX4_charge 11 = .ok (.istore 4, 2) := by decide +kernel
theorem dX4_charge_13 : decode cX4_charge 13 = .ok (.aload_n 0, 1) := by decide +kernel
theorem dX4_charge_14 : decode cX4_charge 14 = .ok (.iload_n 1, 1) := by decide +kernel
theorem dX4_charge_15 : decode cX4_charge 15 = .ok (.iload 4, 2) := by decide +kernel
theorem dX4_charge_17 : decode cX4_charge 17 = .ok (.iload_n 3, 1) := by decide +kernel
theorem dX4_charge_18 : decode cX4_charge 18 = .ok (.invokevirtual 46, 3) := by decide +kernel
theorem dX4_charge_21 : decode cX4_charge 21 = .ok (.ifCond .eq 23, 3) := by decide +kernel
theorem dX4_charge_24 : decode cX4_charge 24 = .ok (.aload_n 0, 1) := by decide +kernel
theorem dX4_charge_25 : decode cX4_charge 25 = .ok (.getfield 18, 3) := by decide +kernel
theorem dX4_charge_28 : decode cX4_charge 28 = .ok (.iload 4, 2) := by decide +kernel
theorem dX4_charge_30 : decode cX4_charge 30 = .ok (.iconst (-1), 1) := by decide +kernel
theorem dX4_charge_31 : decode cX4_charge 31 = .ok (.iastore, 1) := by decide +kernel
theorem dX4_charge_32 : decode cX4_charge 32 = .ok (.aload_n 0, 1) := by decide +kernel
theorem dX4_charge_33 : decode cX4_charge 33 = .ok (.dup, 1) := by decide +kernel
theorem dX4_charge_34 : decode cX4_charge 34 = .ok (.getfield 34, 3) := by decide +kernel
theorem dX4_charge_37 : decode cX4_charge 37 = .ok (.iconst 1, 1) := by decide +kernel
theorem dX4_charge_38 : decode cX4_charge 38 = .ok (.iadd, 1) := by decide +kernel
theorem dX4_charge_39 : decode cX4_charge 39 = .ok (.putfield 34, 3) := by decide +kernel
theorem dX4_charge_42 : decode cX4_charge 42 = .ok (.iconst 0, 1) := by decide +kernel
theorem dX4_charge_43 : decode cX4_charge 43 = .ok (.ireturn, 1) := by decide +kernel
theorem dX4_charge_44 : decode cX4_charge 44 = .ok (.aload_n 0, 1) := by decide +kernel
theorem dX4_charge_45 : decode cX4_charge 45 = .ok (.getfield 9, 3) := by decide +kernel
theorem dX4_charge_48 : decode cX4_charge 48 = .ok (.iload_n 1, 1) := by decide +kernel
theorem dX4_charge_49 : decode cX4_charge 49 = .ok (.iaload, 1) := by decide +kernel
theorem dX4_charge_50 : decode cX4_charge 50 = .ok (.ifCond .le 26, 3) := by decide +kernel
theorem dX4_charge_53 : decode cX4_charge 53 = .ok (.aload_n 0, 1) := by decide +kernel
theorem dX4_charge_54 : decode cX4_charge 54 = .ok (.getfield 18, 3) := by decide +kernel
theorem dX4_charge_57 : decode cX4_charge 57 = .ok (.iload 4, 2) := by decide +kernel
theorem dX4_charge_59 : decode cX4_charge 59 = .ok (.iload_n 3, 1) := by decide +kernel
theorem dX4_charge_60 : decode cX4_charge 60 = .ok (.iastore, 1) := by decide +kernel
theorem dX4_charge_61 : decode cX4_charge 61 = .ok (.aload_n 0, 1) := by decide +kernel
theorem dX4_charge_62 : decode cX4_charge 62 = .ok (.dup, 1) := by decide +kernel
theorem dX4_charge_63 : decode cX4_charge 63 = .ok (.getfield 31, 3) := by decide +kernel
theorem dX4_charge_66 : decode cX4_charge 66 = .ok (.aload_n 0, 1) := by decide +kernel
theorem dX4_charge_67 : decode cX4_charge 67 = .ok (.getfield 9, 3) := by decide +kernel
theorem dX4_charge_70 : decode cX4_charge 70 = .ok (.iload_n 1, 1) := by decide +kernel
theorem dX4_charge_71 : decode cX4_charge 71 = .ok (.iaload, 1) := by decide +kernel
theorem dX4_charge_72 : decode cX4_charge 72 = .ok (.iadd, 1) := by decide +kernel
theorem dX4_charge_73 : decode cX4_charge 73 = .ok (.putfield 31, 3) := by decide +kernel
theorem dX4_charge_76 : decode cX4_charge 76 = .ok (.aload_n 0, 1) := by decide +kernel
theorem dX4_charge_77 : decode cX4_charge 77 = .ok (.getfield 9, 3) := by decide +kernel
theorem dX4_charge_80 : decode cX4_charge 80 = .ok (.iload_n 1, 1) := by decide +kernel
theorem dX4_charge_81 : decode cX4_charge 81 = .ok (.iaload, 1) := by decide +kernel
theorem dX4_charge_82 : decode cX4_charge 82 = .ok (.ireturn, 1) := by decide +kernel
theorem dX4_goesFree_0 : decode cX4_goesFree 0 = .ok (.aload_n 0, 1) := by decide +kernel
theorem dX4_goesFree_1 : decode cX4_goesFree 1 = .ok (.getfield 15, 3) := by decide +kernel
theorem dX4_goesFree_4 : decode cX4_goesFree 4 = .ok (.iload_n 1, 1) := by decide +kernel
theorem dX4_goesFree_5 : decode cX4_goesFree 5 = .ok (.iaload, 1) := by decide +kernel
theorem dX4_goesFree_6 : decode cX4_goesFree 6 = .ok (.ifCond .le 34, 3) := by decide +kernel
theorem dX4_goesFree_9 : decode cX4_goesFree 9 = .ok (.aload_n 0, 1) := by decide +kernel
theorem dX4_goesFree_10 : decode cX4_goesFree 10 = .ok (.getfield 18, 3) := by decide +kernel
theorem dX4_goesFree_13 : decode cX4_goesFree 13 = .ok (.iload_n 2, 1) := by decide +kernel
theorem dX4_goesFree_14 : decode cX4_goesFree 14 = .ok (.iaload, 1) := by decide +kernel
theorem dX4_goesFree_15 : decode cX4_goesFree 15 = .ok (.iconst (-1), 1) := by decide +kernel
theorem dX4_goesFree_16 : decode cX4_goesFree 16 = .ok (.if_icmp .eq 24, 3) := by decide +kernel
theorem dX4_goesFree_19 : decode cX4_goesFree 19 = .ok (.iload_n 3, 1) := by decide +kernel
theorem dX4_goesFree_20 : decode cX4_goesFree 20 = .ok (.aload_n 0, 1) := by decide +kernel
theorem dX4_goesFree_21 : decode cX4_goesFree 21 = .ok (.getfield 18, 3) := by decide +kernel
theorem dX4_goesFree_24 : decode cX4_goesFree 24 = .ok (.iload_n 2, 1) := by decide +kernel
theorem dX4_goesFree_25 : decode cX4_goesFree 25 = .ok (.iaload, 1) := by decide +kernel
theorem dX4_goesFree_26 : decode cX4_goesFree 26 = .ok (.isub, 1) := by decide +kernel
theorem dX4_goesFree_27 : decode cX4_goesFree 27 = .ok (.aload_n 0, 1) := by decide +kernel
theorem dX4_goesFree_28 : decode cX4_goesFree 28 = .ok (.getfield 15, 3) := by decide +kernel
theorem dX4_goesFree_31 : decode cX4_goesFree 31 = .ok (.iload_n 1, 1) := by decide +kernel
theorem dX4_goesFree_32 : decode cX4_goesFree 32 = .ok (.iaload, 1) := by decide +kernel
theorem dX4_goesFree_33 : decode cX4_goesFree 33 = .ok (.if_icmp .gt 7, 3) := by decide +kernel
theorem dX4_goesFree_36 : decode cX4_goesFree 36 = .ok (.iconst 1, 1) := by decide +kernel
theorem dX4_goesFree_37 : decode cX4_goesFree 37 = .ok (.goto 4, 3) := by decide +kernel
theorem dX4_goesFree_40 : decode cX4_goesFree 40 = .ok (.iconst 0, 1) := by decide +kernel
theorem dX4_goesFree_41 : decode cX4_goesFree 41 = .ok (.ireturn, 1) := by decide +kernel
theorem dX5_init_0 : decode cX5_init 0 = .ok (.aload_n 0, 1) := by decide +kernel
theorem dX5_init_1 : decode cX5_init 1 = .ok (.invokespecial 3, 3) := by decide +kernel
theorem dX5_init_4 : decode cX5_init 4 = .ok (.aload_n 0, 1) := by decide +kernel
theorem dX5_init_5 : decode cX5_init 5 = .ok (.bipush 6, 2) := by decide +kernel
theorem dX5_init_7 : decode cX5_init 7 = .ok (.newarray .int, 2) := by decide +kernel
theorem dX5_init_9 : decode cX5_init 9 = .ok (.putfield 9, 3) := by decide +kernel
theorem dX5_init_12 : decode cX5_init 12 = .ok (.aload_n 0, 1) := by decide +kernel
theorem dX5_init_13 : decode cX5_init 13 = .ok (.bipush 6, 2) := by decide +kernel
theorem dX5_init_15 : decode cX5_init 15 = .ok (.newarray .int, 2) := by decide +kernel
theorem dX5_init_17 : decode cX5_init 17 = .ok (.putfield 15, 3) := by decide +kernel
theorem dX5_init_20 : decode cX5_init 20 = .ok (.aload_n 0, 1) := by decide +kernel
theorem dX5_init_21 : decode cX5_init 21 = .ok (.iconst (-1), 1) := by decide +kernel
theorem dX5_init_22 : decode cX5_init 22 = .ok (.putfield 18, 3) := by decide +kernel
theorem dX5_init_25 : decode cX5_init 25 = .ok (.aload_n 0, 1) := by decide +kernel
theorem dX5_init_26 : decode cX5_init 26 = .ok (.iconst (-1), 1) := by decide +kernel
theorem dX5_init_27 : decode cX5_init 27 = .ok (.putfield 22, 3) := by decide +kernel
theorem dX5_init_30 : decode cX5_init 30 = .ok (.return_, 1) := by decide +kernel
theorem dX5_clauseCount_0 : decode cX5_clauseCount 0 = .ok (.aload_n 0, 1) := by decide +kernel
theorem dX5_clauseCount_1 : decode cX5_clauseCount 1 = .ok (.getfield 25, 3) := by decide +kernel
theorem dX5_clauseCount_4 : decode cX5_clauseCount 4 = .ok (.ireturn, 1) := by decide +kernel
theorem dX5_faultNumber_0 : decode cX5_faultNumber 0 = .ok (.aload_n 0, 1) := by decide +kernel
theorem dX5_faultNumber_1 : decode cX5_faultNumber 1 = .ok (.getfield 18, 3) := by decide +kernel
theorem dX5_faultNumber_4 : decode cX5_faultNumber 4 = .ok (.ireturn, 1) := by decide +kernel
theorem dX5_faultAt_0 : decode cX5_faultAt 0 = .ok (.aload_n 0, 1) := by decide +kernel
theorem dX5_faultAt_1 : decode cX5_faultAt 1 = .ok (.getfield 22, 3) := by decide +kernel
theorem dX5_faultAt_4 : decode cX5_faultAt 4 = .ok (.ireturn, 1) := by decide +kernel
theorem dX5_readToll_0 : decode cX5_readToll 0 = .ok (.iconst 0, 1) := by decide +kernel
theorem dX5_readToll_1 : decode cX5_readToll 1 = .ok (.aload_n 0, 1) := by decide +kernel
theorem dX5_readToll_2 : decode cX5_readToll 2 = .ok (.getfield 9, 3) := by decide +kernel
theorem dX5_readToll_5 : decode cX5_readToll 5 = .ok (.iload_n 1, 1) := by decide +kernel
theorem dX5_readToll_6 : decode cX5_readToll 6 = .ok (.iaload, 1) := by decide +kernel
theorem dX5_readToll_7 : decode cX5_readToll 7 = .ok (.invokestatic 28, 3) := by decide +kernel
theorem dX5_readToll_10 : decode cX5_readToll 10 = .ok (.ireturn, 1) := by decide +kernel
theorem dX5_readAgain_0 : decode cX5_readAgain 0 = .ok (.iconst 0, 1) := by decide +kernel
theorem dX5_readAgain_1 : decode cX5_readAgain 1 = .ok (.aload_n 0, 1) := by decide +kernel
theorem dX5_readAgain_2 : decode cX5_readAgain 2 = .ok (.getfield 15, 3) := by decide +kernel
theorem dX5_readAgain_5 : decode cX5_readAgain 5 = .ok (.iload_n 1, 1) := by decide +kernel
theorem dX5_readAgain_6 : decode cX5_readAgain 6 = .ok (.iaload, 1) := by decide +kernel
theorem dX5_readAgain_7 : decode cX5_readAgain 7 = .ok (.invokestatic 28, 3) := by decide +kernel
theorem dX5_readAgain_10 : decode cX5_readAgain 10 = .ok (.ireturn, 1) := by decide +kernel
theorem dX5_read_0 : decode cX5_read 0 = .ok (.aload_n 0, 1) := by decide +kernel
theorem dX5_read_1 : decode cX5_read 1 = .ok (.invokevirtual 34, 3) := by decide +kernel
theorem dX5_read_4 : decode cX5_read 4 = .ok (.iconst 0, 1) := by decide +kernel
theorem dX5_read_5 : decode cX5_read 5 = .ok (.istore_n 2, 1) := by decide +kernel
theorem dX5_read_6 : decode cX5_read 6 = .ok (.iload_n 2, 1) := by decide +kernel
theorem dX5_read_7 : decode cX5_read 7 = .ok (.aload_n 1, 1) := by decide +kernel
theorem dX5_read_8 : decode cX5_read 8 = .ok (.invokevirtual 37, 3) := by decide +kernel
theorem dX5_read_11 : decode cX5_read 11 = .ok (.if_icmp .gt 54, 3) := by decide +kernel
theorem dX5_read_14 : decode cX5_read 14 = .ok (.aload_n 0, 1) := by decide +kernel
theorem dX5_read_15 : decode cX5_read 15 = .ok (.aload_n 1, 1) := by decide +kernel
theorem dX5_read_16 : decode cX5_read 16 = .ok (.invokevirtual 43, 3) := by decide +kernel
theorem dX5_read_19 : decode cX5_read 19 = .ok (.aload_n 0, 1) := by decide +kernel
theorem dX5_read_20 : decode cX5_read 20 = .ok (.getfield 47, 3) := by decide +kernel
theorem dX5_read_23 : decode cX5_read 23 = .ok (.ifCond .ne 12, 3) := by decide +kernel
theorem dX5_read_26 : decode cX5_read 26 = .ok (.aload_n 0, 1) := by decide +kernel
theorem dX5_read_27 : decode cX5_read 27 = .ok (.getfield 50, 3) := by decide +kernel
theorem dX5_read_30 : decode cX5_read 30 = .ok (.ifCond .ne 5, 3) := by decide +kernel
theorem dX5_read_33 : decode cX5_read 33 = .ok (.iconst 1, 1) := by decide +kernel
theorem dX5_read_34 : decode cX5_read 34 = .ok (.ireturn, 1) := by decide +kernel
theorem dX5_read_35 : decode cX5_read 35 = .ok (.aload_n 0, 1) := by decide +kernel
theorem dX5_read_36 : decode cX5_read 36 = .ok (.invokevirtual 53, 3) := by decide +kernel
theorem dX5_read_39 : decode cX5_read 39 = .ok (.istore_n 3, 1) := by decide +kernel
theorem dX5_read_40 : decode cX5_read 40 = .ok (.iload_n 3, 1) := by decide +kernel
theorem dX5_read_41 : decode cX5_read 41 = .ok (.ifCond .eq 18, 3) := by decide +kernel
theorem dX5_read_44 : decode cX5_read 44 = .ok (.aload_n 0, 1) := by decide +kernel
theorem dX5_read_45 : decode cX5_read 45 = .ok (.iload_n 3, 1) := by decide +kernel
theorem dX5_read_46 : decode cX5_read 46 = .ok (.putfield 18, 3) := by decide +kernel
theorem dX5_read_49 : decode cX5_read 49 = .ok (.aload_n 0, 1) := by decide +kernel
theorem dX5_read_50 : decode cX5_read 50 = .ok (.aload_n 0, 1) := by decide +kernel
theorem dX5_read_51 : decode cX5_read 51 = .ok (.getfield 56, 3) := by decide +kernel
theorem dX5_read_54 : decode cX5_read 54 = .ok (.putfield 22, 3) := by decide +kernel
theorem dX5_read_57 : decode cX5_read 57 = .ok (.iconst 0, 1) := by decide +kernel
theorem dX5_read_58 : decode cX5_read 58 = .ok (.ireturn, 1) := by decide +kernel
theorem dX5_read_59 : decode cX5_read 59 = .ok (.iinc 2 1, 3) := by decide +kernel
theorem dX5_read_62 : decode cX5_read 62 = .ok (.goto (-56), 3) := by decide +kernel
theorem dX5_read_65 : decode cX5_read 65 = .ok (.iconst 1, 1) := by decide +kernel
theorem dX5_read_66 : decode cX5_read 66 = .ok (.ireturn, 1) := by decide +kernel
theorem dX5_begin_0 : decode cX5_begin 0 = .ok (.aload_n 0, 1) := by decide +kernel
theorem dX5_begin_1 : decode cX5_begin 1 = .ok (.getfield 9, 3) := by decide +kernel
theorem dX5_begin_4 : decode cX5_begin 4 = .ok (.iconst (-1), 1) := by decide +kernel
theorem dX5_begin_5 : decode cX5_begin 5 = .ok (.invokestatic 59, 3) := by decide +kernel
theorem dX5_begin_8 : decode cX5_begin 8 = .ok (.aload_n 0, 1) := by decide +kernel
theorem dX5_begin_9 : decode cX5_begin 9 = .ok (.getfield 15, 3) := by decide +kernel
theorem dX5_begin_12 : decode cX5_begin 12 = .ok (.iconst (-1), 1) := by decide +kernel
theorem dX5_begin_13 : decode cX5_begin 13 = .ok (.invokestatic 59, 3) := by decide +kernel
theorem dX5_begin_16 : decode cX5_begin 16 = .ok (.aload_n 0, 1) := by decide +kernel
theorem dX5_begin_17 : decode cX5_begin 17 = .ok (.iconst 0, 1) := by decide +kernel
theorem dX5_begin_18 : decode cX5_begin 18 = .ok (.putfield 25, 3) := by decide +kernel
theorem dX5_begin_21 : decode cX5_begin 21 = .ok (.aload_n 0, 1) := by decide +kernel
theorem dX5_begin_22 : decode cX5_begin 22 = .ok (.iconst 0, 1) := by decide +kernel
theorem dX5_begin_23 : decode cX5_begin 23 = .ok (.putfield 18, 3) := by decide +kernel
theorem dX5_begin_26 : decode cX5_begin 26 = .ok (.aload_n 0, 1) := by decide +kernel
theorem dX5_begin_27 : decode cX5_begin 27 = .ok (.iconst (-1), 1) := by decide +kernel
theorem dX5_begin_28 : decode cX5_begin 28 = .ok (.putfield 22, 3) := by decide +kernel
theorem dX5_begin_31 : decode cX5_begin 31 = .ok (.aload_n 0, 1) := by decide +kernel
theorem dX5_begin_32 : decode cX5_begin 32 = .ok (.iconst 0, 1) := by decide +kernel
theorem dX5_begin_33 : decode cX5_begin 33 = .ok (.putfield 65, 3) := by decide +kernel
theorem dX5_begin_36 : decode cX5_begin 36 = .ok (.aload_n 0, 1) := by decide +kernel
theorem dX5_begin_37 : decode cX5_begin 37 = .ok (.iconst 0, 1) := by decide +kernel
theorem dX5_begin_38 : decode cX5_begin 38 = .ok (.putfield 50, 3) := by decide +kernel
theorem dX5_begin_41 : decode cX5_begin 41 = .ok (.return_, 1) := by decide +kernel
theorem dX5_nextToken_0 : decode cX5_nextToken 0 = .ok (.aload_n 0, 1) := by decide +kernel
theorem dX5_nextToken_1 : decode cX5_nextToken 1 = .ok (.getfield 65, 3) := by decide +kernel
theorem dX5_nextToken_4 : decode cX5_nextToken 4 = .ok (.aload_n 1, 1) := by decide +kernel
theorem dX5_nextToken_5 : decode cX5_nextToken 5 = .ok (.invokevirtual 37, 3) := by decide +kernel
theorem dX5_nextToken_8 : decode cX5_nextToken 8 = .ok (.if_icmp .ge 29, 3) := by decide +kernel
theorem dX5_nextToken_11 : decode cX5_nextToken 11 = .ok (.aload_n 1, 1) := by decide +kernel
theorem dX5_nextToken_12 : decode cX5_nextToken 12 = .ok (.aload_n 0, 1) := by decide +kernel
theorem dX5_nextToken_13 : decode cX5_nextToken 13 = .ok (.getfield 65, 3) := by decide +kernel
theorem dX5_nextToken_16 : decode cX5_nextToken 16 = .ok (.invokevirtual 68, 3) := by decide +kernel
theorem dX5_nextToken_19 : decode cX5_nextToken 19 = .ok (.bipush 32, 2) := by decide +kernel
theorem dX5_nextToken_21 : decode cX5_nextToken 21 = .ok (.if_icmp .ne 16, 3) := by decide +kernel
theorem dX5_nextToken_24 : decode cX5_nextToken 24 = .ok (.aload_n 0, 1) := by decide +kernel
theorem dX5_nextToken_25 : decode cX5_nextToken 25 = .ok (.dup, 1) := by decide +kernel
theorem dX5_nextToken_26 : decode cX5_nextToken 26 = .ok (.getfield 65, 3) := by decide +kernel
theorem dX5_nextToken_29 : decode cX5_nextToken 29 = .ok (.iconst 1, 1) := by decide +kernel
theorem dX5_nextToken_30 : decode cX5_nextToken 30 = .ok (.iadd, 1) := by decide +kernel
theorem dX5_nextToken_31 : decode cX5_nextToken 31 = .ok (.putfield 65, 3) := by decide +kernel
theorem dX5_nextToken_34 : decode cX5_nextToken 34 = .ok (.goto (-34), 3) := by decide +kernel
theorem dX5_nextToken_37 : decode cX5_nextToken 37 = .ok (.aload_n 0, 1) := by decide +kernel
theorem dX5_nextToken_38 : decode cX5_nextToken 38 = .ok (.aload_n 0, 1) := by decide +kernel
theorem dX5_nextToken_39 : decode cX5_nextToken 39 = .ok (.getfield 65, 3) := by decide +kernel
theorem dX5_nextToken_42 : decode cX5_nextToken 42 = .ok (.putfield 56, 3) := by decide +kernel
theorem dX5_nextToken_45 : decode cX5_nextToken 45 = .ok (.aload_n 1, 1) := by decide +kernel
theorem dX5_nextToken_46 : decode cX5_nextToken 46 = .ok (.aload_n 0, 1) := by decide +kernel
theorem dX5_nextToken_47 : decode cX5_nextToken 47 = .ok (.getfield 65, 3) := by decide +kernel
theorem dX5_nextToken_50 : decode cX5_nextToken 50 = .ok (.invokevirtual 68, 3) := by decide +kernel
theorem dX5_nextToken_53 : decode cX5_nextToken 53 = .ok (.istore_n 2, 1) := by decide +kernel
theorem dX5_nextToken_54 : decode cX5_nextToken 54 = .ok (.aload_n 0, 1) := by decide +kernel
theorem dX5_nextToken_55 : decode cX5_nextToken 55 = .ok (.getfield 65, 3) := by decide +kernel
theorem dX5_nextToken_58 : decode cX5_nextToken 58 = .ok (.aload_n 1, 1) := by decide +kernel
theorem dX5_nextToken_59 : decode cX5_nextToken 59 = .ok (.invokevirtual 37, 3) := by decide +kernel
theorem dX5_nextToken_62 : decode cX5_nextToken 62 = .ok (.if_icmp .lt 11, 3) := by decide +kernel
theorem dX5_nextToken_65 : decode cX5_nextToken 65 = .ok (.aload_n 0, 1) := by decide +kernel
theorem dX5_nextToken_66 : decode cX5_nextToken 66 = .ok (.iconst 0, 1) := by decide +kernel
theorem dX5_nextToken_67 : decode cX5_nextToken 67 = .ok (.putfield 47, 3) := by decide +kernel
theorem dX5_nextToken_70 : decode cX5_nextToken 70 = .ok (.goto 58, 3) := by decide +kernel
theorem dX5_nextToken_73 : decode cX5_nextToken 73 = .ok (.iload_n 2, 1) := by decide +kernel
theorem dX5_nextToken_74 : decode cX5_nextToken 74 = .ok (.invokestatic 72, 3) := by decide +kernel
theorem dX5_nextToken_77 : decode cX5_nextToken 77 = .ok (.ifCond .eq 11, 3) := by decide +kernel
theorem dX5_nextToken_80 : decode cX5_nextToken 80 = .ok (.aload_n 0, 1) := by decide +kernel
theorem dX5_nextToken_81 : decode cX5_nextToken 81 = .ok (.aload_n 1, 1) := by decide +kernel
theorem dX5_nextToken_82 : decode cX5_nextToken 82 = .ok (.invokevirtual 76, 3) := by decide +kernel
theorem dX5_nextToken_85 : decode cX5_nextToken 85 = .ok (.goto 43, 3) := by decide +kernel
theorem dX5_nextToken_88 : decode cX5_nextToken 88 = .ok (.iload_n 2, 1) := by decide +kernel
theorem dX5_nextToken_89 : decode cX5_nextToken 89 = .ok (.invokestatic 79, 3) := by decide +kernel
theorem dX5_nextToken_92 : decode cX5_nextToken 92 = .ok (.ifCond .eq 11, 3) := by decide +kernel
theorem dX5_nextToken_95 : decode cX5_nextToken 95 = .ok (.aload_n 0, 1) := by decide +kernel
theorem dX5_nextToken_96 : decode cX5_nextToken 96 = .ok (.aload_n 1, 1) := by decide +kernel
theorem dX5_nextToken_97 : decode cX5_nextToken 97 = .ok (.invokevirtual 82, 3) := by decide +kernel
theorem dX5_nextToken_100 : decode cX5_nextToken 100 = .ok (.goto 28, 3) := by decide +kernel
theorem dX5_nextToken_103 : decode cX5_nextToken 103 = .ok (.aload_n 0, 1) := by decide +kernel
theorem dX5_nextToken_104 : decode cX5_nextToken 104 = .ok (.dup, 1) := by decide +kernel
theorem dX5_nextToken_105 : decode cX5_nextToken 105 = .ok (.getfield 65, 3) := by decide +kernel
theorem dX5_nextToken_108 : decode cX5_nextToken 108 = .ok (.iconst 1, 1) := by decide +kernel
theorem dX5_nextToken_109 : decode cX5_nextToken 109 = .ok (.iadd, 1) := by decide +kernel
theorem dX5_nextToken_110 : decode cX5_nextToken 110 = .ok (.putfield 65, 3) := by decide +kernel
theorem dX5_nextToken_113 : decode cX5_nextToken 113 = .ok (.aload_n 0, 1) := by decide +kernel
theorem dX5_nextToken_114 : decode cX5_nextToken 114 = .ok (.iload_n 2, 1) := by decide +kernel
theorem dX5_nextToken_115 : decode cX5_nextToken 115 = .ok (.bipush 59, 2) := by decide +kernel
theorem dX5_nextToken_117 : decode cX5_nextToken 117 = .ok (.if_icmp .ne 7, 3) := by decide +kernel
theorem dX5_nextToken_120 : decode cX5_nextToken 120 = .ok (.iconst 4, 1) := by decide +kernel
theorem dX5_nextToken_121 : decode cX5_nextToken 121 = .ok (.goto 4, 3) := by decide +kernel
theorem dX5_nextToken_124 : decode cX5_nextToken 124 = .ok (.iconst 5, 1) := by decide +kernel
theorem dX5_nextToken_125 : decode cX5_nextToken 125 = .ok (.putfield 47, 3) := by decide +kernel
theorem dX5_nextToken_128 : decode cX5_nextToken 128 = .ok (.return_, 1) := by decide +kernel
theorem dX5_takeDigits_0 : decode cX5_takeDigits 0 = .ok (.aload_n 0, 1) := by decide +kernel
theorem dX5_takeDigits_1 : decode cX5_takeDigits 1 = .ok (.iconst 3, 1) := by decide +kernel
theorem dX5_takeDigits_2 : decode cX5_takeDigits 2 = .ok (.putfield 47, 3) := by decide +kernel
theorem dX5_takeDigits_5 : decode cX5_takeDigits 5 = .ok (.aload_n 0, 1) := by decide +kernel
theorem dX5_takeDigits_6 : decode cX5_takeDigits 6 = .ok (.iconst 0, 1) := by decide +kernel
theorem dX5_takeDigits_7 : decode cX5_takeDigits 7 = .ok (.putfield 85, 3) := by decide +kernel
theorem dX5_takeDigits_10 : decode cX5_takeDigits 10 = .ok (.aload_n 0, 1) := by decide +kernel
theorem dX5_takeDigits_11 : decode cX5_takeDigits 11 = .ok (.getfield 65, 3) := by decide +kernel
theorem dX5_takeDigits_14 : decode cX5_takeDigits 14 = .ok (.aload_n 1, 1) := by decide +kernel
theorem dX5_takeDigits_15 : decode cX5_takeDigits 15 = .ok (.invokevirtual 37, 3) := by decide +kernel
theorem dX5_takeDigits_18 : decode cX5_takeDigits 18 = .ok (.if_icmp .ge 61, 3) := by decide +kernel
theorem dX5_takeDigits_21 : decode cX5_takeDigits 21 = .ok (.aload_n 1, 1) := by decide +kernel
theorem dX5_takeDigits_22 : decode cX5_takeDigits 22 = .ok (.aload_n 0, 1) := by decide +kernel
theorem dX5_takeDigits_23 : decode cX5_takeDigits 23 = .ok (.getfield 65, 3) := by decide +kernel
theorem dX5_takeDigits_26 : decode cX5_takeDigits 26 = .ok (.invokevirtual 68, 3) := by decide +kernel
theorem dX5_takeDigits_29 : decode cX5_takeDigits 29 = .ok (.invokestatic 72, 3) := by decide +kernel
theorem dX5_takeDigits_32 : decode cX5_takeDigits 32 = .ok (.ifCond .eq 47, 3) := by decide +kernel
theorem dX5_takeDigits_35 : decode cX5_takeDigits 35 = .ok (.aload_n 0, 1) := by decide +kernel
theorem dX5_takeDigits_36 : decode cX5_takeDigits 36 = .ok (.getfield 85, 3) := by decide +kernel
theorem dX5_takeDigits_39 : decode cX5_takeDigits 39 = .ok (.bipush 10, 2) := by decide +kernel
theorem dX5_takeDigits_41 : decode cX5_takeDigits 41 = .ok (.imul, 1) := by decide +kernel
theorem dX5_takeDigits_42 : decode cX5_takeDigits 42 = .ok (.aload_n 1, 1) := by decide +kernel
theorem dX5_takeDigits_43 : decode cX5_takeDigits 43 = .ok (.aload_n 0, 1) := by decide +kernel
theorem dX5_takeDigits_44 : decode cX5_takeDigits 44 = .ok (.getfield 65, 3) := by decide +kernel
theorem dX5_takeDigits_47 : decode cX5_takeDigits 47 = .ok (.invokevirtual 68, 3) := by decide +kernel
theorem dX5_takeDigits_50 : decode cX5_takeDigits 50 = .ok (.iadd, 1) := by decide +kernel
theorem dX5_takeDigits_51 : decode cX5_takeDigits 51 = .ok (.bipush 48, 2) := by decide +kernel
theorem dX5_takeDigits_53 : decode cX5_takeDigits 53 = .ok (.isub, 1) := by decide +kernel
theorem dX5_takeDigits_54 : decode cX5_takeDigits 54 = .ok (.istore_n 2, 1) := by decide +kernel
theorem dX5_takeDigits_55 : decode cX5_takeDigits 55 = .ok (.aload_n 0, 1) := by decide +kernel
theorem dX5_takeDigits_56 : decode cX5_takeDigits 56 = .ok (.iload_n 2, 1) := by decide +kernel
theorem dX5_takeDigits_57 : decode cX5_takeDigits 57 = .ok (.sipush 1000, 3) := by decide +kernel
theorem dX5_takeDigits_60 : decode cX5_takeDigits 60 = .ok (.invokestatic 88, 3) := by decide +kernel
theorem dX5_takeDigits_63 : decode cX5_takeDigits 63 = .ok (.putfield 85, 3) := by decide +kernel
theorem dX5_takeDigits_66 : decode cX5_takeDigits 66 = .ok (.aload_n 0, 1) := by decide +kernel
theorem dX5_takeDigits_67 : decode cX5_takeDigits 67 = .ok (.dup, 1) := by decide +kernel
theorem dX5_takeDigits_68 : decode cX5_takeDigits 68 = .ok (.getfield 65, 3) := by decide +kernel
theorem dX5_takeDigits_71 : decode cX5_takeDigits 71 = .ok (.iconst 1, 1) := by decide +kernel
theorem dX5_takeDigits_72 : decode cX5_takeDigits 72 = .ok (.iadd, 1) := by decide +kernel
theorem dX5_takeDigits_73 : decode cX5_takeDigits 73 = .ok (.putfield 65, 3) := by decide +kernel
theorem dX5_takeDigits_76 : decode cX5_takeDigits 76 = .ok (.goto (-66), 3) := by decide +kernel
theorem dX5_takeDigits_79 : decode cX5_takeDigits 79 = .ok (.return_, 1) := by decide +kernel
theorem dX5_takeLetters_0 : decode cX5_takeLetters 0 = .ok (.aload_n 0, 1) := by decide +kernel
theorem dX5_takeLetters_1 : decode cX5_takeLetters 1 = .ok (.getfield 65, 3) := by decide +kernel
theorem dX5_takeLetters_4 : decode cX5_takeLetters 4 = .ok (.aload_n 1, 1) := by decide +kernel
theorem dX5_takeLetters_5 : decode cX5_takeLetters 5 = .ok (.invokevirtual 37, 3) := by decide +kernel
theorem dX5_takeLetters_8 : decode cX5_takeLetters 8 = .ok (.if_icmp .ge 30, 3) := by decide +kernel
theorem dX5_takeLetters_11 : decode cX5_takeLetters 11 = .ok (.aload_n 1, 1) := by decide +kernel
theorem dX5_takeLetters_12 : decode cX5_takeLetters 12 = .ok (.aload_n 0, 1) := by decide +kernel
theorem dX5_takeLetters_13 : decode cX5_takeLetters 13 = .ok (.getfield 65, 3) := by decide +kernel
theorem dX5_takeLetters_16 : decode cX5_takeLetters 16 = .ok (.invokevirtual 68, 3) := by decide +kernel
theorem dX5_takeLetters_19 : decode cX5_takeLetters 19 = .ok (.invokestatic 79, 3) := by decide +kernel
theorem dX5_takeLetters_22 : decode cX5_takeLetters 22 = .ok (.ifCond .eq 16, 3) := by decide +kernel
theorem dX5_takeLetters_25 : decode cX5_takeLetters 25 = .ok (.aload_n 0, 1) := by decide +kernel
theorem dX5_takeLetters_26 : decode cX5_takeLetters 26 = .ok (.dup, 1) := by decide +kernel
theorem dX5_takeLetters_27 : decode cX5_takeLetters 27 = .ok (.getfield 65, 3) := by decide +kernel
theorem dX5_takeLetters_30 : decode cX5_takeLetters 30 = .ok (.iconst 1, 1) := by decide +kernel
theorem dX5_takeLetters_31 : decode cX5_takeLetters 31 = .ok (.iadd, 1) := by decide +kernel
theorem dX5_takeLetters_32 : decode cX5_takeLetters 32 = .ok (.putfield 65, 3) := by decide +kernel
theorem dX5_takeLetters_35 : decode cX5_takeLetters 35 = .ok (.goto (-35), 3) := by decide +kernel
theorem dX5_takeLetters_38 : decode cX5_takeLetters 38 = .ok (.aload_n 0, 1) := by decide +kernel
theorem dX5_takeLetters_39 : decode cX5_takeLetters 39 = .ok (.aload_n 1, 1) := by decide +kernel
theorem dX5_takeLetters_40 : decode cX5_takeLetters 40 = .ok (.ldc 91, 2) := by decide +kernel
theorem dX5_takeLetters_42 : decode cX5_takeLetters 42 = .ok (.invokevirtual 93, 3) := by decide +kernel
theorem dX5_takeLetters_45 : decode cX5_takeLetters 45 = .ok (.ifCond .eq 11, 3) := by decide +kernel
theorem dX5_takeLetters_48 : decode cX5_takeLetters 48 = .ok (.aload_n 0, 1) := by decide +kernel
theorem dX5_takeLetters_49 : decode cX5_takeLetters 49 = .ok (.iconst 1, 1) := by decide +kernel
theorem dX5_takeLetters_50 : decode cX5_takeLetters 50 = .ok (.putfield 47, 3) := by decide +kernel
theorem dX5_takeLetters_53 : decode cX5_takeLetters 53 = .ok (.goto 22, 3) := by decide +kernel
theorem dX5_takeLetters_56 : decode cX5_takeLetters 56 = .ok (.aload_n 0, 1) := by decide +kernel
theorem dX5_takeLetters_57 : decode cX5_takeLetters 57 = .ok (.aload_n 0, 1) := by decide +kernel
theorem dX5_takeLetters_58 : decode cX5_takeLetters 58 = .ok (.aload_n 1, 1) := by decide +kernel
theorem dX5_takeLetters_59 : decode cX5_takeLetters 59 = .ok (.ldc 97, 2) := by decide +kernel
theorem dX5_takeLetters_61 : decode cX5_takeLetters 61 = .ok (.invokevirtual 93, 3) := by decide +kernel
theorem dX5_takeLetters_64 : decode cX5_takeLetters 64 = .ok (.ifCond .eq 7, 3) := by decide +kernel
theorem dX5_takeLetters_67 : decode cX5_takeLetters 67 = .ok (.iconst 2, 1) := by decide +kernel
theorem dX5_takeLetters_68 : decode cX5_takeLetters 68 = .ok (.goto 4, 3) := by decide +kernel
theorem dX5_takeLetters_71 : decode cX5_takeLetters 71 = .ok (.iconst 5, 1) := by decide +kernel
theorem dX5_takeLetters_72 : decode cX5_takeLetters 72 = .ok (.putfield 47, 3) := by decide +kernel
theorem dX5_takeLetters_75 : decode cX5_takeLetters 75 = .ok (.return_, 1) := by decide +kernel
theorem dX5_tokenIs_0 : decode cX5_tokenIs 0 = .ok (.aload_n 0, 1) := by decide +kernel
theorem dX5_tokenIs_1 : decode cX5_tokenIs 1 = .ok (.getfield 65, 3) := by decide +kernel
theorem dX5_tokenIs_4 : decode cX5_tokenIs 4 = .ok (.aload_n 0, 1) := by decide +kernel
theorem dX5_tokenIs_5 : decode cX5_tokenIs 5 = .ok (.getfield 56, 3) := by decide +kernel
theorem dX5_tokenIs_8 : decode cX5_tokenIs 8 = .ok (.isub, 1) := by decide +kernel
theorem dX5_tokenIs_9 : decode cX5_tokenIs 9 = .ok (.aload_n 2, 1) := by decide +kernel
theorem dX5_tokenIs_10 : decode cX5_tokenIs 10 = .ok (.invokevirtual 99, 3) := by decide +kernel
theorem dX5_tokenIs_13 : decode cX5_tokenIs 13 = .ok (.if_icmp .eq 5, 3) := by decide +kernel
theorem dX5_tokenIs_16 : decode cX5_tokenIs 16 = .ok (.iconst 0, 1) := by decide +kernel
theorem dX5_tokenIs_17 : decode cX5_tokenIs 17 = .ok (.ireturn, 1) := by decide +kernel
theorem dX5_tokenIs_18 : decode cX5_tokenIs 18 = .ok (.iconst 0, 1) := by decide +kernel
theorem dX5_tokenIs_19 : decode cX5_tokenIs 19 = .ok (.istore_n 3, 1) := by decide +kernel
theorem dX5_tokenIs_20 : decode cX5_tokenIs 20 = .ok (.iload_n 3, 1) := by decide +kernel
theorem dX5_tokenIs_21 : decode cX5_tokenIs 21 = .ok (.aload_n 2, 1) := by decide +kernel
theorem dX5_tokenIs_22 : decode cX5_tokenIs 22 = .ok (.invokevirtual 99, 3) := by decide +kernel
theorem dX5_tokenIs_25 : decode cX5_tokenIs 25 = .ok (.if_icmp .ge 29, 3) := by decide +kernel
theorem dX5_tokenIs_28 : decode cX5_tokenIs 28 = .ok (.aload_n 1, 1) := by decide +kernel
theorem dX5_tokenIs_29 : decode cX5_tokenIs 29 = .ok (.aload_n 0, 1) := by decide +kernel
theorem dX5_tokenIs_30 : decode cX5_tokenIs 30 = .ok (.getfield 56, 3) := by decide +kernel
theorem dX5_tokenIs_33 : decode cX5_tokenIs 33 = .ok (.iload_n 3, 1) := by decide +kernel
theorem dX5_tokenIs_34 : decode cX5_tokenIs 34 = .ok (.iadd, 1) := by decide +kernel
theorem dX5_tokenIs_35 : decode cX5_tokenIs 35 = .ok (.invokevirtual 68, 3) := by decide +kernel
theorem dX5_tokenIs_38 : decode cX5_tokenIs 38 = .ok (.aload_n 2, 1) := by decide +kernel
theorem dX5_tokenIs_39 : decode cX5_tokenIs 39 = .ok (.iload_n 3, 1) := by decide +kernel
theorem dX5_tokenIs_40 : decode cX5_tokenIs 40 = .ok (.invokevirtual 104, 3) := by decide +kernel
theorem dX5_tokenIs_43 : decode cX5_tokenIs 43 = .ok (.if_icmp .eq 5, 3) := by decide +kernel
theorem dX5_tokenIs_46 : decode cX5_tokenIs 46 = .ok (.iconst 0, 1) := by decide +kernel
theorem dX5_tokenIs_47 : decode cX5_tokenIs 47 = .ok (.ireturn, 1) := by decide +kernel
theorem dX5_tokenIs_48 : decode cX5_tokenIs 48 = .ok (.iinc 3 1, 3) := by decide +kernel
theorem dX5_tokenIs_51 : decode cX5_tokenIs 51 = .ok (.goto (-31), 3) := by decide +kernel
theorem dX5_tokenIs_54 : decode cX5_tokenIs 54 = .ok (.iconst 1, 1) := by decide +kernel
theorem dX5_tokenIs_55 : decode cX5_tokenIs 55 = .ok (.ireturn, 1) := by decide +kernel
theorem dX5_takeToken_0 : decode cX5_takeToken 0 = .ok (.aload_n 0, 1) := by decide +kernel
theorem dX5_takeToken_1 : decode cX5_takeToken 1 = .ok (.getfield 50, 3) := by decide +kernel
theorem dX5_takeToken_4 : decode cX5_takeToken 4 = .ok (.tableswitch 43 0 2 #[28, 33, 38], 28) := by decide +kernel
theorem dX5_takeToken_32 : decode cX5_takeToken 32 = .ok (.aload_n 0, 1) := by decide +kernel
theorem dX5_takeToken_33 : decode cX5_takeToken 33 = .ok (.invokevirtual 108, 3) := by decide +kernel
theorem dX5_takeToken_36 : decode cX5_takeToken 36 = .ok (.ireturn, 1) := by decide +kernel
theorem dX5_takeToken_37 : decode cX5_takeToken 37 = .ok (.aload_n 0, 1) := by decide +kernel
theorem dX5_takeToken_38 : decode cX5_takeToken 38 = .ok (.invokevirtual 111, 3) := by decide +kernel
theorem dX5_takeToken_41 : decode cX5_takeToken 41 = .ok (.ireturn, 1) := by decide +kernel
theorem dX5_takeToken_42 : decode cX5_takeToken 42 = .ok (.aload_n 0, 1) := by decide +kernel
theorem dX5_takeToken_43 : decode cX5_takeToken 43 = .ok (.invokevirtual 114, 3) := by decide +kernel
theorem dX5_takeToken_46 : decode cX5_takeToken 46 = .ok (.ireturn, 1) := by decide +kernel
theorem dX5_takeToken_47 : decode cX5_takeToken 47 = .ok (.aload_n 0, 1) := by decide +kernel
theorem dX5_takeToken_48 : decode cX5_takeToken 48 = .ok (.invokevirtual 117, 3) := by decide +kernel
theorem dX5_takeToken_51 : decode cX5_takeToken 51 = .ok (.ireturn, 1) := by decide +kernel
theorem dX5_takeClauseWord_0 : decode cX5_takeClauseWord 0 = .ok (.aload_n 0, 1) := by decide +kernel
theorem dX5_takeClauseWord_1 : decode cX5_takeClauseWord 1 = .ok (.getfield 47, 3) := by decide +kernel
theorem dX5_takeClauseWord_4 : decode cX5_takeClauseWord 4 = .ok (.iconst 1, 1) := by decide +kernel
theorem dX5_takeClauseWord_5 : decode cX5_takeClauseWord 5 = .ok (.if_icmp .eq 13, 3) := by decide +kernel
theorem dX5_takeClauseWord_8 : decode cX5_takeClauseWord 8 = .ok (.aload_n 0, 1) := by decide +kernel
theorem dX5_takeClauseWord_9 : decode cX5_takeClauseWord 9 = .ok (.getfield 47, 3) := by decide +kernel
theorem dX5_takeClauseWord_12 : decode cX5_takeClauseWord 12 = .ok (.iconst 2, 1) := by decide +kernel
theorem dX5_takeClauseWord_13 : decode cX5_takeClauseWord 13 = .ok (.if_icmp .eq 5, 3) := by decide +kernel
theorem dX5_takeClauseWord_16 : decode cX5_takeClauseWord 16 = .ok (.iconst 1, 1) := by decide +kernel
theorem dX5_takeClauseWord_17 : decode cX5_takeClauseWord 17 = .ok (.ireturn, 1) := by decide +kernel
theorem dX5_takeClauseWord_18 : decode cX5_takeClauseWord 18 = .ok (.aload_n 0, 1) := by decide +kernel
theorem dX5_takeClauseWord_19 : decode cX5_takeClauseWord 19 = .ok (.aload_n 0, 1) := by decide +kernel
theorem dX5_takeClauseWord_20 : decode cX5_takeClauseWord 20 = .ok (.getfield 47, 3) := by decide +kernel
theorem dX5_takeClauseWord_23 : decode cX5_takeClauseWord 23 = .ok (.putfield 120, 3) := by decide +kernel
theorem dX5_takeClauseWord_26 : decode cX5_takeClauseWord 26 = .ok (.aload_n 0, 1) := by decide +kernel
theorem dX5_takeClauseWord_27 : decode cX5_takeClauseWord 27 = .ok (.iconst 1, 1) := by decide +kernel
theorem dX5_takeClauseWord_28 : decode cX5_takeClauseWord 28 = .ok (.putfield 50, 3) := by decide +kernel
theorem dX5_takeClauseWord_31 : decode cX5_takeClauseWord 31 = .ok (.iconst 0, 1) := by decide +kernel
theorem dX5_takeClauseWord_32 : decode cX5_takeClauseWord 32 = .ok (.ireturn, 1) := by decide +kernel
theorem dX5_takeKind_0 : decode cX5_takeKind 0 = .ok (.aload_n 0, 1) := by decide +kernel
theorem dX5_takeKind_1 : decode cX5_takeKind 1 = .ok (.getfield 47, 3) := by decide +kernel
theorem dX5_takeKind_4 : decode cX5_takeKind 4 = .ok (.iconst 3, 1) := by decide +kernel
theorem dX5_takeKind_5 : decode cX5_takeKind 5 = .ok (.if_icmp .eq 5, 3) := by decide +kernel
theorem dX5_takeKind_8 : decode cX5_takeKind 8 = .ok (.iconst 1, 1) := by decide +kernel
theorem dX5_takeKind_9 : decode cX5_takeKind 9 = .ok (.ireturn, 1) := by decide +kernel
theorem dX5_takeKind_10 : decode cX5_takeKind 10 = .ok (.aload_n 0, 1) := by decide +kernel
theorem dX5_takeKind_11 : decode cX5_takeKind 11 = .ok (.getfield 85, 3) := by decide +kernel
theorem dX5_takeKind_14 : decode cX5_takeKind 14 = .ok (.iconst 0, 1) := by decide +kernel
theorem dX5_takeKind_15 : decode cX5_takeKind 15 = .ok (.iconst 5, 1) := by decide +kernel
theorem dX5_takeKind_16 : decode cX5_takeKind 16 = .ok (.invokestatic 123, 3) := by decide +kernel
theorem dX5_takeKind_19 : decode cX5_takeKind 19 = .ok (.ifCond .ne 5, 3) := by decide +kernel
theorem dX5_takeKind_22 : decode cX5_takeKind 22 = .ok (.iconst 3, 1) := by decide +kernel
theorem dX5_takeKind_23 : decode cX5_takeKind 23 = .ok (.ireturn, 1) := by decide +kernel
theorem dX5_takeKind_24 : decode cX5_takeKind 24 = .ok (.aload_n 0, 1) := by decide +kernel
theorem dX5_takeKind_25 : decode cX5_takeKind 25 = .ok (.invokevirtual 127, 3) := by decide +kernel
theorem dX5_takeKind_28 : decode cX5_takeKind 28 = .ok (.aload_n 0, 1) := by decide +kernel
theorem dX5_takeKind_29 : decode cX5_takeKind 29 = .ok (.getfield 85, 3) := by decide +kernel
theorem dX5_takeKind_32 : decode cX5_takeKind 32 = .ok (.iaload, 1) := by decide +kernel
theorem dX5_takeKind_33 : decode cX5_takeKind 33 = .ok (.iconst (-1), 1) := by decide +kernel
theorem dX5_takeKind_34 : decode cX5_takeKind 34 = .ok (.if_icmp .eq 5, 3) := by decide +kernel
theorem dX5_takeKind_37 : decode cX5_takeKind 37 = .ok (.iconst 2, 1) := by decide +kernel
theorem dX5_takeKind_38 : decode cX5_takeKind 38 = .ok (.ireturn, 1) := by decide +kernel
theorem dX5_takeKind_39 : decode cX5_takeKind 39 = .ok (.aload_n 0, 1) := by decide +kernel
theorem dX5_takeKind_40 : decode cX5_takeKind 40 = .ok (.aload_n 0, 1) := by decide +kernel
theorem dX5_takeKind_41 : decode cX5_takeKind 41 = .ok (.getfield 85, 3) := by decide +kernel
theorem dX5_takeKind_44 : decode cX5_takeKind 44 = .ok (.putfield 131, 3) := by decide +kernel
theorem dX5_takeKind_47 : decode cX5_takeKind 47 = .ok (.aload_n 0, 1) := by decide +kernel
theorem dX5_takeKind_48 : decode cX5_takeKind 48 = .ok (.iconst 2, 1) := by decide +kernel
theorem dX5_takeKind_49 : decode cX5_takeKind 49 = .ok (.putfield 50, 3) := by decide +kernel
theorem dX5_takeKind_52 : decode cX5_takeKind 52 = .ok (.iconst 0, 1) := by decide +kernel
theorem dX5_takeKind_53 : decode cX5_takeKind 53 = .ok (.ireturn, 1) := by decide +kernel
theorem dX5_takeAmount_0 : decode cX5_takeAmount 0 = .ok (.aload_n 0, 1) := by decide +kernel
theorem dX5_takeAmount_1 : decode cX5_takeAmount 1 = .ok (.getfield 47, 3) := by decide +kernel
theorem dX5_takeAmount_4 : decode cX5_takeAmount 4 = .ok (.iconst 3, 1) := by decide +kernel
theorem dX5_takeAmount_5 : decode cX5_takeAmount 5 = .ok (.if_icmp .eq 5, 3) := by decide +kernel
theorem dX5_takeAmount_8 : decode cX5_takeAmount 8 = .ok (.iconst 1, 1) := by decide +kernel
theorem dX5_takeAmount_9 : decode cX5_takeAmount 9 = .ok (.ireturn, 1) := by decide +kernel
theorem dX5_takeAmount_10 : decode cX5_takeAmount 10 = .ok (.aload_n 0, 1) := by decide +kernel
theorem dX5_takeAmount_11 : decode cX5_takeAmount 11 = .ok (.getfield 120, 3) := by decide +kernel
theorem dX5_takeAmount_14 : decode cX5_takeAmount 14 = .ok (.iconst 2, 1) := by decide +kernel
theorem dX5_takeAmount_15 : decode cX5_takeAmount 15 = .ok (.if_icmp .ne 7, 3) := by decide +kernel
theorem dX5_takeAmount_18 : decode cX5_takeAmount 18 = .ok (.iconst 1, 1) := by decide +kernel
theorem dX5_takeAmount_19 : decode cX5_takeAmount 19 = .ok (.goto 4, 3) := by decide +kernel
theorem dX5_takeAmount_22 : decode cX5_takeAmount 22 = .ok (.iconst 0, 1) := by decide +kernel
theorem dX5_takeAmount_23 : decode cX5_takeAmount 23 = .ok (.istore_n 1, 1) := by decide +kernel
theorem dX5_takeAmount_24 : decode cX5_takeAmount 24 = .ok (.aload_n 0, 1) := by decide +kernel
theorem dX5_takeAmount_25 : decode cX5_takeAmount 25 = .ok (.getfield 85, 3) := by decide +kernel
theorem dX5_takeAmount_28 : decode cX5_takeAmount 28 = .ok (.iload_n 1, 1) := by decide +kernel
theorem dX5_takeAmount_29 : decode cX5_takeAmount 29 = .ok (.sipush 999, 3) := by decide +kernel
theorem dX5_takeAmount_32 : decode cX5_takeAmount 32 = .ok (.invokestatic 123, 3) := by decide +kernel
theorem dX5_takeAmount_35 : decode cX5_takeAmount 35 = .ok (.ifCond .ne 5, 3) := by decide +kernel
theorem dX5_takeAmount_38 : decode cX5_takeAmount 38 = .ok (.iconst 3, 1) := by decide +kernel
theorem dX5_takeAmount_39 : decode cX5_takeAmount 39 = .ok (.ireturn, 1) := by decide +kernel
theorem dX5_takeAmount_40 : decode cX5_takeAmount 40 = .ok (.aload_n 0, 1) := by decide +kernel
theorem dX5_takeAmount_41 : decode cX5_takeAmount 41 = .ok (.invokevirtual 127, 3) := by decide +kernel
theorem dX5_takeAmount_44 : decode cX5_takeAmount 44 = .ok (.aload_n 0, 1) := by decide +kernel
theorem dX5_takeAmount_45 : decode cX5_takeAmount 45 = .ok (.getfield 131, 3) := by decide +kernel
theorem dX5_takeAmount_48 : decode cX5_takeAmount 48 = .ok (.aload_n 0, 1) := by decide +kernel
theorem dX5_takeAmount_49 : decode cX5_takeAmount 49 = .ok (.getfield 85, 3) := by decide +kernel
theorem dX5_takeAmount_52 : decode cX5_takeAmount 52 = .ok (.iastore, 1) := by decide +kernel
theorem dX5_takeAmount_53 : decode cX5_takeAmount 53 = .ok (.aload_n 0, 1) := by decide +kernel
theorem dX5_takeAmount_54 : decode cX5_takeAmount 54 = .ok (.iconst 3, 1) := by decide +kernel
theorem dX5_takeAmount_55 : decode cX5_takeAmount 55 = .ok (.putfield 50, 3) := by decide +kernel
theorem dX5_takeAmount_58 : decode cX5_takeAmount 58 = .ok (.iconst 0, 1) := by decide +kernel
theorem dX5_takeAmount_59 : decode cX5_takeAmount 59 = .ok (.ireturn, 1) := by decide +kernel
theorem dX5_takeSemicolon_0 : decode cX5_takeSemicolon 0 = .ok (.aload_n 0, 1) := by decide +kernel
theorem dX5_takeSemicolon_1 : decode cX5_takeSemicolon 1 = .ok (.getfield 47, 3) := by decide +kernel
theorem dX5_takeSemicolon_4 : decode cX5_takeSemicolon 4 = .ok (.iconst 4, 1) := by decide +kernel
theorem dX5_takeSemicolon_5 : decode cX5_takeSemicolon 5 = .ok (.if_icmp .eq 5, 3) := by decide +kernel
theorem dX5_takeSemicolon_8 : decode cX5_takeSemicolon 8 = .ok (.iconst 1, 1) := by decide +kernel
theorem dX5_takeSemicolon_9 : decode cX5_takeSemicolon 9 = .ok (.ireturn, 1) := by decide +kernel
theorem dX5_takeSemicolon_10 : decode cX5_takeSemicolon 10 = .ok (.aload_n 0, 1) := by decide +kernel
theorem dX5_takeSemicolon_11 : decode cX5_takeSemicolon 11 = .ok (.dup, 1) := by decide +kernel
theorem dX5_takeSemicolon_12 : decode cX5_takeSemicolon 12 = .ok (.getfield 25, 3) := by decide +kernel
theorem dX5_takeSemicolon_15 : decode cX5_takeSemicolon 15 = .ok (.iconst 1, 1) := by decide +kernel
theorem dX5_takeSemicolon_16 : decode cX5_takeSemicolon 16 = .ok (.iadd, 1) := by decide +kernel
theorem dX5_takeSemicolon_17 : decode cX5_takeSemicolon 17 = .ok (.putfield 25, 3) := by decide +kernel
theorem dX5_takeSemicolon_20 : decode cX5_takeSemicolon 20 = .ok (.aload_n 0, 1) := by decide +kernel
theorem dX5_takeSemicolon_21 : decode cX5_takeSemicolon 21 = .ok (.iconst 0, 1) := by decide +kernel
theorem dX5_takeSemicolon_22 : decode cX5_takeSemicolon 22 = .ok (.putfield 50, 3) := by decide +kernel
theorem dX5_takeSemicolon_25 : decode cX5_takeSemicolon 25 = .ok (.iconst 0, 1) := by decide +kernel
theorem dX5_takeSemicolon_26 : decode cX5_takeSemicolon 26 = .ok (.ireturn, 1) := by decide +kernel
theorem dX5_clauseRow_0 : decode cX5_clauseRow 0 = .ok (.aload_n 0, 1) := by decide +kernel
theorem dX5_clauseRow_1 : decode cX5_clauseRow 1 = .ok (.getfield 120, 3) := by decide +kernel
theorem dX5_clauseRow_4 : decode cX5_clauseRow 4 = .ok (.iconst 2, 1) := by decide +kernel
theorem dX5_clauseRow_5 : decode cX5_clauseRow 5 = .ok (.if_icmp .ne 10, 3) := by decide +kernel
theorem dX5_clauseRow_8 : decode cX5_clauseRow 8 = .ok (.aload_n 0, 1) := by decide +kernel
theorem dX5_clauseRow_9 : decode cX5_clauseRow 9 = .ok (.getfield 15, 3) := by decide +kernel
theorem dX5_clauseRow_12 : decode cX5_clauseRow 12 = .ok (.goto 7, 3) := by decide +kernel
theorem dX5_clauseRow_15 : decode cX5_clauseRow 15 = .ok (.aload_n 0, 1) := by decide +kernel
theorem dX5_clauseRow_16 : decode cX5_clauseRow 16 = .ok (.getfield 9, 3) := by decide +kernel
theorem dX5_clauseRow_19 : decode cX5_clauseRow 19 = .ok (.areturn, 1) := by decide +kernel
theorem dX5_isDigit_0 : decode cX5_isDigit 0 = .ok (.iload_n 0, 1) := by decide +kernel
theorem dX5_isDigit_1 : decode cX5_isDigit 1 = .ok (.bipush 48, 2) := by decide +kernel
theorem dX5_isDigit_3 : decode cX5_isDigit 3 = .ok (.bipush 57, 2) := by decide +kernel
theorem dX5_isDigit_5 : decode cX5_isDigit 5 = .ok (.invokestatic 123, 3) := by decide +kernel
theorem dX5_isDigit_8 : decode cX5_isDigit 8 = .ok (.ireturn, 1) := by decide +kernel
theorem dX5_isLetter_0 : decode cX5_isLetter 0 = .ok (.iload_n 0, 1) := by decide +kernel
theorem dX5_isLetter_1 : decode cX5_isLetter 1 = .ok (.bipush 97, 2) := by decide +kernel
theorem dX5_isLetter_3 : decode cX5_isLetter 3 = .ok (.bipush 122, 2) := by decide +kernel
theorem dX5_isLetter_5 : decode cX5_isLetter 5 = .ok (.invokestatic 123, 3) := by decide +kernel
theorem dX5_isLetter_8 : decode cX5_isLetter 8 = .ok (.ifCond .ne 14, 3) := by decide +kernel
theorem dX5_isLetter_11 : decode cX5_isLetter 11 = .ok (.iload_n 0, 1) := by decide +kernel
theorem dX5_isLetter_12 : decode cX5_isLetter 12 = .ok (.bipush 65, 2) := by decide +kernel
theorem dX5_isLetter_14 : decode cX5_isLetter 14 = .ok (.bipush 90, 2) := by decide +kernel
theorem dX5_isLetter_16 : decode cX5_isLetter 16 = .ok (.invokestatic 123, 3) := by decide +kernel
theorem dX5_isLetter_19 : decode cX5_isLetter 19 = .ok (.ifCond .eq 7, 3) := by decide +kernel
theorem dX5_isLetter_22 : decode cX5_isLetter 22 = .ok (.iconst 1, 1) := by decide +kernel
theorem dX5_isLetter_23 : decode cX5_isLetter 23 = .ok (.goto 4, 3) := by decide +kernel
theorem dX5_isLetter_26 : decode cX5_isLetter 26 = .ok (.iconst 0, 1) := by decide +kernel
theorem dX5_isLetter_27 : decode cX5_isLetter 27 = .ok (.ireturn, 1) := by decide +kernel
theorem dX6_init_0 : decode cX6_init 0 = .ok (.aload_n 0, 1) := by decide +kernel
theorem dX6_init_1 : decode cX6_init 1 = .ok (.invokespecial 1, 3) := by decide +kernel
theorem dX6_init_4 : decode cX6_init 4 = .ok (.aload_n 0, 1) := by decide +kernel
theorem dX6_init_5 : decode cX6_init 5 = .ok (.new 7, 3) := by decide +kernel
theorem dX6_init_8 : decode cX6_init 8 = .ok (.dup, 1) := by decide +kernel
theorem dX6_init_9 : decode cX6_init 9 = .ok (.iconst 1, 1) := by decide +kernel
theorem dX6_init_10 : decode cX6_init 10 = .ok (.bipush 12, 2) := by decide +kernel
theorem dX6_init_12 : decode cX6_init 12 = .ok (.iload_n 1, 1) := by decide +kernel
theorem dX6_init_13 : decode cX6_init 13 = .ok (.invokestatic 11, 3) := by decide +kernel
theorem dX6_init_16 : decode cX6_init 16 = .ok (.invokestatic 17, 3) := by decide +kernel
theorem dX6_init_19 : decode cX6_init 19 = .ok (.invokespecial 20, 3) := by decide +kernel
theorem dX6_init_22 : decode cX6_init 22 = .ok (.putfield 23, 3) := by decide +kernel
theorem dX6_init_25 : decode cX6_init 25 = .ok (.aload_n 0, 1) := by decide +kernel
theorem dX6_init_26 : decode cX6_init 26 = .ok (.new 27, 3) := by decide +kernel
theorem dX6_init_29 : decode cX6_init 29 = .ok (.dup, 1) := by decide +kernel
theorem dX6_init_30 : decode cX6_init 30 = .ok (.invokespecial 29, 3) := by decide +kernel
theorem dX6_init_33 : decode cX6_init 33 = .ok (.putfield 30, 3) := by decide +kernel
theorem dX6_init_36 : decode cX6_init 36 = .ok (.aload_n 0, 1) := by decide +kernel
theorem dX6_init_37 : decode cX6_init 37 = .ok (.new 34, 3) := by decide +kernel
theorem dX6_init_40 : decode cX6_init 40 = .ok (.dup, 1) := by decide +kernel
theorem dX6_init_41 : decode cX6_init 41 = .ok (.invokespecial 36, 3) := by decide +kernel
theorem dX6_init_44 : decode cX6_init 44 = .ok (.putfield 37, 3) := by decide +kernel
theorem dX6_init_47 : decode cX6_init 47 = .ok (.aload_n 0, 1) := by decide +kernel
theorem dX6_init_48 : decode cX6_init 48 = .ok (.new 41, 3) := by decide +kernel
theorem dX6_init_51 : decode cX6_init 51 = .ok (.dup, 1) := by decide +kernel
theorem dX6_init_52 : decode cX6_init 52 = .ok (.invokespecial 43, 3) := by decide +kernel
theorem dX6_init_55 : decode cX6_init 55 = .ok (.putfield 44, 3) := by decide +kernel
theorem dX6_init_58 : decode cX6_init 58 = .ok (.aload_n 0, 1) := by decide +kernel
theorem dX6_init_59 : decode cX6_init 59 = .ok (.new 48, 3) := by decide +kernel
theorem dX6_init_62 : decode cX6_init 62 = .ok (.dup, 1) := by decide +kernel
theorem dX6_init_63 : decode cX6_init 63 = .ok (.invokespecial 50, 3) := by decide +kernel
theorem dX6_init_66 : decode cX6_init 66 = .ok (.putfield 51, 3) := by decide +kernel
theorem dX6_init_69 : decode cX6_init 69 = .ok (.aload_n 0, 1) := by decide +kernel
theorem dX6_init_70 : decode cX6_init 70 = .ok (.new 55, 3) := by decide +kernel
theorem dX6_init_73 : decode cX6_init 73 = .ok (.dup, 1) := by decide +kernel
theorem dX6_init_74 : decode cX6_init 74 = .ok (.invokespecial 57, 3) := by decide +kernel
theorem dX6_init_77 : decode cX6_init 77 = .ok (.putfield 58, 3) := by decide +kernel
theorem dX6_init_80 : decode cX6_init 80 = .ok (.return_, 1) := by decide +kernel
theorem dX6_hull_0 : decode cX6_hull 0 = .ok (.aload_n 0, 1) := by decide +kernel
theorem dX6_hull_1 : decode cX6_hull 1 = .ok (.getfield 23, 3) := by decide +kernel
theorem dX6_hull_4 : decode cX6_hull 4 = .ok (.iload_n 1, 1) := by decide +kernel
theorem dX6_hull_5 : decode cX6_hull 5 = .ok (.invokevirtual 62, 3) := by decide +kernel
theorem dX6_hull_8 : decode cX6_hull 8 = .ok (.ifCond .eq 25, 3) := by decide +kernel
theorem dX6_hull_11 : decode cX6_hull 11 = .ok (.iload_n 2, 1) := by decide +kernel
theorem dX6_hull_12 : decode cX6_hull 12 = .ok (.iconst 1, 1) := by decide +kernel
theorem dX6_hull_13 : decode cX6_hull 13 = .ok (.sipush 1000, 3) := by decide +kernel
theorem dX6_hull_16 : decode cX6_hull 16 = .ok (.invokestatic 66, 3) := by decide +kernel
theorem dX6_hull_19 : decode cX6_hull 19 = .ok (.ifCond .eq 14, 3) := by decide +kernel
theorem dX6_hull_22 : decode cX6_hull 22 = .ok (.iload_n 3, 1) := by decide +kernel
theorem dX6_hull_23 : decode cX6_hull 23 = .ok (.iconst 0, 1) := by decide +kernel
theorem dX6_hull_24 : decode cX6_hull 24 = .ok (.sipush 1000, 3) := by decide +kernel
theorem dX6_hull_27 : decode cX6_hull 27 = .ok (.invokestatic 66, 3) := by decide +kernel
theorem dX6_hull_30 : decode cX6_hull 30 = .ok (.ifCond .ne 5, 3) := by decide +kernel
theorem dX6_hull_33 : decode cX6_hull 33 = .ok (.iconst 0, 1) := by decide +kernel
theorem dX6_hull_34 : decode cX6_hull 34 = .ok (.ireturn, 1) := by decide +kernel
theorem dX6_hull_35 : decode cX6_hull 35 = .ok (.aload_n 0, 1) := by decide +kernel
theorem dX6_hull_36 : decode cX6_hull 36 = .ok (.getfield 23, 3) := by decide +kernel
theorem dX6_hull_39 : decode cX6_hull 39 = .ok (.iload_n 1, 1) := by decide +kernel
theorem dX6_hull_40 : decode cX6_hull 40 = .ok (.iload_n 2, 1) := by decide +kernel
theorem dX6_hull_41 : decode cX6_hull 41 = .ok (.iload_n 3, 1) := by decide +kernel
theorem dX6_hull_42 : decode cX6_hull 42 = .ok (.invokevirtual 70, 3) := by decide +kernel
theorem dX6_hull_45 : decode cX6_hull 45 = .ok (.iconst 1, 1) := by decide +kernel
theorem dX6_hull_46 : decode cX6_hull 46 = .ok (.ireturn, 1) := by decide +kernel
theorem dX6_pull_0 : decode cX6_pull 0 = .ok (.iload_n 1, 1) := by decide +kernel
theorem dX6_pull_1 : decode cX6_pull 1 = .ok (.iconst 0, 1) := by decide +kernel
theorem dX6_pull_2 : decode cX6_pull 2 = .ok (.bipush 9, 2) := by decide +kernel
theorem dX6_pull_4 : decode cX6_pull 4 = .ok (.invokestatic 66, 3) := by decide +kernel
theorem dX6_pull_7 : decode cX6_pull 7 = .ok (.ifCond .eq 14, 3) := by decide +kernel
theorem dX6_pull_10 : decode cX6_pull 10 = .ok (.iload_n 2, 1) := by decide +kernel
theorem dX6_pull_11 : decode cX6_pull 11 = .ok (.iconst 0, 1) := by decide +kernel
theorem dX6_pull_12 : decode cX6_pull 12 = .ok (.sipush 1000, 3) := by decide +kernel
theorem dX6_pull_15 : decode cX6_pull 15 = .ok (.invokestatic 66, 3) := by decide +kernel
theorem dX6_pull_18 : decode cX6_pull 18 = .ok (.ifCond .ne 5, 3) := by decide +kernel
theorem dX6_pull_21 : decode cX6_pull 21 = .ok (.iconst 0, 1) := by decide +kernel
theorem dX6_pull_22 : decode cX6_pull 22 = .ok (.ireturn, 1) := by decide +kernel
theorem dX6_pull_23 : decode cX6_pull 23 = .ok (.aload_n 0, 1) := by decide +kernel
theorem dX6_pull_24 : decode cX6_pull 24 = .ok (.getfield 23, 3) := by decide +kernel
theorem dX6_pull_27 : decode cX6_pull 27 = .ok (.iload_n 1, 1) := by decide +kernel
theorem dX6_pull_28 : decode cX6_pull 28 = .ok (.iload_n 2, 1) := by decide +kernel
theorem dX6_pull_29 : decode cX6_pull 29 = .ok (.invokevirtual 74, 3) := by decide +kernel
theorem dX6_pull_32 : decode cX6_pull 32 = .ok (.iconst 1, 1) := by decide +kernel
theorem dX6_pull_33 : decode cX6_pull 33 = .ok (.ireturn, 1) := by decide +kernel
theorem dX6_drags_0 : decode cX6_drags 0 = .ok (.iload_n 1, 1) := by decide +kernel
theorem dX6_drags_1 : decode cX6_drags 1 = .ok (.iconst 0, 1) := by decide +kernel
theorem dX6_drags_2 : decode cX6_drags 2 = .ok (.bipush 9, 2) := by decide +kernel
theorem dX6_drags_4 : decode cX6_drags 4 = .ok (.invokestatic 66, 3) := by decide +kernel
theorem dX6_drags_7 : decode cX6_drags 7 = .ok (.ifCond .eq 14, 3) := by decide +kernel
theorem dX6_drags_10 : decode cX6_drags 10 = .ok (.aload_n 0, 1) := by decide +kernel
theorem dX6_drags_11 : decode cX6_drags 11 = .ok (.getfield 23, 3) := by decide +kernel
theorem dX6_drags_14 : decode cX6_drags 14 = .ok (.iload_n 1, 1) := by decide +kernel
theorem dX6_drags_15 : decode cX6_drags 15 = .ok (.invokevirtual 78, 3) := by decide +kernel
theorem dX6_drags_18 : decode cX6_drags 18 = .ok (.goto 4, 3) := by decide +kernel
theorem dX6_drags_21 : decode cX6_drags 21 = .ok (.iconst (-1), 1) := by decide +kernel
theorem dX6_drags_22 : decode cX6_drags 22 = .ok (.ireturn, 1) := by decide +kernel
theorem dX6_cart_0 : decode cX6_cart 0 = .ok (.iload_n 1, 1) := by decide +kernel
theorem dX6_cart_1 : decode cX6_cart 1 = .ok (.iconst 1, 1) := by decide +kernel
theorem dX6_cart_2 : decode cX6_cart 2 = .ok (.sipush 400, 3) := by decide +kernel
theorem dX6_cart_5 : decode cX6_cart 5 = .ok (.invokestatic 66, 3) := by decide +kernel
theorem dX6_cart_8 : decode cX6_cart 8 = .ok (.ifCond .eq 15, 3) := by decide +kernel
theorem dX6_cart_11 : decode cX6_cart 11 = .ok (.aload_n 0, 1) := by decide +kernel
theorem dX6_cart_12 : decode cX6_cart 12 = .ok (.getfield 23, 3) := by decide +kernel
theorem dX6_cart_15 : decode cX6_cart 15 = .ok (.invokevirtual 82, 3) := by decide +kernel
theorem dX6_cart_18 : decode cX6_cart 18 = .ok (.bipush 6, 2) := by decide +kernel
theorem dX6_cart_20 : decode cX6_cart 20 = .ok (.if_icmp .lt 5, 3) := by decide +kernel
theorem dX6_cart_23 : decode cX6_cart 23 = .ok (.iconst (-1), 1) := by decide +kernel
theorem dX6_cart_24 : decode cX6_cart 24 = .ok (.ireturn, 1) := by decide +kernel
theorem dX6_cart_25 : decode cX6_cart 25 = .ok (.aload_n 0, 1) := by decide +kernel
theorem dX6_cart_26 : decode cX6_cart 26 = .ok (.getfield 23, 3) := by decide +kernel
theorem dX6_cart_29 : decode cX6_cart 29 = .ok (.invokevirtual 82, 3) := by decide +kernel
theorem dX6_cart_32 : decode cX6_cart 32 = .ok (.ifCond .le 15, 3) := by decide +kernel
theorem dX6_cart_35 : decode cX6_cart 35 = .ok (.iload_n 2, 1) := by decide +kernel
theorem dX6_cart_36 : decode cX6_cart 36 = .ok (.iconst 1, 1) := by decide +kernel
theorem dX6_cart_37 : decode cX6_cart 37 = .ok (.bipush 12, 2) := by decide +kernel
theorem dX6_cart_39 : decode cX6_cart 39 = .ok (.invokestatic 66, 3) := by decide +kernel
theorem dX6_cart_42 : decode cX6_cart 42 = .ok (.ifCond .ne 5, 3) := by decide +kernel
theorem dX6_cart_45 : decode cX6_cart 45 = .ok (.iconst (-1), 1) := by decide +kernel
theorem dX6_cart_46 : decode cX6_cart 46 = .ok (.ireturn, 1) := by decide +kernel
theorem dX6_cart_47 : decode cX6_cart 47 = .ok (.aload_n 0, 1) := by decide +kernel
theorem dX6_cart_48 : decode cX6_cart 48 = .ok (.getfield 23, 3) := by decide +kernel
theorem dX6_cart_51 : decode cX6_cart 51 = .ok (.iload_n 1, 1) := by decide +kernel
theorem dX6_cart_52 : decode cX6_cart 52 = .ok (.iload_n 2, 1) := by decide +kernel
theorem dX6_cart_53 : decode cX6_cart 53 = .ok (.invokevirtual 86, 3) := by decide +kernel
theorem dX6_cart_56 : decode cX6_cart 56 = .ok (.ireturn, 1) := by decide +kernel
theorem dX6_clear_0 : decode cX6_clear 0 = .ok (.aload_n 0, 1) := by decide +kernel
theorem dX6_clear_1 : decode cX6_clear 1 = .ok (.getfield 23, 3) := by decide +kernel
theorem dX6_clear_4 : decode cX6_clear 4 = .ok (.invokevirtual 89, 3) := by decide +kernel
theorem dX6_clear_7 : decode cX6_clear 7 = .ok (.ireturn, 1) := by decide +kernel
theorem dX6_pressed_0 : decode cX6_pressed 0 = .ok (.aload_n 0, 1) := by decide +kernel
theorem dX6_pressed_1 : decode cX6_pressed 1 = .ok (.getfield 23, 3) := by decide +kernel
theorem dX6_pressed_4 : decode cX6_pressed 4 = .ok (.iload_n 1, 1) := by decide +kernel
theorem dX6_pressed_5 : decode cX6_pressed 5 = .ok (.invokevirtual 62, 3) := by decide +kernel
theorem dX6_pressed_8 : decode cX6_pressed 8 = .ok (.ifCond .eq 25, 3) := by decide +kernel
theorem dX6_pressed_11 : decode cX6_pressed 11 = .ok (.iload_n 2, 1) := by decide +kernel
theorem dX6_pressed_12 : decode cX6_pressed 12 = .ok (.iconst 0, 1) := by decide +kernel
theorem dX6_pressed_13 : decode cX6_pressed 13 = .ok (.bipush 100, 2) := by decide +kernel
theorem dX6_pressed_15 : decode cX6_pressed 15 = .ok (.invokestatic 66, 3) := by decide +kernel
theorem dX6_pressed_18 : decode cX6_pressed 18 = .ok (.ifCond .eq 15, 3) := by decide +kernel
theorem dX6_pressed_21 : decode cX6_pressed 21 = .ok (.aload_n 0, 1) := by decide +kernel
theorem dX6_pressed_22 : decode cX6_pressed 22 = .ok (.getfield 23, 3) := by decide +kernel
theorem dX6_pressed_25 : decode cX6_pressed 25 = .ok (.iload_n 1, 1) := by decide +kernel
theorem dX6_pressed_26 : decode cX6_pressed 26 = .ok (.iload_n 2, 1) := by decide +kernel
theorem dX6_pressed_27 : decode cX6_pressed 27 = .ok (.invokevirtual 92, 3) := by decide +kernel
theorem dX6_pressed_30 : decode cX6_pressed 30 = .ok (.goto 4, 3) := by decide +kernel
theorem dX6_pressed_33 : decode cX6_pressed 33 = .ok (.iconst (-1), 1) := by decide +kernel
theorem dX6_pressed_34 : decode cX6_pressed 34 = .ok (.ireturn, 1) := by decide +kernel
theorem dX6_worst_0 : decode cX6_worst 0 = .ok (.aload_n 0, 1) := by decide +kernel
theorem dX6_worst_1 : decode cX6_worst 1 = .ok (.getfield 23, 3) := by decide +kernel
theorem dX6_worst_4 : decode cX6_worst 4 = .ok (.invokevirtual 82, 3) := by decide +kernel
theorem dX6_worst_7 : decode cX6_worst 7 = .ok (.ifCond .le 23, 3) := by decide +kernel
theorem dX6_worst_10 : decode cX6_worst 10 = .ok (.iload_n 1, 1) := by decide +kernel
theorem dX6_worst_11 : decode cX6_worst 11 = .ok (.iconst 0, 1) := by decide +kernel
theorem dX6_worst_12 : decode cX6_worst 12 = .ok (.iconst 2, 1) := by decide +kernel
theorem dX6_worst_13 : decode cX6_worst 13 = .ok (.invokestatic 66, 3) := by decide +kernel
theorem dX6_worst_16 : decode cX6_worst 16 = .ok (.ifCond .eq 14, 3) := by decide +kernel
theorem dX6_worst_19 : decode cX6_worst 19 = .ok (.aload_n 0, 1) := by decide +kernel
theorem dX6_worst_20 : decode cX6_worst 20 = .ok (.getfield 23, 3) := by decide +kernel
theorem dX6_worst_23 : decode cX6_worst 23 = .ok (.iload_n 1, 1) := by decide +kernel
theorem dX6_worst_24 : decode cX6_worst 24 = .ok (.invokevirtual 95, 3) := by decide +kernel
theorem dX6_worst_27 : decode cX6_worst 27 = .ok (.goto 5, 3) := by decide +kernel
theorem dX6_worst_30 : decode cX6_worst 30 = .ok (.ldc 98, 2) := by decide +kernel
theorem dX6_worst_32 : decode cX6_worst 32 = .ok (.ireturn, 1) := by decide +kernel
theorem dX6_gap_0 : decode cX6_gap 0 = .ok (.aload_n 0, 1) := by decide +kernel
theorem dX6_gap_1 : decode cX6_gap 1 = .ok (.getfield 23, 3) := by decide +kernel
theorem dX6_gap_4 : decode cX6_gap 4 = .ok (.invokevirtual 82, 3) := by decide +kernel
theorem dX6_gap_7 : decode cX6_gap 7 = .ok (.ifCond .le 13, 3) := by decide +kernel
theorem dX6_gap_10 : decode cX6_gap 10 = .ok (.aload_n 0, 1) := by decide +kernel
theorem dX6_gap_11 : decode cX6_gap 11 = .ok (.getfield 23, 3) := by decide +kernel
theorem dX6_gap_14 : decode cX6_gap 14 = .ok (.invokevirtual 99, 3) := by decide +kernel
theorem dX6_gap_17 : decode cX6_gap 17 = .ok (.goto 4, 3) := by decide +kernel
theorem dX6_gap_20 : decode cX6_gap 20 = .ok (.iconst (-1), 1) := by decide +kernel
theorem dX6_gap_21 : decode cX6_gap 21 = .ok (.ireturn, 1) := by decide +kernel
theorem dX6_ship_0 : decode cX6_ship 0 = .ok (.iload_n 1, 1) := by decide +kernel
theorem dX6_ship_1 : decode cX6_ship 1 = .ok (.iconst 0, 1) := by decide +kernel
theorem dX6_ship_2 : decode cX6_ship 2 = .ok (.sipush 239, 3) := by decide +kernel
theorem dX6_ship_5 : decode cX6_ship 5 = .ok (.invokestatic 66, 3) := by decide +kernel
theorem dX6_ship_8 : decode cX6_ship 8 = .ok (.ifCond .eq 15, 3) := by decide +kernel
theorem dX6_ship_11 : decode cX6_ship 11 = .ok (.aload_n 0, 1) := by decide +kernel
theorem dX6_ship_12 : decode cX6_ship 12 = .ok (.getfield 30, 3) := by decide +kernel
theorem dX6_ship_15 : decode cX6_ship 15 = .ok (.invokevirtual 102, 3) := by decide +kernel
theorem dX6_ship_18 : decode cX6_ship 18 = .ok (.bipush 10, 2) := by decide +kernel
theorem dX6_ship_20 : decode cX6_ship 20 = .ok (.if_icmp .lt 5, 3) := by decide +kernel
theorem dX6_ship_23 : decode cX6_ship 23 = .ok (.iconst (-1), 1) := by decide +kernel
theorem dX6_ship_24 : decode cX6_ship 24 = .ok (.ireturn, 1) := by decide +kernel
theorem dX6_ship_25 : decode cX6_ship 25 = .ok (.aload_n 0, 1) := by decide +kernel
theorem dX6_ship_26 : decode cX6_ship 26 = .ok (.getfield 30, 3) := by decide +kernel
theorem dX6_ship_29 : decode cX6_ship 29 = .ok (.iload_n 1, 1) := by decide +kernel
theorem dX6_ship_30 : decode cX6_ship 30 = .ok (.invokevirtual 105, 3) := by decide +kernel
theorem dX6_ship_33 : decode cX6_ship 33 = .ok (.ireturn, 1) := by decide +kernel
theorem dX6_crosser_0 : decode cX6_crosser 0 = .ok (.iload_n 1, 1) := by decide +kernel
theorem dX6_crosser_1 : decode cX6_crosser 1 = .ok (.iconst 0, 1) := by decide +kernel
theorem dX6_crosser_2 : decode cX6_crosser 2 = .ok (.sipush 239, 3) := by decide +kernel
theorem dX6_crosser_5 : decode cX6_crosser 5 = .ok (.invokestatic 66, 3) := by decide +kernel
theorem dX6_crosser_8 : decode cX6_crosser 8 = .ok (.ifCond .eq 15, 3) := by decide +kernel
theorem dX6_crosser_11 : decode cX6_crosser 11 = .ok (.aload_n 0, 1) := by decide +kernel
theorem dX6_crosser_12 : decode cX6_crosser 12 = .ok (.getfield 30, 3) := by decide +kernel
theorem dX6_crosser_15 : decode cX6_crosser 15 = .ok (.invokevirtual 108, 3) := by decide +kernel
theorem dX6_crosser_18 : decode cX6_crosser 18 = .ok (.bipush 30, 2) := by decide +kernel
theorem dX6_crosser_20 : decode cX6_crosser 20 = .ok (.if_icmp .lt 5, 3) := by decide +kernel
theorem dX6_crosser_23 : decode cX6_crosser 23 = .ok (.iconst (-1), 1) := by decide +kernel
theorem dX6_crosser_24 : decode cX6_crosser 24 = .ok (.ireturn, 1) := by decide +kernel
theorem dX6_crosser_25 : decode cX6_crosser 25 = .ok (.aload_n 0, 1) := by decide +kernel
theorem dX6_crosser_26 : decode cX6_crosser 26 = .ok (.getfield 30, 3) := by decide +kernel
theorem dX6_crosser_29 : decode cX6_crosser 29 = .ok (.iload_n 1, 1) := by decide +kernel
theorem dX6_crosser_30 : decode cX6_crosser 30 = .ok (.invokevirtual 111, 3) := by decide +kernel
theorem dX6_crosser_33 : decode cX6_crosser 33 = .ok (.ireturn, 1) := by decide +kernel
theorem dX6_times_0 : decode cX6_times 0 = .ok (.iload_n 1, 1) := by decide +kernel
theorem dX6_times_1 : decode cX6_times 1 = .ok (.iconst 1, 1) := by decide +kernel
theorem dX6_times_2 : decode cX6_times 2 = .ok (.bipush 20, 2) := by decide +kernel
theorem dX6_times_4 : decode cX6_times 4 = .ok (.invokestatic 66, 3) := by decide +kernel
theorem dX6_times_7 : decode cX6_times 7 = .ok (.ifCond .eq 34, 3) := by decide +kernel
theorem dX6_times_10 : decode cX6_times 10 = .ok (.iload_n 2, 1) := by decide +kernel
theorem dX6_times_11 : decode cX6_times 11 = .ok (.iconst 1, 1) := by decide +kernel
theorem dX6_times_12 : decode cX6_times 12 = .ok (.bipush 20, 2) := by decide +kernel
theorem dX6_times_14 : decode cX6_times 14 = .ok (.invokestatic 66, 3) := by decide +kernel
theorem dX6_times_17 : decode cX6_times 17 = .ok (.ifCond .eq 24, 3) := by decide +kernel
theorem dX6_times_20 : decode cX6_times 20 = .ok (.iload_n 3, 1) := by decide +kernel
theorem dX6_times_21 : decode cX6_times 21 = .ok (.iconst 1, 1) := by decide +kernel
theorem dX6_times_22 : decode cX6_times 22 = .ok (.bipush 20, 2) := by decide +kernel
theorem dX6_times_24 : decode cX6_times 24 = .ok (.invokestatic 66, 3) := by decide +kernel
theorem dX6_times_27 : decode cX6_times 27 = .ok (.ifCond .eq 14, 3) := by decide +kernel
theorem dX6_times_30 : decode cX6_times 30 = .ok (.iload 4, 2) := by decide +kernel
theorem dX6_times_32 : decode cX6_times 32 = .ok (.iconst 1, 1) := by decide +kernel
theorem dX6_times_33 : decode cX6_times 33 = .ok (.bipush 9, 2) := by decide +kernel
theorem dX6_times_35 : decode cX6_times 35 = .ok (.invokestatic 66, 3) := by decide +kernel
theorem dX6_times_38 : decode cX6_times 38 = .ok (.ifCond .ne 5, 3) := by decide +kernel
theorem dX6_times_41 : decode cX6_times 41 = .ok (.iconst 0, 1) := by decide +kernel
theorem dX6_times_42 : decode cX6_times 42 = .ok (.ireturn, 1) := by decide +kernel
theorem dX6_times_43 : decode cX6_times 43 = .ok (.aload_n 0, 1) := by decide +kernel
theorem dX6_times_44 : decode cX6_times 44 = .ok (.getfield 30, 3) := by decide +kernel
theorem dX6_times_47 : decode cX6_times 47 = .ok (.iload_n 1, 1) := by decide +kernel
theorem dX6_times_48 : decode cX6_times 48 = .ok (.iload_n 2, 1) := by decide +kernel
theorem dX6_times_49 : decode cX6_times 49 = .ok (.iload_n 3, 1) := by decide +kernel
theorem dX6_times_50 : decode cX6_times 50 = .ok (.iload 4, 2) := by decide +kernel
theorem dX6_times_52 : decode cX6_times 52 = .ok (.invokevirtual 114, 3) := by decide +kernel
theorem dX6_times_55 : decode cX6_times 55 = .ok (.iconst 1, 1) := by decide +kernel
theorem dX6_times_56 : decode cX6_times 56 = .ok (.ireturn, 1) := by decide +kernel
theorem dX6_waits_0 : decode cX6_waits 0 = .ok (.aload_n 0, 1) := by decide +kernel
theorem dX6_waits_1 : decode cX6_waits 1 = .ok (.getfield 30, 3) := by decide +kernel
theorem dX6_waits_4 : decode cX6_waits 4 = .ok (.invokevirtual 118, 3) := by decide +kernel
theorem dX6_waits_7 : decode cX6_waits 7 = .ok (.ireturn, 1) := by decide +kernel
theorem dX6_opening_0 : decode cX6_opening 0 = .ok (.aload_n 0, 1) := by decide +kernel
theorem dX6_opening_1 : decode cX6_opening 1 = .ok (.getfield 30, 3) := by decide +kernel
theorem dX6_opening_4 : decode cX6_opening 4 = .ok (.iload_n 1, 1) := by decide +kernel
theorem dX6_opening_5 : decode cX6_opening 5 = .ok (.iload_n 2, 1) := by decide +kernel
theorem dX6_opening_6 : decode cX6_opening 6 = .ok (.invokevirtual 121, 3) := by decide +kernel
end
section
theorem dX6_opening_9 : decode cX6_opening 9 = .ok (.ireturn, 1) := by decide +kernel
theorem dX6_atOnce_0 : decode cX6_atOnce 0 = .ok (.aload_n 0, 1) := by decide +kernel
theorem dX6_atOnce_1 : decode cX6_atOnce 1 = .ok (.getfield 30, 3) := by decide +kernel
theorem dX6_atOnce_4 : decode cX6_atOnce 4 = .ok (.invokevirtual 124, 3) := by decide +kernel
theorem dX6_atOnce_7 : decode cX6_atOnce 7 = .ok (.ireturn, 1) := by decide +kernel
theorem dX6_level_0 : decode cX6_level 0 = .ok (.iload_n 1, 1) := by decide +kernel
theorem dX6_level_1 : decode cX6_level 1 = .ok (.iconst 0, 1) := by decide +kernel
theorem dX6_level_2 : decode cX6_level 2 = .ok (.bipush 59, 2) := by decide +kernel
theorem dX6_level_4 : decode cX6_level 4 = .ok (.invokestatic 66, 3) := by decide +kernel
theorem dX6_level_7 : decode cX6_level 7 = .ok (.ifCond .ne 5, 3) := by decide +kernel
theorem dX6_level_10 : decode cX6_level 10 = .ok (.iconst 0, 1) := by decide +kernel
theorem dX6_level_11 : decode cX6_level 11 = .ok (.ireturn, 1) := by decide +kernel
theorem dX6_level_12 : decode cX6_level 12 = .ok (.iload_n 2, 1) := by decide +kernel
theorem dX6_level_13 : decode cX6_level 13 = .ok (.iconst (-1), 1) := by decide +kernel
theorem dX6_level_14 : decode cX6_level 14 = .ok (.if_icmp .ne 14, 3) := by decide +kernel
theorem dX6_level_17 : decode cX6_level 17 = .ok (.aload_n 0, 1) := by decide +kernel
theorem dX6_level_18 : decode cX6_level 18 = .ok (.getfield 37, 3) := by decide +kernel
theorem dX6_level_21 : decode cX6_level 21 = .ok (.iload_n 1, 1) := by decide +kernel
theorem dX6_level_22 : decode cX6_level 22 = .ok (.iconst (-1), 1) := by decide +kernel
theorem dX6_level_23 : decode cX6_level 23 = .ok (.invokevirtual 127, 3) := by decide +kernel
theorem dX6_level_26 : decode cX6_level 26 = .ok (.iconst 1, 1) := by decide +kernel
theorem dX6_level_27 : decode cX6_level 27 = .ok (.ireturn, 1) := by decide +kernel
theorem dX6_level_28 : decode cX6_level 28 = .ok (.iload_n 2, 1) := by decide +kernel
theorem dX6_level_29 : decode cX6_level 29 = .ok (.iconst 0, 1) := by decide +kernel
theorem dX6_level_30 : decode cX6_level 30 = .ok (.bipush 99, 2) := by decide +kernel
theorem dX6_level_32 : decode cX6_level 32 = .ok (.invokestatic 66, 3) := by decide +kernel
theorem dX6_level_35 : decode cX6_level 35 = .ok (.ifCond .eq 13, 3) := by decide +kernel
theorem dX6_level_38 : decode cX6_level 38 = .ok (.iload_n 3, 1) := by decide +kernel
theorem dX6_level_39 : decode cX6_level 39 = .ok (.iload_n 2, 1) := by decide +kernel
theorem dX6_level_40 : decode cX6_level 40 = .ok (.bipush 99, 2) := by decide +kernel
theorem dX6_level_42 : decode cX6_level 42 = .ok (.invokestatic 66, 3) := by decide +kernel
theorem dX6_level_45 : decode cX6_level 45 = .ok (.ifCond .ne 5, 3) := by decide +kernel
theorem dX6_level_48 : decode cX6_level 48 = .ok (.iconst 0, 1) := by decide +kernel
theorem dX6_level_49 : decode cX6_level 49 = .ok (.ireturn, 1) := by decide +kernel
theorem dX6_level_50 : decode cX6_level 50 = .ok (.aload_n 0, 1) := by decide +kernel
theorem dX6_level_51 : decode cX6_level 51 = .ok (.getfield 37, 3) := by decide +kernel
theorem dX6_level_54 : decode cX6_level 54 = .ok (.iload_n 1, 1) := by decide +kernel
theorem dX6_level_55 : decode cX6_level 55 = .ok (.iload_n 3, 1) := by decide +kernel
theorem dX6_level_56 : decode cX6_level 56 = .ok (.invokevirtual 127, 3) := by decide +kernel
theorem dX6_level_59 : decode cX6_level 59 = .ok (.iconst 1, 1) := by decide +kernel
theorem dX6_level_60 : decode cX6_level 60 = .ok (.ireturn, 1) := by decide +kernel
theorem dX6_flood_0 : decode cX6_flood 0 = .ok (.iload_n 1, 1) := by decide +kernel
theorem dX6_flood_1 : decode cX6_flood 1 = .ok (.iconst 0, 1) := by decide +kernel
theorem dX6_flood_2 : decode cX6_flood 2 = .ok (.bipush 99, 2) := by decide +kernel
theorem dX6_flood_4 : decode cX6_flood 4 = .ok (.invokestatic 66, 3) := by decide +kernel
theorem dX6_flood_7 : decode cX6_flood 7 = .ok (.ifCond .eq 13, 3) := by decide +kernel
theorem dX6_flood_10 : decode cX6_flood 10 = .ok (.iload_n 2, 1) := by decide +kernel
theorem dX6_flood_11 : decode cX6_flood 11 = .ok (.iconst 1, 1) := by decide +kernel
theorem dX6_flood_12 : decode cX6_flood 12 = .ok (.bipush 9, 2) := by decide +kernel
theorem dX6_flood_14 : decode cX6_flood 14 = .ok (.invokestatic 66, 3) := by decide +kernel
theorem dX6_flood_17 : decode cX6_flood 17 = .ok (.ifCond .ne 5, 3) := by decide +kernel
theorem dX6_flood_20 : decode cX6_flood 20 = .ok (.iconst 0, 1) := by decide +kernel
theorem dX6_flood_21 : decode cX6_flood 21 = .ok (.ireturn, 1) := by decide +kernel
theorem dX6_flood_22 : decode cX6_flood 22 = .ok (.aload_n 0, 1) := by decide +kernel
theorem dX6_flood_23 : decode cX6_flood 23 = .ok (.getfield 37, 3) := by decide +kernel
theorem dX6_flood_26 : decode cX6_flood 26 = .ok (.iload_n 1, 1) := by decide +kernel
theorem dX6_flood_27 : decode cX6_flood 27 = .ok (.iload_n 2, 1) := by decide +kernel
theorem dX6_flood_28 : decode cX6_flood 28 = .ok (.invokevirtual 130, 3) := by decide +kernel
theorem dX6_flood_31 : decode cX6_flood 31 = .ok (.iconst 1, 1) := by decide +kernel
theorem dX6_flood_32 : decode cX6_flood 32 = .ok (.ireturn, 1) := by decide +kernel
theorem dX6_out_0 : decode cX6_out 0 = .ok (.aload_n 0, 1) := by decide +kernel
theorem dX6_out_1 : decode cX6_out 1 = .ok (.getfield 37, 3) := by decide +kernel
theorem dX6_out_4 : decode cX6_out 4 = .ok (.invokevirtual 133, 3) := by decide +kernel
theorem dX6_out_7 : decode cX6_out 7 = .ok (.ireturn, 1) := by decide +kernel
theorem dX6_outOn_0 : decode cX6_outOn 0 = .ok (.iload_n 1, 1) := by decide +kernel
theorem dX6_outOn_1 : decode cX6_outOn 1 = .ok (.iconst 0, 1) := by decide +kernel
theorem dX6_outOn_2 : decode cX6_outOn 2 = .ok (.bipush 59, 2) := by decide +kernel
theorem dX6_outOn_4 : decode cX6_outOn 4 = .ok (.invokestatic 66, 3) := by decide +kernel
theorem dX6_outOn_7 : decode cX6_outOn 7 = .ok (.ifCond .eq 12, 3) := by decide +kernel
theorem dX6_outOn_10 : decode cX6_outOn 10 = .ok (.iload_n 2, 1) := by decide +kernel
theorem dX6_outOn_11 : decode cX6_outOn 11 = .ok (.iconst 0, 1) := by decide +kernel
theorem dX6_outOn_12 : decode cX6_outOn 12 = .ok (.iconst 1, 1) := by decide +kernel
theorem dX6_outOn_13 : decode cX6_outOn 13 = .ok (.invokestatic 66, 3) := by decide +kernel
theorem dX6_outOn_16 : decode cX6_outOn 16 = .ok (.ifCond .ne 5, 3) := by decide +kernel
theorem dX6_outOn_19 : decode cX6_outOn 19 = .ok (.iconst (-1), 1) := by decide +kernel
theorem dX6_outOn_20 : decode cX6_outOn 20 = .ok (.ireturn, 1) := by decide +kernel
theorem dX6_outOn_21 : decode cX6_outOn 21 = .ok (.iload_n 2, 1) := by decide +kernel
theorem dX6_outOn_22 : decode cX6_outOn 22 = .ok (.ifCond .ne 14, 3) := by decide +kernel
theorem dX6_outOn_25 : decode cX6_outOn 25 = .ok (.aload_n 0, 1) := by decide +kernel
theorem dX6_outOn_26 : decode cX6_outOn 26 = .ok (.getfield 37, 3) := by decide +kernel
theorem dX6_outOn_29 : decode cX6_outOn 29 = .ok (.iload_n 1, 1) := by decide +kernel
theorem dX6_outOn_30 : decode cX6_outOn 30 = .ok (.invokevirtual 136, 3) := by decide +kernel
theorem dX6_outOn_33 : decode cX6_outOn 33 = .ok (.goto 11, 3) := by decide +kernel
theorem dX6_outOn_36 : decode cX6_outOn 36 = .ok (.aload_n 0, 1) := by decide +kernel
theorem dX6_outOn_37 : decode cX6_outOn 37 = .ok (.getfield 37, 3) := by decide +kernel
theorem dX6_outOn_40 : decode cX6_outOn 40 = .ok (.iload_n 1, 1) := by decide +kernel
theorem dX6_outOn_41 : decode cX6_outOn 41 = .ok (.invokevirtual 139, 3) := by decide +kernel
theorem dX6_outOn_44 : decode cX6_outOn 44 = .ok (.istore_n 3, 1) := by decide +kernel
theorem dX6_outOn_45 : decode cX6_outOn 45 = .ok (.iload_n 3, 1) := by decide +kernel
theorem dX6_outOn_46 : decode cX6_outOn 46 = .ok (.ifCond .eq 7, 3) := by decide +kernel
theorem dX6_outOn_49 : decode cX6_outOn 49 = .ok (.iconst 1, 1) := by decide +kernel
theorem dX6_outOn_50 : decode cX6_outOn 50 = .ok (.goto 4, 3) := by decide +kernel
theorem dX6_outOn_53 : decode cX6_outOn 53 = .ok (.iconst 0, 1) := by decide +kernel
theorem dX6_outOn_54 : decode cX6_outOn 54 = .ok (.ireturn, 1) := by decide +kernel
theorem dX6_feed_0 : decode cX6_feed 0 = .ok (.aload_n 0, 1) := by decide +kernel
theorem dX6_feed_1 : decode cX6_feed 1 = .ok (.getfield 44, 3) := by decide +kernel
theorem dX6_feed_4 : decode cX6_feed 4 = .ok (.invokevirtual 142, 3) := by decide +kernel
theorem dX6_feed_7 : decode cX6_feed 7 = .ok (.bipush 20, 2) := by decide +kernel
theorem dX6_feed_9 : decode cX6_feed 9 = .ok (.iadd, 1) := by decide +kernel
theorem dX6_feed_10 : decode cX6_feed 10 = .ok (.sipush 200, 3) := by decide +kernel
theorem dX6_feed_13 : decode cX6_feed 13 = .ok (.if_icmp .le 5, 3) := by decide +kernel
theorem dX6_feed_16 : decode cX6_feed 16 = .ok (.iconst (-1), 1) := by decide +kernel
theorem dX6_feed_17 : decode cX6_feed 17 = .ok (.ireturn, 1) := by decide +kernel
theorem dX6_feed_18 : decode cX6_feed 18 = .ok (.aload_n 0, 1) := by decide +kernel
theorem dX6_feed_19 : decode cX6_feed 19 = .ok (.getfield 44, 3) := by decide +kernel
theorem dX6_feed_22 : decode cX6_feed 22 = .ok (.iload_n 1, 1) := by decide +kernel
theorem dX6_feed_23 : decode cX6_feed 23 = .ok (.invokevirtual 145, 3) := by decide +kernel
theorem dX6_feed_26 : decode cX6_feed 26 = .ok (.aload_n 0, 1) := by decide +kernel
theorem dX6_feed_27 : decode cX6_feed 27 = .ok (.getfield 44, 3) := by decide +kernel
theorem dX6_feed_30 : decode cX6_feed 30 = .ok (.iload_n 2, 1) := by decide +kernel
theorem dX6_feed_31 : decode cX6_feed 31 = .ok (.invokevirtual 145, 3) := by decide +kernel
theorem dX6_feed_34 : decode cX6_feed 34 = .ok (.aload_n 0, 1) := by decide +kernel
theorem dX6_feed_35 : decode cX6_feed 35 = .ok (.getfield 44, 3) := by decide +kernel
theorem dX6_feed_38 : decode cX6_feed 38 = .ok (.iload_n 3, 1) := by decide +kernel
theorem dX6_feed_39 : decode cX6_feed 39 = .ok (.invokevirtual 145, 3) := by decide +kernel
theorem dX6_feed_42 : decode cX6_feed 42 = .ok (.aload_n 0, 1) := by decide +kernel
theorem dX6_feed_43 : decode cX6_feed 43 = .ok (.getfield 44, 3) := by decide +kernel
theorem dX6_feed_46 : decode cX6_feed 46 = .ok (.iload 4, 2) := by decide +kernel
theorem dX6_feed_48 : decode cX6_feed 48 = .ok (.invokevirtual 145, 3) := by decide +kernel
theorem dX6_feed_51 : decode cX6_feed 51 = .ok (.aload_n 0, 1) := by decide +kernel
theorem dX6_feed_52 : decode cX6_feed 52 = .ok (.getfield 44, 3) := by decide +kernel
theorem dX6_feed_55 : decode cX6_feed 55 = .ok (.iload 5, 2) := by decide +kernel
theorem dX6_feed_57 : decode cX6_feed 57 = .ok (.invokevirtual 145, 3) := by decide +kernel
theorem dX6_feed_60 : decode cX6_feed 60 = .ok (.aload_n 0, 1) := by decide +kernel
theorem dX6_feed_61 : decode cX6_feed 61 = .ok (.getfield 44, 3) := by decide +kernel
theorem dX6_feed_64 : decode cX6_feed 64 = .ok (.invokevirtual 142, 3) := by decide +kernel
theorem dX6_feed_67 : decode cX6_feed 67 = .ok (.ireturn, 1) := by decide +kernel
theorem dX6_end_0 : decode cX6_end 0 = .ok (.iload_n 1, 1) := by decide +kernel
theorem dX6_end_1 : decode cX6_end 1 = .ok (.iconst 0, 1) := by decide +kernel
theorem dX6_end_2 : decode cX6_end 2 = .ok (.aload_n 0, 1) := by decide +kernel
theorem dX6_end_3 : decode cX6_end 3 = .ok (.getfield 44, 3) := by decide +kernel
theorem dX6_end_6 : decode cX6_end 6 = .ok (.invokevirtual 142, 3) := by decide +kernel
theorem dX6_end_9 : decode cX6_end 9 = .ok (.invokestatic 66, 3) := by decide +kernel
theorem dX6_end_12 : decode cX6_end 12 = .ok (.ifCond .ne 5, 3) := by decide +kernel
theorem dX6_end_15 : decode cX6_end 15 = .ok (.iconst (-1), 1) := by decide +kernel
theorem dX6_end_16 : decode cX6_end 16 = .ok (.ireturn, 1) := by decide +kernel
theorem dX6_end_17 : decode cX6_end 17 = .ok (.aload_n 0, 1) := by decide +kernel
theorem dX6_end_18 : decode cX6_end 18 = .ok (.getfield 44, 3) := by decide +kernel
theorem dX6_end_21 : decode cX6_end 21 = .ok (.iload_n 1, 1) := by decide +kernel
theorem dX6_end_22 : decode cX6_end 22 = .ok (.invokevirtual 148, 3) := by decide +kernel
theorem dX6_end_25 : decode cX6_end 25 = .ok (.iload_n 1, 1) := by decide +kernel
theorem dX6_end_26 : decode cX6_end 26 = .ok (.ireturn, 1) := by decide +kernel
theorem dX6_tolls_0 : decode cX6_tolls 0 = .ok (.aload_n 0, 1) := by decide +kernel
theorem dX6_tolls_1 : decode cX6_tolls 1 = .ok (.getfield 51, 3) := by decide +kernel
theorem dX6_tolls_4 : decode cX6_tolls 4 = .ok (.aload_n 0, 1) := by decide +kernel
theorem dX6_tolls_5 : decode cX6_tolls 5 = .ok (.getfield 44, 3) := by decide +kernel
theorem dX6_tolls_8 : decode cX6_tolls 8 = .ok (.invokevirtual 151, 3) := by decide +kernel
theorem dX6_tolls_11 : decode cX6_tolls 11 = .ok (.istore_n 1, 1) := by decide +kernel
theorem dX6_tolls_12 : decode cX6_tolls 12 = .ok (.aload_n 0, 1) := by decide +kernel
theorem dX6_tolls_13 : decode cX6_tolls 13 = .ok (.getfield 44, 3) := by decide +kernel
theorem dX6_tolls_16 : decode cX6_tolls 16 = .ok (.iconst 0, 1) := by decide +kernel
theorem dX6_tolls_17 : decode cX6_tolls 17 = .ok (.invokevirtual 148, 3) := by decide +kernel
theorem dX6_tolls_20 : decode cX6_tolls 20 = .ok (.iload_n 1, 1) := by decide +kernel
theorem dX6_tolls_21 : decode cX6_tolls 21 = .ok (.ifCond .ne 5, 3) := by decide +kernel
theorem dX6_tolls_24 : decode cX6_tolls 24 = .ok (.iconst (-1), 1) := by decide +kernel
theorem dX6_tolls_25 : decode cX6_tolls 25 = .ok (.ireturn, 1) := by decide +kernel
theorem dX6_tolls_26 : decode cX6_tolls 26 = .ok (.aload_n 0, 1) := by decide +kernel
theorem dX6_tolls_27 : decode cX6_tolls 27 = .ok (.getfield 58, 3) := by decide +kernel
theorem dX6_tolls_30 : decode cX6_tolls 30 = .ok (.aload_n 0, 1) := by decide +kernel
theorem dX6_tolls_31 : decode cX6_tolls 31 = .ok (.getfield 51, 3) := by decide +kernel
theorem dX6_tolls_34 : decode cX6_tolls 34 = .ok (.invokevirtual 155, 3) := by decide +kernel
theorem dX6_tolls_37 : decode cX6_tolls 37 = .ok (.aload_n 0, 1) := by decide +kernel
theorem dX6_tolls_38 : decode cX6_tolls 38 = .ok (.getfield 51, 3) := by decide +kernel
theorem dX6_tolls_41 : decode cX6_tolls 41 = .ok (.invokevirtual 159, 3) := by decide +kernel
theorem dX6_tolls_44 : decode cX6_tolls 44 = .ok (.ireturn, 1) := by decide +kernel
theorem dX6_fault_0 : decode cX6_fault 0 = .ok (.iload_n 1, 1) := by decide +kernel
theorem dX6_fault_1 : decode cX6_fault 1 = .ok (.ifCond .ne 11, 3) := by decide +kernel
theorem dX6_fault_4 : decode cX6_fault 4 = .ok (.aload_n 0, 1) := by decide +kernel
theorem dX6_fault_5 : decode cX6_fault 5 = .ok (.getfield 51, 3) := by decide +kernel
theorem dX6_fault_8 : decode cX6_fault 8 = .ok (.invokevirtual 162, 3) := by decide +kernel
theorem dX6_fault_11 : decode cX6_fault 11 = .ok (.ireturn, 1) := by decide +kernel
theorem dX6_fault_12 : decode cX6_fault 12 = .ok (.iload_n 1, 1) := by decide +kernel
theorem dX6_fault_13 : decode cX6_fault 13 = .ok (.iconst 1, 1) := by decide +kernel
theorem dX6_fault_14 : decode cX6_fault 14 = .ok (.if_icmp .ne 13, 3) := by decide +kernel
theorem dX6_fault_17 : decode cX6_fault 17 = .ok (.aload_n 0, 1) := by decide +kernel
theorem dX6_fault_18 : decode cX6_fault 18 = .ok (.getfield 51, 3) := by decide +kernel
theorem dX6_fault_21 : decode cX6_fault 21 = .ok (.invokevirtual 165, 3) := by decide +kernel
theorem dX6_fault_24 : decode cX6_fault 24 = .ok (.goto 4, 3) := by decide +kernel
theorem dX6_fault_27 : decode cX6_fault 27 = .ok (.iconst (-1), 1) := by decide +kernel
theorem dX6_fault_28 : decode cX6_fault 28 = .ok (.ireturn, 1) := by decide +kernel
theorem dX6_pass_0 : decode cX6_pass 0 = .ok (.iload_n 1, 1) := by decide +kernel
theorem dX6_pass_1 : decode cX6_pass 1 = .ok (.iconst 0, 1) := by decide +kernel
theorem dX6_pass_2 : decode cX6_pass 2 = .ok (.iconst 5, 1) := by decide +kernel
theorem dX6_pass_3 : decode cX6_pass 3 = .ok (.invokestatic 66, 3) := by decide +kernel
theorem dX6_pass_6 : decode cX6_pass 6 = .ok (.ifCond .eq 30, 3) := by decide +kernel
theorem dX6_pass_9 : decode cX6_pass 9 = .ok (.iload_n 2, 1) := by decide +kernel
theorem dX6_pass_10 : decode cX6_pass 10 = .ok (.iconst 0, 1) := by decide +kernel
theorem dX6_pass_11 : decode cX6_pass 11 = .ok (.bipush 19, 2) := by decide +kernel
theorem dX6_pass_13 : decode cX6_pass 13 = .ok (.invokestatic 66, 3) := by decide +kernel
theorem dX6_pass_16 : decode cX6_pass 16 = .ok (.ifCond .eq 20, 3) := by decide +kernel
theorem dX6_pass_19 : decode cX6_pass 19 = .ok (.iload_n 3, 1) := by decide +kernel
theorem dX6_pass_20 : decode cX6_pass 20 = .ok (.aload_n 0, 1) := by decide +kernel
theorem dX6_pass_21 : decode cX6_pass 21 = .ok (.getfield 58, 3) := by decide +kernel
theorem dX6_pass_24 : decode cX6_pass 24 = .ok (.invokevirtual 168, 3) := by decide +kernel
theorem dX6_pass_27 : decode cX6_pass 27 = .ok (.sipush 9999, 3) := by decide +kernel
theorem dX6_pass_30 : decode cX6_pass 30 = .ok (.invokestatic 66, 3) := by decide +kernel
theorem dX6_pass_33 : decode cX6_pass 33 = .ok (.ifCond .ne 5, 3) := by decide +kernel
theorem dX6_pass_36 : decode cX6_pass 36 = .ok (.iconst (-1), 1) := by decide +kernel
theorem dX6_pass_37 : decode cX6_pass 37 = .ok (.ireturn, 1) := by decide +kernel
theorem dX6_pass_38 : decode cX6_pass 38 = .ok (.aload_n 0, 1) := by decide +kernel
theorem dX6_pass_39 : decode cX6_pass 39 = .ok (.getfield 58, 3) := by decide +kernel
theorem dX6_pass_42 : decode cX6_pass 42 = .ok (.iload_n 1, 1) := by decide +kernel
theorem dX6_pass_43 : decode cX6_pass 43 = .ok (.iload_n 2, 1) := by decide +kernel
theorem dX6_pass_44 : decode cX6_pass 44 = .ok (.iload_n 3, 1) := by decide +kernel
theorem dX6_pass_45 : decode cX6_pass 45 = .ok (.invokevirtual 171, 3) := by decide +kernel
theorem dX6_pass_48 : decode cX6_pass 48 = .ok (.ireturn, 1) := by decide +kernel
theorem dX6_about_0 : decode cX6_about 0 = .ok (.iload_n 1, 1) := by decide +kernel
theorem dX6_about_1 : decode cX6_about 1 = .ok (.bipush 20, 2) := by decide +kernel
theorem dX6_about_3 : decode cX6_about 3 = .ok (.bipush 25, 2) := by decide +kernel
theorem dX6_about_5 : decode cX6_about 5 = .ok (.invokestatic 66, 3) := by decide +kernel
theorem dX6_about_8 : decode cX6_about 8 = .ok (.ifCond .eq 15, 3) := by decide +kernel
theorem dX6_about_11 : decode cX6_about 11 = .ok (.aload_n 0, 1) := by decide +kernel
theorem dX6_about_12 : decode cX6_about 12 = .ok (.getfield 58, 3) := by decide +kernel
theorem dX6_about_15 : decode cX6_about 15 = .ok (.iload_n 1, 1) := by decide +kernel
theorem dX6_about_16 : decode cX6_about 16 = .ok (.bipush 20, 2) := by decide +kernel
theorem dX6_about_18 : decode cX6_about 18 = .ok (.isub, 1) := by decide +kernel
theorem dX6_about_19 : decode cX6_about 19 = .ok (.invokevirtual 175, 3) := by decide +kernel
theorem dX6_about_22 : decode cX6_about 22 = .ok (.ireturn, 1) := by decide +kernel
theorem dX6_about_23 : decode cX6_about 23 = .ok (.iload_n 1, 1) := by decide +kernel
theorem dX6_about_24 : decode cX6_about 24 = .ok (.bipush 30, 2) := by decide +kernel
theorem dX6_about_26 : decode cX6_about 26 = .ok (.bipush 35, 2) := by decide +kernel
theorem dX6_about_28 : decode cX6_about 28 = .ok (.invokestatic 66, 3) := by decide +kernel
theorem dX6_about_31 : decode cX6_about 31 = .ok (.ifCond .eq 15, 3) := by decide +kernel
theorem dX6_about_34 : decode cX6_about 34 = .ok (.aload_n 0, 1) := by decide +kernel
theorem dX6_about_35 : decode cX6_about 35 = .ok (.getfield 58, 3) := by decide +kernel
theorem dX6_about_38 : decode cX6_about 38 = .ok (.iload_n 1, 1) := by decide +kernel
theorem dX6_about_39 : decode cX6_about 39 = .ok (.bipush 30, 2) := by decide +kernel
theorem dX6_about_41 : decode cX6_about 41 = .ok (.isub, 1) := by decide +kernel
theorem dX6_about_42 : decode cX6_about 42 = .ok (.invokevirtual 178, 3) := by decide +kernel
theorem dX6_about_45 : decode cX6_about 45 = .ok (.ireturn, 1) := by decide +kernel
theorem dX6_about_46 : decode cX6_about 46 = .ok (.iload_n 1, 1) := by decide +kernel
theorem dX6_about_47 : decode cX6_about 47 = .ok (.tableswitch 97 0 6 #[41, 49, 57, 65, 73, 81, 89], 41) := by decide +kernel
theorem dX6_about_88 : decode cX6_about 88 = .ok (.aload_n 0, 1) := by decide +kernel
theorem dX6_about_89 : decode cX6_about 89 = .ok (.getfield 23, 3) := by decide +kernel
theorem dX6_about_92 : decode cX6_about 92 = .ok (.invokevirtual 181, 3) := by decide +kernel
theorem dX6_about_95 : decode cX6_about 95 = .ok (.ireturn, 1) := by decide +kernel
theorem dX6_about_96 : decode cX6_about 96 = .ok (.aload_n 0, 1) := by decide +kernel
theorem dX6_about_97 : decode cX6_about 97 = .ok (.getfield 23, 3) := by decide +kernel
theorem dX6_about_100 : decode cX6_about 100 = .ok (.invokevirtual 82, 3) := by decide +kernel
theorem dX6_about_103 : decode cX6_about 103 = .ok (.ireturn, 1) := by decide +kernel
theorem dX6_about_104 : decode cX6_about 104 = .ok (.aload_n 0, 1) := by decide +kernel
theorem dX6_about_105 : decode cX6_about 105 = .ok (.getfield 30, 3) := by decide +kernel
theorem dX6_about_108 : decode cX6_about 108 = .ok (.invokevirtual 102, 3) := by decide +kernel
theorem dX6_about_111 : decode cX6_about 111 = .ok (.ireturn, 1) := by decide +kernel
theorem dX6_about_112 : decode cX6_about 112 = .ok (.aload_n 0, 1) := by decide +kernel
theorem dX6_about_113 : decode cX6_about 113 = .ok (.getfield 30, 3) := by decide +kernel
theorem dX6_about_116 : decode cX6_about 116 = .ok (.invokevirtual 108, 3) := by decide +kernel
theorem dX6_about_119 : decode cX6_about 119 = .ok (.ireturn, 1) := by decide +kernel
theorem dX6_about_120 : decode cX6_about 120 = .ok (.aload_n 0, 1) := by decide +kernel
theorem dX6_about_121 : decode cX6_about 121 = .ok (.getfield 58, 3) := by decide +kernel
theorem dX6_about_124 : decode cX6_about 124 = .ok (.invokevirtual 184, 3) := by decide +kernel
theorem dX6_about_127 : decode cX6_about 127 = .ok (.ireturn, 1) := by decide +kernel
theorem dX6_about_128 : decode cX6_about 128 = .ok (.aload_n 0, 1) := by decide +kernel
theorem dX6_about_129 : decode cX6_about 129 = .ok (.getfield 58, 3) := by decide +kernel
theorem dX6_about_132 : decode cX6_about 132 = .ok (.invokevirtual 187, 3) := by decide +kernel
theorem dX6_about_135 : decode cX6_about 135 = .ok (.ireturn, 1) := by decide +kernel
theorem dX6_about_136 : decode cX6_about 136 = .ok (.aload_n 0, 1) := by decide +kernel
theorem dX6_about_137 : decode cX6_about 137 = .ok (.getfield 44, 3) := by decide +kernel
theorem dX6_about_140 : decode cX6_about 140 = .ok (.invokevirtual 142, 3) := by decide +kernel
theorem dX6_about_143 : decode cX6_about 143 = .ok (.ireturn, 1) := by decide +kernel
theorem dX6_about_144 : decode cX6_about 144 = .ok (.iconst (-1), 1) := by decide +kernel
theorem dX6_about_145 : decode cX6_about 145 = .ok (.ireturn, 1) := by decide +kernel
theorem dX6_within_0 : decode cX6_within 0 = .ok (.iload_n 0, 1) := by decide +kernel
theorem dX6_within_1 : decode cX6_within 1 = .ok (.iload_n 1, 1) := by decide +kernel
theorem dX6_within_2 : decode cX6_within 2 = .ok (.if_icmp .lt 12, 3) := by decide +kernel
theorem dX6_within_5 : decode cX6_within 5 = .ok (.iload_n 0, 1) := by decide +kernel
theorem dX6_within_6 : decode cX6_within 6 = .ok (.iload_n 2, 1) := by decide +kernel
theorem dX6_within_7 : decode cX6_within 7 = .ok (.if_icmp .gt 7, 3) := by decide +kernel
theorem dX6_within_10 : decode cX6_within 10 = .ok (.iconst 1, 1) := by decide +kernel
theorem dX6_within_11 : decode cX6_within 11 = .ok (.goto 4, 3) := by decide +kernel
theorem dX6_within_14 : decode cX6_within 14 = .ok (.iconst 0, 1) := by decide +kernel
theorem dX6_within_15 : decode cX6_within 15 = .ok (.ireturn, 1) := by decide +kernel
theorem dX7_init_0 : decode cX7_init 0 = .ok (.aload_n 0, 1) := by decide +kernel
theorem dX7_init_1 : decode cX7_init 1 = .ok (.invokespecial 1, 3) := by decide +kernel
theorem dX7_init_4 : decode cX7_init 4 = .ok (.aload_n 0, 1) := by decide +kernel
theorem dX7_init_5 : decode cX7_init 5 = .ok (.bipush 12, 2) := by decide +kernel
theorem dX7_init_7 : decode cX7_init 7 = .ok (.newarray .int, 2) := by decide +kernel
theorem dX7_init_9 : decode cX7_init 9 = .ok (.putfield 7, 3) := by decide +kernel
theorem dX7_init_12 : decode cX7_init 12 = .ok (.aload_n 0, 1) := by decide +kernel
theorem dX7_init_13 : decode cX7_init 13 = .ok (.bipush 12, 2) := by decide +kernel
theorem dX7_init_15 : decode cX7_init 15 = .ok (.newarray .int, 2) := by decide +kernel
theorem dX7_init_17 : decode cX7_init 17 = .ok (.putfield 13, 3) := by decide +kernel
theorem dX7_init_20 : decode cX7_init 20 = .ok (.aload_n 0, 1) := by decide +kernel
theorem dX7_init_21 : decode cX7_init 21 = .ok (.bipush 10, 2) := by decide +kernel
theorem dX7_init_23 : decode cX7_init 23 = .ok (.newarray .int, 2) := by decide +kernel
theorem dX7_init_25 : decode cX7_init 25 = .ok (.putfield 16, 3) := by decide +kernel
theorem dX7_init_28 : decode cX7_init 28 = .ok (.aload_n 0, 1) := by decide +kernel
theorem dX7_init_29 : decode cX7_init 29 = .ok (.bipush 6, 2) := by decide +kernel
theorem dX7_init_31 : decode cX7_init 31 = .ok (.newarray .int, 2) := by decide +kernel
theorem dX7_init_33 : decode cX7_init 33 = .ok (.putfield 19, 3) := by decide +kernel
theorem dX7_init_36 : decode cX7_init 36 = .ok (.aload_n 0, 1) := by decide +kernel
theorem dX7_init_37 : decode cX7_init 37 = .ok (.bipush 6, 2) := by decide +kernel
theorem dX7_init_39 : decode cX7_init 39 = .ok (.newarray .int, 2) := by decide +kernel
theorem dX7_init_41 : decode cX7_init 41 = .ok (.putfield 22, 3) := by decide +kernel
theorem dX7_init_44 : decode cX7_init 44 = .ok (.aload_n 0, 1) := by decide +kernel
theorem dX7_init_45 : decode cX7_init 45 = .ok (.bipush 10, 2) := by decide +kernel
theorem dX7_init_47 : decode cX7_init 47 = .ok (.newarray .int, 2) := by decide +kernel
theorem dX7_init_49 : decode cX7_init 49 = .ok (.putfield 25, 3) := by decide +kernel
theorem dX7_init_52 : decode cX7_init 52 = .ok (.aload_n 0, 1) := by decide +kernel
theorem dX7_init_53 : decode cX7_init 53 = .ok (.bipush 30, 2) := by decide +kernel
theorem dX7_init_55 : decode cX7_init 55 = .ok (.newarray .int, 2) := by decide +kernel
theorem dX7_init_57 : decode cX7_init 57 = .ok (.putfield 28, 3) := by decide +kernel
theorem dX7_init_60 : decode cX7_init 60 = .ok (.aload_n 0, 1) := by decide +kernel
theorem dX7_init_61 : decode cX7_init 61 = .ok (.iconst 4, 1) := by decide +kernel
theorem dX7_init_62 : decode cX7_init 62 = .ok (.newarray .int, 2) := by decide +kernel
theorem dX7_init_64 : decode cX7_init 64 = .ok (.dup, 1) := by decide +kernel
theorem dX7_init_65 : decode cX7_init 65 = .ok (.iconst 0, 1) := by decide +kernel
theorem dX7_init_66 : decode cX7_init 66 = .ok (.iconst 3, 1) := by decide +kernel
theorem dX7_init_67 : decode cX7_init 67 = .ok (.iastore, 1) := by decide +kernel
theorem dX7_init_68 : decode cX7_init 68 = .ok (.dup, 1) := by decide +kernel
theorem dX7_init_69 : decode cX7_init 69 = .ok (.iconst 1, 1) := by decide +kernel
theorem dX7_init_70 : decode cX7_init 70 = .ok (.iconst 2, 1) := by decide +kernel
theorem dX7_init_71 : decode cX7_init 71 = .ok (.iastore, 1) := by decide +kernel
theorem dX7_init_72 : decode cX7_init 72 = .ok (.dup, 1) := by decide +kernel
theorem dX7_init_73 : decode cX7_init 73 = .ok (.iconst 2, 1) := by decide +kernel
theorem dX7_init_74 : decode cX7_init 74 = .ok (.iconst 3, 1) := by decide +kernel
theorem dX7_init_75 : decode cX7_init 75 = .ok (.iastore, 1) := by decide +kernel
theorem dX7_init_76 : decode cX7_init 76 = .ok (.dup, 1) := by decide +kernel
theorem dX7_init_77 : decode cX7_init 77 = .ok (.iconst 3, 1) := by decide +kernel
theorem dX7_init_78 : decode cX7_init 78 = .ok (.iconst 2, 1) := by decide +kernel
theorem dX7_init_79 : decode cX7_init 79 = .ok (.iastore, 1) := by decide +kernel
theorem dX7_init_80 : decode cX7_init 80 = .ok (.putfield 31, 3) := by decide +kernel
theorem dX7_init_83 : decode cX7_init 83 = .ok (.aload_n 0, 1) := by decide +kernel
theorem dX7_init_84 : decode cX7_init 84 = .ok (.bipush 60, 2) := by decide +kernel
theorem dX7_init_86 : decode cX7_init 86 = .ok (.newarray .int, 2) := by decide +kernel
theorem dX7_init_88 : decode cX7_init 88 = .ok (.putfield 34, 3) := by decide +kernel
theorem dX7_init_91 : decode cX7_init 91 = .ok (.aload_n 0, 1) := by decide +kernel
theorem dX7_init_92 : decode cX7_init 92 = .ok (.bipush 60, 2) := by decide +kernel
theorem dX7_init_94 : decode cX7_init 94 = .ok (.newarray .int, 2) := by decide +kernel
theorem dX7_init_96 : decode cX7_init 96 = .ok (.putfield 37, 3) := by decide +kernel
theorem dX7_init_99 : decode cX7_init 99 = .ok (.aload_n 0, 1) := by decide +kernel
theorem dX7_init_100 : decode cX7_init 100 = .ok (.bipush 50, 2) := by decide +kernel
theorem dX7_init_102 : decode cX7_init 102 = .ok (.putfield 40, 3) := by decide +kernel
theorem dX7_init_105 : decode cX7_init 105 = .ok (.aload_n 0, 1) := by decide +kernel
theorem dX7_init_106 : decode cX7_init 106 = .ok (.iconst 3, 1) := by decide +kernel
theorem dX7_init_107 : decode cX7_init 107 = .ok (.putfield 44, 3) := by decide +kernel
theorem dX7_init_110 : decode cX7_init 110 = .ok (.aload_n 0, 1) := by decide +kernel
theorem dX7_init_111 : decode cX7_init 111 = .ok (.sipush 200, 3) := by decide +kernel
theorem dX7_init_114 : decode cX7_init 114 = .ok (.newarray .byte, 2) := by decide +kernel
theorem dX7_init_116 : decode cX7_init 116 = .ok (.putfield 47, 3) := by decide +kernel
theorem dX7_init_119 : decode cX7_init 119 = .ok (.aload_n 0, 1) := by decide +kernel
theorem dX7_init_120 : decode cX7_init 120 = .ok (.iconst (-1), 1) := by decide +kernel
theorem dX7_init_121 : decode cX7_init 121 = .ok (.putfield 51, 3) := by decide +kernel
theorem dX7_init_124 : decode cX7_init 124 = .ok (.aload_n 0, 1) := by decide +kernel
theorem dX7_init_125 : decode cX7_init 125 = .ok (.iconst (-1), 1) := by decide +kernel
theorem dX7_init_126 : decode cX7_init 126 = .ok (.putfield 54, 3) := by decide +kernel
theorem dX7_init_129 : decode cX7_init 129 = .ok (.aload_n 0, 1) := by decide +kernel
theorem dX7_init_130 : decode cX7_init 130 = .ok (.bipush 6, 2) := by decide +kernel
theorem dX7_init_132 : decode cX7_init 132 = .ok (.newarray .int, 2) := by decide +kernel
theorem dX7_init_134 : decode cX7_init 134 = .ok (.putfield 57, 3) := by decide +kernel
theorem dX7_init_137 : decode cX7_init 137 = .ok (.aload_n 0, 1) := by decide +kernel
theorem dX7_init_138 : decode cX7_init 138 = .ok (.bipush 6, 2) := by decide +kernel
theorem dX7_init_140 : decode cX7_init 140 = .ok (.newarray .int, 2) := by decide +kernel
theorem dX7_init_142 : decode cX7_init 142 = .ok (.putfield 60, 3) := by decide +kernel
theorem dX7_init_145 : decode cX7_init 145 = .ok (.aload_n 0, 1) := by decide +kernel
theorem dX7_init_146 : decode cX7_init 146 = .ok (.bipush 6, 2) := by decide +kernel
theorem dX7_init_148 : decode cX7_init 148 = .ok (.newarray .int, 2) := by decide +kernel
theorem dX7_init_150 : decode cX7_init 150 = .ok (.dup, 1) := by decide +kernel
theorem dX7_init_151 : decode cX7_init 151 = .ok (.iconst 0, 1) := by decide +kernel
theorem dX7_init_152 : decode cX7_init 152 = .ok (.iconst (-1), 1) := by decide +kernel
theorem dX7_init_153 : decode cX7_init 153 = .ok (.iastore, 1) := by decide +kernel
theorem dX7_init_154 : decode cX7_init 154 = .ok (.dup, 1) := by decide +kernel
theorem dX7_init_155 : decode cX7_init 155 = .ok (.iconst 1, 1) := by decide +kernel
theorem dX7_init_156 : decode cX7_init 156 = .ok (.iconst (-1), 1) := by decide +kernel
theorem dX7_init_157 : decode cX7_init 157 = .ok (.iastore, 1) := by decide +kernel
theorem dX7_init_158 : decode cX7_init 158 = .ok (.dup, 1) := by decide +kernel
theorem dX7_init_159 : decode cX7_init 159 = .ok (.iconst 2, 1) := by decide +kernel
theorem dX7_init_160 : decode cX7_init 160 = .ok (.iconst (-1), 1) := by decide +kernel
theorem dX7_init_161 : decode cX7_init 161 = .ok (.iastore, 1) := by decide +kernel
theorem dX7_init_162 : decode cX7_init 162 = .ok (.dup, 1) := by decide +kernel
theorem dX7_init_163 : decode cX7_init 163 = .ok (.iconst 3, 1) := by decide +kernel
theorem dX7_init_164 : decode cX7_init 164 = .ok (.iconst (-1), 1) := by decide +kernel
theorem dX7_init_165 : decode cX7_init 165 = .ok (.iastore, 1) := by decide +kernel
theorem dX7_init_166 : decode cX7_init 166 = .ok (.dup, 1) := by decide +kernel
theorem dX7_init_167 : decode cX7_init 167 = .ok (.iconst 4, 1) := by decide +kernel
theorem dX7_init_168 : decode cX7_init 168 = .ok (.iconst (-1), 1) := by decide +kernel
theorem dX7_init_169 : decode cX7_init 169 = .ok (.iastore, 1) := by decide +kernel
theorem dX7_init_170 : decode cX7_init 170 = .ok (.dup, 1) := by decide +kernel
theorem dX7_init_171 : decode cX7_init 171 = .ok (.iconst 5, 1) := by decide +kernel
theorem dX7_init_172 : decode cX7_init 172 = .ok (.iconst (-1), 1) := by decide +kernel
theorem dX7_init_173 : decode cX7_init 173 = .ok (.iastore, 1) := by decide +kernel
theorem dX7_init_174 : decode cX7_init 174 = .ok (.putfield 63, 3) := by decide +kernel
theorem dX7_init_177 : decode cX7_init 177 = .ok (.aload_n 0, 1) := by decide +kernel
theorem dX7_init_178 : decode cX7_init 178 = .ok (.bipush 6, 2) := by decide +kernel
theorem dX7_init_180 : decode cX7_init 180 = .ok (.newarray .int, 2) := by decide +kernel
theorem dX7_init_182 : decode cX7_init 182 = .ok (.dup, 1) := by decide +kernel
theorem dX7_init_183 : decode cX7_init 183 = .ok (.iconst 0, 1) := by decide +kernel
theorem dX7_init_184 : decode cX7_init 184 = .ok (.iconst (-1), 1) := by decide +kernel
theorem dX7_init_185 : decode cX7_init 185 = .ok (.iastore, 1) := by decide +kernel
theorem dX7_init_186 : decode cX7_init 186 = .ok (.dup, 1) := by decide +kernel
theorem dX7_init_187 : decode cX7_init 187 = .ok (.iconst 1, 1) := by decide +kernel
theorem dX7_init_188 : decode cX7_init 188 = .ok (.iconst (-1), 1) := by decide +kernel
theorem dX7_init_189 : decode cX7_init 189 = .ok (.iastore, 1) := by decide +kernel
theorem dX7_init_190 : decode cX7_init 190 = .ok (.dup, 1) := by decide +kernel
theorem dX7_init_191 : decode cX7_init 191 = .ok (.iconst 2, 1) := by decide +kernel
theorem dX7_init_192 : decode cX7_init 192 = .ok (.iconst (-1), 1) := by decide +kernel
theorem dX7_init_193 : decode cX7_init 193 = .ok (.iastore, 1) := by decide +kernel
theorem dX7_init_194 : decode cX7_init 194 = .ok (.dup, 1) := by decide +kernel
theorem dX7_init_195 : decode cX7_init 195 = .ok (.iconst 3, 1) := by decide +kernel
theorem dX7_init_196 : decode cX7_init 196 = .ok (.iconst (-1), 1) := by decide +kernel
theorem dX7_init_197 : decode cX7_init 197 = .ok (.iastore, 1) := by decide +kernel
theorem dX7_init_198 : decode cX7_init 198 = .ok (.dup, 1) := by decide +kernel
theorem dX7_init_199 : decode cX7_init 199 = .ok (.iconst 4, 1) := by decide +kernel
theorem dX7_init_200 : decode cX7_init 200 = .ok (.iconst (-1), 1) := by decide +kernel
theorem dX7_init_201 : decode cX7_init 201 = .ok (.iastore, 1) := by decide +kernel
theorem dX7_init_202 : decode cX7_init 202 = .ok (.dup, 1) := by decide +kernel
theorem dX7_init_203 : decode cX7_init 203 = .ok (.iconst 5, 1) := by decide +kernel
theorem dX7_init_204 : decode cX7_init 204 = .ok (.iconst (-1), 1) := by decide +kernel
theorem dX7_init_205 : decode cX7_init 205 = .ok (.iastore, 1) := by decide +kernel
theorem dX7_init_206 : decode cX7_init 206 = .ok (.putfield 66, 3) := by decide +kernel
theorem dX7_init_209 : decode cX7_init 209 = .ok (.aload_n 0, 1) := by decide +kernel
theorem dX7_init_210 : decode cX7_init 210 = .ok (.bipush 120, 2) := by decide +kernel
theorem dX7_init_212 : decode cX7_init 212 = .ok (.newarray .int, 2) := by decide +kernel
theorem dX7_init_214 : decode cX7_init 214 = .ok (.putfield 69, 3) := by decide +kernel
theorem dX7_init_217 : decode cX7_init 217 = .ok (.aload_n 0, 1) := by decide +kernel
theorem dX7_init_218 : decode cX7_init 218 = .ok (.bipush 10, 2) := by decide +kernel
theorem dX7_init_220 : decode cX7_init 220 = .ok (.newarray .int, 2) := by decide +kernel
theorem dX7_init_222 : decode cX7_init 222 = .ok (.putfield 72, 3) := by decide +kernel
theorem dX7_init_225 : decode cX7_init 225 = .ok (.aload_n 0, 1) := by decide +kernel
theorem dX7_init_226 : decode cX7_init 226 = .ok (.sipush 3311, 3) := by decide +kernel
theorem dX7_init_229 : decode cX7_init 229 = .ok (.newarray .int, 2) := by decide +kernel
theorem dX7_init_231 : decode cX7_init 231 = .ok (.putfield 75, 3) := by decide +kernel
theorem dX7_init_234 : decode cX7_init 234 = .ok (.aload_n 0, 1) := by decide +kernel
theorem dX7_init_235 : decode cX7_init 235 = .ok (.sipush 610, 3) := by decide +kernel
theorem dX7_init_238 : decode cX7_init 238 = .ok (.newarray .int, 2) := by decide +kernel
theorem dX7_init_240 : decode cX7_init 240 = .ok (.putfield 78, 3) := by decide +kernel
theorem dX7_init_243 : decode cX7_init 243 = .ok (.aload_n 0, 1) := by decide +kernel
theorem dX7_init_244 : decode cX7_init 244 = .ok (.iload_n 1, 1) := by decide +kernel
theorem dX7_init_245 : decode cX7_init 245 = .ok (.iconst 1, 1) := by decide +kernel
theorem dX7_init_246 : decode cX7_init 246 = .ok (.if_icmp .ge 7, 3) := by decide +kernel
theorem dX7_init_249 : decode cX7_init 249 = .ok (.iconst 1, 1) := by decide +kernel
theorem dX7_init_250 : decode cX7_init 250 = .ok (.goto 15, 3) := by decide +kernel
theorem dX7_init_253 : decode cX7_init 253 = .ok (.iload_n 1, 1) := by decide +kernel
theorem dX7_init_254 : decode cX7_init 254 = .ok (.bipush 12, 2) := by decide +kernel
theorem dX7_init_256 : decode cX7_init 256 = .ok (.if_icmp .le 8, 3) := by decide +kernel
theorem dX7_init_259 : decode cX7_init 259 = .ok (.bipush 12, 2) := by decide +kernel
theorem dX7_init_261 : decode cX7_init 261 = .ok (.goto 4, 3) := by decide +kernel
theorem dX7_init_264 : decode cX7_init 264 = .ok (.iload_n 1, 1) := by decide +kernel
theorem dX7_init_265 : decode cX7_init 265 = .ok (.putfield 81, 3) := by decide +kernel
theorem dX7_init_268 : decode cX7_init 268 = .ok (.iconst 0, 1) := by decide +kernel
theorem dX7_init_269 : decode cX7_init 269 = .ok (.istore_n 2, 1) := by decide +kernel
theorem dX7_init_270 : decode cX7_init 270 = .ok (.iload_n 2, 1) := by decide +kernel
theorem dX7_init_271 : decode cX7_init 271 = .ok (.bipush 12, 2) := by decide +kernel
theorem dX7_init_273 : decode cX7_init 273 = .ok (.if_icmp .ge 25, 3) := by decide +kernel
theorem dX7_init_276 : decode cX7_init 276 = .ok (.aload_n 0, 1) := by decide +kernel
theorem dX7_init_277 : decode cX7_init 277 = .ok (.getfield 7, 3) := by decide +kernel
theorem dX7_init_280 : decode cX7_init 280 = .ok (.iload_n 2, 1) := by decide +kernel
theorem dX7_init_281 : decode cX7_init 281 = .ok (.bipush 100, 2) := by decide +kernel
theorem dX7_init_283 : decode cX7_init 283 = .ok (.iastore, 1) := by decide +kernel
theorem dX7_init_284 : decode cX7_init 284 = .ok (.aload_n 0, 1) := by decide +kernel
theorem dX7_init_285 : decode cX7_init 285 = .ok (.getfield 13, 3) := by decide +kernel
theorem dX7_init_288 : decode cX7_init 288 = .ok (.iload_n 2, 1) := by decide +kernel
theorem dX7_init_289 : decode cX7_init 289 = .ok (.bipush 100, 2) := by decide +kernel
theorem dX7_init_291 : decode cX7_init 291 = .ok (.iastore, 1) := by decide +kernel
theorem dX7_init_292 : decode cX7_init 292 = .ok (.iinc 2 1, 3) := by decide +kernel
theorem dX7_init_295 : decode cX7_init 295 = .ok (.goto (-25), 3) := by decide +kernel
theorem dX7_init_298 : decode cX7_init 298 = .ok (.iconst 0, 1) := by decide +kernel
theorem dX7_init_299 : decode cX7_init 299 = .ok (.istore_n 2, 1) := by decide +kernel
theorem dX7_init_300 : decode cX7_init 300 = .ok (.iload_n 2, 1) := by decide +kernel
theorem dX7_init_301 : decode cX7_init 301 = .ok (.bipush 60, 2) := by decide +kernel
theorem dX7_init_303 : decode cX7_init 303 = .ok (.if_icmp .ge 16, 3) := by decide +kernel
theorem dX7_init_306 : decode cX7_init 306 = .ok (.aload_n 0, 1) := by decide +kernel
theorem dX7_init_307 : decode cX7_init 307 = .ok (.getfield 34, 3) := by decide +kernel
theorem dX7_init_310 : decode cX7_init 310 = .ok (.iload_n 2, 1) := by decide +kernel
theorem dX7_init_311 : decode cX7_init 311 = .ok (.iconst (-1), 1) := by decide +kernel
theorem dX7_init_312 : decode cX7_init 312 = .ok (.iastore, 1) := by decide +kernel
theorem dX7_init_313 : decode cX7_init 313 = .ok (.iinc 2 1, 3) := by decide +kernel
theorem dX7_init_316 : decode cX7_init 316 = .ok (.goto (-16), 3) := by decide +kernel
theorem dX7_init_319 : decode cX7_init 319 = .ok (.iconst 0, 1) := by decide +kernel
theorem dX7_init_320 : decode cX7_init 320 = .ok (.istore_n 2, 1) := by decide +kernel
theorem dX7_init_321 : decode cX7_init 321 = .ok (.iload_n 2, 1) := by decide +kernel
theorem dX7_init_322 : decode cX7_init 322 = .ok (.bipush 120, 2) := by decide +kernel
theorem dX7_init_324 : decode cX7_init 324 = .ok (.if_icmp .ge 16, 3) := by decide +kernel
theorem dX7_init_327 : decode cX7_init 327 = .ok (.aload_n 0, 1) := by decide +kernel
theorem dX7_init_328 : decode cX7_init 328 = .ok (.getfield 69, 3) := by decide +kernel
theorem dX7_init_331 : decode cX7_init 331 = .ok (.iload_n 2, 1) := by decide +kernel
theorem dX7_init_332 : decode cX7_init 332 = .ok (.iconst (-1), 1) := by decide +kernel
theorem dX7_init_333 : decode cX7_init 333 = .ok (.iastore, 1) := by decide +kernel
theorem dX7_init_334 : decode cX7_init 334 = .ok (.iinc 2 1, 3) := by decide +kernel
theorem dX7_init_337 : decode cX7_init 337 = .ok (.goto (-16), 3) := by decide +kernel
theorem dX7_init_340 : decode cX7_init 340 = .ok (.return_, 1) := by decide +kernel
theorem dX7_in_0 : decode cX7_in 0 = .ok (.lload_n 0, 1) := by decide +kernel
theorem dX7_in_1 : decode cX7_in 1 = .ok (.lload_n 2, 1) := by decide +kernel
theorem dX7_in_2 : decode cX7_in 2 = .ok (.lcmp, 1) := by decide +kernel
theorem dX7_in_3 : decode cX7_in 3 = .ok (.ifCond .lt 14, 3) := by decide +kernel
theorem dX7_in_6 : decode cX7_in 6 = .ok (.lload_n 0, 1) := by decide +kernel
theorem dX7_in_7 : decode cX7_in 7 = .ok (.lload 4, 2) := by decide +kernel
theorem dX7_in_9 : decode cX7_in 9 = .ok (.lcmp, 1) := by decide +kernel
theorem dX7_in_10 : decode cX7_in 10 = .ok (.ifCond .gt 7, 3) := by decide +kernel
theorem dX7_in_13 : decode cX7_in 13 = .ok (.iconst 1, 1) := by decide +kernel
theorem dX7_in_14 : decode cX7_in 14 = .ok (.goto 4, 3) := by decide +kernel
theorem dX7_in_17 : decode cX7_in 17 = .ok (.iconst 0, 1) := by decide +kernel
theorem dX7_in_18 : decode cX7_in 18 = .ok (.ireturn, 1) := by decide +kernel
theorem dX7_isHull_0 : decode cX7_isHull 0 = .ok (.iload_n 1, 1) := by decide +kernel
theorem dX7_isHull_1 : decode cX7_isHull 1 = .ok (.i2l, 1) := by decide +kernel
theorem dX7_isHull_2 : decode cX7_isHull 2 = .ok (.lconst 0, 1) := by decide +kernel
theorem dX7_isHull_3 : decode cX7_isHull 3 = .ok (.aload_n 0, 1) := by decide +kernel
theorem dX7_isHull_4 : decode cX7_isHull 4 = .ok (.getfield 81, 3) := by decide +kernel
theorem dX7_isHull_7 : decode cX7_isHull 7 = .ok (.iconst 1, 1) := by decide +kernel
theorem dX7_isHull_8 : decode cX7_isHull 8 = .ok (.isub, 1) := by decide +kernel
theorem dX7_isHull_9 : decode cX7_isHull 9 = .ok (.i2l, 1) := by decide +kernel
theorem dX7_isHull_10 : decode cX7_isHull 10 = .ok (.invokestatic 84, 3) := by decide +kernel
theorem dX7_isHull_13 : decode cX7_isHull 13 = .ok (.ireturn, 1) := by decide +kernel
theorem dX7_hull_0 : decode cX7_hull 0 = .ok (.aload_n 0, 1) := by decide +kernel
theorem dX7_hull_1 : decode cX7_hull 1 = .ok (.iload_n 1, 1) := by decide +kernel
theorem dX7_hull_2 : decode cX7_hull 2 = .ok (.invokevirtual 88, 3) := by decide +kernel
theorem dX7_hull_5 : decode cX7_hull 5 = .ok (.ifCond .eq 27, 3) := by decide +kernel
theorem dX7_hull_8 : decode cX7_hull 8 = .ok (.iload_n 2, 1) := by decide +kernel
theorem dX7_hull_9 : decode cX7_hull 9 = .ok (.i2l, 1) := by decide +kernel
theorem dX7_hull_10 : decode cX7_hull 10 = .ok (.lconst 1, 1) := by decide +kernel
theorem dX7_hull_11 : decode cX7_hull 11 = .ok (.ldc2_w 92, 3) := by decide +kernel
theorem dX7_hull_14 : decode cX7_hull 14 = .ok (.invokestatic 84, 3) := by decide +kernel
theorem dX7_hull_17 : decode cX7_hull 17 = .ok (.ifCond .eq 15, 3) := by decide +kernel
theorem dX7_hull_20 : decode cX7_hull 20 = .ok (.iload_n 3, 1) := by decide +kernel
theorem dX7_hull_21 : decode cX7_hull 21 = .ok (.i2l, 1) := by decide +kernel
theorem dX7_hull_22 : decode cX7_hull 22 = .ok (.lconst 0, 1) := by decide +kernel
theorem dX7_hull_23 : decode cX7_hull 23 = .ok (.ldc2_w 92, 3) := by decide +kernel
theorem dX7_hull_26 : decode cX7_hull 26 = .ok (.invokestatic 84, 3) := by decide +kernel
theorem dX7_hull_29 : decode cX7_hull 29 = .ok (.ifCond .ne 5, 3) := by decide +kernel
theorem dX7_hull_32 : decode cX7_hull 32 = .ok (.iconst 0, 1) := by decide +kernel
theorem dX7_hull_33 : decode cX7_hull 33 = .ok (.ireturn, 1) := by decide +kernel
theorem dX7_hull_34 : decode cX7_hull 34 = .ok (.aload_n 0, 1) := by decide +kernel
theorem dX7_hull_35 : decode cX7_hull 35 = .ok (.getfield 7, 3) := by decide +kernel
theorem dX7_hull_38 : decode cX7_hull 38 = .ok (.iload_n 1, 1) := by decide +kernel
theorem dX7_hull_39 : decode cX7_hull 39 = .ok (.iload_n 2, 1) := by decide +kernel
theorem dX7_hull_40 : decode cX7_hull 40 = .ok (.iastore, 1) := by decide +kernel
theorem dX7_hull_41 : decode cX7_hull 41 = .ok (.aload_n 0, 1) := by decide +kernel
theorem dX7_hull_42 : decode cX7_hull 42 = .ok (.getfield 13, 3) := by decide +kernel
theorem dX7_hull_45 : decode cX7_hull 45 = .ok (.iload_n 1, 1) := by decide +kernel
theorem dX7_hull_46 : decode cX7_hull 46 = .ok (.iload_n 3, 1) := by decide +kernel
theorem dX7_hull_47 : decode cX7_hull 47 = .ok (.iastore, 1) := by decide +kernel
theorem dX7_hull_48 : decode cX7_hull 48 = .ok (.iconst 1, 1) := by decide +kernel
theorem dX7_hull_49 : decode cX7_hull 49 = .ok (.ireturn, 1) := by decide +kernel
theorem dX7_pull_0 : decode cX7_pull 0 = .ok (.iload_n 1, 1) := by decide +kernel
theorem dX7_pull_1 : decode cX7_pull 1 = .ok (.i2l, 1) := by decide +kernel
theorem dX7_pull_2 : decode cX7_pull 2 = .ok (.lconst 0, 1) := by decide +kernel
theorem dX7_pull_3 : decode cX7_pull 3 = .ok (.ldc2_w 94, 3) := by decide +kernel
theorem dX7_pull_6 : decode cX7_pull 6 = .ok (.invokestatic 84, 3) := by decide +kernel
theorem dX7_pull_9 : decode cX7_pull 9 = .ok (.ifCond .eq 15, 3) := by decide +kernel
theorem dX7_pull_12 : decode cX7_pull 12 = .ok (.iload_n 2, 1) := by decide +kernel
theorem dX7_pull_13 : decode cX7_pull 13 = .ok (.i2l, 1) := by decide +kernel
theorem dX7_pull_14 : decode cX7_pull 14 = .ok (.lconst 0, 1) := by decide +kernel
theorem dX7_pull_15 : decode cX7_pull 15 = .ok (.ldc2_w 92, 3) := by decide +kernel
theorem dX7_pull_18 : decode cX7_pull 18 = .ok (.invokestatic 84, 3) := by decide +kernel
theorem dX7_pull_21 : decode cX7_pull 21 = .ok (.ifCond .ne 5, 3) := by decide +kernel
theorem dX7_pull_24 : decode cX7_pull 24 = .ok (.iconst 0, 1) := by decide +kernel
theorem dX7_pull_25 : decode cX7_pull 25 = .ok (.ireturn, 1) := by decide +kernel
theorem dX7_pull_26 : decode cX7_pull 26 = .ok (.aload_n 0, 1) := by decide +kernel
theorem dX7_pull_27 : decode cX7_pull 27 = .ok (.getfield 16, 3) := by decide +kernel
theorem dX7_pull_30 : decode cX7_pull 30 = .ok (.iload_n 1, 1) := by decide +kernel
theorem dX7_pull_31 : decode cX7_pull 31 = .ok (.iload_n 2, 1) := by decide +kernel
theorem dX7_pull_32 : decode cX7_pull 32 = .ok (.iastore, 1) := by decide +kernel
theorem dX7_pull_33 : decode cX7_pull 33 = .ok (.iconst 1, 1) := by decide +kernel
theorem dX7_pull_34 : decode cX7_pull 34 = .ok (.ireturn, 1) := by decide +kernel
theorem dX7_drags_0 : decode cX7_drags 0 = .ok (.iload_n 1, 1) := by decide +kernel
theorem dX7_drags_1 : decode cX7_drags 1 = .ok (.i2l, 1) := by decide +kernel
theorem dX7_drags_2 : decode cX7_drags 2 = .ok (.lconst 0, 1) := by decide +kernel
theorem dX7_drags_3 : decode cX7_drags 3 = .ok (.ldc2_w 94, 3) := by decide +kernel
theorem dX7_drags_6 : decode cX7_drags 6 = .ok (.invokestatic 84, 3) := by decide +kernel
theorem dX7_drags_9 : decode cX7_drags 9 = .ok (.ifCond .ne 5, 3) := by decide +kernel
theorem dX7_drags_12 : decode cX7_drags 12 = .ok (.iconst (-1), 1) := by decide +kernel
theorem dX7_drags_13 : decode cX7_drags 13 = .ok (.ireturn, 1) := by decide +kernel
theorem dX7_drags_14 : decode cX7_drags 14 = .ok (.iconst 0, 1) := by decide +kernel
theorem dX7_drags_15 : decode cX7_drags 15 = .ok (.istore_n 2, 1) := by decide +kernel
theorem dX7_drags_16 : decode cX7_drags 16 = .ok (.iconst 0, 1) := by decide +kernel
theorem dX7_drags_17 : decode cX7_drags 17 = .ok (.istore_n 3, 1) := by decide +kernel
theorem dX7_drags_18 : decode cX7_drags 18 = .ok (.iload_n 3, 1) := by decide +kernel
theorem dX7_drags_19 : decode cX7_drags 19 = .ok (.aload_n 0, 1) := by decide +kernel
theorem dX7_drags_20 : decode cX7_drags 20 = .ok (.getfield 81, 3) := by decide +kernel
theorem dX7_drags_23 : decode cX7_drags 23 = .ok (.if_icmp .ge 32, 3) := by decide +kernel
theorem dX7_drags_26 : decode cX7_drags 26 = .ok (.iload_n 2, 1) := by decide +kernel
theorem dX7_drags_27 : decode cX7_drags 27 = .ok (.aload_n 0, 1) := by decide +kernel
theorem dX7_drags_28 : decode cX7_drags 28 = .ok (.getfield 13, 3) := by decide +kernel
theorem dX7_drags_31 : decode cX7_drags 31 = .ok (.iload_n 3, 1) := by decide +kernel
theorem dX7_drags_32 : decode cX7_drags 32 = .ok (.iaload, 1) := by decide +kernel
theorem dX7_drags_33 : decode cX7_drags 33 = .ok (.aload_n 0, 1) := by decide +kernel
theorem dX7_drags_34 : decode cX7_drags 34 = .ok (.getfield 16, 3) := by decide +kernel
theorem dX7_drags_37 : decode cX7_drags 37 = .ok (.iload_n 1, 1) := by decide +kernel
theorem dX7_drags_38 : decode cX7_drags 38 = .ok (.iaload, 1) := by decide +kernel
theorem dX7_drags_39 : decode cX7_drags 39 = .ok (.if_icmp .ge 7, 3) := by decide +kernel
theorem dX7_drags_42 : decode cX7_drags 42 = .ok (.iconst 1, 1) := by decide +kernel
theorem dX7_drags_43 : decode cX7_drags 43 = .ok (.goto 4, 3) := by decide +kernel
theorem dX7_drags_46 : decode cX7_drags 46 = .ok (.iconst 0, 1) := by decide +kernel
theorem dX7_drags_47 : decode cX7_drags 47 = .ok (.iadd, 1) := by decide +kernel
theorem dX7_drags_48 : decode cX7_drags 48 = .ok (.istore_n 2, 1) := by decide +kernel
theorem dX7_drags_49 : decode cX7_drags 49 = .ok (.iinc 3 1, 3) := by decide +kernel
theorem dX7_drags_52 : decode cX7_drags 52 = .ok (.goto (-34), 3) := by decide +kernel
theorem dX7_drags_55 : decode cX7_drags 55 = .ok (.iload_n 2, 1) := by decide +kernel
theorem dX7_drags_56 : decode cX7_drags 56 = .ok (.ireturn, 1) := by decide +kernel
theorem dX7_cart_0 : decode cX7_cart 0 = .ok (.iload_n 1, 1) := by decide +kernel
theorem dX7_cart_1 : decode cX7_cart 1 = .ok (.i2l, 1) := by decide +kernel
theorem dX7_cart_2 : decode cX7_cart 2 = .ok (.lconst 1, 1) := by decide +kernel
theorem dX7_cart_3 : decode cX7_cart 3 = .ok (.ldc2_w 96, 3) := by decide +kernel
theorem dX7_cart_6 : decode cX7_cart 6 = .ok (.invokestatic 84, 3) := by decide +kernel
theorem dX7_cart_9 : decode cX7_cart 9 = .ok (.ifCond .eq 31, 3) := by decide +kernel
theorem dX7_cart_12 : decode cX7_cart 12 = .ok (.aload_n 0, 1) := by decide +kernel
theorem dX7_cart_13 : decode cX7_cart 13 = .ok (.getfield 98, 3) := by decide +kernel
theorem dX7_cart_16 : decode cX7_cart 16 = .ok (.ifCond .le 15, 3) := by decide +kernel
theorem dX7_cart_19 : decode cX7_cart 19 = .ok (.iload_n 2, 1) := by decide +kernel
theorem dX7_cart_20 : decode cX7_cart 20 = .ok (.i2l, 1) := by decide +kernel
theorem dX7_cart_21 : decode cX7_cart 21 = .ok (.lconst 1, 1) := by decide +kernel
theorem dX7_cart_22 : decode cX7_cart 22 = .ok (.ldc2_w 101, 3) := by decide +kernel
theorem dX7_cart_25 : decode cX7_cart 25 = .ok (.invokestatic 84, 3) := by decide +kernel
theorem dX7_cart_28 : decode cX7_cart 28 = .ok (.ifCond .eq 12, 3) := by decide +kernel
theorem dX7_cart_31 : decode cX7_cart 31 = .ok (.aload_n 0, 1) := by decide +kernel
theorem dX7_cart_32 : decode cX7_cart 32 = .ok (.getfield 98, 3) := by decide +kernel
theorem dX7_cart_35 : decode cX7_cart 35 = .ok (.bipush 6, 2) := by decide +kernel
theorem dX7_cart_37 : decode cX7_cart 37 = .ok (.if_icmp .ne 5, 3) := by decide +kernel
theorem dX7_cart_40 : decode cX7_cart 40 = .ok (.iconst (-1), 1) := by decide +kernel
theorem dX7_cart_41 : decode cX7_cart 41 = .ok (.ireturn, 1) := by decide +kernel
theorem dX7_cart_42 : decode cX7_cart 42 = .ok (.aload_n 0, 1) := by decide +kernel
theorem dX7_cart_43 : decode cX7_cart 43 = .ok (.getfield 19, 3) := by decide +kernel
theorem dX7_cart_46 : decode cX7_cart 46 = .ok (.aload_n 0, 1) := by decide +kernel
theorem dX7_cart_47 : decode cX7_cart 47 = .ok (.getfield 98, 3) := by decide +kernel
theorem dX7_cart_50 : decode cX7_cart 50 = .ok (.iload_n 1, 1) := by decide +kernel
theorem dX7_cart_51 : decode cX7_cart 51 = .ok (.iastore, 1) := by decide +kernel
theorem dX7_cart_52 : decode cX7_cart 52 = .ok (.aload_n 0, 1) := by decide +kernel
theorem dX7_cart_53 : decode cX7_cart 53 = .ok (.getfield 22, 3) := by decide +kernel
theorem dX7_cart_56 : decode cX7_cart 56 = .ok (.aload_n 0, 1) := by decide +kernel
theorem dX7_cart_57 : decode cX7_cart 57 = .ok (.getfield 98, 3) := by decide +kernel
theorem dX7_cart_60 : decode cX7_cart 60 = .ok (.iload_n 2, 1) := by decide +kernel
theorem dX7_cart_61 : decode cX7_cart 61 = .ok (.iastore, 1) := by decide +kernel
theorem dX7_cart_62 : decode cX7_cart 62 = .ok (.aload_n 0, 1) := by decide +kernel
theorem dX7_cart_63 : decode cX7_cart 63 = .ok (.dup, 1) := by decide +kernel
theorem dX7_cart_64 : decode cX7_cart 64 = .ok (.getfield 98, 3) := by decide +kernel
theorem dX7_cart_67 : decode cX7_cart 67 = .ok (.iconst 1, 1) := by decide +kernel
theorem dX7_cart_68 : decode cX7_cart 68 = .ok (.iadd, 1) := by decide +kernel
theorem dX7_cart_69 : decode cX7_cart 69 = .ok (.putfield 98, 3) := by decide +kernel
theorem dX7_cart_72 : decode cX7_cart 72 = .ok (.aload_n 0, 1) := by decide +kernel
theorem dX7_cart_73 : decode cX7_cart 73 = .ok (.getfield 98, 3) := by decide +kernel
theorem dX7_cart_76 : decode cX7_cart 76 = .ok (.ireturn, 1) := by decide +kernel
theorem dX7_clear_0 : decode cX7_clear 0 = .ok (.aload_n 0, 1) := by decide +kernel
theorem dX7_clear_1 : decode cX7_clear 1 = .ok (.getfield 98, 3) := by decide +kernel
theorem dX7_clear_4 : decode cX7_clear 4 = .ok (.istore_n 1, 1) := by decide +kernel
theorem dX7_clear_5 : decode cX7_clear 5 = .ok (.aload_n 0, 1) := by decide +kernel
theorem dX7_clear_6 : decode cX7_clear 6 = .ok (.iconst 0, 1) := by decide +kernel
theorem dX7_clear_7 : decode cX7_clear 7 = .ok (.putfield 98, 3) := by decide +kernel
theorem dX7_clear_10 : decode cX7_clear 10 = .ok (.iload_n 1, 1) := by decide +kernel
theorem dX7_clear_11 : decode cX7_clear 11 = .ok (.ireturn, 1) := by decide +kernel
theorem dX7_placeOf_0 : decode cX7_placeOf 0 = .ok (.iload_n 2, 1) := by decide +kernel
theorem dX7_placeOf_1 : decode cX7_placeOf 1 = .ok (.istore 4, 2) := by decide +kernel
theorem dX7_placeOf_3 : decode cX7_placeOf 3 = .ok (.iconst 1, 1) := by decide +kernel
theorem dX7_placeOf_4 : decode cX7_placeOf 4 = .ok (.istore 5, 2) := by decide +kernel
theorem dX7_placeOf_6 : decode cX7_placeOf 6 = .ok (.iload 5, 2) := by decide +kernel
theorem dX7_placeOf_8 : decode cX7_placeOf 8 = .ok (.iload_n 1, 1) := by decide +kernel
theorem dX7_placeOf_9 : decode cX7_placeOf 9 = .ok (.if_icmp .gt 29, 3) := by decide +kernel
theorem dX7_placeOf_12 : decode cX7_placeOf 12 = .ok (.iload 4, 2) := by decide +kernel
theorem dX7_placeOf_14 : decode cX7_placeOf 14 = .ok (.iload_n 3, 1) := by decide +kernel
theorem dX7_placeOf_15 : decode cX7_placeOf 15 = .ok (.ifCond .le 7, 3) := by decide +kernel
theorem dX7_placeOf_18 : decode cX7_placeOf 18 = .ok (.iload_n 3, 1) := by decide +kernel
theorem dX7_placeOf_19 : decode cX7_placeOf 19 = .ok (.goto 10, 3) := by decide +kernel
theorem dX7_placeOf_22 : decode cX7_placeOf 22 = .ok (.aload_n 0, 1) := by decide +kernel
theorem dX7_placeOf_23 : decode cX7_placeOf 23 = .ok (.getfield 22, 3) := by decide +kernel
theorem dX7_placeOf_26 : decode cX7_placeOf 26 = .ok (.iload 5, 2) := by decide +kernel
theorem dX7_placeOf_28 : decode cX7_placeOf 28 = .ok (.iaload, 1) := by decide +kernel
theorem dX7_placeOf_29 : decode cX7_placeOf 29 = .ok (.isub, 1) := by decide +kernel
theorem dX7_placeOf_30 : decode cX7_placeOf 30 = .ok (.istore 4, 2) := by decide +kernel
theorem dX7_placeOf_32 : decode cX7_placeOf 32 = .ok (.iinc 5 1, 3) := by decide +kernel
theorem dX7_placeOf_35 : decode cX7_placeOf 35 = .ok (.goto (-29), 3) := by decide +kernel
theorem dX7_placeOf_38 : decode cX7_placeOf 38 = .ok (.iload 4, 2) := by decide +kernel
theorem dX7_placeOf_40 : decode cX7_placeOf 40 = .ok (.ireturn, 1) := by decide +kernel
theorem dX7_pressOn_0 : decode cX7_pressOn 0 = .ok (.iconst 0, 1) := by decide +kernel
theorem dX7_pressOn_1 : decode cX7_pressOn 1 = .ok (.istore 4, 2) := by decide +kernel
theorem dX7_pressOn_3 : decode cX7_pressOn 3 = .ok (.iconst 0, 1) := by decide +kernel
theorem dX7_pressOn_4 : decode cX7_pressOn 4 = .ok (.istore 5, 2) := by decide +kernel
theorem dX7_pressOn_6 : decode cX7_pressOn 6 = .ok (.iload 5, 2) := by decide +kernel
theorem dX7_pressOn_8 : decode cX7_pressOn 8 = .ok (.aload_n 0, 1) := by decide +kernel
theorem dX7_pressOn_9 : decode cX7_pressOn 9 = .ok (.getfield 98, 3) := by decide +kernel
theorem dX7_pressOn_12 : decode cX7_pressOn 12 = .ok (.if_icmp .ge 78, 3) := by decide +kernel
theorem dX7_pressOn_15 : decode cX7_pressOn 15 = .ok (.aload_n 0, 1) := by decide +kernel
theorem dX7_pressOn_16 : decode cX7_pressOn 16 = .ok (.iload 5, 2) := by decide +kernel
theorem dX7_pressOn_18 : decode cX7_pressOn 18 = .ok (.iload_n 2, 1) := by decide +kernel
theorem dX7_pressOn_19 : decode cX7_pressOn 19 = .ok (.iload_n 3, 1) := by decide +kernel
theorem dX7_pressOn_20 : decode cX7_pressOn 20 = .ok (.invokevirtual 103, 3) := by decide +kernel
theorem dX7_pressOn_23 : decode cX7_pressOn 23 = .ok (.istore 6, 2) := by decide +kernel
theorem dX7_pressOn_25 : decode cX7_pressOn 25 = .ok (.aload_n 0, 1) := by decide +kernel
theorem dX7_pressOn_26 : decode cX7_pressOn 26 = .ok (.iload 6, 2) := by decide +kernel
theorem dX7_pressOn_28 : decode cX7_pressOn 28 = .ok (.invokevirtual 88, 3) := by decide +kernel
theorem dX7_pressOn_31 : decode cX7_pressOn 31 = .ok (.ifCond .eq 53, 3) := by decide +kernel
theorem dX7_pressOn_34 : decode cX7_pressOn 34 = .ok (.iload 4, 2) := by decide +kernel
theorem dX7_pressOn_36 : decode cX7_pressOn 36 = .ok (.iload 6, 2) := by decide +kernel
theorem dX7_pressOn_38 : decode cX7_pressOn 38 = .ok (.iload_n 1, 1) := by decide +kernel
theorem dX7_pressOn_39 : decode cX7_pressOn 39 = .ok (.if_icmp .ne 15, 3) := by decide +kernel
theorem dX7_pressOn_42 : decode cX7_pressOn 42 = .ok (.iconst 2, 1) := by decide +kernel
theorem dX7_pressOn_43 : decode cX7_pressOn 43 = .ok (.aload_n 0, 1) := by decide +kernel
theorem dX7_pressOn_44 : decode cX7_pressOn 44 = .ok (.getfield 19, 3) := by decide +kernel
theorem dX7_pressOn_47 : decode cX7_pressOn 47 = .ok (.iload 5, 2) := by decide +kernel
theorem dX7_pressOn_49 : decode cX7_pressOn 49 = .ok (.iaload, 1) := by decide +kernel
theorem dX7_pressOn_50 : decode cX7_pressOn 50 = .ok (.imul, 1) := by decide +kernel
theorem dX7_pressOn_51 : decode cX7_pressOn 51 = .ok (.goto 30, 3) := by decide +kernel
theorem dX7_pressOn_54 : decode cX7_pressOn 54 = .ok (.iload 6, 2) := by decide +kernel
theorem dX7_pressOn_56 : decode cX7_pressOn 56 = .ok (.iload_n 1, 1) := by decide +kernel
theorem dX7_pressOn_57 : decode cX7_pressOn 57 = .ok (.iconst 1, 1) := by decide +kernel
theorem dX7_pressOn_58 : decode cX7_pressOn 58 = .ok (.isub, 1) := by decide +kernel
theorem dX7_pressOn_59 : decode cX7_pressOn 59 = .ok (.if_icmp .eq 11, 3) := by decide +kernel
theorem dX7_pressOn_62 : decode cX7_pressOn 62 = .ok (.iload 6, 2) := by decide +kernel
theorem dX7_pressOn_64 : decode cX7_pressOn 64 = .ok (.iload_n 1, 1) := by decide +kernel
theorem dX7_pressOn_65 : decode cX7_pressOn 65 = .ok (.iconst 1, 1) := by decide +kernel
theorem dX7_pressOn_66 : decode cX7_pressOn 66 = .ok (.iadd, 1) := by decide +kernel
theorem dX7_pressOn_67 : decode cX7_pressOn 67 = .ok (.if_icmp .ne 13, 3) := by decide +kernel
theorem dX7_pressOn_70 : decode cX7_pressOn 70 = .ok (.aload_n 0, 1) := by decide +kernel
theorem dX7_pressOn_71 : decode cX7_pressOn 71 = .ok (.getfield 19, 3) := by decide +kernel
theorem dX7_pressOn_74 : decode cX7_pressOn 74 = .ok (.iload 5, 2) := by decide +kernel
theorem dX7_pressOn_76 : decode cX7_pressOn 76 = .ok (.iaload, 1) := by decide +kernel
theorem dX7_pressOn_77 : decode cX7_pressOn 77 = .ok (.goto 4, 3) := by decide +kernel
theorem dX7_pressOn_80 : decode cX7_pressOn 80 = .ok (.iconst 0, 1) := by decide +kernel
theorem dX7_pressOn_81 : decode cX7_pressOn 81 = .ok (.iadd, 1) := by decide +kernel
theorem dX7_pressOn_82 : decode cX7_pressOn 82 = .ok (.istore 4, 2) := by decide +kernel
theorem dX7_pressOn_84 : decode cX7_pressOn 84 = .ok (.iinc 5 1, 3) := by decide +kernel
theorem dX7_pressOn_87 : decode cX7_pressOn 87 = .ok (.goto (-81), 3) := by decide +kernel
theorem dX7_pressOn_90 : decode cX7_pressOn 90 = .ok (.iload 4, 2) := by decide +kernel
theorem dX7_pressOn_92 : decode cX7_pressOn 92 = .ok (.ireturn, 1) := by decide +kernel
theorem dX7_pressed_0 : decode cX7_pressed 0 = .ok (.aload_n 0, 1) := by decide +kernel
theorem dX7_pressed_1 : decode cX7_pressed 1 = .ok (.iload_n 1, 1) := by decide +kernel
theorem dX7_pressed_2 : decode cX7_pressed 2 = .ok (.invokevirtual 88, 3) := by decide +kernel
theorem dX7_pressed_5 : decode cX7_pressed 5 = .ok (.ifCond .eq 15, 3) := by decide +kernel
theorem dX7_pressed_8 : decode cX7_pressed 8 = .ok (.iload_n 2, 1) := by decide +kernel
theorem dX7_pressed_9 : decode cX7_pressed 9 = .ok (.i2l, 1) := by decide +kernel
theorem dX7_pressed_10 : decode cX7_pressed 10 = .ok (.lconst 0, 1) := by decide +kernel
theorem dX7_pressed_11 : decode cX7_pressed 11 = .ok (.ldc2_w 107, 3) := by decide +kernel
theorem dX7_pressed_14 : decode cX7_pressed 14 = .ok (.invokestatic 84, 3) := by decide +kernel
theorem dX7_pressed_17 : decode cX7_pressed 17 = .ok (.ifCond .ne 7, 3) := by decide +kernel
theorem dX7_pressed_20 : decode cX7_pressed 20 = .ok (.iconst (-1), 1) := by decide +kernel
theorem dX7_pressed_21 : decode cX7_pressed 21 = .ok (.goto 10, 3) := by decide +kernel
theorem dX7_pressed_24 : decode cX7_pressed 24 = .ok (.aload_n 0, 1) := by decide +kernel
theorem dX7_pressed_25 : decode cX7_pressed 25 = .ok (.iload_n 1, 1) := by decide +kernel
theorem dX7_pressed_26 : decode cX7_pressed 26 = .ok (.iload_n 2, 1) := by decide +kernel
theorem dX7_pressed_27 : decode cX7_pressed 27 = .ok (.iconst 0, 1) := by decide +kernel
theorem dX7_pressed_28 : decode cX7_pressed 28 = .ok (.invokevirtual 109, 3) := by decide +kernel
theorem dX7_pressed_31 : decode cX7_pressed 31 = .ok (.ireturn, 1) := by decide +kernel
theorem dX7_looks_0 : decode cX7_looks 0 = .ok (.aload_n 0, 1) := by decide +kernel
theorem dX7_looks_1 : decode cX7_looks 1 = .ok (.ldc 112, 2) := by decide +kernel
theorem dX7_looks_3 : decode cX7_looks 3 = .ok (.putfield 113, 3) := by decide +kernel
theorem dX7_looks_6 : decode cX7_looks 6 = .ok (.iconst 0, 1) := by decide +kernel
theorem dX7_looks_7 : decode cX7_looks 7 = .ok (.istore_n 2, 1) := by decide +kernel
theorem dX7_looks_8 : decode cX7_looks 8 = .ok (.aload_n 0, 1) := by decide +kernel
theorem dX7_looks_9 : decode cX7_looks 9 = .ok (.aload_n 0, 1) := by decide +kernel
theorem dX7_looks_10 : decode cX7_looks 10 = .ok (.getfield 98, 3) := by decide +kernel
theorem dX7_looks_13 : decode cX7_looks 13 = .ok (.iconst 1, 1) := by decide +kernel
theorem dX7_looks_14 : decode cX7_looks 14 = .ok (.isub, 1) := by decide +kernel
theorem dX7_looks_15 : decode cX7_looks 15 = .ok (.iload_n 2, 1) := by decide +kernel
theorem dX7_looks_16 : decode cX7_looks 16 = .ok (.iload_n 1, 1) := by decide +kernel
theorem dX7_looks_17 : decode cX7_looks 17 = .ok (.invokevirtual 103, 3) := by decide +kernel
theorem dX7_looks_20 : decode cX7_looks 20 = .ok (.aload_n 0, 1) := by decide +kernel
theorem dX7_looks_21 : decode cX7_looks 21 = .ok (.getfield 81, 3) := by decide +kernel
theorem dX7_looks_24 : decode cX7_looks 24 = .ok (.if_icmp .ge 68, 3) := by decide +kernel
theorem dX7_looks_27 : decode cX7_looks 27 = .ok (.iconst 0, 1) := by decide +kernel
theorem dX7_looks_28 : decode cX7_looks 28 = .ok (.istore_n 3, 1) := by decide +kernel
theorem dX7_looks_29 : decode cX7_looks 29 = .ok (.iload_n 3, 1) := by decide +kernel
theorem dX7_looks_30 : decode cX7_looks 30 = .ok (.aload_n 0, 1) := by decide +kernel
theorem dX7_looks_31 : decode cX7_looks 31 = .ok (.getfield 81, 3) := by decide +kernel
theorem dX7_looks_34 : decode cX7_looks 34 = .ok (.if_icmp .ge 52, 3) := by decide +kernel
theorem dX7_looks_37 : decode cX7_looks 37 = .ok (.iconst 4, 1) := by decide +kernel
theorem dX7_looks_38 : decode cX7_looks 38 = .ok (.aload_n 0, 1) := by decide +kernel
theorem dX7_looks_39 : decode cX7_looks 39 = .ok (.getfield 7, 3) := by decide +kernel
theorem dX7_looks_42 : decode cX7_looks 42 = .ok (.iload_n 3, 1) := by decide +kernel
theorem dX7_looks_43 : decode cX7_looks 43 = .ok (.iaload, 1) := by decide +kernel
theorem dX7_looks_44 : decode cX7_looks 44 = .ok (.imul, 1) := by decide +kernel
theorem dX7_looks_45 : decode cX7_looks 45 = .ok (.aload_n 0, 1) := by decide +kernel
theorem dX7_looks_46 : decode cX7_looks 46 = .ok (.iload_n 3, 1) := by decide +kernel
theorem dX7_looks_47 : decode cX7_looks 47 = .ok (.iload_n 2, 1) := by decide +kernel
theorem dX7_looks_48 : decode cX7_looks 48 = .ok (.iload_n 1, 1) := by decide +kernel
theorem dX7_looks_49 : decode cX7_looks 49 = .ok (.invokevirtual 109, 3) := by decide +kernel
theorem dX7_looks_52 : decode cX7_looks 52 = .ok (.isub, 1) := by decide +kernel
theorem dX7_looks_53 : decode cX7_looks 53 = .ok (.istore 4, 2) := by decide +kernel
theorem dX7_looks_55 : decode cX7_looks 55 = .ok (.iload 4, 2) := by decide +kernel
theorem dX7_looks_57 : decode cX7_looks 57 = .ok (.aload_n 0, 1) := by decide +kernel
theorem dX7_looks_58 : decode cX7_looks 58 = .ok (.getfield 113, 3) := by decide +kernel
theorem dX7_looks_61 : decode cX7_looks 61 = .ok (.if_icmp .ge 19, 3) := by decide +kernel
theorem dX7_looks_64 : decode cX7_looks 64 = .ok (.aload_n 0, 1) := by decide +kernel
theorem dX7_looks_65 : decode cX7_looks 65 = .ok (.iload 4, 2) := by decide +kernel
theorem dX7_looks_67 : decode cX7_looks 67 = .ok (.putfield 113, 3) := by decide +kernel
theorem dX7_looks_70 : decode cX7_looks 70 = .ok (.aload_n 0, 1) := by decide +kernel
theorem dX7_looks_71 : decode cX7_looks 71 = .ok (.iload_n 3, 1) := by decide +kernel
theorem dX7_looks_72 : decode cX7_looks 72 = .ok (.putfield 116, 3) := by decide +kernel
theorem dX7_looks_75 : decode cX7_looks 75 = .ok (.aload_n 0, 1) := by decide +kernel
theorem dX7_looks_76 : decode cX7_looks 76 = .ok (.iload_n 2, 1) := by decide +kernel
theorem dX7_looks_77 : decode cX7_looks 77 = .ok (.putfield 119, 3) := by decide +kernel
theorem dX7_looks_80 : decode cX7_looks 80 = .ok (.iinc 3 1, 3) := by decide +kernel
theorem dX7_looks_83 : decode cX7_looks 83 = .ok (.goto (-54), 3) := by decide +kernel
theorem dX7_looks_86 : decode cX7_looks 86 = .ok (.iinc 2 1, 3) := by decide +kernel
theorem dX7_looks_89 : decode cX7_looks 89 = .ok (.goto (-81), 3) := by decide +kernel
theorem dX7_looks_92 : decode cX7_looks 92 = .ok (.return_, 1) := by decide +kernel
theorem dX7_worst_0 : decode cX7_worst 0 = .ok (.aload_n 0, 1) := by decide +kernel
theorem dX7_worst_1 : decode cX7_worst 1 = .ok (.getfield 98, 3) := by decide +kernel
theorem dX7_worst_4 : decode cX7_worst 4 = .ok (.ifCond .eq 15, 3) := by decide +kernel
theorem dX7_worst_7 : decode cX7_worst 7 = .ok (.iload_n 1, 1) := by decide +kernel
theorem dX7_worst_8 : decode cX7_worst 8 = .ok (.i2l, 1) := by decide +kernel
theorem dX7_worst_9 : decode cX7_worst 9 = .ok (.lconst 0, 1) := by decide +kernel
theorem dX7_worst_10 : decode cX7_worst 10 = .ok (.ldc2_w 122, 3) := by decide +kernel
theorem dX7_worst_13 : decode cX7_worst 13 = .ok (.invokestatic 84, 3) := by decide +kernel
theorem dX7_worst_16 : decode cX7_worst 16 = .ok (.ifCond .ne 6, 3) := by decide +kernel
theorem dX7_worst_19 : decode cX7_worst 19 = .ok (.ldc 124, 2) := by decide +kernel
theorem dX7_worst_21 : decode cX7_worst 21 = .ok (.ireturn, 1) := by decide +kernel
theorem dX7_worst_22 : decode cX7_worst 22 = .ok (.aload_n 0, 1) := by decide +kernel
theorem dX7_worst_23 : decode cX7_worst 23 = .ok (.iconst 0, 1) := by decide +kernel
theorem dX7_worst_24 : decode cX7_worst 24 = .ok (.invokevirtual 125, 3) := by decide +kernel
theorem dX7_worst_27 : decode cX7_worst 27 = .ok (.iload_n 1, 1) := by decide +kernel
theorem dX7_worst_28 : decode cX7_worst 28 = .ok (.ifCond .ne 10, 3) := by decide +kernel
theorem dX7_worst_31 : decode cX7_worst 31 = .ok (.aload_n 0, 1) := by decide +kernel
theorem dX7_worst_32 : decode cX7_worst 32 = .ok (.getfield 113, 3) := by decide +kernel
theorem dX7_worst_35 : decode cX7_worst 35 = .ok (.goto 19, 3) := by decide +kernel
theorem dX7_worst_38 : decode cX7_worst 38 = .ok (.iload_n 1, 1) := by decide +kernel
theorem dX7_worst_39 : decode cX7_worst 39 = .ok (.iconst 1, 1) := by decide +kernel
theorem dX7_worst_40 : decode cX7_worst 40 = .ok (.if_icmp .ne 10, 3) := by decide +kernel
theorem dX7_worst_43 : decode cX7_worst 43 = .ok (.aload_n 0, 1) := by decide +kernel
theorem dX7_worst_44 : decode cX7_worst 44 = .ok (.getfield 116, 3) := by decide +kernel
theorem dX7_worst_47 : decode cX7_worst 47 = .ok (.goto 7, 3) := by decide +kernel
theorem dX7_worst_50 : decode cX7_worst 50 = .ok (.aload_n 0, 1) := by decide +kernel
theorem dX7_worst_51 : decode cX7_worst 51 = .ok (.getfield 119, 3) := by decide +kernel
theorem dX7_worst_54 : decode cX7_worst 54 = .ok (.ireturn, 1) := by decide +kernel
theorem dX7_gap_0 : decode cX7_gap 0 = .ok (.iconst (-1), 1) := by decide +kernel
theorem dX7_gap_1 : decode cX7_gap 1 = .ok (.istore_n 1, 1) := by decide +kernel
theorem dX7_gap_2 : decode cX7_gap 2 = .ok (.iconst 1, 1) := by decide +kernel
theorem dX7_gap_3 : decode cX7_gap 3 = .ok (.istore_n 2, 1) := by decide +kernel
theorem dX7_gap_4 : decode cX7_gap 4 = .ok (.iload_n 2, 1) := by decide +kernel
theorem dX7_gap_5 : decode cX7_gap 5 = .ok (.bipush 12, 2) := by decide +kernel
theorem dX7_gap_7 : decode cX7_gap 7 = .ok (.if_icmp .gt 38, 3) := by decide +kernel
theorem dX7_gap_10 : decode cX7_gap 10 = .ok (.iload_n 1, 1) := by decide +kernel
theorem dX7_gap_11 : decode cX7_gap 11 = .ok (.ifCond .ge 34, 3) := by decide +kernel
theorem dX7_gap_14 : decode cX7_gap 14 = .ok (.aload_n 0, 1) := by decide +kernel
theorem dX7_gap_15 : decode cX7_gap 15 = .ok (.getfield 98, 3) := by decide +kernel
theorem dX7_gap_18 : decode cX7_gap 18 = .ok (.ifCond .le 27, 3) := by decide +kernel
theorem dX7_gap_21 : decode cX7_gap 21 = .ok (.aload_n 0, 1) := by decide +kernel
theorem dX7_gap_22 : decode cX7_gap 22 = .ok (.iload_n 2, 1) := by decide +kernel
theorem dX7_gap_23 : decode cX7_gap 23 = .ok (.invokevirtual 125, 3) := by decide +kernel
theorem dX7_gap_26 : decode cX7_gap 26 = .ok (.aload_n 0, 1) := by decide +kernel
theorem dX7_gap_27 : decode cX7_gap 27 = .ok (.getfield 113, 3) := by decide +kernel
theorem dX7_gap_30 : decode cX7_gap 30 = .ok (.ifCond .lt 7, 3) := by decide +kernel
theorem dX7_gap_33 : decode cX7_gap 33 = .ok (.iload_n 2, 1) := by decide +kernel
theorem dX7_gap_34 : decode cX7_gap 34 = .ok (.goto 4, 3) := by decide +kernel
theorem dX7_gap_37 : decode cX7_gap 37 = .ok (.iconst (-1), 1) := by decide +kernel
theorem dX7_gap_38 : decode cX7_gap 38 = .ok (.istore_n 1, 1) := by decide +kernel
theorem dX7_gap_39 : decode cX7_gap 39 = .ok (.iinc 2 1, 3) := by decide +kernel
theorem dX7_gap_42 : decode cX7_gap 42 = .ok (.goto (-38), 3) := by decide +kernel
theorem dX7_gap_45 : decode cX7_gap 45 = .ok (.iload_n 1, 1) := by decide +kernel
theorem dX7_gap_46 : decode cX7_gap 46 = .ok (.ireturn, 1) := by decide +kernel
theorem dX7_ship_0 : decode cX7_ship 0 = .ok (.iload_n 1, 1) := by decide +kernel
theorem dX7_ship_1 : decode cX7_ship 1 = .ok (.i2l, 1) := by decide +kernel
theorem dX7_ship_2 : decode cX7_ship 2 = .ok (.lconst 0, 1) := by decide +kernel
theorem dX7_ship_3 : decode cX7_ship 3 = .ok (.ldc2_w 129, 3) := by decide +kernel
theorem dX7_ship_6 : decode cX7_ship 6 = .ok (.invokestatic 84, 3) := by decide +kernel
theorem dX7_ship_9 : decode cX7_ship 9 = .ok (.ifCond .eq 12, 3) := by decide +kernel
theorem dX7_ship_12 : decode cX7_ship 12 = .ok (.aload_n 0, 1) := by decide +kernel
theorem dX7_ship_13 : decode cX7_ship 13 = .ok (.getfield 131, 3) := by decide +kernel
theorem dX7_ship_16 : decode cX7_ship 16 = .ok (.bipush 10, 2) := by decide +kernel
theorem dX7_ship_18 : decode cX7_ship 18 = .ok (.if_icmp .ne 5, 3) := by decide +kernel
theorem dX7_ship_21 : decode cX7_ship 21 = .ok (.iconst (-1), 1) := by decide +kernel
theorem dX7_ship_22 : decode cX7_ship 22 = .ok (.ireturn, 1) := by decide +kernel
theorem dX7_ship_23 : decode cX7_ship 23 = .ok (.aload_n 0, 1) := by decide +kernel
theorem dX7_ship_24 : decode cX7_ship 24 = .ok (.getfield 25, 3) := by decide +kernel
theorem dX7_ship_27 : decode cX7_ship 27 = .ok (.aload_n 0, 1) := by decide +kernel
theorem dX7_ship_28 : decode cX7_ship 28 = .ok (.getfield 131, 3) := by decide +kernel
theorem dX7_ship_31 : decode cX7_ship 31 = .ok (.iload_n 1, 1) := by decide +kernel
theorem dX7_ship_32 : decode cX7_ship 32 = .ok (.iastore, 1) := by decide +kernel
theorem dX7_ship_33 : decode cX7_ship 33 = .ok (.aload_n 0, 1) := by decide +kernel
theorem dX7_ship_34 : decode cX7_ship 34 = .ok (.dup, 1) := by decide +kernel
theorem dX7_ship_35 : decode cX7_ship 35 = .ok (.getfield 131, 3) := by decide +kernel
theorem dX7_ship_38 : decode cX7_ship 38 = .ok (.iconst 1, 1) := by decide +kernel
theorem dX7_ship_39 : decode cX7_ship 39 = .ok (.iadd, 1) := by decide +kernel
theorem dX7_ship_40 : decode cX7_ship 40 = .ok (.putfield 131, 3) := by decide +kernel
theorem dX7_ship_43 : decode cX7_ship 43 = .ok (.aload_n 0, 1) := by decide +kernel
theorem dX7_ship_44 : decode cX7_ship 44 = .ok (.getfield 131, 3) := by decide +kernel
theorem dX7_ship_47 : decode cX7_ship 47 = .ok (.iconst 1, 1) := by decide +kernel
theorem dX7_ship_48 : decode cX7_ship 48 = .ok (.isub, 1) := by decide +kernel
theorem dX7_ship_49 : decode cX7_ship 49 = .ok (.ireturn, 1) := by decide +kernel
theorem dX7_crosser_0 : decode cX7_crosser 0 = .ok (.iload_n 1, 1) := by decide +kernel
theorem dX7_crosser_1 : decode cX7_crosser 1 = .ok (.i2l, 1) := by decide +kernel
theorem dX7_crosser_2 : decode cX7_crosser 2 = .ok (.lconst 0, 1) := by decide +kernel
theorem dX7_crosser_3 : decode cX7_crosser 3 = .ok (.ldc2_w 129, 3) := by decide +kernel
theorem dX7_crosser_6 : decode cX7_crosser 6 = .ok (.invokestatic 84, 3) := by decide +kernel
theorem dX7_crosser_9 : decode cX7_crosser 9 = .ok (.ifCond .eq 12, 3) := by decide +kernel
theorem dX7_crosser_12 : decode cX7_crosser 12 = .ok (.aload_n 0, 1) := by decide +kernel
theorem dX7_crosser_13 : decode cX7_crosser 13 = .ok (.getfield 134, 3) := by decide +kernel
theorem dX7_crosser_16 : decode cX7_crosser 16 = .ok (.bipush 30, 2) := by decide +kernel
theorem dX7_crosser_18 : decode cX7_crosser 18 = .ok (.if_icmp .ne 5, 3) := by decide +kernel
theorem dX7_crosser_21 : decode cX7_crosser 21 = .ok (.iconst (-1), 1) := by decide +kernel
theorem dX7_crosser_22 : decode cX7_crosser 22 = .ok (.ireturn, 1) := by decide +kernel
theorem dX7_crosser_23 : decode cX7_crosser 23 = .ok (.aload_n 0, 1) := by decide +kernel
theorem dX7_crosser_24 : decode cX7_crosser 24 = .ok (.getfield 28, 3) := by decide +kernel
theorem dX7_crosser_27 : decode cX7_crosser 27 = .ok (.aload_n 0, 1) := by decide +kernel
theorem dX7_crosser_28 : decode cX7_crosser 28 = .ok (.getfield 134, 3) := by decide +kernel
theorem dX7_crosser_31 : decode cX7_crosser 31 = .ok (.iload_n 1, 1) := by decide +kernel
theorem dX7_crosser_32 : decode cX7_crosser 32 = .ok (.iastore, 1) := by decide +kernel
theorem dX7_crosser_33 : decode cX7_crosser 33 = .ok (.aload_n 0, 1) := by decide +kernel
theorem dX7_crosser_34 : decode cX7_crosser 34 = .ok (.dup, 1) := by decide +kernel
theorem dX7_crosser_35 : decode cX7_crosser 35 = .ok (.getfield 134, 3) := by decide +kernel
theorem dX7_crosser_38 : decode cX7_crosser 38 = .ok (.iconst 1, 1) := by decide +kernel
theorem dX7_crosser_39 : decode cX7_crosser 39 = .ok (.iadd, 1) := by decide +kernel
theorem dX7_crosser_40 : decode cX7_crosser 40 = .ok (.putfield 134, 3) := by decide +kernel
theorem dX7_crosser_43 : decode cX7_crosser 43 = .ok (.aload_n 0, 1) := by decide +kernel
theorem dX7_crosser_44 : decode cX7_crosser 44 = .ok (.getfield 134, 3) := by decide +kernel
theorem dX7_crosser_47 : decode cX7_crosser 47 = .ok (.ireturn, 1) := by decide +kernel
theorem dX7_times_0 : decode cX7_times 0 = .ok (.iload_n 1, 1) := by decide +kernel
theorem dX7_times_1 : decode cX7_times 1 = .ok (.i2l, 1) := by decide +kernel
theorem dX7_times_2 : decode cX7_times 2 = .ok (.lconst 1, 1) := by decide +kernel
theorem dX7_times_3 : decode cX7_times 3 = .ok (.ldc2_w 137, 3) := by decide +kernel
theorem dX7_times_6 : decode cX7_times 6 = .ok (.invokestatic 84, 3) := by decide +kernel
theorem dX7_times_9 : decode cX7_times 9 = .ok (.ifCond .eq 40, 3) := by decide +kernel
theorem dX7_times_12 : decode cX7_times 12 = .ok (.iload_n 2, 1) := by decide +kernel
theorem dX7_times_13 : decode cX7_times 13 = .ok (.i2l, 1) := by decide +kernel
theorem dX7_times_14 : decode cX7_times 14 = .ok (.lconst 1, 1) := by decide +kernel
theorem dX7_times_15 : decode cX7_times 15 = .ok (.ldc2_w 137, 3) := by decide +kernel
theorem dX7_times_18 : decode cX7_times 18 = .ok (.invokestatic 84, 3) := by decide +kernel
theorem dX7_times_21 : decode cX7_times 21 = .ok (.ifCond .eq 28, 3) := by decide +kernel
theorem dX7_times_24 : decode cX7_times 24 = .ok (.iload_n 3, 1) := by decide +kernel
theorem dX7_times_25 : decode cX7_times 25 = .ok (.i2l, 1) := by decide +kernel
theorem dX7_times_26 : decode cX7_times 26 = .ok (.lconst 1, 1) := by decide +kernel
theorem dX7_times_27 : decode cX7_times 27 = .ok (.ldc2_w 137, 3) := by decide +kernel
theorem dX7_times_30 : decode cX7_times 30 = .ok (.invokestatic 84, 3) := by decide +kernel
theorem dX7_times_33 : decode cX7_times 33 = .ok (.ifCond .eq 16, 3) := by decide +kernel
theorem dX7_times_36 : decode cX7_times 36 = .ok (.iload 4, 2) := by decide +kernel
theorem dX7_times_38 : decode cX7_times 38 = .ok (.i2l, 1) := by decide +kernel
theorem dX7_times_39 : decode cX7_times 39 = .ok (.lconst 1, 1) := by decide +kernel
theorem dX7_times_40 : decode cX7_times 40 = .ok (.ldc2_w 94, 3) := by decide +kernel
theorem dX7_times_43 : decode cX7_times 43 = .ok (.invokestatic 84, 3) := by decide +kernel
theorem dX7_times_46 : decode cX7_times 46 = .ok (.ifCond .ne 5, 3) := by decide +kernel
theorem dX7_times_49 : decode cX7_times 49 = .ok (.iconst 0, 1) := by decide +kernel
theorem dX7_times_50 : decode cX7_times 50 = .ok (.ireturn, 1) := by decide +kernel
theorem dX7_times_51 : decode cX7_times 51 = .ok (.aload_n 0, 1) := by decide +kernel
theorem dX7_times_52 : decode cX7_times 52 = .ok (.getfield 31, 3) := by decide +kernel
theorem dX7_times_55 : decode cX7_times 55 = .ok (.iconst 0, 1) := by decide +kernel
theorem dX7_times_56 : decode cX7_times 56 = .ok (.iload_n 1, 1) := by decide +kernel
theorem dX7_times_57 : decode cX7_times 57 = .ok (.iastore, 1) := by decide +kernel
theorem dX7_times_58 : decode cX7_times 58 = .ok (.aload_n 0, 1) := by decide +kernel
theorem dX7_times_59 : decode cX7_times 59 = .ok (.getfield 31, 3) := by decide +kernel
theorem dX7_times_62 : decode cX7_times 62 = .ok (.iconst 1, 1) := by decide +kernel
theorem dX7_times_63 : decode cX7_times 63 = .ok (.iload_n 2, 1) := by decide +kernel
theorem dX7_times_64 : decode cX7_times 64 = .ok (.iastore, 1) := by decide +kernel
theorem dX7_times_65 : decode cX7_times 65 = .ok (.aload_n 0, 1) := by decide +kernel
theorem dX7_times_66 : decode cX7_times 66 = .ok (.getfield 31, 3) := by decide +kernel
theorem dX7_times_69 : decode cX7_times 69 = .ok (.iconst 2, 1) := by decide +kernel
theorem dX7_times_70 : decode cX7_times 70 = .ok (.iload_n 3, 1) := by decide +kernel
theorem dX7_times_71 : decode cX7_times 71 = .ok (.iastore, 1) := by decide +kernel
theorem dX7_times_72 : decode cX7_times 72 = .ok (.aload_n 0, 1) := by decide +kernel
theorem dX7_times_73 : decode cX7_times 73 = .ok (.getfield 31, 3) := by decide +kernel
theorem dX7_times_76 : decode cX7_times 76 = .ok (.iconst 3, 1) := by decide +kernel
theorem dX7_times_77 : decode cX7_times 77 = .ok (.iload 4, 2) := by decide +kernel
theorem dX7_times_79 : decode cX7_times 79 = .ok (.iastore, 1) := by decide +kernel
theorem dX7_times_80 : decode cX7_times 80 = .ok (.iconst 1, 1) := by decide +kernel
theorem dX7_times_81 : decode cX7_times 81 = .ok (.ireturn, 1) := by decide +kernel
theorem dX7_sorts_0 : decode cX7_sorts 0 = .ok (.iconst 0, 1) := by decide +kernel
theorem dX7_sorts_1 : decode cX7_sorts 1 = .ok (.istore_n 1, 1) := by decide +kernel
theorem dX7_sorts_2 : decode cX7_sorts 2 = .ok (.iload_n 1, 1) := by decide +kernel
theorem dX7_sorts_3 : decode cX7_sorts 3 = .ok (.aload_n 0, 1) := by decide +kernel
theorem dX7_sorts_4 : decode cX7_sorts 4 = .ok (.getfield 131, 3) := by decide +kernel
theorem dX7_sorts_7 : decode cX7_sorts 7 = .ok (.if_icmp .ge 64, 3) := by decide +kernel
theorem dX7_sorts_10 : decode cX7_sorts 10 = .ok (.iload_n 1, 1) := by decide +kernel
theorem dX7_sorts_11 : decode cX7_sorts 11 = .ok (.istore_n 2, 1) := by decide +kernel
theorem dX7_sorts_12 : decode cX7_sorts 12 = .ok (.iload_n 2, 1) := by decide +kernel
theorem dX7_sorts_13 : decode cX7_sorts 13 = .ok (.ifCond .le 40, 3) := by decide +kernel
theorem dX7_sorts_16 : decode cX7_sorts 16 = .ok (.aload_n 0, 1) := by decide +kernel
theorem dX7_sorts_17 : decode cX7_sorts 17 = .ok (.getfield 72, 3) := by decide +kernel
theorem dX7_sorts_20 : decode cX7_sorts 20 = .ok (.iload_n 2, 1) := by decide +kernel
theorem dX7_sorts_21 : decode cX7_sorts 21 = .ok (.iconst 1, 1) := by decide +kernel
theorem dX7_sorts_22 : decode cX7_sorts 22 = .ok (.isub, 1) := by decide +kernel
theorem dX7_sorts_23 : decode cX7_sorts 23 = .ok (.iaload, 1) := by decide +kernel
theorem dX7_sorts_24 : decode cX7_sorts 24 = .ok (.aload_n 0, 1) := by decide +kernel
theorem dX7_sorts_25 : decode cX7_sorts 25 = .ok (.getfield 25, 3) := by decide +kernel
theorem dX7_sorts_28 : decode cX7_sorts 28 = .ok (.iload_n 1, 1) := by decide +kernel
theorem dX7_sorts_29 : decode cX7_sorts 29 = .ok (.iaload, 1) := by decide +kernel
theorem dX7_sorts_30 : decode cX7_sorts 30 = .ok (.if_icmp .le 23, 3) := by decide +kernel
theorem dX7_sorts_33 : decode cX7_sorts 33 = .ok (.aload_n 0, 1) := by decide +kernel
theorem dX7_sorts_34 : decode cX7_sorts 34 = .ok (.getfield 72, 3) := by decide +kernel
theorem dX7_sorts_37 : decode cX7_sorts 37 = .ok (.iload_n 2, 1) := by decide +kernel
theorem dX7_sorts_38 : decode cX7_sorts 38 = .ok (.aload_n 0, 1) := by decide +kernel
theorem dX7_sorts_39 : decode cX7_sorts 39 = .ok (.getfield 72, 3) := by decide +kernel
theorem dX7_sorts_42 : decode cX7_sorts 42 = .ok (.iload_n 2, 1) := by decide +kernel
theorem dX7_sorts_43 : decode cX7_sorts 43 = .ok (.iconst 1, 1) := by decide +kernel
theorem dX7_sorts_44 : decode cX7_sorts 44 = .ok (.isub, 1) := by decide +kernel
theorem dX7_sorts_45 : decode cX7_sorts 45 = .ok (.iaload, 1) := by decide +kernel
theorem dX7_sorts_46 : decode cX7_sorts 46 = .ok (.iastore, 1) := by decide +kernel
theorem dX7_sorts_47 : decode cX7_sorts 47 = .ok (.iinc 2 (-1), 3) := by decide +kernel
theorem dX7_sorts_50 : decode cX7_sorts 50 = .ok (.goto (-38), 3) := by decide +kernel
theorem dX7_sorts_53 : decode cX7_sorts 53 = .ok (.aload_n 0, 1) := by decide +kernel
theorem dX7_sorts_54 : decode cX7_sorts 54 = .ok (.getfield 72, 3) := by decide +kernel
theorem dX7_sorts_57 : decode cX7_sorts 57 = .ok (.iload_n 2, 1) := by decide +kernel
theorem dX7_sorts_58 : decode cX7_sorts 58 = .ok (.aload_n 0, 1) := by decide +kernel
theorem dX7_sorts_59 : decode cX7_sorts 59 = .ok (.getfield 25, 3) := by decide +kernel
theorem dX7_sorts_62 : decode cX7_sorts 62 = .ok (.iload_n 1, 1) := by decide +kernel
theorem dX7_sorts_63 : decode cX7_sorts 63 = .ok (.iaload, 1) := by decide +kernel
theorem dX7_sorts_64 : decode cX7_sorts 64 = .ok (.iastore, 1) := by decide +kernel
theorem dX7_sorts_65 : decode cX7_sorts 65 = .ok (.iinc 1 1, 3) := by decide +kernel
theorem dX7_sorts_68 : decode cX7_sorts 68 = .ok (.goto (-66), 3) := by decide +kernel
theorem dX7_sorts_71 : decode cX7_sorts 71 = .ok (.return_, 1) := by decide +kernel
theorem dX7_cameBy_0 : decode cX7_cameBy 0 = .ok (.iconst 0, 1) := by decide +kernel
theorem dX7_cameBy_1 : decode cX7_cameBy 1 = .ok (.istore_n 2, 1) := by decide +kernel
theorem dX7_cameBy_2 : decode cX7_cameBy 2 = .ok (.iconst 0, 1) := by decide +kernel
theorem dX7_cameBy_3 : decode cX7_cameBy 3 = .ok (.istore_n 3, 1) := by decide +kernel
theorem dX7_cameBy_4 : decode cX7_cameBy 4 = .ok (.iload_n 3, 1) := by decide +kernel
theorem dX7_cameBy_5 : decode cX7_cameBy 5 = .ok (.aload_n 0, 1) := by decide +kernel
theorem dX7_cameBy_6 : decode cX7_cameBy 6 = .ok (.getfield 131, 3) := by decide +kernel
theorem dX7_cameBy_9 : decode cX7_cameBy 9 = .ok (.if_icmp .ge 27, 3) := by decide +kernel
theorem dX7_cameBy_12 : decode cX7_cameBy 12 = .ok (.iload_n 2, 1) := by decide +kernel
theorem dX7_cameBy_13 : decode cX7_cameBy 13 = .ok (.aload_n 0, 1) := by decide +kernel
theorem dX7_cameBy_14 : decode cX7_cameBy 14 = .ok (.getfield 72, 3) := by decide +kernel
theorem dX7_cameBy_17 : decode cX7_cameBy 17 = .ok (.iload_n 3, 1) := by decide +kernel
theorem dX7_cameBy_18 : decode cX7_cameBy 18 = .ok (.iaload, 1) := by decide +kernel
theorem dX7_cameBy_19 : decode cX7_cameBy 19 = .ok (.iload_n 1, 1) := by decide +kernel
theorem dX7_cameBy_20 : decode cX7_cameBy 20 = .ok (.if_icmp .gt 7, 3) := by decide +kernel
end
section
theorem dX7_cameBy_23 : decode cX7_cameBy 23 = .ok (.iconst 1, 1) := by decide +kernel
theorem dX7_cameBy_24 : decode cX7_cameBy 24 = .ok (.goto 4, 3) := by decide +kernel
theorem dX7_cameBy_27 : decode cX7_cameBy 27 = .ok (.iconst 0, 1) := by decide +kernel
theorem dX7_cameBy_28 : decode cX7_cameBy 28 = .ok (.iadd, 1) := by decide +kernel
theorem dX7_cameBy_29 : decode cX7_cameBy 29 = .ok (.istore_n 2, 1) := by decide +kernel
theorem dX7_cameBy_30 : decode cX7_cameBy 30 = .ok (.iinc 3 1, 3) := by decide +kernel
theorem dX7_cameBy_33 : decode cX7_cameBy 33 = .ok (.goto (-29), 3) := by decide +kernel
theorem dX7_cameBy_36 : decode cX7_cameBy 36 = .ok (.iload_n 2, 1) := by decide +kernel
theorem dX7_cameBy_37 : decode cX7_cameBy 37 = .ok (.ireturn, 1) := by decide +kernel
theorem dX7_endOf_0 : decode cX7_endOf 0 = .ok (.iload_n 1, 1) := by decide +kernel
theorem dX7_endOf_1 : decode cX7_endOf 1 = .ok (.aload_n 0, 1) := by decide +kernel
theorem dX7_endOf_2 : decode cX7_endOf 2 = .ok (.getfield 31, 3) := by decide +kernel
theorem dX7_endOf_5 : decode cX7_endOf 5 = .ok (.iconst 0, 1) := by decide +kernel
theorem dX7_endOf_6 : decode cX7_endOf 6 = .ok (.iaload, 1) := by decide +kernel
theorem dX7_endOf_7 : decode cX7_endOf 7 = .ok (.iadd, 1) := by decide +kernel
theorem dX7_endOf_8 : decode cX7_endOf 8 = .ok (.aload_n 0, 1) := by decide +kernel
theorem dX7_endOf_9 : decode cX7_endOf 9 = .ok (.getfield 31, 3) := by decide +kernel
theorem dX7_endOf_12 : decode cX7_endOf 12 = .ok (.iconst 1, 1) := by decide +kernel
theorem dX7_endOf_13 : decode cX7_endOf 13 = .ok (.iaload, 1) := by decide +kernel
theorem dX7_endOf_14 : decode cX7_endOf 14 = .ok (.iload_n 2, 1) := by decide +kernel
theorem dX7_endOf_15 : decode cX7_endOf 15 = .ok (.imul, 1) := by decide +kernel
theorem dX7_endOf_16 : decode cX7_endOf 16 = .ok (.iadd, 1) := by decide +kernel
theorem dX7_endOf_17 : decode cX7_endOf 17 = .ok (.aload_n 0, 1) := by decide +kernel
theorem dX7_endOf_18 : decode cX7_endOf 18 = .ok (.getfield 31, 3) := by decide +kernel
theorem dX7_endOf_21 : decode cX7_endOf 21 = .ok (.iconst 2, 1) := by decide +kernel
theorem dX7_endOf_22 : decode cX7_endOf 22 = .ok (.iaload, 1) := by decide +kernel
theorem dX7_endOf_23 : decode cX7_endOf 23 = .ok (.iadd, 1) := by decide +kernel
theorem dX7_endOf_24 : decode cX7_endOf 24 = .ok (.ireturn, 1) := by decide +kernel
theorem dX7_waitsOf_0 : decode cX7_waitsOf 0 = .ok (.aload_n 0, 1) := by decide +kernel
theorem dX7_waitsOf_1 : decode cX7_waitsOf 1 = .ok (.iload_n 2, 1) := by decide +kernel
theorem dX7_waitsOf_2 : decode cX7_waitsOf 2 = .ok (.invokevirtual 139, 3) := by decide +kernel
theorem dX7_waitsOf_5 : decode cX7_waitsOf 5 = .ok (.iload_n 1, 1) := by decide +kernel
theorem dX7_waitsOf_6 : decode cX7_waitsOf 6 = .ok (.isub, 1) := by decide +kernel
theorem dX7_waitsOf_7 : decode cX7_waitsOf 7 = .ok (.istore_n 3, 1) := by decide +kernel
theorem dX7_waitsOf_8 : decode cX7_waitsOf 8 = .ok (.iconst 0, 1) := by decide +kernel
theorem dX7_waitsOf_9 : decode cX7_waitsOf 9 = .ok (.istore 4, 2) := by decide +kernel
theorem dX7_waitsOf_11 : decode cX7_waitsOf 11 = .ok (.iconst 1, 1) := by decide +kernel
theorem dX7_waitsOf_12 : decode cX7_waitsOf 12 = .ok (.istore 5, 2) := by decide +kernel
theorem dX7_waitsOf_14 : decode cX7_waitsOf 14 = .ok (.iload 5, 2) := by decide +kernel
theorem dX7_waitsOf_16 : decode cX7_waitsOf 16 = .ok (.iload_n 3, 1) := by decide +kernel
theorem dX7_waitsOf_17 : decode cX7_waitsOf 17 = .ok (.if_icmp .gt 51, 3) := by decide +kernel
theorem dX7_waitsOf_20 : decode cX7_waitsOf 20 = .ok (.iload 4, 2) := by decide +kernel
theorem dX7_waitsOf_22 : decode cX7_waitsOf 22 = .ok (.aload_n 0, 1) := by decide +kernel
theorem dX7_waitsOf_23 : decode cX7_waitsOf 23 = .ok (.getfield 31, 3) := by decide +kernel
theorem dX7_waitsOf_26 : decode cX7_waitsOf 26 = .ok (.iconst 3, 1) := by decide +kernel
theorem dX7_waitsOf_27 : decode cX7_waitsOf 27 = .ok (.iaload, 1) := by decide +kernel
theorem dX7_waitsOf_28 : decode cX7_waitsOf 28 = .ok (.iload_n 2, 1) := by decide +kernel
theorem dX7_waitsOf_29 : decode cX7_waitsOf 29 = .ok (.aload_n 0, 1) := by decide +kernel
theorem dX7_waitsOf_30 : decode cX7_waitsOf 30 = .ok (.getfield 31, 3) := by decide +kernel
theorem dX7_waitsOf_33 : decode cX7_waitsOf 33 = .ok (.iconst 0, 1) := by decide +kernel
theorem dX7_waitsOf_34 : decode cX7_waitsOf 34 = .ok (.iaload, 1) := by decide +kernel
theorem dX7_waitsOf_35 : decode cX7_waitsOf 35 = .ok (.iadd, 1) := by decide +kernel
theorem dX7_waitsOf_36 : decode cX7_waitsOf 36 = .ok (.iload 5, 2) := by decide +kernel
theorem dX7_waitsOf_38 : decode cX7_waitsOf 38 = .ok (.aload_n 0, 1) := by decide +kernel
theorem dX7_waitsOf_39 : decode cX7_waitsOf 39 = .ok (.getfield 31, 3) := by decide +kernel
theorem dX7_waitsOf_42 : decode cX7_waitsOf 42 = .ok (.iconst 1, 1) := by decide +kernel
theorem dX7_waitsOf_43 : decode cX7_waitsOf 43 = .ok (.iaload, 1) := by decide +kernel
theorem dX7_waitsOf_44 : decode cX7_waitsOf 44 = .ok (.imul, 1) := by decide +kernel
theorem dX7_waitsOf_45 : decode cX7_waitsOf 45 = .ok (.iadd, 1) := by decide +kernel
theorem dX7_waitsOf_46 : decode cX7_waitsOf 46 = .ok (.aload_n 0, 1) := by decide +kernel
theorem dX7_waitsOf_47 : decode cX7_waitsOf 47 = .ok (.getfield 72, 3) := by decide +kernel
theorem dX7_waitsOf_50 : decode cX7_waitsOf 50 = .ok (.iload_n 1, 1) := by decide +kernel
theorem dX7_waitsOf_51 : decode cX7_waitsOf 51 = .ok (.iload 5, 2) := by decide +kernel
theorem dX7_waitsOf_53 : decode cX7_waitsOf 53 = .ok (.iadd, 1) := by decide +kernel
theorem dX7_waitsOf_54 : decode cX7_waitsOf 54 = .ok (.iconst 1, 1) := by decide +kernel
theorem dX7_waitsOf_55 : decode cX7_waitsOf 55 = .ok (.isub, 1) := by decide +kernel
theorem dX7_waitsOf_56 : decode cX7_waitsOf 56 = .ok (.iaload, 1) := by decide +kernel
theorem dX7_waitsOf_57 : decode cX7_waitsOf 57 = .ok (.isub, 1) := by decide +kernel
theorem dX7_waitsOf_58 : decode cX7_waitsOf 58 = .ok (.imul, 1) := by decide +kernel
theorem dX7_waitsOf_59 : decode cX7_waitsOf 59 = .ok (.iadd, 1) := by decide +kernel
theorem dX7_waitsOf_60 : decode cX7_waitsOf 60 = .ok (.istore 4, 2) := by decide +kernel
theorem dX7_waitsOf_62 : decode cX7_waitsOf 62 = .ok (.iinc 5 1, 3) := by decide +kernel
theorem dX7_waitsOf_65 : decode cX7_waitsOf 65 = .ok (.goto (-51), 3) := by decide +kernel
theorem dX7_waitsOf_68 : decode cX7_waitsOf 68 = .ok (.aload_n 0, 1) := by decide +kernel
theorem dX7_waitsOf_69 : decode cX7_waitsOf 69 = .ok (.iload_n 2, 1) := by decide +kernel
theorem dX7_waitsOf_70 : decode cX7_waitsOf 70 = .ok (.iload_n 3, 1) := by decide +kernel
theorem dX7_waitsOf_71 : decode cX7_waitsOf 71 = .ok (.invokevirtual 143, 3) := by decide +kernel
theorem dX7_waitsOf_74 : decode cX7_waitsOf 74 = .ok (.istore 5, 2) := by decide +kernel
theorem dX7_waitsOf_76 : decode cX7_waitsOf 76 = .ok (.iconst 0, 1) := by decide +kernel
theorem dX7_waitsOf_77 : decode cX7_waitsOf 77 = .ok (.istore 6, 2) := by decide +kernel
theorem dX7_waitsOf_79 : decode cX7_waitsOf 79 = .ok (.iload 6, 2) := by decide +kernel
theorem dX7_waitsOf_81 : decode cX7_waitsOf 81 = .ok (.aload_n 0, 1) := by decide +kernel
theorem dX7_waitsOf_82 : decode cX7_waitsOf 82 = .ok (.getfield 134, 3) := by decide +kernel
theorem dX7_waitsOf_85 : decode cX7_waitsOf 85 = .ok (.if_icmp .ge 49, 3) := by decide +kernel
theorem dX7_waitsOf_88 : decode cX7_waitsOf 88 = .ok (.iload 4, 2) := by decide +kernel
theorem dX7_waitsOf_90 : decode cX7_waitsOf 90 = .ok (.aload_n 0, 1) := by decide +kernel
theorem dX7_waitsOf_91 : decode cX7_waitsOf 91 = .ok (.getfield 28, 3) := by decide +kernel
theorem dX7_waitsOf_94 : decode cX7_waitsOf 94 = .ok (.iload 6, 2) := by decide +kernel
theorem dX7_waitsOf_96 : decode cX7_waitsOf 96 = .ok (.iaload, 1) := by decide +kernel
theorem dX7_waitsOf_97 : decode cX7_waitsOf 97 = .ok (.i2l, 1) := by decide +kernel
theorem dX7_waitsOf_98 : decode cX7_waitsOf 98 = .ok (.iload_n 2, 1) := by decide +kernel
theorem dX7_waitsOf_99 : decode cX7_waitsOf 99 = .ok (.i2l, 1) := by decide +kernel
theorem dX7_waitsOf_100 : decode cX7_waitsOf 100 = .ok (.iload 5, 2) := by decide +kernel
theorem dX7_waitsOf_102 : decode cX7_waitsOf 102 = .ok (.iconst 1, 1) := by decide +kernel
theorem dX7_waitsOf_103 : decode cX7_waitsOf 103 = .ok (.isub, 1) := by decide +kernel
theorem dX7_waitsOf_104 : decode cX7_waitsOf 104 = .ok (.i2l, 1) := by decide +kernel
theorem dX7_waitsOf_105 : decode cX7_waitsOf 105 = .ok (.invokestatic 84, 3) := by decide +kernel
theorem dX7_waitsOf_108 : decode cX7_waitsOf 108 = .ok (.ifCond .eq 16, 3) := by decide +kernel
theorem dX7_waitsOf_111 : decode cX7_waitsOf 111 = .ok (.iload 5, 2) := by decide +kernel
theorem dX7_waitsOf_113 : decode cX7_waitsOf 113 = .ok (.aload_n 0, 1) := by decide +kernel
theorem dX7_waitsOf_114 : decode cX7_waitsOf 114 = .ok (.getfield 28, 3) := by decide +kernel
theorem dX7_waitsOf_117 : decode cX7_waitsOf 117 = .ok (.iload 6, 2) := by decide +kernel
theorem dX7_waitsOf_119 : decode cX7_waitsOf 119 = .ok (.iaload, 1) := by decide +kernel
theorem dX7_waitsOf_120 : decode cX7_waitsOf 120 = .ok (.isub, 1) := by decide +kernel
theorem dX7_waitsOf_121 : decode cX7_waitsOf 121 = .ok (.goto 4, 3) := by decide +kernel
theorem dX7_waitsOf_124 : decode cX7_waitsOf 124 = .ok (.iconst 0, 1) := by decide +kernel
theorem dX7_waitsOf_125 : decode cX7_waitsOf 125 = .ok (.iadd, 1) := by decide +kernel
theorem dX7_waitsOf_126 : decode cX7_waitsOf 126 = .ok (.istore 4, 2) := by decide +kernel
theorem dX7_waitsOf_128 : decode cX7_waitsOf 128 = .ok (.iinc 6 1, 3) := by decide +kernel
theorem dX7_waitsOf_131 : decode cX7_waitsOf 131 = .ok (.goto (-52), 3) := by decide +kernel
theorem dX7_waitsOf_134 : decode cX7_waitsOf 134 = .ok (.iload 4, 2) := by decide +kernel
theorem dX7_waitsOf_136 : decode cX7_waitsOf 136 = .ok (.ireturn, 1) := by decide +kernel
theorem dX7_rest_0 : decode cX7_rest 0 = .ok (.iload_n 1, 1) := by decide +kernel
theorem dX7_rest_1 : decode cX7_rest 1 = .ok (.aload_n 0, 1) := by decide +kernel
theorem dX7_rest_2 : decode cX7_rest 2 = .ok (.getfield 131, 3) := by decide +kernel
theorem dX7_rest_5 : decode cX7_rest 5 = .ok (.if_icmp .ne 7, 3) := by decide +kernel
theorem dX7_rest_8 : decode cX7_rest 8 = .ok (.iconst 0, 1) := by decide +kernel
theorem dX7_rest_9 : decode cX7_rest 9 = .ok (.goto 27, 3) := by decide +kernel
theorem dX7_rest_12 : decode cX7_rest 12 = .ok (.iload_n 2, 1) := by decide +kernel
theorem dX7_rest_13 : decode cX7_rest 13 = .ok (.sipush 299, 3) := by decide +kernel
theorem dX7_rest_16 : decode cX7_rest 16 = .ok (.if_icmp .le 8, 3) := by decide +kernel
theorem dX7_rest_19 : decode cX7_rest 19 = .ok (.ldc 112, 2) := by decide +kernel
theorem dX7_rest_21 : decode cX7_rest 21 = .ok (.goto 15, 3) := by decide +kernel
theorem dX7_rest_24 : decode cX7_rest 24 = .ok (.aload_n 0, 1) := by decide +kernel
theorem dX7_rest_25 : decode cX7_rest 25 = .ok (.getfield 75, 3) := by decide +kernel
theorem dX7_rest_28 : decode cX7_rest 28 = .ok (.sipush 301, 3) := by decide +kernel
theorem dX7_rest_31 : decode cX7_rest 31 = .ok (.iload_n 1, 1) := by decide +kernel
theorem dX7_rest_32 : decode cX7_rest 32 = .ok (.imul, 1) := by decide +kernel
theorem dX7_rest_33 : decode cX7_rest 33 = .ok (.iload_n 2, 1) := by decide +kernel
theorem dX7_rest_34 : decode cX7_rest 34 = .ok (.iadd, 1) := by decide +kernel
theorem dX7_rest_35 : decode cX7_rest 35 = .ok (.iaload, 1) := by decide +kernel
theorem dX7_rest_36 : decode cX7_rest 36 = .ok (.ireturn, 1) := by decide +kernel
theorem dX7_opens_0 : decode cX7_opens 0 = .ok (.aload_n 0, 1) := by decide +kernel
theorem dX7_opens_1 : decode cX7_opens 1 = .ok (.iload_n 2, 1) := by decide +kernel
theorem dX7_opens_2 : decode cX7_opens 2 = .ok (.invokevirtual 139, 3) := by decide +kernel
theorem dX7_opens_5 : decode cX7_opens 5 = .ok (.istore_n 3, 1) := by decide +kernel
theorem dX7_opens_6 : decode cX7_opens 6 = .ok (.iload_n 3, 1) := by decide +kernel
theorem dX7_opens_7 : decode cX7_opens 7 = .ok (.iload_n 1, 1) := by decide +kernel
theorem dX7_opens_8 : decode cX7_opens 8 = .ok (.if_icmp .gt 6, 3) := by decide +kernel
theorem dX7_opens_11 : decode cX7_opens 11 = .ok (.ldc 112, 2) := by decide +kernel
theorem dX7_opens_13 : decode cX7_opens 13 = .ok (.ireturn, 1) := by decide +kernel
theorem dX7_opens_14 : decode cX7_opens 14 = .ok (.aload_n 0, 1) := by decide +kernel
theorem dX7_opens_15 : decode cX7_opens 15 = .ok (.iload_n 3, 1) := by decide +kernel
theorem dX7_opens_16 : decode cX7_opens 16 = .ok (.aload_n 0, 1) := by decide +kernel
theorem dX7_opens_17 : decode cX7_opens 17 = .ok (.iload_n 2, 1) := by decide +kernel
theorem dX7_opens_18 : decode cX7_opens 18 = .ok (.iload_n 3, 1) := by decide +kernel
theorem dX7_opens_19 : decode cX7_opens 19 = .ok (.iload_n 1, 1) := by decide +kernel
theorem dX7_opens_20 : decode cX7_opens 20 = .ok (.isub, 1) := by decide +kernel
theorem dX7_opens_21 : decode cX7_opens 21 = .ok (.invokevirtual 143, 3) := by decide +kernel
theorem dX7_opens_24 : decode cX7_opens 24 = .ok (.invokevirtual 147, 3) := by decide +kernel
theorem dX7_opens_27 : decode cX7_opens 27 = .ok (.istore 4, 2) := by decide +kernel
theorem dX7_opens_29 : decode cX7_opens 29 = .ok (.iload 4, 2) := by decide +kernel
theorem dX7_opens_31 : decode cX7_opens 31 = .ok (.ldc 112, 2) := by decide +kernel
theorem dX7_opens_33 : decode cX7_opens 33 = .ok (.if_icmp .lt 8, 3) := by decide +kernel
theorem dX7_opens_36 : decode cX7_opens 36 = .ok (.ldc 112, 2) := by decide +kernel
theorem dX7_opens_38 : decode cX7_opens 38 = .ok (.goto 12, 3) := by decide +kernel
theorem dX7_opens_41 : decode cX7_opens 41 = .ok (.aload_n 0, 1) := by decide +kernel
theorem dX7_opens_42 : decode cX7_opens 42 = .ok (.iload_n 1, 1) := by decide +kernel
theorem dX7_opens_43 : decode cX7_opens 43 = .ok (.iload_n 2, 1) := by decide +kernel
theorem dX7_opens_44 : decode cX7_opens 44 = .ok (.invokevirtual 150, 3) := by decide +kernel
theorem dX7_opens_47 : decode cX7_opens 47 = .ok (.iload 4, 2) := by decide +kernel
theorem dX7_opens_49 : decode cX7_opens 49 = .ok (.iadd, 1) := by decide +kernel
theorem dX7_opens_50 : decode cX7_opens 50 = .ok (.ireturn, 1) := by decide +kernel
theorem dX7_bestWaits_0 : decode cX7_bestWaits 0 = .ok (.aload_n 0, 1) := by decide +kernel
theorem dX7_bestWaits_1 : decode cX7_bestWaits 1 = .ok (.invokevirtual 153, 3) := by decide +kernel
theorem dX7_bestWaits_4 : decode cX7_bestWaits 4 = .ok (.aload_n 0, 1) := by decide +kernel
theorem dX7_bestWaits_5 : decode cX7_bestWaits 5 = .ok (.getfield 131, 3) := by decide +kernel
theorem dX7_bestWaits_8 : decode cX7_bestWaits 8 = .ok (.iconst 1, 1) := by decide +kernel
theorem dX7_bestWaits_9 : decode cX7_bestWaits 9 = .ok (.isub, 1) := by decide +kernel
theorem dX7_bestWaits_10 : decode cX7_bestWaits 10 = .ok (.istore_n 1, 1) := by decide +kernel
theorem dX7_bestWaits_11 : decode cX7_bestWaits 11 = .ok (.iload_n 1, 1) := by decide +kernel
theorem dX7_bestWaits_12 : decode cX7_bestWaits 12 = .ok (.ifCond .lt 82, 3) := by decide +kernel
theorem dX7_bestWaits_15 : decode cX7_bestWaits 15 = .ok (.sipush 299, 3) := by decide +kernel
theorem dX7_bestWaits_18 : decode cX7_bestWaits 18 = .ok (.istore_n 2, 1) := by decide +kernel
theorem dX7_bestWaits_19 : decode cX7_bestWaits 19 = .ok (.iload_n 2, 1) := by decide +kernel
theorem dX7_bestWaits_20 : decode cX7_bestWaits 20 = .ok (.ifCond .lt 68, 3) := by decide +kernel
theorem dX7_bestWaits_23 : decode cX7_bestWaits 23 = .ok (.iload_n 2, 1) := by decide +kernel
theorem dX7_bestWaits_24 : decode cX7_bestWaits 24 = .ok (.sipush 299, 3) := by decide +kernel
theorem dX7_bestWaits_27 : decode cX7_bestWaits 27 = .ok (.if_icmp .ne 8, 3) := by decide +kernel
theorem dX7_bestWaits_30 : decode cX7_bestWaits 30 = .ok (.ldc 112, 2) := by decide +kernel
theorem dX7_bestWaits_32 : decode cX7_bestWaits 32 = .ok (.goto 17, 3) := by decide +kernel
theorem dX7_bestWaits_35 : decode cX7_bestWaits 35 = .ok (.aload_n 0, 1) := by decide +kernel
theorem dX7_bestWaits_36 : decode cX7_bestWaits 36 = .ok (.getfield 75, 3) := by decide +kernel
theorem dX7_bestWaits_39 : decode cX7_bestWaits 39 = .ok (.sipush 301, 3) := by decide +kernel
theorem dX7_bestWaits_42 : decode cX7_bestWaits 42 = .ok (.iload_n 1, 1) := by decide +kernel
theorem dX7_bestWaits_43 : decode cX7_bestWaits 43 = .ok (.imul, 1) := by decide +kernel
theorem dX7_bestWaits_44 : decode cX7_bestWaits 44 = .ok (.iload_n 2, 1) := by decide +kernel
theorem dX7_bestWaits_45 : decode cX7_bestWaits 45 = .ok (.iadd, 1) := by decide +kernel
theorem dX7_bestWaits_46 : decode cX7_bestWaits 46 = .ok (.iconst 1, 1) := by decide +kernel
theorem dX7_bestWaits_47 : decode cX7_bestWaits 47 = .ok (.iadd, 1) := by decide +kernel
theorem dX7_bestWaits_48 : decode cX7_bestWaits 48 = .ok (.iaload, 1) := by decide +kernel
theorem dX7_bestWaits_49 : decode cX7_bestWaits 49 = .ok (.istore_n 3, 1) := by decide +kernel
theorem dX7_bestWaits_50 : decode cX7_bestWaits 50 = .ok (.aload_n 0, 1) := by decide +kernel
theorem dX7_bestWaits_51 : decode cX7_bestWaits 51 = .ok (.iload_n 1, 1) := by decide +kernel
theorem dX7_bestWaits_52 : decode cX7_bestWaits 52 = .ok (.iload_n 2, 1) := by decide +kernel
theorem dX7_bestWaits_53 : decode cX7_bestWaits 53 = .ok (.invokevirtual 156, 3) := by decide +kernel
theorem dX7_bestWaits_56 : decode cX7_bestWaits 56 = .ok (.istore 4, 2) := by decide +kernel
theorem dX7_bestWaits_58 : decode cX7_bestWaits 58 = .ok (.aload_n 0, 1) := by decide +kernel
theorem dX7_bestWaits_59 : decode cX7_bestWaits 59 = .ok (.getfield 75, 3) := by decide +kernel
theorem dX7_bestWaits_62 : decode cX7_bestWaits 62 = .ok (.sipush 301, 3) := by decide +kernel
theorem dX7_bestWaits_65 : decode cX7_bestWaits 65 = .ok (.iload_n 1, 1) := by decide +kernel
theorem dX7_bestWaits_66 : decode cX7_bestWaits 66 = .ok (.imul, 1) := by decide +kernel
theorem dX7_bestWaits_67 : decode cX7_bestWaits 67 = .ok (.iload_n 2, 1) := by decide +kernel
theorem dX7_bestWaits_68 : decode cX7_bestWaits 68 = .ok (.iadd, 1) := by decide +kernel
theorem dX7_bestWaits_69 : decode cX7_bestWaits 69 = .ok (.iload 4, 2) := by decide +kernel
theorem dX7_bestWaits_71 : decode cX7_bestWaits 71 = .ok (.iload_n 3, 1) := by decide +kernel
theorem dX7_bestWaits_72 : decode cX7_bestWaits 72 = .ok (.if_icmp .gt 8, 3) := by decide +kernel
theorem dX7_bestWaits_75 : decode cX7_bestWaits 75 = .ok (.iload 4, 2) := by decide +kernel
theorem dX7_bestWaits_77 : decode cX7_bestWaits 77 = .ok (.goto 4, 3) := by decide +kernel
theorem dX7_bestWaits_80 : decode cX7_bestWaits 80 = .ok (.iload_n 3, 1) := by decide +kernel
theorem dX7_bestWaits_81 : decode cX7_bestWaits 81 = .ok (.iastore, 1) := by decide +kernel
theorem dX7_bestWaits_82 : decode cX7_bestWaits 82 = .ok (.iinc 2 (-1), 3) := by decide +kernel
theorem dX7_bestWaits_85 : decode cX7_bestWaits 85 = .ok (.goto (-66), 3) := by decide +kernel
theorem dX7_bestWaits_88 : decode cX7_bestWaits 88 = .ok (.iinc 1 (-1), 3) := by decide +kernel
theorem dX7_bestWaits_91 : decode cX7_bestWaits 91 = .ok (.goto (-80), 3) := by decide +kernel
theorem dX7_bestWaits_94 : decode cX7_bestWaits 94 = .ok (.aload_n 0, 1) := by decide +kernel
theorem dX7_bestWaits_95 : decode cX7_bestWaits 95 = .ok (.iconst 0, 1) := by decide +kernel
theorem dX7_bestWaits_96 : decode cX7_bestWaits 96 = .ok (.iconst 0, 1) := by decide +kernel
theorem dX7_bestWaits_97 : decode cX7_bestWaits 97 = .ok (.invokevirtual 147, 3) := by decide +kernel
theorem dX7_bestWaits_100 : decode cX7_bestWaits 100 = .ok (.ireturn, 1) := by decide +kernel
theorem dX7_waits_0 : decode cX7_waits 0 = .ok (.aload_n 0, 1) := by decide +kernel
theorem dX7_waits_1 : decode cX7_waits 1 = .ok (.invokevirtual 159, 3) := by decide +kernel
theorem dX7_waits_4 : decode cX7_waits 4 = .ok (.istore_n 1, 1) := by decide +kernel
theorem dX7_waits_5 : decode cX7_waits 5 = .ok (.iload_n 1, 1) := by decide +kernel
theorem dX7_waits_6 : decode cX7_waits 6 = .ok (.ldc 112, 2) := by decide +kernel
theorem dX7_waits_8 : decode cX7_waits 8 = .ok (.if_icmp .lt 7, 3) := by decide +kernel
theorem dX7_waits_11 : decode cX7_waits 11 = .ok (.iconst (-1), 1) := by decide +kernel
theorem dX7_waits_12 : decode cX7_waits 12 = .ok (.goto 4, 3) := by decide +kernel
theorem dX7_waits_15 : decode cX7_waits 15 = .ok (.iload_n 1, 1) := by decide +kernel
theorem dX7_waits_16 : decode cX7_waits 16 = .ok (.ireturn, 1) := by decide +kernel
theorem dX7_opening_0 : decode cX7_opening 0 = .ok (.iload_n 2, 1) := by decide +kernel
theorem dX7_opening_1 : decode cX7_opening 1 = .ok (.i2l, 1) := by decide +kernel
theorem dX7_opening_2 : decode cX7_opening 2 = .ok (.lconst 0, 1) := by decide +kernel
theorem dX7_opening_3 : decode cX7_opening 3 = .ok (.ldc2_w 122, 3) := by decide +kernel
theorem dX7_opening_6 : decode cX7_opening 6 = .ok (.invokestatic 84, 3) := by decide +kernel
theorem dX7_opening_9 : decode cX7_opening 9 = .ok (.ifCond .eq 16, 3) := by decide +kernel
theorem dX7_opening_12 : decode cX7_opening 12 = .ok (.iload_n 1, 1) := by decide +kernel
theorem dX7_opening_13 : decode cX7_opening 13 = .ok (.ifCond .lt 12, 3) := by decide +kernel
theorem dX7_opening_16 : decode cX7_opening 16 = .ok (.aload_n 0, 1) := by decide +kernel
theorem dX7_opening_17 : decode cX7_opening 17 = .ok (.invokevirtual 159, 3) := by decide +kernel
theorem dX7_opening_20 : decode cX7_opening 20 = .ok (.ldc 112, 2) := by decide +kernel
theorem dX7_opening_22 : decode cX7_opening 22 = .ok (.if_icmp .lt 5, 3) := by decide +kernel
theorem dX7_opening_25 : decode cX7_opening 25 = .ok (.iconst (-1), 1) := by decide +kernel
theorem dX7_opening_26 : decode cX7_opening 26 = .ok (.ireturn, 1) := by decide +kernel
theorem dX7_opening_27 : decode cX7_opening 27 = .ok (.iconst 0, 1) := by decide +kernel
theorem dX7_opening_28 : decode cX7_opening 28 = .ok (.istore_n 3, 1) := by decide +kernel
theorem dX7_opening_29 : decode cX7_opening 29 = .ok (.iconst 0, 1) := by decide +kernel
theorem dX7_opening_30 : decode cX7_opening 30 = .ok (.istore 4, 2) := by decide +kernel
theorem dX7_opening_32 : decode cX7_opening 32 = .ok (.iconst 0, 1) := by decide +kernel
theorem dX7_opening_33 : decode cX7_opening 33 = .ok (.istore 5, 2) := by decide +kernel
theorem dX7_opening_35 : decode cX7_opening 35 = .ok (.iload_n 3, 1) := by decide +kernel
theorem dX7_opening_36 : decode cX7_opening 36 = .ok (.aload_n 0, 1) := by decide +kernel
theorem dX7_opening_37 : decode cX7_opening 37 = .ok (.getfield 131, 3) := by decide +kernel
theorem dX7_opening_40 : decode cX7_opening 40 = .ok (.if_icmp .ge 95, 3) := by decide +kernel
theorem dX7_opening_43 : decode cX7_opening 43 = .ok (.iload 4, 2) := by decide +kernel
theorem dX7_opening_45 : decode cX7_opening 45 = .ok (.istore 6, 2) := by decide +kernel
theorem dX7_opening_47 : decode cX7_opening 47 = .ok (.aload_n 0, 1) := by decide +kernel
theorem dX7_opening_48 : decode cX7_opening 48 = .ok (.iload_n 3, 1) := by decide +kernel
theorem dX7_opening_49 : decode cX7_opening 49 = .ok (.iload 6, 2) := by decide +kernel
theorem dX7_opening_51 : decode cX7_opening 51 = .ok (.invokevirtual 156, 3) := by decide +kernel
theorem dX7_opening_54 : decode cX7_opening 54 = .ok (.aload_n 0, 1) := by decide +kernel
theorem dX7_opening_55 : decode cX7_opening 55 = .ok (.iload_n 3, 1) := by decide +kernel
theorem dX7_opening_56 : decode cX7_opening 56 = .ok (.iload 4, 2) := by decide +kernel
theorem dX7_opening_58 : decode cX7_opening 58 = .ok (.invokevirtual 147, 3) := by decide +kernel
theorem dX7_opening_61 : decode cX7_opening 61 = .ok (.if_icmp .eq 9, 3) := by decide +kernel
theorem dX7_opening_64 : decode cX7_opening 64 = .ok (.iinc 6 1, 3) := by decide +kernel
theorem dX7_opening_67 : decode cX7_opening 67 = .ok (.goto (-20), 3) := by decide +kernel
theorem dX7_opening_70 : decode cX7_opening 70 = .ok (.aload_n 0, 1) := by decide +kernel
theorem dX7_opening_71 : decode cX7_opening 71 = .ok (.iload 6, 2) := by decide +kernel
theorem dX7_opening_73 : decode cX7_opening 73 = .ok (.invokevirtual 139, 3) := by decide +kernel
theorem dX7_opening_76 : decode cX7_opening 76 = .ok (.iload_n 3, 1) := by decide +kernel
theorem dX7_opening_77 : decode cX7_opening 77 = .ok (.isub, 1) := by decide +kernel
theorem dX7_opening_78 : decode cX7_opening 78 = .ok (.istore 7, 2) := by decide +kernel
theorem dX7_opening_80 : decode cX7_opening 80 = .ok (.iload 5, 2) := by decide +kernel
theorem dX7_opening_82 : decode cX7_opening 82 = .ok (.iload_n 1, 1) := by decide +kernel
theorem dX7_opening_83 : decode cX7_opening 83 = .ok (.if_icmp .ne 31, 3) := by decide +kernel
theorem dX7_opening_86 : decode cX7_opening 86 = .ok (.iload_n 2, 1) := by decide +kernel
theorem dX7_opening_87 : decode cX7_opening 87 = .ok (.ifCond .ne 8, 3) := by decide +kernel
theorem dX7_opening_90 : decode cX7_opening 90 = .ok (.iload 6, 2) := by decide +kernel
theorem dX7_opening_92 : decode cX7_opening 92 = .ok (.goto 21, 3) := by decide +kernel
theorem dX7_opening_95 : decode cX7_opening 95 = .ok (.iload_n 2, 1) := by decide +kernel
theorem dX7_opening_96 : decode cX7_opening 96 = .ok (.iconst 1, 1) := by decide +kernel
theorem dX7_opening_97 : decode cX7_opening 97 = .ok (.if_icmp .ne 8, 3) := by decide +kernel
theorem dX7_opening_100 : decode cX7_opening 100 = .ok (.iload 7, 2) := by decide +kernel
theorem dX7_opening_102 : decode cX7_opening 102 = .ok (.goto 11, 3) := by decide +kernel
theorem dX7_opening_105 : decode cX7_opening 105 = .ok (.aload_n 0, 1) := by decide +kernel
theorem dX7_opening_106 : decode cX7_opening 106 = .ok (.iload 6, 2) := by decide +kernel
theorem dX7_opening_108 : decode cX7_opening 108 = .ok (.iload 7, 2) := by decide +kernel
theorem dX7_opening_110 : decode cX7_opening 110 = .ok (.invokevirtual 143, 3) := by decide +kernel
theorem dX7_opening_113 : decode cX7_opening 113 = .ok (.ireturn, 1) := by decide +kernel
theorem dX7_opening_114 : decode cX7_opening 114 = .ok (.iload_n 3, 1) := by decide +kernel
theorem dX7_opening_115 : decode cX7_opening 115 = .ok (.iload 7, 2) := by decide +kernel
theorem dX7_opening_117 : decode cX7_opening 117 = .ok (.iadd, 1) := by decide +kernel
theorem dX7_opening_118 : decode cX7_opening 118 = .ok (.istore_n 3, 1) := by decide +kernel
theorem dX7_opening_119 : decode cX7_opening 119 = .ok (.aload_n 0, 1) := by decide +kernel
theorem dX7_opening_120 : decode cX7_opening 120 = .ok (.iload 6, 2) := by decide +kernel
theorem dX7_opening_122 : decode cX7_opening 122 = .ok (.iload 7, 2) := by decide +kernel
theorem dX7_opening_124 : decode cX7_opening 124 = .ok (.invokevirtual 143, 3) := by decide +kernel
theorem dX7_opening_127 : decode cX7_opening 127 = .ok (.istore 4, 2) := by decide +kernel
theorem dX7_opening_129 : decode cX7_opening 129 = .ok (.iinc 5 1, 3) := by decide +kernel
theorem dX7_opening_132 : decode cX7_opening 132 = .ok (.goto (-97), 3) := by decide +kernel
theorem dX7_opening_135 : decode cX7_opening 135 = .ok (.iconst (-1), 1) := by decide +kernel
theorem dX7_opening_136 : decode cX7_opening 136 = .ok (.ireturn, 1) := by decide +kernel
theorem dX7_atOnce_0 : decode cX7_atOnce 0 = .ok (.aload_n 0, 1) := by decide +kernel
theorem dX7_atOnce_1 : decode cX7_atOnce 1 = .ok (.invokevirtual 153, 3) := by decide +kernel
theorem dX7_atOnce_4 : decode cX7_atOnce 4 = .ok (.iconst 0, 1) := by decide +kernel
theorem dX7_atOnce_5 : decode cX7_atOnce 5 = .ok (.istore_n 1, 1) := by decide +kernel
theorem dX7_atOnce_6 : decode cX7_atOnce 6 = .ok (.iconst 0, 1) := by decide +kernel
theorem dX7_atOnce_7 : decode cX7_atOnce 7 = .ok (.istore_n 2, 1) := by decide +kernel
theorem dX7_atOnce_8 : decode cX7_atOnce 8 = .ok (.iconst 0, 1) := by decide +kernel
theorem dX7_atOnce_9 : decode cX7_atOnce 9 = .ok (.istore_n 3, 1) := by decide +kernel
theorem dX7_atOnce_10 : decode cX7_atOnce 10 = .ok (.iload_n 1, 1) := by decide +kernel
theorem dX7_atOnce_11 : decode cX7_atOnce 11 = .ok (.aload_n 0, 1) := by decide +kernel
theorem dX7_atOnce_12 : decode cX7_atOnce 12 = .ok (.getfield 131, 3) := by decide +kernel
theorem dX7_atOnce_15 : decode cX7_atOnce 15 = .ok (.if_icmp .ge 72, 3) := by decide +kernel
theorem dX7_atOnce_18 : decode cX7_atOnce 18 = .ok (.iload_n 2, 1) := by decide +kernel
theorem dX7_atOnce_19 : decode cX7_atOnce 19 = .ok (.aload_n 0, 1) := by decide +kernel
theorem dX7_atOnce_20 : decode cX7_atOnce 20 = .ok (.getfield 72, 3) := by decide +kernel
theorem dX7_atOnce_23 : decode cX7_atOnce 23 = .ok (.iload_n 1, 1) := by decide +kernel
theorem dX7_atOnce_24 : decode cX7_atOnce 24 = .ok (.iaload, 1) := by decide +kernel
theorem dX7_atOnce_25 : decode cX7_atOnce 25 = .ok (.if_icmp .le 7, 3) := by decide +kernel
theorem dX7_atOnce_28 : decode cX7_atOnce 28 = .ok (.iload_n 2, 1) := by decide +kernel
theorem dX7_atOnce_29 : decode cX7_atOnce 29 = .ok (.goto 9, 3) := by decide +kernel
theorem dX7_atOnce_32 : decode cX7_atOnce 32 = .ok (.aload_n 0, 1) := by decide +kernel
theorem dX7_atOnce_33 : decode cX7_atOnce 33 = .ok (.getfield 72, 3) := by decide +kernel
theorem dX7_atOnce_36 : decode cX7_atOnce 36 = .ok (.iload_n 1, 1) := by decide +kernel
theorem dX7_atOnce_37 : decode cX7_atOnce 37 = .ok (.iaload, 1) := by decide +kernel
theorem dX7_atOnce_38 : decode cX7_atOnce 38 = .ok (.istore 4, 2) := by decide +kernel
theorem dX7_atOnce_40 : decode cX7_atOnce 40 = .ok (.iload 4, 2) := by decide +kernel
theorem dX7_atOnce_42 : decode cX7_atOnce 42 = .ok (.sipush 299, 3) := by decide +kernel
theorem dX7_atOnce_45 : decode cX7_atOnce 45 = .ok (.if_icmp .le 5, 3) := by decide +kernel
theorem dX7_atOnce_48 : decode cX7_atOnce 48 = .ok (.iconst (-1), 1) := by decide +kernel
theorem dX7_atOnce_49 : decode cX7_atOnce 49 = .ok (.ireturn, 1) := by decide +kernel
theorem dX7_atOnce_50 : decode cX7_atOnce 50 = .ok (.aload_n 0, 1) := by decide +kernel
theorem dX7_atOnce_51 : decode cX7_atOnce 51 = .ok (.iload 4, 2) := by decide +kernel
theorem dX7_atOnce_53 : decode cX7_atOnce 53 = .ok (.invokevirtual 139, 3) := by decide +kernel
theorem dX7_atOnce_56 : decode cX7_atOnce 56 = .ok (.iload_n 1, 1) := by decide +kernel
theorem dX7_atOnce_57 : decode cX7_atOnce 57 = .ok (.isub, 1) := by decide +kernel
theorem dX7_atOnce_58 : decode cX7_atOnce 58 = .ok (.istore 5, 2) := by decide +kernel
theorem dX7_atOnce_60 : decode cX7_atOnce 60 = .ok (.iload_n 3, 1) := by decide +kernel
theorem dX7_atOnce_61 : decode cX7_atOnce 61 = .ok (.aload_n 0, 1) := by decide +kernel
theorem dX7_atOnce_62 : decode cX7_atOnce 62 = .ok (.iload_n 1, 1) := by decide +kernel
theorem dX7_atOnce_63 : decode cX7_atOnce 63 = .ok (.iload 4, 2) := by decide +kernel
theorem dX7_atOnce_65 : decode cX7_atOnce 65 = .ok (.invokevirtual 150, 3) := by decide +kernel
theorem dX7_atOnce_68 : decode cX7_atOnce 68 = .ok (.iadd, 1) := by decide +kernel
theorem dX7_atOnce_69 : decode cX7_atOnce 69 = .ok (.istore_n 3, 1) := by decide +kernel
theorem dX7_atOnce_70 : decode cX7_atOnce 70 = .ok (.iload_n 1, 1) := by decide +kernel
theorem dX7_atOnce_71 : decode cX7_atOnce 71 = .ok (.iload 5, 2) := by decide +kernel
theorem dX7_atOnce_73 : decode cX7_atOnce 73 = .ok (.iadd, 1) := by decide +kernel
theorem dX7_atOnce_74 : decode cX7_atOnce 74 = .ok (.istore_n 1, 1) := by decide +kernel
theorem dX7_atOnce_75 : decode cX7_atOnce 75 = .ok (.aload_n 0, 1) := by decide +kernel
theorem dX7_atOnce_76 : decode cX7_atOnce 76 = .ok (.iload 4, 2) := by decide +kernel
theorem dX7_atOnce_78 : decode cX7_atOnce 78 = .ok (.iload 5, 2) := by decide +kernel
theorem dX7_atOnce_80 : decode cX7_atOnce 80 = .ok (.invokevirtual 143, 3) := by decide +kernel
theorem dX7_atOnce_83 : decode cX7_atOnce 83 = .ok (.istore_n 2, 1) := by decide +kernel
theorem dX7_atOnce_84 : decode cX7_atOnce 84 = .ok (.goto (-74), 3) := by decide +kernel
theorem dX7_atOnce_87 : decode cX7_atOnce 87 = .ok (.iload_n 3, 1) := by decide +kernel
theorem dX7_atOnce_88 : decode cX7_atOnce 88 = .ok (.ireturn, 1) := by decide +kernel
theorem dX7_level_0 : decode cX7_level 0 = .ok (.iload_n 1, 1) := by decide +kernel
theorem dX7_level_1 : decode cX7_level 1 = .ok (.i2l, 1) := by decide +kernel
theorem dX7_level_2 : decode cX7_level 2 = .ok (.lconst 0, 1) := by decide +kernel
theorem dX7_level_3 : decode cX7_level 3 = .ok (.ldc2_w 163, 3) := by decide +kernel
theorem dX7_level_6 : decode cX7_level 6 = .ok (.invokestatic 84, 3) := by decide +kernel
theorem dX7_level_9 : decode cX7_level 9 = .ok (.ifCond .eq 33, 3) := by decide +kernel
theorem dX7_level_12 : decode cX7_level 12 = .ok (.iload_n 2, 1) := by decide +kernel
theorem dX7_level_13 : decode cX7_level 13 = .ok (.iconst (-1), 1) := by decide +kernel
theorem dX7_level_14 : decode cX7_level 14 = .ok (.if_icmp .eq 30, 3) := by decide +kernel
theorem dX7_level_17 : decode cX7_level 17 = .ok (.iload_n 2, 1) := by decide +kernel
theorem dX7_level_18 : decode cX7_level 18 = .ok (.i2l, 1) := by decide +kernel
theorem dX7_level_19 : decode cX7_level 19 = .ok (.lconst 0, 1) := by decide +kernel
theorem dX7_level_20 : decode cX7_level 20 = .ok (.ldc2_w 165, 3) := by decide +kernel
theorem dX7_level_23 : decode cX7_level 23 = .ok (.invokestatic 84, 3) := by decide +kernel
theorem dX7_level_26 : decode cX7_level 26 = .ok (.ifCond .eq 16, 3) := by decide +kernel
theorem dX7_level_29 : decode cX7_level 29 = .ok (.iload_n 3, 1) := by decide +kernel
theorem dX7_level_30 : decode cX7_level 30 = .ok (.i2l, 1) := by decide +kernel
theorem dX7_level_31 : decode cX7_level 31 = .ok (.iload_n 2, 1) := by decide +kernel
theorem dX7_level_32 : decode cX7_level 32 = .ok (.i2l, 1) := by decide +kernel
theorem dX7_level_33 : decode cX7_level 33 = .ok (.ldc2_w 165, 3) := by decide +kernel
theorem dX7_level_36 : decode cX7_level 36 = .ok (.invokestatic 84, 3) := by decide +kernel
theorem dX7_level_39 : decode cX7_level 39 = .ok (.ifCond .ne 5, 3) := by decide +kernel
theorem dX7_level_42 : decode cX7_level 42 = .ok (.iconst 0, 1) := by decide +kernel
theorem dX7_level_43 : decode cX7_level 43 = .ok (.ireturn, 1) := by decide +kernel
theorem dX7_level_44 : decode cX7_level 44 = .ok (.aload_n 0, 1) := by decide +kernel
theorem dX7_level_45 : decode cX7_level 45 = .ok (.getfield 34, 3) := by decide +kernel
theorem dX7_level_48 : decode cX7_level 48 = .ok (.iload_n 1, 1) := by decide +kernel
theorem dX7_level_49 : decode cX7_level 49 = .ok (.iload_n 2, 1) := by decide +kernel
theorem dX7_level_50 : decode cX7_level 50 = .ok (.iastore, 1) := by decide +kernel
theorem dX7_level_51 : decode cX7_level 51 = .ok (.aload_n 0, 1) := by decide +kernel
theorem dX7_level_52 : decode cX7_level 52 = .ok (.getfield 37, 3) := by decide +kernel
theorem dX7_level_55 : decode cX7_level 55 = .ok (.iload_n 1, 1) := by decide +kernel
theorem dX7_level_56 : decode cX7_level 56 = .ok (.iload_n 3, 1) := by decide +kernel
theorem dX7_level_57 : decode cX7_level 57 = .ok (.iastore, 1) := by decide +kernel
theorem dX7_level_58 : decode cX7_level 58 = .ok (.iconst 1, 1) := by decide +kernel
theorem dX7_level_59 : decode cX7_level 59 = .ok (.ireturn, 1) := by decide +kernel
theorem dX7_flood_0 : decode cX7_flood 0 = .ok (.iload_n 1, 1) := by decide +kernel
theorem dX7_flood_1 : decode cX7_flood 1 = .ok (.i2l, 1) := by decide +kernel
theorem dX7_flood_2 : decode cX7_flood 2 = .ok (.lconst 0, 1) := by decide +kernel
theorem dX7_flood_3 : decode cX7_flood 3 = .ok (.ldc2_w 165, 3) := by decide +kernel
theorem dX7_flood_6 : decode cX7_flood 6 = .ok (.invokestatic 84, 3) := by decide +kernel
theorem dX7_flood_9 : decode cX7_flood 9 = .ok (.ifCond .eq 15, 3) := by decide +kernel
theorem dX7_flood_12 : decode cX7_flood 12 = .ok (.iload_n 2, 1) := by decide +kernel
theorem dX7_flood_13 : decode cX7_flood 13 = .ok (.i2l, 1) := by decide +kernel
theorem dX7_flood_14 : decode cX7_flood 14 = .ok (.lconst 1, 1) := by decide +kernel
theorem dX7_flood_15 : decode cX7_flood 15 = .ok (.ldc2_w 94, 3) := by decide +kernel
theorem dX7_flood_18 : decode cX7_flood 18 = .ok (.invokestatic 84, 3) := by decide +kernel
theorem dX7_flood_21 : decode cX7_flood 21 = .ok (.ifCond .ne 5, 3) := by decide +kernel
theorem dX7_flood_24 : decode cX7_flood 24 = .ok (.iconst 0, 1) := by decide +kernel
theorem dX7_flood_25 : decode cX7_flood 25 = .ok (.ireturn, 1) := by decide +kernel
theorem dX7_flood_26 : decode cX7_flood 26 = .ok (.aload_n 0, 1) := by decide +kernel
theorem dX7_flood_27 : decode cX7_flood 27 = .ok (.iload_n 1, 1) := by decide +kernel
theorem dX7_flood_28 : decode cX7_flood 28 = .ok (.putfield 40, 3) := by decide +kernel
theorem dX7_flood_31 : decode cX7_flood 31 = .ok (.aload_n 0, 1) := by decide +kernel
theorem dX7_flood_32 : decode cX7_flood 32 = .ok (.iload_n 2, 1) := by decide +kernel
theorem dX7_flood_33 : decode cX7_flood 33 = .ok (.putfield 44, 3) := by decide +kernel
theorem dX7_flood_36 : decode cX7_flood 36 = .ok (.iconst 1, 1) := by decide +kernel
theorem dX7_flood_37 : decode cX7_flood 37 = .ok (.ireturn, 1) := by decide +kernel
theorem dX7_isBad_0 : decode cX7_isBad 0 = .ok (.aload_n 0, 1) := by decide +kernel
theorem dX7_isBad_1 : decode cX7_isBad 1 = .ok (.getfield 34, 3) := by decide +kernel
theorem dX7_isBad_4 : decode cX7_isBad 4 = .ok (.iload_n 1, 1) := by decide +kernel
theorem dX7_isBad_5 : decode cX7_isBad 5 = .ok (.iaload, 1) := by decide +kernel
theorem dX7_isBad_6 : decode cX7_isBad 6 = .ok (.iconst (-1), 1) := by decide +kernel
theorem dX7_isBad_7 : decode cX7_isBad 7 = .ok (.if_icmp .eq 16, 3) := by decide +kernel
theorem dX7_isBad_10 : decode cX7_isBad 10 = .ok (.aload_n 0, 1) := by decide +kernel
theorem dX7_isBad_11 : decode cX7_isBad 11 = .ok (.getfield 37, 3) := by decide +kernel
theorem dX7_isBad_14 : decode cX7_isBad 14 = .ok (.iload_n 1, 1) := by decide +kernel
theorem dX7_isBad_15 : decode cX7_isBad 15 = .ok (.iaload, 1) := by decide +kernel
theorem dX7_isBad_16 : decode cX7_isBad 16 = .ok (.aload_n 0, 1) := by decide +kernel
theorem dX7_isBad_17 : decode cX7_isBad 17 = .ok (.getfield 40, 3) := by decide +kernel
theorem dX7_isBad_20 : decode cX7_isBad 20 = .ok (.if_icmp .le 7, 3) := by decide +kernel
theorem dX7_isBad_23 : decode cX7_isBad 23 = .ok (.iconst 1, 1) := by decide +kernel
theorem dX7_isBad_24 : decode cX7_isBad 24 = .ok (.goto 4, 3) := by decide +kernel
theorem dX7_isBad_27 : decode cX7_isBad 27 = .ok (.iconst 0, 1) := by decide +kernel
theorem dX7_isBad_28 : decode cX7_isBad 28 = .ok (.ireturn, 1) := by decide +kernel
theorem dX7_from_0 : decode cX7_from 0 = .ok (.iload_n 1, 1) := by decide +kernel
theorem dX7_from_1 : decode cX7_from 1 = .ok (.bipush 60, 2) := by decide +kernel
theorem dX7_from_3 : decode cX7_from 3 = .ok (.if_icmp .ne 7, 3) := by decide +kernel
theorem dX7_from_6 : decode cX7_from 6 = .ok (.iconst 0, 1) := by decide +kernel
theorem dX7_from_7 : decode cX7_from 7 = .ok (.goto 14, 3) := by decide +kernel
theorem dX7_from_10 : decode cX7_from 10 = .ok (.aload_n 0, 1) := by decide +kernel
theorem dX7_from_11 : decode cX7_from 11 = .ok (.getfield 78, 3) := by decide +kernel
theorem dX7_from_14 : decode cX7_from 14 = .ok (.bipush 10, 2) := by decide +kernel
theorem dX7_from_16 : decode cX7_from 16 = .ok (.iload_n 1, 1) := by decide +kernel
theorem dX7_from_17 : decode cX7_from 17 = .ok (.imul, 1) := by decide +kernel
theorem dX7_from_18 : decode cX7_from 18 = .ok (.iload_n 2, 1) := by decide +kernel
theorem dX7_from_19 : decode cX7_from 19 = .ok (.iadd, 1) := by decide +kernel
theorem dX7_from_20 : decode cX7_from 20 = .ok (.iaload, 1) := by decide +kernel
theorem dX7_from_21 : decode cX7_from 21 = .ok (.ireturn, 1) := by decide +kernel
theorem dX7_goes_0 : decode cX7_goes 0 = .ok (.iload_n 3, 1) := by decide +kernel
theorem dX7_goes_1 : decode cX7_goes 1 = .ok (.ifCond .ne 37, 3) := by decide +kernel
theorem dX7_goes_4 : decode cX7_goes 4 = .ok (.aload_n 0, 1) := by decide +kernel
theorem dX7_goes_5 : decode cX7_goes 5 = .ok (.iload_n 1, 1) := by decide +kernel
theorem dX7_goes_6 : decode cX7_goes 6 = .ok (.invokevirtual 167, 3) := by decide +kernel
theorem dX7_goes_9 : decode cX7_goes 9 = .ok (.ifCond .ne 15, 3) := by decide +kernel
theorem dX7_goes_12 : decode cX7_goes 12 = .ok (.iload_n 2, 1) := by decide +kernel
theorem dX7_goes_13 : decode cX7_goes 13 = .ok (.ifCond .le 16, 3) := by decide +kernel
theorem dX7_goes_16 : decode cX7_goes 16 = .ok (.iload_n 2, 1) := by decide +kernel
theorem dX7_goes_17 : decode cX7_goes 17 = .ok (.aload_n 0, 1) := by decide +kernel
theorem dX7_goes_18 : decode cX7_goes 18 = .ok (.getfield 44, 3) := by decide +kernel
theorem dX7_goes_21 : decode cX7_goes 21 = .ok (.if_icmp .ge 8, 3) := by decide +kernel
theorem dX7_goes_24 : decode cX7_goes 24 = .ok (.ldc 112, 2) := by decide +kernel
theorem dX7_goes_26 : decode cX7_goes 26 = .ok (.goto 11, 3) := by decide +kernel
theorem dX7_goes_29 : decode cX7_goes 29 = .ok (.aload_n 0, 1) := by decide +kernel
theorem dX7_goes_30 : decode cX7_goes 30 = .ok (.iload_n 1, 1) := by decide +kernel
theorem dX7_goes_31 : decode cX7_goes 31 = .ok (.iconst 1, 1) := by decide +kernel
theorem dX7_goes_32 : decode cX7_goes 32 = .ok (.iadd, 1) := by decide +kernel
theorem dX7_goes_33 : decode cX7_goes 33 = .ok (.iconst 0, 1) := by decide +kernel
theorem dX7_goes_34 : decode cX7_goes 34 = .ok (.invokevirtual 170, 3) := by decide +kernel
theorem dX7_goes_37 : decode cX7_goes 37 = .ok (.ireturn, 1) := by decide +kernel
theorem dX7_goes_38 : decode cX7_goes 38 = .ok (.aload_n 0, 1) := by decide +kernel
theorem dX7_goes_39 : decode cX7_goes 39 = .ok (.iload_n 1, 1) := by decide +kernel
theorem dX7_goes_40 : decode cX7_goes 40 = .ok (.iconst 1, 1) := by decide +kernel
theorem dX7_goes_41 : decode cX7_goes 41 = .ok (.iadd, 1) := by decide +kernel
theorem dX7_goes_42 : decode cX7_goes 42 = .ok (.iload_n 2, 1) := by decide +kernel
theorem dX7_goes_43 : decode cX7_goes 43 = .ok (.aload_n 0, 1) := by decide +kernel
theorem dX7_goes_44 : decode cX7_goes 44 = .ok (.getfield 44, 3) := by decide +kernel
theorem dX7_goes_47 : decode cX7_goes 47 = .ok (.if_icmp .ge 9, 3) := by decide +kernel
theorem dX7_goes_50 : decode cX7_goes 50 = .ok (.iload_n 2, 1) := by decide +kernel
theorem dX7_goes_51 : decode cX7_goes 51 = .ok (.iconst 1, 1) := by decide +kernel
theorem dX7_goes_52 : decode cX7_goes 52 = .ok (.iadd, 1) := by decide +kernel
theorem dX7_goes_53 : decode cX7_goes 53 = .ok (.goto 7, 3) := by decide +kernel
theorem dX7_goes_56 : decode cX7_goes 56 = .ok (.aload_n 0, 1) := by decide +kernel
theorem dX7_goes_57 : decode cX7_goes 57 = .ok (.getfield 44, 3) := by decide +kernel
theorem dX7_goes_60 : decode cX7_goes 60 = .ok (.invokevirtual 170, 3) := by decide +kernel
theorem dX7_goes_63 : decode cX7_goes 63 = .ok (.istore 4, 2) := by decide +kernel
theorem dX7_goes_65 : decode cX7_goes 65 = .ok (.iload 4, 2) := by decide +kernel
theorem dX7_goes_67 : decode cX7_goes 67 = .ok (.ldc 112, 2) := by decide +kernel
theorem dX7_goes_69 : decode cX7_goes 69 = .ok (.if_icmp .lt 8, 3) := by decide +kernel
theorem dX7_goes_72 : decode cX7_goes 72 = .ok (.ldc 112, 2) := by decide +kernel
theorem dX7_goes_74 : decode cX7_goes 74 = .ok (.goto 7, 3) := by decide +kernel
theorem dX7_goes_77 : decode cX7_goes 77 = .ok (.iload 4, 2) := by decide +kernel
theorem dX7_goes_79 : decode cX7_goes 79 = .ok (.iconst 1, 1) := by decide +kernel
theorem dX7_goes_80 : decode cX7_goes 80 = .ok (.iadd, 1) := by decide +kernel
theorem dX7_goes_81 : decode cX7_goes 81 = .ok (.ireturn, 1) := by decide +kernel
theorem dX7_fewestOut_0 : decode cX7_fewestOut 0 = .ok (.bipush 59, 2) := by decide +kernel
theorem dX7_fewestOut_2 : decode cX7_fewestOut 2 = .ok (.istore_n 1, 1) := by decide +kernel
theorem dX7_fewestOut_3 : decode cX7_fewestOut 3 = .ok (.iload_n 1, 1) := by decide +kernel
theorem dX7_fewestOut_4 : decode cX7_fewestOut 4 = .ok (.ifCond .lt 65, 3) := by decide +kernel
theorem dX7_fewestOut_7 : decode cX7_fewestOut 7 = .ok (.iconst 0, 1) := by decide +kernel
theorem dX7_fewestOut_8 : decode cX7_fewestOut 8 = .ok (.istore_n 2, 1) := by decide +kernel
theorem dX7_fewestOut_9 : decode cX7_fewestOut 9 = .ok (.iload_n 2, 1) := by decide +kernel
theorem dX7_fewestOut_10 : decode cX7_fewestOut 10 = .ok (.aload_n 0, 1) := by decide +kernel
theorem dX7_fewestOut_11 : decode cX7_fewestOut 11 = .ok (.getfield 44, 3) := by decide +kernel
theorem dX7_fewestOut_14 : decode cX7_fewestOut 14 = .ok (.if_icmp .gt 49, 3) := by decide +kernel
theorem dX7_fewestOut_17 : decode cX7_fewestOut 17 = .ok (.aload_n 0, 1) := by decide +kernel
theorem dX7_fewestOut_18 : decode cX7_fewestOut 18 = .ok (.iload_n 1, 1) := by decide +kernel
theorem dX7_fewestOut_19 : decode cX7_fewestOut 19 = .ok (.iload_n 2, 1) := by decide +kernel
theorem dX7_fewestOut_20 : decode cX7_fewestOut 20 = .ok (.iconst 0, 1) := by decide +kernel
theorem dX7_fewestOut_21 : decode cX7_fewestOut 21 = .ok (.invokevirtual 173, 3) := by decide +kernel
theorem dX7_fewestOut_24 : decode cX7_fewestOut 24 = .ok (.istore_n 3, 1) := by decide +kernel
theorem dX7_fewestOut_25 : decode cX7_fewestOut 25 = .ok (.aload_n 0, 1) := by decide +kernel
theorem dX7_fewestOut_26 : decode cX7_fewestOut 26 = .ok (.iload_n 1, 1) := by decide +kernel
theorem dX7_fewestOut_27 : decode cX7_fewestOut 27 = .ok (.iload_n 2, 1) := by decide +kernel
theorem dX7_fewestOut_28 : decode cX7_fewestOut 28 = .ok (.iconst 1, 1) := by decide +kernel
theorem dX7_fewestOut_29 : decode cX7_fewestOut 29 = .ok (.invokevirtual 173, 3) := by decide +kernel
theorem dX7_fewestOut_32 : decode cX7_fewestOut 32 = .ok (.istore 4, 2) := by decide +kernel
theorem dX7_fewestOut_34 : decode cX7_fewestOut 34 = .ok (.aload_n 0, 1) := by decide +kernel
theorem dX7_fewestOut_35 : decode cX7_fewestOut 35 = .ok (.getfield 78, 3) := by decide +kernel
theorem dX7_fewestOut_38 : decode cX7_fewestOut 38 = .ok (.bipush 10, 2) := by decide +kernel
theorem dX7_fewestOut_40 : decode cX7_fewestOut 40 = .ok (.iload_n 1, 1) := by decide +kernel
theorem dX7_fewestOut_41 : decode cX7_fewestOut 41 = .ok (.imul, 1) := by decide +kernel
theorem dX7_fewestOut_42 : decode cX7_fewestOut 42 = .ok (.iload_n 2, 1) := by decide +kernel
theorem dX7_fewestOut_43 : decode cX7_fewestOut 43 = .ok (.iadd, 1) := by decide +kernel
theorem dX7_fewestOut_44 : decode cX7_fewestOut 44 = .ok (.iload_n 3, 1) := by decide +kernel
theorem dX7_fewestOut_45 : decode cX7_fewestOut 45 = .ok (.iload 4, 2) := by decide +kernel
theorem dX7_fewestOut_47 : decode cX7_fewestOut 47 = .ok (.if_icmp .ge 7, 3) := by decide +kernel
theorem dX7_fewestOut_50 : decode cX7_fewestOut 50 = .ok (.iload_n 3, 1) := by decide +kernel
theorem dX7_fewestOut_51 : decode cX7_fewestOut 51 = .ok (.goto 5, 3) := by decide +kernel
theorem dX7_fewestOut_54 : decode cX7_fewestOut 54 = .ok (.iload 4, 2) := by decide +kernel
theorem dX7_fewestOut_56 : decode cX7_fewestOut 56 = .ok (.iastore, 1) := by decide +kernel
theorem dX7_fewestOut_57 : decode cX7_fewestOut 57 = .ok (.iinc 2 1, 3) := by decide +kernel
theorem dX7_fewestOut_60 : decode cX7_fewestOut 60 = .ok (.goto (-51), 3) := by decide +kernel
theorem dX7_fewestOut_63 : decode cX7_fewestOut 63 = .ok (.iinc 1 (-1), 3) := by decide +kernel
theorem dX7_fewestOut_66 : decode cX7_fewestOut 66 = .ok (.goto (-63), 3) := by decide +kernel
theorem dX7_fewestOut_69 : decode cX7_fewestOut 69 = .ok (.aload_n 0, 1) := by decide +kernel
theorem dX7_fewestOut_70 : decode cX7_fewestOut 70 = .ok (.iconst 0, 1) := by decide +kernel
theorem dX7_fewestOut_71 : decode cX7_fewestOut 71 = .ok (.iconst 0, 1) := by decide +kernel
theorem dX7_fewestOut_72 : decode cX7_fewestOut 72 = .ok (.invokevirtual 170, 3) := by decide +kernel
theorem dX7_fewestOut_75 : decode cX7_fewestOut 75 = .ok (.ireturn, 1) := by decide +kernel
theorem dX7_out_0 : decode cX7_out 0 = .ok (.aload_n 0, 1) := by decide +kernel
theorem dX7_out_1 : decode cX7_out 1 = .ok (.invokevirtual 177, 3) := by decide +kernel
theorem dX7_out_4 : decode cX7_out 4 = .ok (.ireturn, 1) := by decide +kernel
theorem dX7_outOn_0 : decode cX7_outOn 0 = .ok (.iload_n 1, 1) := by decide +kernel
theorem dX7_outOn_1 : decode cX7_outOn 1 = .ok (.i2l, 1) := by decide +kernel
theorem dX7_outOn_2 : decode cX7_outOn 2 = .ok (.lconst 0, 1) := by decide +kernel
theorem dX7_outOn_3 : decode cX7_outOn 3 = .ok (.ldc2_w 163, 3) := by decide +kernel
theorem dX7_outOn_6 : decode cX7_outOn 6 = .ok (.invokestatic 84, 3) := by decide +kernel
theorem dX7_outOn_9 : decode cX7_outOn 9 = .ok (.ifCond .eq 13, 3) := by decide +kernel
theorem dX7_outOn_12 : decode cX7_outOn 12 = .ok (.iload_n 2, 1) := by decide +kernel
theorem dX7_outOn_13 : decode cX7_outOn 13 = .ok (.i2l, 1) := by decide +kernel
theorem dX7_outOn_14 : decode cX7_outOn 14 = .ok (.lconst 0, 1) := by decide +kernel
theorem dX7_outOn_15 : decode cX7_outOn 15 = .ok (.lconst 1, 1) := by decide +kernel
theorem dX7_outOn_16 : decode cX7_outOn 16 = .ok (.invokestatic 84, 3) := by decide +kernel
theorem dX7_outOn_19 : decode cX7_outOn 19 = .ok (.ifCond .ne 5, 3) := by decide +kernel
theorem dX7_outOn_22 : decode cX7_outOn 22 = .ok (.iconst (-1), 1) := by decide +kernel
theorem dX7_outOn_23 : decode cX7_outOn 23 = .ok (.ireturn, 1) := by decide +kernel
theorem dX7_outOn_24 : decode cX7_outOn 24 = .ok (.iload_n 2, 1) := by decide +kernel
theorem dX7_outOn_25 : decode cX7_outOn 25 = .ok (.iconst 1, 1) := by decide +kernel
theorem dX7_outOn_26 : decode cX7_outOn 26 = .ok (.if_icmp .ne 17, 3) := by decide +kernel
theorem dX7_outOn_29 : decode cX7_outOn 29 = .ok (.aload_n 0, 1) := by decide +kernel
theorem dX7_outOn_30 : decode cX7_outOn 30 = .ok (.iload_n 1, 1) := by decide +kernel
theorem dX7_outOn_31 : decode cX7_outOn 31 = .ok (.invokevirtual 167, 3) := by decide +kernel
theorem dX7_outOn_34 : decode cX7_outOn 34 = .ok (.ifCond .eq 7, 3) := by decide +kernel
theorem dX7_outOn_37 : decode cX7_outOn 37 = .ok (.iconst 1, 1) := by decide +kernel
theorem dX7_outOn_38 : decode cX7_outOn 38 = .ok (.goto 4, 3) := by decide +kernel
theorem dX7_outOn_41 : decode cX7_outOn 41 = .ok (.iconst 0, 1) := by decide +kernel
theorem dX7_outOn_42 : decode cX7_outOn 42 = .ok (.ireturn, 1) := by decide +kernel
theorem dX7_outOn_43 : decode cX7_outOn 43 = .ok (.aload_n 0, 1) := by decide +kernel
theorem dX7_outOn_44 : decode cX7_outOn 44 = .ok (.invokevirtual 177, 3) := by decide +kernel
theorem dX7_outOn_47 : decode cX7_outOn 47 = .ok (.istore_n 3, 1) := by decide +kernel
theorem dX7_outOn_48 : decode cX7_outOn 48 = .ok (.iconst 0, 1) := by decide +kernel
theorem dX7_outOn_49 : decode cX7_outOn 49 = .ok (.istore 4, 2) := by decide +kernel
theorem dX7_outOn_51 : decode cX7_outOn 51 = .ok (.iconst 0, 1) := by decide +kernel
theorem dX7_outOn_52 : decode cX7_outOn 52 = .ok (.istore 5, 2) := by decide +kernel
theorem dX7_outOn_54 : decode cX7_outOn 54 = .ok (.iconst 0, 1) := by decide +kernel
theorem dX7_outOn_55 : decode cX7_outOn 55 = .ok (.istore 6, 2) := by decide +kernel
theorem dX7_outOn_57 : decode cX7_outOn 57 = .ok (.iload 6, 2) := by decide +kernel
theorem dX7_outOn_59 : decode cX7_outOn 59 = .ok (.iload_n 1, 1) := by decide +kernel
theorem dX7_outOn_60 : decode cX7_outOn 60 = .ok (.if_icmp .gt 67, 3) := by decide +kernel
theorem dX7_outOn_63 : decode cX7_outOn 63 = .ok (.aload_n 0, 1) := by decide +kernel
theorem dX7_outOn_64 : decode cX7_outOn 64 = .ok (.iload 6, 2) := by decide +kernel
theorem dX7_outOn_66 : decode cX7_outOn 66 = .ok (.iload 4, 2) := by decide +kernel
theorem dX7_outOn_68 : decode cX7_outOn 68 = .ok (.iconst 0, 1) := by decide +kernel
theorem dX7_outOn_69 : decode cX7_outOn 69 = .ok (.invokevirtual 173, 3) := by decide +kernel
theorem dX7_outOn_72 : decode cX7_outOn 72 = .ok (.aload_n 0, 1) := by decide +kernel
theorem dX7_outOn_73 : decode cX7_outOn 73 = .ok (.iload 6, 2) := by decide +kernel
theorem dX7_outOn_75 : decode cX7_outOn 75 = .ok (.iload 4, 2) := by decide +kernel
theorem dX7_outOn_77 : decode cX7_outOn 77 = .ok (.invokevirtual 170, 3) := by decide +kernel
theorem dX7_outOn_80 : decode cX7_outOn 80 = .ok (.if_icmp .eq 7, 3) := by decide +kernel
theorem dX7_outOn_83 : decode cX7_outOn 83 = .ok (.iconst 1, 1) := by decide +kernel
theorem dX7_outOn_84 : decode cX7_outOn 84 = .ok (.goto 4, 3) := by decide +kernel
theorem dX7_outOn_87 : decode cX7_outOn 87 = .ok (.iconst 0, 1) := by decide +kernel
theorem dX7_outOn_88 : decode cX7_outOn 88 = .ok (.istore 5, 2) := by decide +kernel
theorem dX7_outOn_90 : decode cX7_outOn 90 = .ok (.iload 5, 2) := by decide +kernel
theorem dX7_outOn_92 : decode cX7_outOn 92 = .ok (.ifCond .eq 26, 3) := by decide +kernel
theorem dX7_outOn_95 : decode cX7_outOn 95 = .ok (.iload 4, 2) := by decide +kernel
theorem dX7_outOn_97 : decode cX7_outOn 97 = .ok (.aload_n 0, 1) := by decide +kernel
theorem dX7_outOn_98 : decode cX7_outOn 98 = .ok (.getfield 44, 3) := by decide +kernel
theorem dX7_outOn_101 : decode cX7_outOn 101 = .ok (.if_icmp .ge 10, 3) := by decide +kernel
theorem dX7_outOn_104 : decode cX7_outOn 104 = .ok (.iload 4, 2) := by decide +kernel
theorem dX7_outOn_106 : decode cX7_outOn 106 = .ok (.iconst 1, 1) := by decide +kernel
theorem dX7_outOn_107 : decode cX7_outOn 107 = .ok (.iadd, 1) := by decide +kernel
theorem dX7_outOn_108 : decode cX7_outOn 108 = .ok (.goto 11, 3) := by decide +kernel
theorem dX7_outOn_111 : decode cX7_outOn 111 = .ok (.aload_n 0, 1) := by decide +kernel
theorem dX7_outOn_112 : decode cX7_outOn 112 = .ok (.getfield 44, 3) := by decide +kernel
theorem dX7_outOn_115 : decode cX7_outOn 115 = .ok (.goto 4, 3) := by decide +kernel
theorem dX7_outOn_118 : decode cX7_outOn 118 = .ok (.iconst 0, 1) := by decide +kernel
theorem dX7_outOn_119 : decode cX7_outOn 119 = .ok (.istore 4, 2) := by decide +kernel
theorem dX7_outOn_121 : decode cX7_outOn 121 = .ok (.iinc 6 1, 3) := by decide +kernel
theorem dX7_outOn_124 : decode cX7_outOn 124 = .ok (.goto (-67), 3) := by decide +kernel
theorem dX7_outOn_127 : decode cX7_outOn 127 = .ok (.iload 5, 2) := by decide +kernel
theorem dX7_outOn_129 : decode cX7_outOn 129 = .ok (.ifCond .eq 7, 3) := by decide +kernel
theorem dX7_outOn_132 : decode cX7_outOn 132 = .ok (.iconst 1, 1) := by decide +kernel
theorem dX7_outOn_133 : decode cX7_outOn 133 = .ok (.goto 4, 3) := by decide +kernel
theorem dX7_outOn_136 : decode cX7_outOn 136 = .ok (.iconst 0, 1) := by decide +kernel
theorem dX7_outOn_137 : decode cX7_outOn 137 = .ok (.ireturn, 1) := by decide +kernel
theorem dX7_put_0 : decode cX7_put 0 = .ok (.aload_n 0, 1) := by decide +kernel
theorem dX7_put_1 : decode cX7_put 1 = .ok (.getfield 47, 3) := by decide +kernel
theorem dX7_put_4 : decode cX7_put 4 = .ok (.aload_n 0, 1) := by decide +kernel
theorem dX7_put_5 : decode cX7_put 5 = .ok (.getfield 180, 3) := by decide +kernel
theorem dX7_put_8 : decode cX7_put 8 = .ok (.iload_n 1, 1) := by decide +kernel
theorem dX7_put_9 : decode cX7_put 9 = .ok (.bipush 24, 2) := by decide +kernel
theorem dX7_put_11 : decode cX7_put 11 = .ok (.ishr, 1) := by decide +kernel
theorem dX7_put_12 : decode cX7_put 12 = .ok (.i2b, 1) := by decide +kernel
theorem dX7_put_13 : decode cX7_put 13 = .ok (.bastore, 1) := by decide +kernel
theorem dX7_put_14 : decode cX7_put 14 = .ok (.aload_n 0, 1) := by decide +kernel
theorem dX7_put_15 : decode cX7_put 15 = .ok (.getfield 47, 3) := by decide +kernel
theorem dX7_put_18 : decode cX7_put 18 = .ok (.aload_n 0, 1) := by decide +kernel
theorem dX7_put_19 : decode cX7_put 19 = .ok (.getfield 180, 3) := by decide +kernel
theorem dX7_put_22 : decode cX7_put 22 = .ok (.iconst 1, 1) := by decide +kernel
theorem dX7_put_23 : decode cX7_put 23 = .ok (.iadd, 1) := by decide +kernel
theorem dX7_put_24 : decode cX7_put 24 = .ok (.iload_n 1, 1) := by decide +kernel
theorem dX7_put_25 : decode cX7_put 25 = .ok (.bipush 16, 2) := by decide +kernel
theorem dX7_put_27 : decode cX7_put 27 = .ok (.ishr, 1) := by decide +kernel
theorem dX7_put_28 : decode cX7_put 28 = .ok (.i2b, 1) := by decide +kernel
theorem dX7_put_29 : decode cX7_put 29 = .ok (.bastore, 1) := by decide +kernel
theorem dX7_put_30 : decode cX7_put 30 = .ok (.aload_n 0, 1) := by decide +kernel
theorem dX7_put_31 : decode cX7_put 31 = .ok (.getfield 47, 3) := by decide +kernel
theorem dX7_put_34 : decode cX7_put 34 = .ok (.aload_n 0, 1) := by decide +kernel
theorem dX7_put_35 : decode cX7_put 35 = .ok (.getfield 180, 3) := by decide +kernel
theorem dX7_put_38 : decode cX7_put 38 = .ok (.iconst 2, 1) := by decide +kernel
theorem dX7_put_39 : decode cX7_put 39 = .ok (.iadd, 1) := by decide +kernel
theorem dX7_put_40 : decode cX7_put 40 = .ok (.iload_n 1, 1) := by decide +kernel
theorem dX7_put_41 : decode cX7_put 41 = .ok (.bipush 8, 2) := by decide +kernel
theorem dX7_put_43 : decode cX7_put 43 = .ok (.ishr, 1) := by decide +kernel
theorem dX7_put_44 : decode cX7_put 44 = .ok (.i2b, 1) := by decide +kernel
theorem dX7_put_45 : decode cX7_put 45 = .ok (.bastore, 1) := by decide +kernel
theorem dX7_put_46 : decode cX7_put 46 = .ok (.aload_n 0, 1) := by decide +kernel
theorem dX7_put_47 : decode cX7_put 47 = .ok (.getfield 47, 3) := by decide +kernel
theorem dX7_put_50 : decode cX7_put 50 = .ok (.aload_n 0, 1) := by decide +kernel
theorem dX7_put_51 : decode cX7_put 51 = .ok (.getfield 180, 3) := by decide +kernel
theorem dX7_put_54 : decode cX7_put 54 = .ok (.iconst 3, 1) := by decide +kernel
theorem dX7_put_55 : decode cX7_put 55 = .ok (.iadd, 1) := by decide +kernel
theorem dX7_put_56 : decode cX7_put 56 = .ok (.iload_n 1, 1) := by decide +kernel
theorem dX7_put_57 : decode cX7_put 57 = .ok (.i2b, 1) := by decide +kernel
theorem dX7_put_58 : decode cX7_put 58 = .ok (.bastore, 1) := by decide +kernel
theorem dX7_put_59 : decode cX7_put 59 = .ok (.aload_n 0, 1) := by decide +kernel
theorem dX7_put_60 : decode cX7_put 60 = .ok (.dup, 1) := by decide +kernel
theorem dX7_put_61 : decode cX7_put 61 = .ok (.getfield 180, 3) := by decide +kernel
theorem dX7_put_64 : decode cX7_put 64 = .ok (.iconst 4, 1) := by decide +kernel
theorem dX7_put_65 : decode cX7_put 65 = .ok (.iadd, 1) := by decide +kernel
theorem dX7_put_66 : decode cX7_put 66 = .ok (.putfield 180, 3) := by decide +kernel
theorem dX7_put_69 : decode cX7_put 69 = .ok (.return_, 1) := by decide +kernel
theorem dX7_feed_0 : decode cX7_feed 0 = .ok (.aload_n 0, 1) := by decide +kernel
theorem dX7_feed_1 : decode cX7_feed 1 = .ok (.getfield 180, 3) := by decide +kernel
theorem dX7_feed_4 : decode cX7_feed 4 = .ok (.bipush 20, 2) := by decide +kernel
theorem dX7_feed_6 : decode cX7_feed 6 = .ok (.iadd, 1) := by decide +kernel
theorem dX7_feed_7 : decode cX7_feed 7 = .ok (.sipush 200, 3) := by decide +kernel
theorem dX7_feed_10 : decode cX7_feed 10 = .ok (.if_icmp .le 5, 3) := by decide +kernel
theorem dX7_feed_13 : decode cX7_feed 13 = .ok (.iconst (-1), 1) := by decide +kernel
theorem dX7_feed_14 : decode cX7_feed 14 = .ok (.ireturn, 1) := by decide +kernel
theorem dX7_feed_15 : decode cX7_feed 15 = .ok (.aload_n 0, 1) := by decide +kernel
theorem dX7_feed_16 : decode cX7_feed 16 = .ok (.iload_n 1, 1) := by decide +kernel
theorem dX7_feed_17 : decode cX7_feed 17 = .ok (.invokevirtual 183, 3) := by decide +kernel
theorem dX7_feed_20 : decode cX7_feed 20 = .ok (.aload_n 0, 1) := by decide +kernel
theorem dX7_feed_21 : decode cX7_feed 21 = .ok (.iload_n 2, 1) := by decide +kernel
theorem dX7_feed_22 : decode cX7_feed 22 = .ok (.invokevirtual 183, 3) := by decide +kernel
theorem dX7_feed_25 : decode cX7_feed 25 = .ok (.aload_n 0, 1) := by decide +kernel
theorem dX7_feed_26 : decode cX7_feed 26 = .ok (.iload_n 3, 1) := by decide +kernel
theorem dX7_feed_27 : decode cX7_feed 27 = .ok (.invokevirtual 183, 3) := by decide +kernel
theorem dX7_feed_30 : decode cX7_feed 30 = .ok (.aload_n 0, 1) := by decide +kernel
theorem dX7_feed_31 : decode cX7_feed 31 = .ok (.iload 4, 2) := by decide +kernel
theorem dX7_feed_33 : decode cX7_feed 33 = .ok (.invokevirtual 183, 3) := by decide +kernel
theorem dX7_feed_36 : decode cX7_feed 36 = .ok (.aload_n 0, 1) := by decide +kernel
theorem dX7_feed_37 : decode cX7_feed 37 = .ok (.iload 5, 2) := by decide +kernel
theorem dX7_feed_39 : decode cX7_feed 39 = .ok (.invokevirtual 183, 3) := by decide +kernel
theorem dX7_feed_42 : decode cX7_feed 42 = .ok (.aload_n 0, 1) := by decide +kernel
theorem dX7_feed_43 : decode cX7_feed 43 = .ok (.getfield 180, 3) := by decide +kernel
theorem dX7_feed_46 : decode cX7_feed 46 = .ok (.ireturn, 1) := by decide +kernel
theorem dX7_end_0 : decode cX7_end 0 = .ok (.iload_n 1, 1) := by decide +kernel
theorem dX7_end_1 : decode cX7_end 1 = .ok (.i2l, 1) := by decide +kernel
theorem dX7_end_2 : decode cX7_end 2 = .ok (.lconst 0, 1) := by decide +kernel
theorem dX7_end_3 : decode cX7_end 3 = .ok (.aload_n 0, 1) := by decide +kernel
theorem dX7_end_4 : decode cX7_end 4 = .ok (.getfield 180, 3) := by decide +kernel
theorem dX7_end_7 : decode cX7_end 7 = .ok (.i2l, 1) := by decide +kernel
theorem dX7_end_8 : decode cX7_end 8 = .ok (.invokestatic 84, 3) := by decide +kernel
theorem dX7_end_11 : decode cX7_end 11 = .ok (.ifCond .ne 5, 3) := by decide +kernel
theorem dX7_end_14 : decode cX7_end 14 = .ok (.iconst (-1), 1) := by decide +kernel
theorem dX7_end_15 : decode cX7_end 15 = .ok (.ireturn, 1) := by decide +kernel
theorem dX7_end_16 : decode cX7_end 16 = .ok (.aload_n 0, 1) := by decide +kernel
theorem dX7_end_17 : decode cX7_end 17 = .ok (.iload_n 1, 1) := by decide +kernel
theorem dX7_end_18 : decode cX7_end 18 = .ok (.putfield 180, 3) := by decide +kernel
theorem dX7_end_21 : decode cX7_end 21 = .ok (.iload_n 1, 1) := by decide +kernel
theorem dX7_end_22 : decode cX7_end 22 = .ok (.ireturn, 1) := by decide +kernel
theorem dX7_isLetter_0 : decode cX7_isLetter 0 = .ok (.iload_n 0, 1) := by decide +kernel
theorem dX7_isLetter_1 : decode cX7_isLetter 1 = .ok (.i2l, 1) := by decide +kernel
theorem dX7_isLetter_2 : decode cX7_isLetter 2 = .ok (.ldc2_w 186, 3) := by decide +kernel
theorem dX7_isLetter_5 : decode cX7_isLetter 5 = .ok (.ldc2_w 188, 3) := by decide +kernel
theorem dX7_isLetter_8 : decode cX7_isLetter 8 = .ok (.invokestatic 84, 3) := by decide +kernel
theorem dX7_isLetter_11 : decode cX7_isLetter 11 = .ok (.ifCond .ne 17, 3) := by decide +kernel
theorem dX7_isLetter_14 : decode cX7_isLetter 14 = .ok (.iload_n 0, 1) := by decide +kernel
theorem dX7_isLetter_15 : decode cX7_isLetter 15 = .ok (.i2l, 1) := by decide +kernel
theorem dX7_isLetter_16 : decode cX7_isLetter 16 = .ok (.ldc2_w 190, 3) := by decide +kernel
theorem dX7_isLetter_19 : decode cX7_isLetter 19 = .ok (.ldc2_w 192, 3) := by decide +kernel
theorem dX7_isLetter_22 : decode cX7_isLetter 22 = .ok (.invokestatic 84, 3) := by decide +kernel
theorem dX7_isLetter_25 : decode cX7_isLetter 25 = .ok (.ifCond .eq 7, 3) := by decide +kernel
theorem dX7_isLetter_28 : decode cX7_isLetter 28 = .ok (.iconst 1, 1) := by decide +kernel
theorem dX7_isLetter_29 : decode cX7_isLetter 29 = .ok (.goto 4, 3) := by decide +kernel
theorem dX7_isLetter_32 : decode cX7_isLetter 32 = .ok (.iconst 0, 1) := by decide +kernel
theorem dX7_isLetter_33 : decode cX7_isLetter 33 = .ok (.ireturn, 1) := by decide +kernel
theorem dX7_wordOf_0 : decode cX7_wordOf 0 = .ok (.lload_n 0, 1) := by decide +kernel
theorem dX7_wordOf_1 : decode cX7_wordOf 1 = .ok (.ldc2_w 194, 3) := by decide +kernel
theorem dX7_wordOf_4 : decode cX7_wordOf 4 = .ok (.lcmp, 1) := by decide +kernel
theorem dX7_wordOf_5 : decode cX7_wordOf 5 = .ok (.ifCond .ne 7, 3) := by decide +kernel
theorem dX7_wordOf_8 : decode cX7_wordOf 8 = .ok (.iconst 0, 1) := by decide +kernel
theorem dX7_wordOf_9 : decode cX7_wordOf 9 = .ok (.goto 16, 3) := by decide +kernel
theorem dX7_wordOf_12 : decode cX7_wordOf 12 = .ok (.lload_n 0, 1) := by decide +kernel
theorem dX7_wordOf_13 : decode cX7_wordOf 13 = .ok (.ldc2_w 196, 3) := by decide +kernel
theorem dX7_wordOf_16 : decode cX7_wordOf 16 = .ok (.lcmp, 1) := by decide +kernel
theorem dX7_wordOf_17 : decode cX7_wordOf 17 = .ok (.ifCond .ne 7, 3) := by decide +kernel
theorem dX7_wordOf_20 : decode cX7_wordOf 20 = .ok (.iconst 1, 1) := by decide +kernel
theorem dX7_wordOf_21 : decode cX7_wordOf 21 = .ok (.goto 4, 3) := by decide +kernel
theorem dX7_wordOf_24 : decode cX7_wordOf 24 = .ok (.iconst (-1), 1) := by decide +kernel
theorem dX7_wordOf_25 : decode cX7_wordOf 25 = .ok (.ireturn, 1) := by decide +kernel
theorem dX7_next_0 : decode cX7_next 0 = .ok (.aload_n 0, 1) := by decide +kernel
theorem dX7_next_1 : decode cX7_next 1 = .ok (.getfield 198, 3) := by decide +kernel
theorem dX7_next_4 : decode cX7_next 4 = .ok (.iload_n 1, 1) := by decide +kernel
theorem dX7_next_5 : decode cX7_next 5 = .ok (.if_icmp .ge 30, 3) := by decide +kernel
theorem dX7_next_8 : decode cX7_next 8 = .ok (.aload_n 0, 1) := by decide +kernel
theorem dX7_next_9 : decode cX7_next 9 = .ok (.getfield 47, 3) := by decide +kernel
theorem dX7_next_12 : decode cX7_next 12 = .ok (.aload_n 0, 1) := by decide +kernel
theorem dX7_next_13 : decode cX7_next 13 = .ok (.getfield 198, 3) := by decide +kernel
theorem dX7_next_16 : decode cX7_next 16 = .ok (.baload, 1) := by decide +kernel
theorem dX7_next_17 : decode cX7_next 17 = .ok (.bipush 32, 2) := by decide +kernel
theorem dX7_next_19 : decode cX7_next 19 = .ok (.if_icmp .ne 16, 3) := by decide +kernel
theorem dX7_next_22 : decode cX7_next 22 = .ok (.aload_n 0, 1) := by decide +kernel
theorem dX7_next_23 : decode cX7_next 23 = .ok (.dup, 1) := by decide +kernel
theorem dX7_next_24 : decode cX7_next 24 = .ok (.getfield 198, 3) := by decide +kernel
theorem dX7_next_27 : decode cX7_next 27 = .ok (.iconst 1, 1) := by decide +kernel
theorem dX7_next_28 : decode cX7_next 28 = .ok (.iadd, 1) := by decide +kernel
theorem dX7_next_29 : decode cX7_next 29 = .ok (.putfield 198, 3) := by decide +kernel
theorem dX7_next_32 : decode cX7_next 32 = .ok (.goto (-32), 3) := by decide +kernel
theorem dX7_next_35 : decode cX7_next 35 = .ok (.aload_n 0, 1) := by decide +kernel
theorem dX7_next_36 : decode cX7_next 36 = .ok (.aload_n 0, 1) := by decide +kernel
theorem dX7_next_37 : decode cX7_next 37 = .ok (.getfield 198, 3) := by decide +kernel
theorem dX7_next_40 : decode cX7_next 40 = .ok (.putfield 201, 3) := by decide +kernel
theorem dX7_next_43 : decode cX7_next 43 = .ok (.aload_n 0, 1) := by decide +kernel
theorem dX7_next_44 : decode cX7_next 44 = .ok (.getfield 198, 3) := by decide +kernel
theorem dX7_next_47 : decode cX7_next 47 = .ok (.iload_n 1, 1) := by decide +kernel
theorem dX7_next_48 : decode cX7_next 48 = .ok (.if_icmp .ne 9, 3) := by decide +kernel
theorem dX7_next_51 : decode cX7_next 51 = .ok (.aload_n 0, 1) := by decide +kernel
theorem dX7_next_52 : decode cX7_next 52 = .ok (.iconst 0, 1) := by decide +kernel
theorem dX7_next_53 : decode cX7_next 53 = .ok (.putfield 204, 3) := by decide +kernel
theorem dX7_next_56 : decode cX7_next 56 = .ok (.return_, 1) := by decide +kernel
theorem dX7_next_57 : decode cX7_next 57 = .ok (.aload_n 0, 1) := by decide +kernel
theorem dX7_next_58 : decode cX7_next 58 = .ok (.getfield 47, 3) := by decide +kernel
theorem dX7_next_61 : decode cX7_next 61 = .ok (.aload_n 0, 1) := by decide +kernel
theorem dX7_next_62 : decode cX7_next 62 = .ok (.getfield 198, 3) := by decide +kernel
theorem dX7_next_65 : decode cX7_next 65 = .ok (.baload, 1) := by decide +kernel
theorem dX7_next_66 : decode cX7_next 66 = .ok (.istore_n 2, 1) := by decide +kernel
theorem dX7_next_67 : decode cX7_next 67 = .ok (.iload_n 2, 1) := by decide +kernel
theorem dX7_next_68 : decode cX7_next 68 = .ok (.invokestatic 207, 3) := by decide +kernel
theorem dX7_next_71 : decode cX7_next 71 = .ok (.ifCond .eq 116, 3) := by decide +kernel
theorem dX7_next_74 : decode cX7_next 74 = .ok (.lconst 0, 1) := by decide +kernel
theorem dX7_next_75 : decode cX7_next 75 = .ok (.lstore_n 3, 1) := by decide +kernel
theorem dX7_next_76 : decode cX7_next 76 = .ok (.iconst 0, 1) := by decide +kernel
theorem dX7_next_77 : decode cX7_next 77 = .ok (.istore 5, 2) := by decide +kernel
theorem dX7_next_79 : decode cX7_next 79 = .ok (.aload_n 0, 1) := by decide +kernel
theorem dX7_next_80 : decode cX7_next 80 = .ok (.getfield 198, 3) := by decide +kernel
theorem dX7_next_83 : decode cX7_next 83 = .ok (.iload_n 1, 1) := by decide +kernel
theorem dX7_next_84 : decode cX7_next 84 = .ok (.if_icmp .ge 66, 3) := by decide +kernel
theorem dX7_next_87 : decode cX7_next 87 = .ok (.aload_n 0, 1) := by decide +kernel
theorem dX7_next_88 : decode cX7_next 88 = .ok (.getfield 47, 3) := by decide +kernel
theorem dX7_next_91 : decode cX7_next 91 = .ok (.aload_n 0, 1) := by decide +kernel
theorem dX7_next_92 : decode cX7_next 92 = .ok (.getfield 198, 3) := by decide +kernel
theorem dX7_next_95 : decode cX7_next 95 = .ok (.baload, 1) := by decide +kernel
theorem dX7_next_96 : decode cX7_next 96 = .ok (.invokestatic 207, 3) := by decide +kernel
theorem dX7_next_99 : decode cX7_next 99 = .ok (.ifCond .eq 51, 3) := by decide +kernel
theorem dX7_next_102 : decode cX7_next 102 = .ok (.iload 5, 2) := by decide +kernel
theorem dX7_next_104 : decode cX7_next 104 = .ok (.bipush 8, 2) := by decide +kernel
theorem dX7_next_106 : decode cX7_next 106 = .ok (.if_icmp .ge 26, 3) := by decide +kernel
theorem dX7_next_109 : decode cX7_next 109 = .ok (.ldc2_w 210, 3) := by decide +kernel
theorem dX7_next_112 : decode cX7_next 112 = .ok (.lload_n 3, 1) := by decide +kernel
theorem dX7_next_113 : decode cX7_next 113 = .ok (.lmul, 1) := by decide +kernel
theorem dX7_next_114 : decode cX7_next 114 = .ok (.aload_n 0, 1) := by decide +kernel
theorem dX7_next_115 : decode cX7_next 115 = .ok (.getfield 47, 3) := by decide +kernel
theorem dX7_next_118 : decode cX7_next 118 = .ok (.aload_n 0, 1) := by decide +kernel
theorem dX7_next_119 : decode cX7_next 119 = .ok (.getfield 198, 3) := by decide +kernel
theorem dX7_next_122 : decode cX7_next 122 = .ok (.baload, 1) := by decide +kernel
theorem dX7_next_123 : decode cX7_next 123 = .ok (.i2l, 1) := by decide +kernel
theorem dX7_next_124 : decode cX7_next 124 = .ok (.ladd, 1) := by decide +kernel
theorem dX7_next_125 : decode cX7_next 125 = .ok (.ldc2_w 210, 3) := by decide +kernel
theorem dX7_next_128 : decode cX7_next 128 = .ok (.lsub, 1) := by decide +kernel
theorem dX7_next_129 : decode cX7_next 129 = .ok (.goto 4, 3) := by decide +kernel
theorem dX7_next_132 : decode cX7_next 132 = .ok (.lload_n 3, 1) := by decide +kernel
theorem dX7_next_133 : decode cX7_next 133 = .ok (.lstore_n 3, 1) := by decide +kernel
theorem dX7_next_134 : decode cX7_next 134 = .ok (.iinc 5 1, 3) := by decide +kernel
theorem dX7_next_137 : decode cX7_next 137 = .ok (.aload_n 0, 1) := by decide +kernel
theorem dX7_next_138 : decode cX7_next 138 = .ok (.dup, 1) := by decide +kernel
theorem dX7_next_139 : decode cX7_next 139 = .ok (.getfield 198, 3) := by decide +kernel
theorem dX7_next_142 : decode cX7_next 142 = .ok (.iconst 1, 1) := by decide +kernel
theorem dX7_next_143 : decode cX7_next 143 = .ok (.iadd, 1) := by decide +kernel
theorem dX7_next_144 : decode cX7_next 144 = .ok (.putfield 198, 3) := by decide +kernel
theorem dX7_next_147 : decode cX7_next 147 = .ok (.goto (-68), 3) := by decide +kernel
theorem dX7_next_150 : decode cX7_next 150 = .ok (.aload_n 0, 1) := by decide +kernel
theorem dX7_next_151 : decode cX7_next 151 = .ok (.iload 5, 2) := by decide +kernel
theorem dX7_next_153 : decode cX7_next 153 = .ok (.iconst 5, 1) := by decide +kernel
theorem dX7_next_154 : decode cX7_next 154 = .ok (.if_icmp .le 7, 3) := by decide +kernel
theorem dX7_next_157 : decode cX7_next 157 = .ok (.iconst (-1), 1) := by decide +kernel
theorem dX7_next_158 : decode cX7_next 158 = .ok (.goto 7, 3) := by decide +kernel
theorem dX7_next_161 : decode cX7_next 161 = .ok (.lload_n 3, 1) := by decide +kernel
theorem dX7_next_162 : decode cX7_next 162 = .ok (.invokestatic 212, 3) := by decide +kernel
theorem dX7_next_165 : decode cX7_next 165 = .ok (.putfield 216, 3) := by decide +kernel
theorem dX7_next_168 : decode cX7_next 168 = .ok (.aload_n 0, 1) := by decide +kernel
theorem dX7_next_169 : decode cX7_next 169 = .ok (.aload_n 0, 1) := by decide +kernel
theorem dX7_next_170 : decode cX7_next 170 = .ok (.getfield 216, 3) := by decide +kernel
theorem dX7_next_173 : decode cX7_next 173 = .ok (.ifCond .ge 7, 3) := by decide +kernel
theorem dX7_next_176 : decode cX7_next 176 = .ok (.iconst 4, 1) := by decide +kernel
theorem dX7_next_177 : decode cX7_next 177 = .ok (.goto 4, 3) := by decide +kernel
theorem dX7_next_180 : decode cX7_next 180 = .ok (.iconst 1, 1) := by decide +kernel
theorem dX7_next_181 : decode cX7_next 181 = .ok (.putfield 204, 3) := by decide +kernel
theorem dX7_next_184 : decode cX7_next 184 = .ok (.goto 135, 3) := by decide +kernel
theorem dX7_next_187 : decode cX7_next 187 = .ok (.iload_n 2, 1) := by decide +kernel
theorem dX7_next_188 : decode cX7_next 188 = .ok (.i2l, 1) := by decide +kernel
theorem dX7_next_189 : decode cX7_next 189 = .ok (.ldc2_w 219, 3) := by decide +kernel
theorem dX7_next_192 : decode cX7_next 192 = .ok (.ldc2_w 221, 3) := by decide +kernel
theorem dX7_next_195 : decode cX7_next 195 = .ok (.invokestatic 84, 3) := by decide +kernel
theorem dX7_next_198 : decode cX7_next 198 = .ok (.ifCond .eq 96, 3) := by decide +kernel
theorem dX7_next_201 : decode cX7_next 201 = .ok (.aload_n 0, 1) := by decide +kernel
theorem dX7_next_202 : decode cX7_next 202 = .ok (.iconst 2, 1) := by decide +kernel
theorem dX7_next_203 : decode cX7_next 203 = .ok (.putfield 204, 3) := by decide +kernel
theorem dX7_next_206 : decode cX7_next 206 = .ok (.aload_n 0, 1) := by decide +kernel
theorem dX7_next_207 : decode cX7_next 207 = .ok (.iconst 0, 1) := by decide +kernel
theorem dX7_next_208 : decode cX7_next 208 = .ok (.putfield 216, 3) := by decide +kernel
theorem dX7_next_211 : decode cX7_next 211 = .ok (.aload_n 0, 1) := by decide +kernel
theorem dX7_next_212 : decode cX7_next 212 = .ok (.getfield 198, 3) := by decide +kernel
theorem dX7_next_215 : decode cX7_next 215 = .ok (.iload_n 1, 1) := by decide +kernel
theorem dX7_next_216 : decode cX7_next 216 = .ok (.if_icmp .ge 103, 3) := by decide +kernel
theorem dX7_next_219 : decode cX7_next 219 = .ok (.aload_n 0, 1) := by decide +kernel
theorem dX7_next_220 : decode cX7_next 220 = .ok (.getfield 47, 3) := by decide +kernel
theorem dX7_next_223 : decode cX7_next 223 = .ok (.aload_n 0, 1) := by decide +kernel
theorem dX7_next_224 : decode cX7_next 224 = .ok (.getfield 198, 3) := by decide +kernel
theorem dX7_next_227 : decode cX7_next 227 = .ok (.baload, 1) := by decide +kernel
theorem dX7_next_228 : decode cX7_next 228 = .ok (.i2l, 1) := by decide +kernel
theorem dX7_next_229 : decode cX7_next 229 = .ok (.ldc2_w 219, 3) := by decide +kernel
theorem dX7_next_232 : decode cX7_next 232 = .ok (.ldc2_w 221, 3) := by decide +kernel
theorem dX7_next_235 : decode cX7_next 235 = .ok (.invokestatic 84, 3) := by decide +kernel
theorem dX7_next_238 : decode cX7_next 238 = .ok (.ifCond .eq 81, 3) := by decide +kernel
theorem dX7_next_241 : decode cX7_next 241 = .ok (.aload_n 0, 1) := by decide +kernel
theorem dX7_next_242 : decode cX7_next 242 = .ok (.aload_n 0, 1) := by decide +kernel
theorem dX7_next_243 : decode cX7_next 243 = .ok (.getfield 216, 3) := by decide +kernel
theorem dX7_next_246 : decode cX7_next 246 = .ok (.ldc 223, 2) := by decide +kernel
theorem dX7_next_248 : decode cX7_next 248 = .ok (.if_icmp .le 10, 3) := by decide +kernel
theorem dX7_next_251 : decode cX7_next 251 = .ok (.aload_n 0, 1) := by decide +kernel
theorem dX7_next_252 : decode cX7_next 252 = .ok (.getfield 216, 3) := by decide +kernel
theorem dX7_next_255 : decode cX7_next 255 = .ok (.goto 23, 3) := by decide +kernel
theorem dX7_next_258 : decode cX7_next 258 = .ok (.bipush 10, 2) := by decide +kernel
theorem dX7_next_260 : decode cX7_next 260 = .ok (.aload_n 0, 1) := by decide +kernel
theorem dX7_next_261 : decode cX7_next 261 = .ok (.getfield 216, 3) := by decide +kernel
theorem dX7_next_264 : decode cX7_next 264 = .ok (.imul, 1) := by decide +kernel
theorem dX7_next_265 : decode cX7_next 265 = .ok (.aload_n 0, 1) := by decide +kernel
theorem dX7_next_266 : decode cX7_next 266 = .ok (.getfield 47, 3) := by decide +kernel
theorem dX7_next_269 : decode cX7_next 269 = .ok (.aload_n 0, 1) := by decide +kernel
theorem dX7_next_270 : decode cX7_next 270 = .ok (.getfield 198, 3) := by decide +kernel
theorem dX7_next_273 : decode cX7_next 273 = .ok (.baload, 1) := by decide +kernel
theorem dX7_next_274 : decode cX7_next 274 = .ok (.iadd, 1) := by decide +kernel
theorem dX7_next_275 : decode cX7_next 275 = .ok (.bipush 48, 2) := by decide +kernel
theorem dX7_next_277 : decode cX7_next 277 = .ok (.isub, 1) := by decide +kernel
theorem dX7_next_278 : decode cX7_next 278 = .ok (.putfield 216, 3) := by decide +kernel
theorem dX7_next_281 : decode cX7_next 281 = .ok (.aload_n 0, 1) := by decide +kernel
theorem dX7_next_282 : decode cX7_next 282 = .ok (.dup, 1) := by decide +kernel
theorem dX7_next_283 : decode cX7_next 283 = .ok (.getfield 198, 3) := by decide +kernel
theorem dX7_next_286 : decode cX7_next 286 = .ok (.iconst 1, 1) := by decide +kernel
theorem dX7_next_287 : decode cX7_next 287 = .ok (.iadd, 1) := by decide +kernel
theorem dX7_next_288 : decode cX7_next 288 = .ok (.putfield 198, 3) := by decide +kernel
theorem dX7_next_291 : decode cX7_next 291 = .ok (.goto (-80), 3) := by decide +kernel
theorem dX7_next_294 : decode cX7_next 294 = .ok (.aload_n 0, 1) := by decide +kernel
theorem dX7_next_295 : decode cX7_next 295 = .ok (.dup, 1) := by decide +kernel
theorem dX7_next_296 : decode cX7_next 296 = .ok (.getfield 198, 3) := by decide +kernel
theorem dX7_next_299 : decode cX7_next 299 = .ok (.iconst 1, 1) := by decide +kernel
theorem dX7_next_300 : decode cX7_next 300 = .ok (.iadd, 1) := by decide +kernel
theorem dX7_next_301 : decode cX7_next 301 = .ok (.putfield 198, 3) := by decide +kernel
theorem dX7_next_304 : decode cX7_next 304 = .ok (.aload_n 0, 1) := by decide +kernel
theorem dX7_next_305 : decode cX7_next 305 = .ok (.iload_n 2, 1) := by decide +kernel
theorem dX7_next_306 : decode cX7_next 306 = .ok (.bipush 59, 2) := by decide +kernel
theorem dX7_next_308 : decode cX7_next 308 = .ok (.if_icmp .ne 7, 3) := by decide +kernel
theorem dX7_next_311 : decode cX7_next 311 = .ok (.iconst 3, 1) := by decide +kernel
theorem dX7_next_312 : decode cX7_next 312 = .ok (.goto 4, 3) := by decide +kernel
theorem dX7_next_315 : decode cX7_next 315 = .ok (.iconst 4, 1) := by decide +kernel
theorem dX7_next_316 : decode cX7_next 316 = .ok (.putfield 204, 3) := by decide +kernel
theorem dX7_next_319 : decode cX7_next 319 = .ok (.return_, 1) := by decide +kernel
theorem dX7_fails_0 : decode cX7_fails 0 = .ok (.aload_n 0, 1) := by decide +kernel
theorem dX7_fails_1 : decode cX7_fails 1 = .ok (.getfield 224, 3) := by decide +kernel
theorem dX7_fails_4 : decode cX7_fails 4 = .ok (.ifCond .ne 16, 3) := by decide +kernel
theorem dX7_fails_7 : decode cX7_fails 7 = .ok (.aload_n 0, 1) := by decide +kernel
theorem dX7_fails_8 : decode cX7_fails 8 = .ok (.iload_n 1, 1) := by decide +kernel
theorem dX7_fails_9 : decode cX7_fails 9 = .ok (.putfield 224, 3) := by decide +kernel
theorem dX7_fails_12 : decode cX7_fails 12 = .ok (.aload_n 0, 1) := by decide +kernel
theorem dX7_fails_13 : decode cX7_fails 13 = .ok (.aload_n 0, 1) := by decide +kernel
theorem dX7_fails_14 : decode cX7_fails 14 = .ok (.getfield 201, 3) := by decide +kernel
theorem dX7_fails_17 : decode cX7_fails 17 = .ok (.putfield 227, 3) := by decide +kernel
theorem dX7_fails_20 : decode cX7_fails 20 = .ok (.return_, 1) := by decide +kernel
theorem dX7_clause_0 : decode cX7_clause 0 = .ok (.aload_n 0, 1) := by decide +kernel
theorem dX7_clause_1 : decode cX7_clause 1 = .ok (.getfield 204, 3) := by decide +kernel
theorem dX7_clause_4 : decode cX7_clause 4 = .ok (.iconst 1, 1) := by decide +kernel
theorem dX7_clause_5 : decode cX7_clause 5 = .ok (.if_icmp .eq 9, 3) := by decide +kernel
theorem dX7_clause_8 : decode cX7_clause 8 = .ok (.aload_n 0, 1) := by decide +kernel
theorem dX7_clause_9 : decode cX7_clause 9 = .ok (.iconst 1, 1) := by decide +kernel
theorem dX7_clause_10 : decode cX7_clause 10 = .ok (.invokevirtual 230, 3) := by decide +kernel
theorem dX7_clause_13 : decode cX7_clause 13 = .ok (.return_, 1) := by decide +kernel
theorem dX7_clause_14 : decode cX7_clause 14 = .ok (.aload_n 0, 1) := by decide +kernel
theorem dX7_clause_15 : decode cX7_clause 15 = .ok (.getfield 216, 3) := by decide +kernel
theorem dX7_clause_18 : decode cX7_clause 18 = .ok (.istore_n 2, 1) := by decide +kernel
theorem dX7_clause_19 : decode cX7_clause 19 = .ok (.aload_n 0, 1) := by decide +kernel
theorem dX7_clause_20 : decode cX7_clause 20 = .ok (.iload_n 1, 1) := by decide +kernel
theorem dX7_clause_21 : decode cX7_clause 21 = .ok (.invokevirtual 233, 3) := by decide +kernel
theorem dX7_clause_24 : decode cX7_clause 24 = .ok (.aload_n 0, 1) := by decide +kernel
theorem dX7_clause_25 : decode cX7_clause 25 = .ok (.getfield 204, 3) := by decide +kernel
theorem dX7_clause_28 : decode cX7_clause 28 = .ok (.iconst 2, 1) := by decide +kernel
theorem dX7_clause_29 : decode cX7_clause 29 = .ok (.if_icmp .eq 9, 3) := by decide +kernel
theorem dX7_clause_32 : decode cX7_clause 32 = .ok (.aload_n 0, 1) := by decide +kernel
theorem dX7_clause_33 : decode cX7_clause 33 = .ok (.iconst 1, 1) := by decide +kernel
theorem dX7_clause_34 : decode cX7_clause 34 = .ok (.invokevirtual 230, 3) := by decide +kernel
theorem dX7_clause_37 : decode cX7_clause 37 = .ok (.return_, 1) := by decide +kernel
theorem dX7_clause_38 : decode cX7_clause 38 = .ok (.aload_n 0, 1) := by decide +kernel
theorem dX7_clause_39 : decode cX7_clause 39 = .ok (.getfield 216, 3) := by decide +kernel
theorem dX7_clause_42 : decode cX7_clause 42 = .ok (.istore_n 3, 1) := by decide +kernel
theorem dX7_clause_43 : decode cX7_clause 43 = .ok (.iload_n 3, 1) := by decide +kernel
theorem dX7_clause_44 : decode cX7_clause 44 = .ok (.i2l, 1) := by decide +kernel
theorem dX7_clause_45 : decode cX7_clause 45 = .ok (.lconst 0, 1) := by decide +kernel
theorem dX7_clause_46 : decode cX7_clause 46 = .ok (.ldc2_w 236, 3) := by decide +kernel
theorem dX7_clause_49 : decode cX7_clause 49 = .ok (.invokestatic 84, 3) := by decide +kernel
theorem dX7_clause_52 : decode cX7_clause 52 = .ok (.ifCond .eq 33, 3) := by decide +kernel
theorem dX7_clause_55 : decode cX7_clause 55 = .ok (.iload_n 2, 1) := by decide +kernel
theorem dX7_clause_56 : decode cX7_clause 56 = .ok (.ifCond .ne 12, 3) := by decide +kernel
theorem dX7_clause_59 : decode cX7_clause 59 = .ok (.aload_n 0, 1) := by decide +kernel
theorem dX7_clause_60 : decode cX7_clause 60 = .ok (.getfield 57, 3) := by decide +kernel
theorem dX7_clause_63 : decode cX7_clause 63 = .ok (.iload_n 3, 1) := by decide +kernel
theorem dX7_clause_64 : decode cX7_clause 64 = .ok (.iaload, 1) := by decide +kernel
theorem dX7_clause_65 : decode cX7_clause 65 = .ok (.goto 9, 3) := by decide +kernel
theorem dX7_clause_68 : decode cX7_clause 68 = .ok (.aload_n 0, 1) := by decide +kernel
theorem dX7_clause_69 : decode cX7_clause 69 = .ok (.getfield 60, 3) := by decide +kernel
theorem dX7_clause_72 : decode cX7_clause 72 = .ok (.iload_n 3, 1) := by decide +kernel
theorem dX7_clause_73 : decode cX7_clause 73 = .ok (.iaload, 1) := by decide +kernel
theorem dX7_clause_74 : decode cX7_clause 74 = .ok (.ifCond .lt 11, 3) := by decide +kernel
theorem dX7_clause_77 : decode cX7_clause 77 = .ok (.aload_n 0, 1) := by decide +kernel
theorem dX7_clause_78 : decode cX7_clause 78 = .ok (.iconst 2, 1) := by decide +kernel
theorem dX7_clause_79 : decode cX7_clause 79 = .ok (.invokevirtual 230, 3) := by decide +kernel
theorem dX7_clause_82 : decode cX7_clause 82 = .ok (.goto 20, 3) := by decide +kernel
theorem dX7_clause_85 : decode cX7_clause 85 = .ok (.iload_n 3, 1) := by decide +kernel
theorem dX7_clause_86 : decode cX7_clause 86 = .ok (.i2l, 1) := by decide +kernel
theorem dX7_clause_87 : decode cX7_clause 87 = .ok (.lconst 0, 1) := by decide +kernel
theorem dX7_clause_88 : decode cX7_clause 88 = .ok (.ldc2_w 236, 3) := by decide +kernel
theorem dX7_clause_91 : decode cX7_clause 91 = .ok (.invokestatic 84, 3) := by decide +kernel
theorem dX7_clause_94 : decode cX7_clause 94 = .ok (.ifCond .ne 8, 3) := by decide +kernel
theorem dX7_clause_97 : decode cX7_clause 97 = .ok (.aload_n 0, 1) := by decide +kernel
theorem dX7_clause_98 : decode cX7_clause 98 = .ok (.iconst 3, 1) := by decide +kernel
theorem dX7_clause_99 : decode cX7_clause 99 = .ok (.invokevirtual 230, 3) := by decide +kernel
theorem dX7_clause_102 : decode cX7_clause 102 = .ok (.aload_n 0, 1) := by decide +kernel
theorem dX7_clause_103 : decode cX7_clause 103 = .ok (.getfield 224, 3) := by decide +kernel
theorem dX7_clause_106 : decode cX7_clause 106 = .ok (.ifCond .le 4, 3) := by decide +kernel
theorem dX7_clause_109 : decode cX7_clause 109 = .ok (.return_, 1) := by decide +kernel
theorem dX7_clause_110 : decode cX7_clause 110 = .ok (.aload_n 0, 1) := by decide +kernel
theorem dX7_clause_111 : decode cX7_clause 111 = .ok (.iload_n 1, 1) := by decide +kernel
theorem dX7_clause_112 : decode cX7_clause 112 = .ok (.invokevirtual 233, 3) := by decide +kernel
theorem dX7_clause_115 : decode cX7_clause 115 = .ok (.aload_n 0, 1) := by decide +kernel
theorem dX7_clause_116 : decode cX7_clause 116 = .ok (.getfield 204, 3) := by decide +kernel
theorem dX7_clause_119 : decode cX7_clause 119 = .ok (.iconst 2, 1) := by decide +kernel
theorem dX7_clause_120 : decode cX7_clause 120 = .ok (.if_icmp .eq 11, 3) := by decide +kernel
theorem dX7_clause_123 : decode cX7_clause 123 = .ok (.aload_n 0, 1) := by decide +kernel
theorem dX7_clause_124 : decode cX7_clause 124 = .ok (.iconst 1, 1) := by decide +kernel
theorem dX7_clause_125 : decode cX7_clause 125 = .ok (.invokevirtual 230, 3) := by decide +kernel
theorem dX7_clause_128 : decode cX7_clause 128 = .ok (.goto 24, 3) := by decide +kernel
theorem dX7_clause_131 : decode cX7_clause 131 = .ok (.aload_n 0, 1) := by decide +kernel
theorem dX7_clause_132 : decode cX7_clause 132 = .ok (.getfield 216, 3) := by decide +kernel
theorem dX7_clause_135 : decode cX7_clause 135 = .ok (.i2l, 1) := by decide +kernel
theorem dX7_clause_136 : decode cX7_clause 136 = .ok (.iload_n 2, 1) := by decide +kernel
theorem dX7_clause_137 : decode cX7_clause 137 = .ok (.i2l, 1) := by decide +kernel
theorem dX7_clause_138 : decode cX7_clause 138 = .ok (.ldc2_w 238, 3) := by decide +kernel
theorem dX7_clause_141 : decode cX7_clause 141 = .ok (.invokestatic 84, 3) := by decide +kernel
theorem dX7_clause_144 : decode cX7_clause 144 = .ok (.ifCond .ne 8, 3) := by decide +kernel
theorem dX7_clause_147 : decode cX7_clause 147 = .ok (.aload_n 0, 1) := by decide +kernel
theorem dX7_clause_148 : decode cX7_clause 148 = .ok (.iconst 3, 1) := by decide +kernel
theorem dX7_clause_149 : decode cX7_clause 149 = .ok (.invokevirtual 230, 3) := by decide +kernel
theorem dX7_clause_152 : decode cX7_clause 152 = .ok (.aload_n 0, 1) := by decide +kernel
theorem dX7_clause_153 : decode cX7_clause 153 = .ok (.getfield 224, 3) := by decide +kernel
theorem dX7_clause_156 : decode cX7_clause 156 = .ok (.ifCond .le 4, 3) := by decide +kernel
theorem dX7_clause_159 : decode cX7_clause 159 = .ok (.return_, 1) := by decide +kernel
theorem dX7_clause_160 : decode cX7_clause 160 = .ok (.iload_n 2, 1) := by decide +kernel
theorem dX7_clause_161 : decode cX7_clause 161 = .ok (.ifCond .ne 16, 3) := by decide +kernel
theorem dX7_clause_164 : decode cX7_clause 164 = .ok (.aload_n 0, 1) := by decide +kernel
end
section
theorem dX7_clause_165 : decode cX7_clause 165 = .ok (.getfield 57, 3) := by decide +kernel
theorem dX7_clause_168 : decode cX7_clause 168 = .ok (.iload_n 3, 1) := by decide +kernel
theorem dX7_clause_169 : decode cX7_clause 169 = .ok (.aload_n 0, 1) := by decide +kernel
theorem dX7_clause_170 : decode cX7_clause 170 = .ok (.getfield 216, 3) := by decide +kernel
theorem dX7_clause_173 : decode cX7_clause 173 = .ok (.iastore, 1) := by decide +kernel
theorem dX7_clause_174 : decode cX7_clause 174 = .ok (.goto 13, 3) := by decide +kernel
theorem dX7_clause_177 : decode cX7_clause 177 = .ok (.aload_n 0, 1) := by decide +kernel
theorem dX7_clause_178 : decode cX7_clause 178 = .ok (.getfield 60, 3) := by decide +kernel
theorem dX7_clause_181 : decode cX7_clause 181 = .ok (.iload_n 3, 1) := by decide +kernel
theorem dX7_clause_182 : decode cX7_clause 182 = .ok (.aload_n 0, 1) := by decide +kernel
theorem dX7_clause_183 : decode cX7_clause 183 = .ok (.getfield 216, 3) := by decide +kernel
theorem dX7_clause_186 : decode cX7_clause 186 = .ok (.iastore, 1) := by decide +kernel
theorem dX7_clause_187 : decode cX7_clause 187 = .ok (.aload_n 0, 1) := by decide +kernel
theorem dX7_clause_188 : decode cX7_clause 188 = .ok (.iload_n 1, 1) := by decide +kernel
theorem dX7_clause_189 : decode cX7_clause 189 = .ok (.invokevirtual 233, 3) := by decide +kernel
theorem dX7_clause_192 : decode cX7_clause 192 = .ok (.aload_n 0, 1) := by decide +kernel
theorem dX7_clause_193 : decode cX7_clause 193 = .ok (.getfield 204, 3) := by decide +kernel
theorem dX7_clause_196 : decode cX7_clause 196 = .ok (.iconst 3, 1) := by decide +kernel
theorem dX7_clause_197 : decode cX7_clause 197 = .ok (.if_icmp .eq 11, 3) := by decide +kernel
theorem dX7_clause_200 : decode cX7_clause 200 = .ok (.aload_n 0, 1) := by decide +kernel
theorem dX7_clause_201 : decode cX7_clause 201 = .ok (.iconst 1, 1) := by decide +kernel
theorem dX7_clause_202 : decode cX7_clause 202 = .ok (.invokevirtual 230, 3) := by decide +kernel
theorem dX7_clause_205 : decode cX7_clause 205 = .ok (.goto 8, 3) := by decide +kernel
theorem dX7_clause_208 : decode cX7_clause 208 = .ok (.aload_n 0, 1) := by decide +kernel
theorem dX7_clause_209 : decode cX7_clause 209 = .ok (.iload_n 1, 1) := by decide +kernel
theorem dX7_clause_210 : decode cX7_clause 210 = .ok (.invokevirtual 233, 3) := by decide +kernel
theorem dX7_clause_213 : decode cX7_clause 213 = .ok (.return_, 1) := by decide +kernel
theorem dX7_tolls_0 : decode cX7_tolls 0 = .ok (.aload_n 0, 1) := by decide +kernel
theorem dX7_tolls_1 : decode cX7_tolls 1 = .ok (.getfield 180, 3) := by decide +kernel
theorem dX7_tolls_4 : decode cX7_tolls 4 = .ok (.istore_n 1, 1) := by decide +kernel
theorem dX7_tolls_5 : decode cX7_tolls 5 = .ok (.aload_n 0, 1) := by decide +kernel
theorem dX7_tolls_6 : decode cX7_tolls 6 = .ok (.iconst 0, 1) := by decide +kernel
theorem dX7_tolls_7 : decode cX7_tolls 7 = .ok (.putfield 180, 3) := by decide +kernel
theorem dX7_tolls_10 : decode cX7_tolls 10 = .ok (.aload_n 0, 1) := by decide +kernel
theorem dX7_tolls_11 : decode cX7_tolls 11 = .ok (.iconst 0, 1) := by decide +kernel
theorem dX7_tolls_12 : decode cX7_tolls 12 = .ok (.putfield 198, 3) := by decide +kernel
theorem dX7_tolls_15 : decode cX7_tolls 15 = .ok (.aload_n 0, 1) := by decide +kernel
theorem dX7_tolls_16 : decode cX7_tolls 16 = .ok (.iconst 0, 1) := by decide +kernel
theorem dX7_tolls_17 : decode cX7_tolls 17 = .ok (.putfield 224, 3) := by decide +kernel
theorem dX7_tolls_20 : decode cX7_tolls 20 = .ok (.aload_n 0, 1) := by decide +kernel
theorem dX7_tolls_21 : decode cX7_tolls 21 = .ok (.iconst (-1), 1) := by decide +kernel
theorem dX7_tolls_22 : decode cX7_tolls 22 = .ok (.putfield 227, 3) := by decide +kernel
theorem dX7_tolls_25 : decode cX7_tolls 25 = .ok (.iconst 0, 1) := by decide +kernel
theorem dX7_tolls_26 : decode cX7_tolls 26 = .ok (.istore_n 2, 1) := by decide +kernel
theorem dX7_tolls_27 : decode cX7_tolls 27 = .ok (.iconst 0, 1) := by decide +kernel
theorem dX7_tolls_28 : decode cX7_tolls 28 = .ok (.istore_n 3, 1) := by decide +kernel
theorem dX7_tolls_29 : decode cX7_tolls 29 = .ok (.iload_n 3, 1) := by decide +kernel
theorem dX7_tolls_30 : decode cX7_tolls 30 = .ok (.bipush 6, 2) := by decide +kernel
theorem dX7_tolls_32 : decode cX7_tolls 32 = .ok (.if_icmp .ge 23, 3) := by decide +kernel
theorem dX7_tolls_35 : decode cX7_tolls 35 = .ok (.aload_n 0, 1) := by decide +kernel
theorem dX7_tolls_36 : decode cX7_tolls 36 = .ok (.getfield 57, 3) := by decide +kernel
theorem dX7_tolls_39 : decode cX7_tolls 39 = .ok (.iload_n 3, 1) := by decide +kernel
theorem dX7_tolls_40 : decode cX7_tolls 40 = .ok (.iconst (-1), 1) := by decide +kernel
theorem dX7_tolls_41 : decode cX7_tolls 41 = .ok (.iastore, 1) := by decide +kernel
theorem dX7_tolls_42 : decode cX7_tolls 42 = .ok (.aload_n 0, 1) := by decide +kernel
theorem dX7_tolls_43 : decode cX7_tolls 43 = .ok (.getfield 60, 3) := by decide +kernel
theorem dX7_tolls_46 : decode cX7_tolls 46 = .ok (.iload_n 3, 1) := by decide +kernel
theorem dX7_tolls_47 : decode cX7_tolls 47 = .ok (.iconst (-1), 1) := by decide +kernel
theorem dX7_tolls_48 : decode cX7_tolls 48 = .ok (.iastore, 1) := by decide +kernel
theorem dX7_tolls_49 : decode cX7_tolls 49 = .ok (.iinc 3 1, 3) := by decide +kernel
theorem dX7_tolls_52 : decode cX7_tolls 52 = .ok (.goto (-23), 3) := by decide +kernel
theorem dX7_tolls_55 : decode cX7_tolls 55 = .ok (.aload_n 0, 1) := by decide +kernel
theorem dX7_tolls_56 : decode cX7_tolls 56 = .ok (.iload_n 1, 1) := by decide +kernel
theorem dX7_tolls_57 : decode cX7_tolls 57 = .ok (.invokevirtual 233, 3) := by decide +kernel
theorem dX7_tolls_60 : decode cX7_tolls 60 = .ok (.aload_n 0, 1) := by decide +kernel
theorem dX7_tolls_61 : decode cX7_tolls 61 = .ok (.getfield 204, 3) := by decide +kernel
theorem dX7_tolls_64 : decode cX7_tolls 64 = .ok (.ifCond .eq 21, 3) := by decide +kernel
theorem dX7_tolls_67 : decode cX7_tolls 67 = .ok (.aload_n 0, 1) := by decide +kernel
theorem dX7_tolls_68 : decode cX7_tolls 68 = .ok (.getfield 224, 3) := by decide +kernel
theorem dX7_tolls_71 : decode cX7_tolls 71 = .ok (.ifCond .ne 14, 3) := by decide +kernel
theorem dX7_tolls_74 : decode cX7_tolls 74 = .ok (.aload_n 0, 1) := by decide +kernel
theorem dX7_tolls_75 : decode cX7_tolls 75 = .ok (.iload_n 1, 1) := by decide +kernel
theorem dX7_tolls_76 : decode cX7_tolls 76 = .ok (.invokevirtual 240, 3) := by decide +kernel
theorem dX7_tolls_79 : decode cX7_tolls 79 = .ok (.iinc 2 1, 3) := by decide +kernel
theorem dX7_tolls_82 : decode cX7_tolls 82 = .ok (.goto (-22), 3) := by decide +kernel
theorem dX7_tolls_85 : decode cX7_tolls 85 = .ok (.aload_n 0, 1) := by decide +kernel
theorem dX7_tolls_86 : decode cX7_tolls 86 = .ok (.aload_n 0, 1) := by decide +kernel
theorem dX7_tolls_87 : decode cX7_tolls 87 = .ok (.getfield 224, 3) := by decide +kernel
theorem dX7_tolls_90 : decode cX7_tolls 90 = .ok (.putfield 51, 3) := by decide +kernel
theorem dX7_tolls_93 : decode cX7_tolls 93 = .ok (.aload_n 0, 1) := by decide +kernel
theorem dX7_tolls_94 : decode cX7_tolls 94 = .ok (.aload_n 0, 1) := by decide +kernel
theorem dX7_tolls_95 : decode cX7_tolls 95 = .ok (.getfield 227, 3) := by decide +kernel
theorem dX7_tolls_98 : decode cX7_tolls 98 = .ok (.putfield 54, 3) := by decide +kernel
theorem dX7_tolls_101 : decode cX7_tolls 101 = .ok (.aload_n 0, 1) := by decide +kernel
theorem dX7_tolls_102 : decode cX7_tolls 102 = .ok (.getfield 224, 3) := by decide +kernel
theorem dX7_tolls_105 : decode cX7_tolls 105 = .ok (.ifCond .le 5, 3) := by decide +kernel
theorem dX7_tolls_108 : decode cX7_tolls 108 = .ok (.iconst (-1), 1) := by decide +kernel
theorem dX7_tolls_109 : decode cX7_tolls 109 = .ok (.ireturn, 1) := by decide +kernel
theorem dX7_tolls_110 : decode cX7_tolls 110 = .ok (.iconst 0, 1) := by decide +kernel
theorem dX7_tolls_111 : decode cX7_tolls 111 = .ok (.istore_n 3, 1) := by decide +kernel
theorem dX7_tolls_112 : decode cX7_tolls 112 = .ok (.iload_n 3, 1) := by decide +kernel
theorem dX7_tolls_113 : decode cX7_tolls 113 = .ok (.bipush 6, 2) := by decide +kernel
theorem dX7_tolls_115 : decode cX7_tolls 115 = .ok (.if_icmp .ge 33, 3) := by decide +kernel
theorem dX7_tolls_118 : decode cX7_tolls 118 = .ok (.aload_n 0, 1) := by decide +kernel
theorem dX7_tolls_119 : decode cX7_tolls 119 = .ok (.getfield 63, 3) := by decide +kernel
theorem dX7_tolls_122 : decode cX7_tolls 122 = .ok (.iload_n 3, 1) := by decide +kernel
theorem dX7_tolls_123 : decode cX7_tolls 123 = .ok (.aload_n 0, 1) := by decide +kernel
theorem dX7_tolls_124 : decode cX7_tolls 124 = .ok (.getfield 57, 3) := by decide +kernel
theorem dX7_tolls_127 : decode cX7_tolls 127 = .ok (.iload_n 3, 1) := by decide +kernel
theorem dX7_tolls_128 : decode cX7_tolls 128 = .ok (.iaload, 1) := by decide +kernel
theorem dX7_tolls_129 : decode cX7_tolls 129 = .ok (.iastore, 1) := by decide +kernel
theorem dX7_tolls_130 : decode cX7_tolls 130 = .ok (.aload_n 0, 1) := by decide +kernel
theorem dX7_tolls_131 : decode cX7_tolls 131 = .ok (.getfield 66, 3) := by decide +kernel
theorem dX7_tolls_134 : decode cX7_tolls 134 = .ok (.iload_n 3, 1) := by decide +kernel
theorem dX7_tolls_135 : decode cX7_tolls 135 = .ok (.aload_n 0, 1) := by decide +kernel
theorem dX7_tolls_136 : decode cX7_tolls 136 = .ok (.getfield 60, 3) := by decide +kernel
theorem dX7_tolls_139 : decode cX7_tolls 139 = .ok (.iload_n 3, 1) := by decide +kernel
theorem dX7_tolls_140 : decode cX7_tolls 140 = .ok (.iaload, 1) := by decide +kernel
theorem dX7_tolls_141 : decode cX7_tolls 141 = .ok (.iastore, 1) := by decide +kernel
theorem dX7_tolls_142 : decode cX7_tolls 142 = .ok (.iinc 3 1, 3) := by decide +kernel
theorem dX7_tolls_145 : decode cX7_tolls 145 = .ok (.goto (-33), 3) := by decide +kernel
theorem dX7_tolls_148 : decode cX7_tolls 148 = .ok (.iload_n 2, 1) := by decide +kernel
theorem dX7_tolls_149 : decode cX7_tolls 149 = .ok (.ireturn, 1) := by decide +kernel
theorem dX7_fault_0 : decode cX7_fault 0 = .ok (.iload_n 1, 1) := by decide +kernel
theorem dX7_fault_1 : decode cX7_fault 1 = .ok (.ifCond .ne 10, 3) := by decide +kernel
theorem dX7_fault_4 : decode cX7_fault 4 = .ok (.aload_n 0, 1) := by decide +kernel
theorem dX7_fault_5 : decode cX7_fault 5 = .ok (.getfield 51, 3) := by decide +kernel
theorem dX7_fault_8 : decode cX7_fault 8 = .ok (.goto 16, 3) := by decide +kernel
theorem dX7_fault_11 : decode cX7_fault 11 = .ok (.iload_n 1, 1) := by decide +kernel
theorem dX7_fault_12 : decode cX7_fault 12 = .ok (.iconst 1, 1) := by decide +kernel
theorem dX7_fault_13 : decode cX7_fault 13 = .ok (.if_icmp .ne 10, 3) := by decide +kernel
theorem dX7_fault_16 : decode cX7_fault 16 = .ok (.aload_n 0, 1) := by decide +kernel
theorem dX7_fault_17 : decode cX7_fault 17 = .ok (.getfield 54, 3) := by decide +kernel
theorem dX7_fault_20 : decode cX7_fault 20 = .ok (.goto 4, 3) := by decide +kernel
theorem dX7_fault_23 : decode cX7_fault 23 = .ok (.iconst (-1), 1) := by decide +kernel
theorem dX7_fault_24 : decode cX7_fault 24 = .ok (.ireturn, 1) := by decide +kernel
theorem dX7_pass_0 : decode cX7_pass 0 = .ok (.iload_n 1, 1) := by decide +kernel
theorem dX7_pass_1 : decode cX7_pass 1 = .ok (.i2l, 1) := by decide +kernel
theorem dX7_pass_2 : decode cX7_pass 2 = .ok (.lconst 0, 1) := by decide +kernel
theorem dX7_pass_3 : decode cX7_pass 3 = .ok (.ldc2_w 236, 3) := by decide +kernel
theorem dX7_pass_6 : decode cX7_pass 6 = .ok (.invokestatic 84, 3) := by decide +kernel
theorem dX7_pass_9 : decode cX7_pass 9 = .ok (.ifCond .eq 31, 3) := by decide +kernel
theorem dX7_pass_12 : decode cX7_pass 12 = .ok (.iload_n 2, 1) := by decide +kernel
theorem dX7_pass_13 : decode cX7_pass 13 = .ok (.i2l, 1) := by decide +kernel
theorem dX7_pass_14 : decode cX7_pass 14 = .ok (.lconst 0, 1) := by decide +kernel
theorem dX7_pass_15 : decode cX7_pass 15 = .ok (.ldc2_w 243, 3) := by decide +kernel
theorem dX7_pass_18 : decode cX7_pass 18 = .ok (.invokestatic 84, 3) := by decide +kernel
theorem dX7_pass_21 : decode cX7_pass 21 = .ok (.ifCond .eq 19, 3) := by decide +kernel
theorem dX7_pass_24 : decode cX7_pass 24 = .ok (.iload_n 3, 1) := by decide +kernel
theorem dX7_pass_25 : decode cX7_pass 25 = .ok (.i2l, 1) := by decide +kernel
theorem dX7_pass_26 : decode cX7_pass 26 = .ok (.aload_n 0, 1) := by decide +kernel
theorem dX7_pass_27 : decode cX7_pass 27 = .ok (.getfield 245, 3) := by decide +kernel
theorem dX7_pass_30 : decode cX7_pass 30 = .ok (.i2l, 1) := by decide +kernel
theorem dX7_pass_31 : decode cX7_pass 31 = .ok (.ldc2_w 248, 3) := by decide +kernel
theorem dX7_pass_34 : decode cX7_pass 34 = .ok (.invokestatic 84, 3) := by decide +kernel
theorem dX7_pass_37 : decode cX7_pass 37 = .ok (.ifCond .ne 5, 3) := by decide +kernel
theorem dX7_pass_40 : decode cX7_pass 40 = .ok (.iconst (-1), 1) := by decide +kernel
theorem dX7_pass_41 : decode cX7_pass 41 = .ok (.ireturn, 1) := by decide +kernel
theorem dX7_pass_42 : decode cX7_pass 42 = .ok (.aload_n 0, 1) := by decide +kernel
theorem dX7_pass_43 : decode cX7_pass 43 = .ok (.iload_n 3, 1) := by decide +kernel
theorem dX7_pass_44 : decode cX7_pass 44 = .ok (.putfield 245, 3) := by decide +kernel
theorem dX7_pass_47 : decode cX7_pass 47 = .ok (.bipush 6, 2) := by decide +kernel
theorem dX7_pass_49 : decode cX7_pass 49 = .ok (.iload_n 2, 1) := by decide +kernel
theorem dX7_pass_50 : decode cX7_pass 50 = .ok (.imul, 1) := by decide +kernel
theorem dX7_pass_51 : decode cX7_pass 51 = .ok (.iload_n 1, 1) := by decide +kernel
theorem dX7_pass_52 : decode cX7_pass 52 = .ok (.iadd, 1) := by decide +kernel
theorem dX7_pass_53 : decode cX7_pass 53 = .ok (.istore 4, 2) := by decide +kernel
theorem dX7_pass_55 : decode cX7_pass 55 = .ok (.aload_n 0, 1) := by decide +kernel
theorem dX7_pass_56 : decode cX7_pass 56 = .ok (.getfield 69, 3) := by decide +kernel
theorem dX7_pass_59 : decode cX7_pass 59 = .ok (.iload 4, 2) := by decide +kernel
theorem dX7_pass_61 : decode cX7_pass 61 = .ok (.iaload, 1) := by decide +kernel
theorem dX7_pass_62 : decode cX7_pass 62 = .ok (.ifCond .lt 50, 3) := by decide +kernel
theorem dX7_pass_65 : decode cX7_pass 65 = .ok (.aload_n 0, 1) := by decide +kernel
theorem dX7_pass_66 : decode cX7_pass 66 = .ok (.getfield 66, 3) := by decide +kernel
theorem dX7_pass_69 : decode cX7_pass 69 = .ok (.iload_n 1, 1) := by decide +kernel
theorem dX7_pass_70 : decode cX7_pass 70 = .ok (.iaload, 1) := by decide +kernel
theorem dX7_pass_71 : decode cX7_pass 71 = .ok (.ifCond .le 41, 3) := by decide +kernel
theorem dX7_pass_74 : decode cX7_pass 74 = .ok (.iload_n 3, 1) := by decide +kernel
theorem dX7_pass_75 : decode cX7_pass 75 = .ok (.aload_n 0, 1) := by decide +kernel
theorem dX7_pass_76 : decode cX7_pass 76 = .ok (.getfield 69, 3) := by decide +kernel
theorem dX7_pass_79 : decode cX7_pass 79 = .ok (.iload 4, 2) := by decide +kernel
theorem dX7_pass_81 : decode cX7_pass 81 = .ok (.iaload, 1) := by decide +kernel
theorem dX7_pass_82 : decode cX7_pass 82 = .ok (.isub, 1) := by decide +kernel
theorem dX7_pass_83 : decode cX7_pass 83 = .ok (.aload_n 0, 1) := by decide +kernel
theorem dX7_pass_84 : decode cX7_pass 84 = .ok (.getfield 66, 3) := by decide +kernel
theorem dX7_pass_87 : decode cX7_pass 87 = .ok (.iload_n 1, 1) := by decide +kernel
theorem dX7_pass_88 : decode cX7_pass 88 = .ok (.iaload, 1) := by decide +kernel
theorem dX7_pass_89 : decode cX7_pass 89 = .ok (.if_icmp .gt 23, 3) := by decide +kernel
theorem dX7_pass_92 : decode cX7_pass 92 = .ok (.aload_n 0, 1) := by decide +kernel
theorem dX7_pass_93 : decode cX7_pass 93 = .ok (.getfield 69, 3) := by decide +kernel
theorem dX7_pass_96 : decode cX7_pass 96 = .ok (.iload 4, 2) := by decide +kernel
theorem dX7_pass_98 : decode cX7_pass 98 = .ok (.iconst (-1), 1) := by decide +kernel
theorem dX7_pass_99 : decode cX7_pass 99 = .ok (.iastore, 1) := by decide +kernel
theorem dX7_pass_100 : decode cX7_pass 100 = .ok (.aload_n 0, 1) := by decide +kernel
theorem dX7_pass_101 : decode cX7_pass 101 = .ok (.dup, 1) := by decide +kernel
theorem dX7_pass_102 : decode cX7_pass 102 = .ok (.getfield 250, 3) := by decide +kernel
theorem dX7_pass_105 : decode cX7_pass 105 = .ok (.iconst 1, 1) := by decide +kernel
theorem dX7_pass_106 : decode cX7_pass 106 = .ok (.iadd, 1) := by decide +kernel
theorem dX7_pass_107 : decode cX7_pass 107 = .ok (.putfield 250, 3) := by decide +kernel
theorem dX7_pass_110 : decode cX7_pass 110 = .ok (.iconst 0, 1) := by decide +kernel
theorem dX7_pass_111 : decode cX7_pass 111 = .ok (.ireturn, 1) := by decide +kernel
theorem dX7_pass_112 : decode cX7_pass 112 = .ok (.aload_n 0, 1) := by decide +kernel
theorem dX7_pass_113 : decode cX7_pass 113 = .ok (.getfield 63, 3) := by decide +kernel
theorem dX7_pass_116 : decode cX7_pass 116 = .ok (.iload_n 1, 1) := by decide +kernel
theorem dX7_pass_117 : decode cX7_pass 117 = .ok (.iaload, 1) := by decide +kernel
theorem dX7_pass_118 : decode cX7_pass 118 = .ok (.ifCond .ge 7, 3) := by decide +kernel
theorem dX7_pass_121 : decode cX7_pass 121 = .ok (.iconst 0, 1) := by decide +kernel
theorem dX7_pass_122 : decode cX7_pass 122 = .ok (.goto 9, 3) := by decide +kernel
theorem dX7_pass_125 : decode cX7_pass 125 = .ok (.aload_n 0, 1) := by decide +kernel
theorem dX7_pass_126 : decode cX7_pass 126 = .ok (.getfield 63, 3) := by decide +kernel
theorem dX7_pass_129 : decode cX7_pass 129 = .ok (.iload_n 1, 1) := by decide +kernel
theorem dX7_pass_130 : decode cX7_pass 130 = .ok (.iaload, 1) := by decide +kernel
theorem dX7_pass_131 : decode cX7_pass 131 = .ok (.istore 5, 2) := by decide +kernel
theorem dX7_pass_133 : decode cX7_pass 133 = .ok (.aload_n 0, 1) := by decide +kernel
theorem dX7_pass_134 : decode cX7_pass 134 = .ok (.getfield 69, 3) := by decide +kernel
theorem dX7_pass_137 : decode cX7_pass 137 = .ok (.iload 4, 2) := by decide +kernel
theorem dX7_pass_139 : decode cX7_pass 139 = .ok (.iload 5, 2) := by decide +kernel
theorem dX7_pass_141 : decode cX7_pass 141 = .ok (.ifCond .le 7, 3) := by decide +kernel
theorem dX7_pass_144 : decode cX7_pass 144 = .ok (.iload_n 3, 1) := by decide +kernel
theorem dX7_pass_145 : decode cX7_pass 145 = .ok (.goto 10, 3) := by decide +kernel
theorem dX7_pass_148 : decode cX7_pass 148 = .ok (.aload_n 0, 1) := by decide +kernel
theorem dX7_pass_149 : decode cX7_pass 149 = .ok (.getfield 69, 3) := by decide +kernel
theorem dX7_pass_152 : decode cX7_pass 152 = .ok (.iload 4, 2) := by decide +kernel
theorem dX7_pass_154 : decode cX7_pass 154 = .ok (.iaload, 1) := by decide +kernel
theorem dX7_pass_155 : decode cX7_pass 155 = .ok (.iastore, 1) := by decide +kernel
theorem dX7_pass_156 : decode cX7_pass 156 = .ok (.aload_n 0, 1) := by decide +kernel
theorem dX7_pass_157 : decode cX7_pass 157 = .ok (.dup, 1) := by decide +kernel
theorem dX7_pass_158 : decode cX7_pass 158 = .ok (.getfield 253, 3) := by decide +kernel
theorem dX7_pass_161 : decode cX7_pass 161 = .ok (.iload 5, 2) := by decide +kernel
theorem dX7_pass_163 : decode cX7_pass 163 = .ok (.iadd, 1) := by decide +kernel
theorem dX7_pass_164 : decode cX7_pass 164 = .ok (.putfield 253, 3) := by decide +kernel
theorem dX7_pass_167 : decode cX7_pass 167 = .ok (.iload 5, 2) := by decide +kernel
theorem dX7_pass_169 : decode cX7_pass 169 = .ok (.ireturn, 1) := by decide +kernel
theorem dX7_about_0 : decode cX7_about 0 = .ok (.iload_n 1, 1) := by decide +kernel
theorem dX7_about_1 : decode cX7_about 1 = .ok (.i2l, 1) := by decide +kernel
theorem dX7_about_2 : decode cX7_about 2 = .ok (.ldc2_w 137, 3) := by decide +kernel
theorem dX7_about_5 : decode cX7_about 5 = .ok (.ldc2_w 256, 3) := by decide +kernel
theorem dX7_about_8 : decode cX7_about 8 = .ok (.invokestatic 84, 3) := by decide +kernel
theorem dX7_about_11 : decode cX7_about 11 = .ok (.ifCond .eq 29, 3) := by decide +kernel
theorem dX7_about_14 : decode cX7_about 14 = .ok (.aload_n 0, 1) := by decide +kernel
theorem dX7_about_15 : decode cX7_about 15 = .ok (.getfield 63, 3) := by decide +kernel
theorem dX7_about_18 : decode cX7_about 18 = .ok (.iload_n 1, 1) := by decide +kernel
theorem dX7_about_19 : decode cX7_about 19 = .ok (.bipush 20, 2) := by decide +kernel
theorem dX7_about_21 : decode cX7_about 21 = .ok (.isub, 1) := by decide +kernel
theorem dX7_about_22 : decode cX7_about 22 = .ok (.iaload, 1) := by decide +kernel
theorem dX7_about_23 : decode cX7_about 23 = .ok (.ifCond .ge 7, 3) := by decide +kernel
theorem dX7_about_26 : decode cX7_about 26 = .ok (.iconst 0, 1) := by decide +kernel
theorem dX7_about_27 : decode cX7_about 27 = .ok (.goto 12, 3) := by decide +kernel
theorem dX7_about_30 : decode cX7_about 30 = .ok (.aload_n 0, 1) := by decide +kernel
theorem dX7_about_31 : decode cX7_about 31 = .ok (.getfield 63, 3) := by decide +kernel
theorem dX7_about_34 : decode cX7_about 34 = .ok (.iload_n 1, 1) := by decide +kernel
theorem dX7_about_35 : decode cX7_about 35 = .ok (.bipush 20, 2) := by decide +kernel
theorem dX7_about_37 : decode cX7_about 37 = .ok (.isub, 1) := by decide +kernel
theorem dX7_about_38 : decode cX7_about 38 = .ok (.iaload, 1) := by decide +kernel
theorem dX7_about_39 : decode cX7_about 39 = .ok (.ireturn, 1) := by decide +kernel
theorem dX7_about_40 : decode cX7_about 40 = .ok (.iload_n 1, 1) := by decide +kernel
theorem dX7_about_41 : decode cX7_about 41 = .ok (.i2l, 1) := by decide +kernel
theorem dX7_about_42 : decode cX7_about 42 = .ok (.ldc2_w 258, 3) := by decide +kernel
theorem dX7_about_45 : decode cX7_about 45 = .ok (.ldc2_w 260, 3) := by decide +kernel
theorem dX7_about_48 : decode cX7_about 48 = .ok (.invokestatic 84, 3) := by decide +kernel
theorem dX7_about_51 : decode cX7_about 51 = .ok (.ifCond .eq 29, 3) := by decide +kernel
theorem dX7_about_54 : decode cX7_about 54 = .ok (.aload_n 0, 1) := by decide +kernel
theorem dX7_about_55 : decode cX7_about 55 = .ok (.getfield 66, 3) := by decide +kernel
theorem dX7_about_58 : decode cX7_about 58 = .ok (.iload_n 1, 1) := by decide +kernel
theorem dX7_about_59 : decode cX7_about 59 = .ok (.bipush 30, 2) := by decide +kernel
theorem dX7_about_61 : decode cX7_about 61 = .ok (.isub, 1) := by decide +kernel
theorem dX7_about_62 : decode cX7_about 62 = .ok (.iaload, 1) := by decide +kernel
theorem dX7_about_63 : decode cX7_about 63 = .ok (.ifCond .ge 7, 3) := by decide +kernel
theorem dX7_about_66 : decode cX7_about 66 = .ok (.iconst 0, 1) := by decide +kernel
theorem dX7_about_67 : decode cX7_about 67 = .ok (.goto 12, 3) := by decide +kernel
theorem dX7_about_70 : decode cX7_about 70 = .ok (.aload_n 0, 1) := by decide +kernel
theorem dX7_about_71 : decode cX7_about 71 = .ok (.getfield 66, 3) := by decide +kernel
theorem dX7_about_74 : decode cX7_about 74 = .ok (.iload_n 1, 1) := by decide +kernel
theorem dX7_about_75 : decode cX7_about 75 = .ok (.bipush 30, 2) := by decide +kernel
theorem dX7_about_77 : decode cX7_about 77 = .ok (.isub, 1) := by decide +kernel
theorem dX7_about_78 : decode cX7_about 78 = .ok (.iaload, 1) := by decide +kernel
theorem dX7_about_79 : decode cX7_about 79 = .ok (.ireturn, 1) := by decide +kernel
theorem dX7_about_80 : decode cX7_about 80 = .ok (.iload_n 1, 1) := by decide +kernel
theorem dX7_about_81 : decode cX7_about 81 = .ok (.tableswitch 78 0 6 #[43, 48, 53, 58, 63, 68, 73], 43) := by decide +kernel
theorem dX7_about_124 : decode cX7_about 124 = .ok (.aload_n 0, 1) := by decide +kernel
theorem dX7_about_125 : decode cX7_about 125 = .ok (.getfield 81, 3) := by decide +kernel
theorem dX7_about_128 : decode cX7_about 128 = .ok (.ireturn, 1) := by decide +kernel
theorem dX7_about_129 : decode cX7_about 129 = .ok (.aload_n 0, 1) := by decide +kernel
theorem dX7_about_130 : decode cX7_about 130 = .ok (.getfield 98, 3) := by decide +kernel
theorem dX7_about_133 : decode cX7_about 133 = .ok (.ireturn, 1) := by decide +kernel
theorem dX7_about_134 : decode cX7_about 134 = .ok (.aload_n 0, 1) := by decide +kernel
theorem dX7_about_135 : decode cX7_about 135 = .ok (.getfield 131, 3) := by decide +kernel
theorem dX7_about_138 : decode cX7_about 138 = .ok (.ireturn, 1) := by decide +kernel
theorem dX7_about_139 : decode cX7_about 139 = .ok (.aload_n 0, 1) := by decide +kernel
theorem dX7_about_140 : decode cX7_about 140 = .ok (.getfield 134, 3) := by decide +kernel
theorem dX7_about_143 : decode cX7_about 143 = .ok (.ireturn, 1) := by decide +kernel
theorem dX7_about_144 : decode cX7_about 144 = .ok (.aload_n 0, 1) := by decide +kernel
theorem dX7_about_145 : decode cX7_about 145 = .ok (.getfield 253, 3) := by decide +kernel
theorem dX7_about_148 : decode cX7_about 148 = .ok (.ireturn, 1) := by decide +kernel
theorem dX7_about_149 : decode cX7_about 149 = .ok (.aload_n 0, 1) := by decide +kernel
theorem dX7_about_150 : decode cX7_about 150 = .ok (.getfield 250, 3) := by decide +kernel
theorem dX7_about_153 : decode cX7_about 153 = .ok (.ireturn, 1) := by decide +kernel
theorem dX7_about_154 : decode cX7_about 154 = .ok (.aload_n 0, 1) := by decide +kernel
theorem dX7_about_155 : decode cX7_about 155 = .ok (.getfield 180, 3) := by decide +kernel
theorem dX7_about_158 : decode cX7_about 158 = .ok (.ireturn, 1) := by decide +kernel
theorem dX7_about_159 : decode cX7_about 159 = .ok (.iconst (-1), 1) := by decide +kernel
theorem dX7_about_160 : decode cX7_about 160 = .ok (.ireturn, 1) := by decide +kernel
theorem dJ9_max_7cf53_0 : decode cJ9_max_7cf53 0 = .ok (.iload_n 0, 1) := by decide +kernel
theorem dJ9_max_7cf53_1 : decode cJ9_max_7cf53 1 = .ok (.iload_n 1, 1) := by decide +kernel
theorem dJ9_max_7cf53_2 : decode cJ9_max_7cf53 2 = .ok (.if_icmp .lt 7, 3) := by decide +kernel
theorem dJ9_max_7cf53_5 : decode cJ9_max_7cf53 5 = .ok (.iload_n 0, 1) := by decide +kernel
theorem dJ9_max_7cf53_6 : decode cJ9_max_7cf53 6 = .ok (.goto 4, 3) := by decide +kernel
theorem dJ9_max_7cf53_9 : decode cJ9_max_7cf53 9 = .ok (.iload_n 1, 1) := by decide +kernel
theorem dJ9_max_7cf53_10 : decode cJ9_max_7cf53 10 = .ok (.ireturn, 1) := by decide +kernel
theorem dJ9_min_7cf53_0 : decode cJ9_min_7cf53 0 = .ok (.iload_n 0, 1) := by decide +kernel
theorem dJ9_min_7cf53_1 : decode cJ9_min_7cf53 1 = .ok (.iload_n 1, 1) := by decide +kernel
theorem dJ9_min_7cf53_2 : decode cJ9_min_7cf53 2 = .ok (.if_icmp .gt 7, 3) := by decide +kernel
theorem dJ9_min_7cf53_5 : decode cJ9_min_7cf53 5 = .ok (.iload_n 0, 1) := by decide +kernel
theorem dJ9_min_7cf53_6 : decode cJ9_min_7cf53 6 = .ok (.goto 4, 3) := by decide +kernel
theorem dJ9_min_7cf53_9 : decode cJ9_min_7cf53 9 = .ok (.iload_n 1, 1) := by decide +kernel
theorem dJ9_min_7cf53_10 : decode cJ9_min_7cf53 10 = .ok (.ireturn, 1) := by decide +kernel
theorem dJ0_length_8abf5_0 : decode cJ0_length_8abf5 0 = .ok (.aload_n 0, 1) := by decide +kernel
theorem dJ0_length_8abf5_1 : decode cJ0_length_8abf5 1 = .ok (.getfield 9, 3) := by decide +kernel
theorem dJ0_length_8abf5_4 : decode cJ0_length_8abf5 4 = .ok (.arraylength, 1) := by decide +kernel
theorem dJ0_length_8abf5_5 : decode cJ0_length_8abf5 5 = .ok (.aload_n 0, 1) := by decide +kernel
theorem dJ0_length_8abf5_6 : decode cJ0_length_8abf5 6 = .ok (.invokevirtual 335, 3) := by decide +kernel
theorem dJ0_length_8abf5_9 : decode cJ0_length_8abf5 9 = .ok (.ishr, 1) := by decide +kernel
theorem dJ0_length_8abf5_10 : decode cJ0_length_8abf5 10 = .ok (.ireturn, 1) := by decide +kernel
theorem dJ0_charAt_5068e_0 : decode cJ0_charAt_5068e 0 = .ok (.aload_n 0, 1) := by decide +kernel
theorem dJ0_charAt_5068e_1 : decode cJ0_charAt_5068e 1 = .ok (.invokevirtual 492, 3) := by decide +kernel
theorem dJ0_charAt_5068e_4 : decode cJ0_charAt_5068e 4 = .ok (.ifCond .eq 12, 3) := by decide +kernel
theorem dJ0_charAt_5068e_7 : decode cJ0_charAt_5068e 7 = .ok (.aload_n 0, 1) := by decide +kernel
theorem dJ0_charAt_5068e_8 : decode cJ0_charAt_5068e 8 = .ok (.getfield 9, 3) := by decide +kernel
theorem dJ0_charAt_5068e_11 : decode cJ0_charAt_5068e 11 = .ok (.iload_n 1, 1) := by decide +kernel
theorem dJ0_charAt_5068e_12 : decode cJ0_charAt_5068e 12 = .ok (.invokestatic 495, 3) := by decide +kernel
theorem dJ0_charAt_5068e_15 : decode cJ0_charAt_5068e 15 = .ok (.ireturn, 1) := by decide +kernel
theorem dJ0_charAt_5068e_16 : decode cJ0_charAt_5068e 16 = .ok (.aload_n 0, 1) := by decide +kernel
theorem dJ0_charAt_5068e_17 : decode cJ0_charAt_5068e 17 = .ok (.getfield 9, 3) := by decide +kernel
theorem dJ0_charAt_5068e_20 : decode cJ0_charAt_5068e 20 = .ok (.iload_n 1, 1) := by decide +kernel
theorem dJ0_charAt_5068e_21 : decode cJ0_charAt_5068e 21 = .ok (.invokestatic 498, 3) := by decide +kernel
theorem dJ0_charAt_5068e_24 : decode cJ0_charAt_5068e 24 = .ok (.ireturn, 1) := by decide +kernel
theorem dJ0_coder_7d493_0 : decode cJ0_coder_7d493 0 = .ok (.getstatic 38, 3) := by decide +kernel
theorem dJ0_coder_7d493_3 : decode cJ0_coder_7d493 3 = .ok (.ifCond .eq 10, 3) := by decide +kernel
theorem dJ0_coder_7d493_6 : decode cJ0_coder_7d493 6 = .ok (.aload_n 0, 1) := by decide +kernel
theorem dJ0_coder_7d493_7 : decode cJ0_coder_7d493 7 = .ok (.getfield 15, 3) := by decide +kernel
theorem dJ0_coder_7d493_10 : decode cJ0_coder_7d493 10 = .ok (.goto 4, 3) := by decide +kernel
theorem dJ0_coder_7d493_13 : decode cJ0_coder_7d493 13 = .ok (.iconst 1, 1) := by decide +kernel
theorem dJ0_coder_7d493_14 : decode cJ0_coder_7d493 14 = .ok (.ireturn, 1) := by decide +kernel
theorem dJ0_isLatin1_aae02_0 : decode cJ0_isLatin1_aae02 0 = .ok (.getstatic 38, 3) := by decide +kernel
theorem dJ0_isLatin1_aae02_3 : decode cJ0_isLatin1_aae02 3 = .ok (.ifCond .eq 14, 3) := by decide +kernel
theorem dJ0_isLatin1_aae02_6 : decode cJ0_isLatin1_aae02 6 = .ok (.aload_n 0, 1) := by decide +kernel
theorem dJ0_isLatin1_aae02_7 : decode cJ0_isLatin1_aae02 7 = .ok (.getfield 15, 3) := by decide +kernel
theorem dJ0_isLatin1_aae02_10 : decode cJ0_isLatin1_aae02 10 = .ok (.ifCond .ne 7, 3) := by decide +kernel
theorem dJ0_isLatin1_aae02_13 : decode cJ0_isLatin1_aae02 13 = .ok (.iconst 1, 1) := by decide +kernel
theorem dJ0_isLatin1_aae02_14 : decode cJ0_isLatin1_aae02 14 = .ok (.goto 4, 3) := by decide +kernel
theorem dJ0_isLatin1_aae02_17 : decode cJ0_isLatin1_aae02 17 = .ok (.iconst 0, 1) := by decide +kernel
theorem dJ0_isLatin1_aae02_18 : decode cJ0_isLatin1_aae02 18 = .ok (.ireturn, 1) := by decide +kernel
theorem dJ0_checkIndex_df160_0 : decode cJ0_checkIndex_df160 0 = .ok (.iload_n 0, 1) := by decide +kernel
theorem dJ0_checkIndex_df160_1 : decode cJ0_checkIndex_df160 1 = .ok (.iload_n 1, 1) := by decide +kernel
theorem dJ0_checkIndex_df160_2 : decode cJ0_checkIndex_df160 2 = .ok (.getstatic 1053, 3) := by decide +kernel
theorem dJ0_checkIndex_df160_5 : decode cJ0_checkIndex_df160 5 = .ok (.invokestatic 1059, 3) := by decide +kernel
theorem dJ0_checkIndex_df160_8 : decode cJ0_checkIndex_df160 8 = .ok (.pop, 1) := by decide +kernel
theorem dJ0_checkIndex_df160_9 : decode cJ0_checkIndex_df160 9 = .ok (.return_, 1) := by decide +kernel
theorem dJ1_charAt_3b067_0 : decode cJ1_charAt_3b067 0 = .ok (.iload_n 1, 1) := by decide +kernel
theorem dJ1_charAt_3b067_1 : decode cJ1_charAt_3b067 1 = .ok (.aload_n 0, 1) := by decide +kernel
theorem dJ1_charAt_3b067_2 : decode cJ1_charAt_3b067 2 = .ok (.arraylength, 1) := by decide +kernel
theorem dJ1_charAt_3b067_3 : decode cJ1_charAt_3b067 3 = .ok (.invokestatic 9, 3) := by decide +kernel
theorem dJ1_charAt_3b067_6 : decode cJ1_charAt_3b067 6 = .ok (.aload_n 0, 1) := by decide +kernel
theorem dJ1_charAt_3b067_7 : decode cJ1_charAt_3b067 7 = .ok (.iload_n 1, 1) := by decide +kernel
theorem dJ1_charAt_3b067_8 : decode cJ1_charAt_3b067 8 = .ok (.baload, 1) := by decide +kernel
theorem dJ1_charAt_3b067_9 : decode cJ1_charAt_3b067 9 = .ok (.sipush 255, 3) := by decide +kernel
theorem dJ1_charAt_3b067_12 : decode cJ1_charAt_3b067 12 = .ok (.iand, 1) := by decide +kernel
theorem dJ1_charAt_3b067_13 : decode cJ1_charAt_3b067 13 = .ok (.i2c, 1) := by decide +kernel
theorem dJ1_charAt_3b067_14 : decode cJ1_charAt_3b067 14 = .ok (.ireturn, 1) := by decide +kernel
theorem dJ2_getChar_3b067_0 : decode cJ2_getChar_3b067 0 = .ok (.getstatic 44, 3) := by decide +kernel
theorem dJ2_getChar_3b067_3 : decode cJ2_getChar_3b067 3 = .ok (.ifCond .ne 25, 3) := by decide +kernel
theorem dJ2_getChar_3b067_6 : decode cJ2_getChar_3b067 6 = .ok (.iload_n 1, 1) := by decide +kernel
theorem dJ2_getChar_3b067_7 : decode cJ2_getChar_3b067 7 = .ok (.ifCond .lt 11, 3) := by decide +kernel
theorem dJ2_getChar_3b067_10 : decode cJ2_getChar_3b067 10 = .ok (.iload_n 1, 1) := by decide +kernel
theorem dJ2_getChar_3b067_11 : decode cJ2_getChar_3b067 11 = .ok (.aload_n 0, 1) := by decide +kernel
theorem dJ2_getChar_3b067_12 : decode cJ2_getChar_3b067 12 = .ok (.invokestatic 48, 3) := by decide +kernel
theorem dJ2_getChar_3b067_15 : decode cJ2_getChar_3b067 15 = .ok (.if_icmp .lt 13, 3) := by decide +kernel
theorem dJ2_getChar_3b067_18 : decode cJ2_getChar_3b067 18 = .ok (.new 52, 3) := by decide +kernel
theorem dJ2_getChar_3b067_21 : decode cJ2_getChar_3b067 21 = .ok (.dup, 1) := by decide +kernel
theorem dJ2_getChar_3b067_22 : decode cJ2_getChar_3b067 22 = .ok (.ldc 54, 2) := by decide +kernel
theorem dJ2_getChar_3b067_24 : decode cJ2_getChar_3b067 24 = .ok (.invokespecial 56, 3) := by decide +kernel
theorem dJ2_getChar_3b067_27 : decode cJ2_getChar_3b067 27 = .ok (.athrow, 1) := by decide +kernel
theorem dJ2_getChar_3b067_28 : decode cJ2_getChar_3b067 28 = .ok (.iload_n 1, 1) := by decide +kernel
theorem dJ2_getChar_3b067_29 : decode cJ2_getChar_3b067 29 = .ok (.iconst 1, 1) := by decide +kernel
theorem dJ2_getChar_3b067_30 : decode cJ2_getChar_3b067 30 = .ok (.ishl, 1) := by decide +kernel
theorem dJ2_getChar_3b067_31 : decode cJ2_getChar_3b067 31 = .ok (.istore_n 1, 1) := by decide +kernel
theorem dJ2_getChar_3b067_32 : decode cJ2_getChar_3b067 32 = .ok (.aload_n 0, 1) := by decide +kernel
theorem dJ2_getChar_3b067_33 : decode cJ2_getChar_3b067 33 = .ok (.iload_n 1, 1) := by decide +kernel
theorem dJ2_getChar_3b067_34 : decode cJ2_getChar_3b067 34 = .ok (.iinc 1 1, 3) := by decide +kernel
theorem dJ2_getChar_3b067_37 : decode cJ2_getChar_3b067 37 = .ok (.baload, 1) := by decide +kernel
theorem dJ2_getChar_3b067_38 : decode cJ2_getChar_3b067 38 = .ok (.sipush 255, 3) := by decide +kernel
theorem dJ2_getChar_3b067_41 : decode cJ2_getChar_3b067 41 = .ok (.iand, 1) := by decide +kernel
theorem dJ2_getChar_3b067_42 : decode cJ2_getChar_3b067 42 = .ok (.getstatic 59, 3) := by decide +kernel
theorem dJ2_getChar_3b067_45 : decode cJ2_getChar_3b067 45 = .ok (.ishl, 1) := by decide +kernel
theorem dJ2_getChar_3b067_46 : decode cJ2_getChar_3b067 46 = .ok (.aload_n 0, 1) := by decide +kernel
theorem dJ2_getChar_3b067_47 : decode cJ2_getChar_3b067 47 = .ok (.iload_n 1, 1) := by decide +kernel
theorem dJ2_getChar_3b067_48 : decode cJ2_getChar_3b067 48 = .ok (.baload, 1) := by decide +kernel
theorem dJ2_getChar_3b067_49 : decode cJ2_getChar_3b067 49 = .ok (.sipush 255, 3) := by decide +kernel
theorem dJ2_getChar_3b067_52 : decode cJ2_getChar_3b067 52 = .ok (.iand, 1) := by decide +kernel
theorem dJ2_getChar_3b067_53 : decode cJ2_getChar_3b067 53 = .ok (.getstatic 63, 3) := by decide +kernel
theorem dJ2_getChar_3b067_56 : decode cJ2_getChar_3b067 56 = .ok (.ishl, 1) := by decide +kernel
theorem dJ2_getChar_3b067_57 : decode cJ2_getChar_3b067 57 = .ok (.ior, 1) := by decide +kernel
theorem dJ2_getChar_3b067_58 : decode cJ2_getChar_3b067 58 = .ok (.i2c, 1) := by decide +kernel
theorem dJ2_getChar_3b067_59 : decode cJ2_getChar_3b067 59 = .ok (.ireturn, 1) := by decide +kernel
theorem dJ2_length_9d52b_0 : decode cJ2_length_9d52b 0 = .ok (.aload_n 0, 1) := by decide +kernel
theorem dJ2_length_9d52b_1 : decode cJ2_length_9d52b 1 = .ok (.arraylength, 1) := by decide +kernel
theorem dJ2_length_9d52b_2 : decode cJ2_length_9d52b 2 = .ok (.iconst 1, 1) := by decide +kernel
theorem dJ2_length_9d52b_3 : decode cJ2_length_9d52b 3 = .ok (.ishr, 1) := by decide +kernel
theorem dJ2_length_9d52b_4 : decode cJ2_length_9d52b 4 = .ok (.ireturn, 1) := by decide +kernel
theorem dJ2_charAt_3b067_0 : decode cJ2_charAt_3b067 0 = .ok (.iload_n 1, 1) := by decide +kernel
theorem dJ2_charAt_3b067_1 : decode cJ2_charAt_3b067 1 = .ok (.aload_n 0, 1) := by decide +kernel
theorem dJ2_charAt_3b067_2 : decode cJ2_charAt_3b067 2 = .ok (.invokestatic 67, 3) := by decide +kernel
theorem dJ2_charAt_3b067_5 : decode cJ2_charAt_3b067 5 = .ok (.aload_n 0, 1) := by decide +kernel
theorem dJ2_charAt_3b067_6 : decode cJ2_charAt_3b067 6 = .ok (.iload_n 1, 1) := by decide +kernel
theorem dJ2_charAt_3b067_7 : decode cJ2_charAt_3b067 7 = .ok (.invokestatic 71, 3) := by decide +kernel
theorem dJ2_charAt_3b067_10 : decode cJ2_charAt_3b067 10 = .ok (.ireturn, 1) := by decide +kernel
theorem dJ2_checkIndex_2214a_0 : decode cJ2_checkIndex_2214a 0 = .ok (.iload_n 0, 1) := by decide +kernel
theorem dJ2_checkIndex_2214a_1 : decode cJ2_checkIndex_2214a 1 = .ok (.aload_n 1, 1) := by decide +kernel
theorem dJ2_checkIndex_2214a_2 : decode cJ2_checkIndex_2214a 2 = .ok (.invokestatic 48, 3) := by decide +kernel
theorem dJ2_checkIndex_2214a_5 : decode cJ2_checkIndex_2214a 5 = .ok (.invokestatic 414, 3) := by decide +kernel
theorem dJ2_checkIndex_2214a_8 : decode cJ2_checkIndex_2214a 8 = .ok (.return_, 1) := by decide +kernel
theorem dJ7_fill_53178_0 : decode cJ7_fill_53178 0 = .ok (.iconst 0, 1) := by decide +kernel
theorem dJ7_fill_53178_1 : decode cJ7_fill_53178 1 = .ok (.istore_n 2, 1) := by decide +kernel
theorem dJ7_fill_53178_2 : decode cJ7_fill_53178 2 = .ok (.aload_n 0, 1) := by decide +kernel
theorem dJ7_fill_53178_3 : decode cJ7_fill_53178 3 = .ok (.arraylength, 1) := by decide +kernel
theorem dJ7_fill_53178_4 : decode cJ7_fill_53178 4 = .ok (.istore_n 3, 1) := by decide +kernel
theorem dJ7_fill_53178_5 : decode cJ7_fill_53178 5 = .ok (.iload_n 2, 1) := by decide +kernel
theorem dJ7_fill_53178_6 : decode cJ7_fill_53178 6 = .ok (.iload_n 3, 1) := by decide +kernel
theorem dJ7_fill_53178_7 : decode cJ7_fill_53178 7 = .ok (.if_icmp .ge 13, 3) := by decide +kernel
theorem dJ7_fill_53178_10 : decode cJ7_fill_53178 10 = .ok (.aload_n 0, 1) := by decide +kernel
theorem dJ7_fill_53178_11 : decode cJ7_fill_53178 11 = .ok (.iload_n 2, 1) := by decide +kernel
theorem dJ7_fill_53178_12 : decode cJ7_fill_53178 12 = .ok (.iload_n 1, 1) := by decide +kernel
theorem dJ7_fill_53178_13 : decode cJ7_fill_53178 13 = .ok (.iastore, 1) := by decide +kernel
theorem dJ7_fill_53178_14 : decode cJ7_fill_53178 14 = .ok (.iinc 2 1, 3) := by decide +kernel
theorem dJ7_fill_53178_17 : decode cJ7_fill_53178 17 = .ok (.goto (-12), 3) := by decide +kernel
theorem dJ7_fill_53178_20 : decode cJ7_fill_53178 20 = .ok (.return_, 1) := by decide +kernel
theorem dJ3_checkIndex_8e157_0 : decode cJ3_checkIndex_8e157 0 = .ok (.iload_n 0, 1) := by decide +kernel
theorem dJ3_checkIndex_8e157_1 : decode cJ3_checkIndex_8e157 1 = .ok (.ifCond .lt 8, 3) := by decide +kernel
theorem dJ3_checkIndex_8e157_4 : decode cJ3_checkIndex_8e157 4 = .ok (.iload_n 0, 1) := by decide +kernel
theorem dJ3_checkIndex_8e157_5 : decode cJ3_checkIndex_8e157 5 = .ok (.iload_n 1, 1) := by decide +kernel
theorem dJ3_checkIndex_8e157_6 : decode cJ3_checkIndex_8e157 6 = .ok (.if_icmp .lt 10, 3) := by decide +kernel
theorem dJ3_checkIndex_8e157_9 : decode cJ3_checkIndex_8e157 9 = .ok (.aload_n 2, 1) := by decide +kernel
theorem dJ3_checkIndex_8e157_10 : decode cJ3_checkIndex_8e157 10 = .ok (.iload_n 0, 1) := by decide +kernel
theorem dJ3_checkIndex_8e157_11 : decode cJ3_checkIndex_8e157 11 = .ok (.iload_n 1, 1) := by decide +kernel
theorem dJ3_checkIndex_8e157_12 : decode cJ3_checkIndex_8e157 12 = .ok (.invokestatic 95, 3) := by decide +kernel
theorem dJ3_checkIndex_8e157_15 : decode cJ3_checkIndex_8e157 15 = .ok (.athrow, 1) := by decide +kernel
theorem dJ3_checkIndex_8e157_16 : decode cJ3_checkIndex_8e157 16 = .ok (.iload_n 0, 1) := by decide +kernel
theorem dJ3_checkIndex_8e157_17 : decode cJ3_checkIndex_8e157 17 = .ok (.ireturn, 1) := by decide +kernel
theorem dL_cell_0 : decode cL_cell 0 = .ok (.iload_n 1, 1) := by decide +kernel
theorem dL_cell_1 : decode cL_cell 1 = .ok (.aload_n 0, 1) := by decide +kernel
theorem dL_cell_2 : decode cL_cell 2 = .ok (.arraylength, 1) := by decide +kernel
theorem dL_cell_3 : decode cL_cell 3 = .ok (.if_icmp .ge 9, 3) := by decide +kernel
theorem dL_cell_6 : decode cL_cell 6 = .ok (.aload_n 0, 1) := by decide +kernel
theorem dL_cell_7 : decode cL_cell 7 = .ok (.iload_n 1, 1) := by decide +kernel
theorem dL_cell_8 : decode cL_cell 8 = .ok (.iaload, 1) := by decide +kernel
theorem dL_cell_9 : decode cL_cell 9 = .ok (.goto 4, 3) := by decide +kernel
theorem dL_cell_12 : decode cL_cell 12 = .ok (.iconst 0, 1) := by decide +kernel
theorem dL_cell_13 : decode cL_cell 13 = .ok (.ireturn, 1) := by decide +kernel
theorem dL_law_0 : decode cL_law 0 = .ok (.new 7, 3) := by decide +kernel
theorem dL_law_3 : decode cL_law 3 = .ok (.dup, 1) := by decide +kernel
theorem dL_law_4 : decode cL_law 4 = .ok (.aload_n 0, 1) := by decide +kernel
theorem dL_law_5 : decode cL_law 5 = .ok (.iconst 0, 1) := by decide +kernel
theorem dL_law_6 : decode cL_law 6 = .ok (.invokestatic 9, 3) := by decide +kernel
theorem dL_law_9 : decode cL_law 9 = .ok (.invokespecial 15, 3) := by decide +kernel
theorem dL_law_12 : decode cL_law 12 = .ok (.astore_n 1, 1) := by decide +kernel
theorem dL_law_13 : decode cL_law 13 = .ok (.new 18, 3) := by decide +kernel
theorem dL_law_16 : decode cL_law 16 = .ok (.dup, 1) := by decide +kernel
theorem dL_law_17 : decode cL_law 17 = .ok (.aload_n 0, 1) := by decide +kernel
theorem dL_law_18 : decode cL_law 18 = .ok (.iconst 0, 1) := by decide +kernel
theorem dL_law_19 : decode cL_law 19 = .ok (.invokestatic 9, 3) := by decide +kernel
theorem dL_law_22 : decode cL_law 22 = .ok (.invokespecial 20, 3) := by decide +kernel
theorem dL_law_25 : decode cL_law 25 = .ok (.astore_n 2, 1) := by decide +kernel
theorem dL_law_26 : decode cL_law 26 = .ok (.iconst 1, 1) := by decide +kernel
theorem dL_law_27 : decode cL_law 27 = .ok (.istore_n 3, 1) := by decide +kernel
theorem dL_law_28 : decode cL_law 28 = .ok (.iload_n 3, 1) := by decide +kernel
theorem dL_law_29 : decode cL_law 29 = .ok (.aload_n 0, 1) := by decide +kernel
theorem dL_law_30 : decode cL_law 30 = .ok (.arraylength, 1) := by decide +kernel
theorem dL_law_31 : decode cL_law 31 = .ok (.bipush 6, 2) := by decide +kernel
theorem dL_law_33 : decode cL_law 33 = .ok (.isub, 1) := by decide +kernel
theorem dL_law_34 : decode cL_law 34 = .ok (.if_icmp .gt 806, 3) := by decide +kernel
theorem dL_law_37 : decode cL_law 37 = .ok (.aload_n 0, 1) := by decide +kernel
theorem dL_law_38 : decode cL_law 38 = .ok (.iload_n 3, 1) := by decide +kernel
theorem dL_law_39 : decode cL_law 39 = .ok (.iaload, 1) := by decide +kernel
theorem dL_law_40 : decode cL_law 40 = .ok (.bipush 31, 2) := by decide +kernel
theorem dL_law_42 : decode cL_law 42 = .ok (.iand, 1) := by decide +kernel
theorem dL_law_43 : decode cL_law 43 = .ok (.tableswitch 791 0 23 #[109, 152, 185, 208, 241, 254, 287, 310, 323, 346, 369, 422, 435, 468, 481, 524, 557, 570, 603, 666, 689, 702, 725, 768], 109) := by decide +kernel
theorem dL_law_152 : decode cL_law 152 = .ok (.aload_n 1, 1) := by decide +kernel
theorem dL_law_153 : decode cL_law 153 = .ok (.aload_n 0, 1) := by decide +kernel
theorem dL_law_154 : decode cL_law 154 = .ok (.iload_n 3, 1) := by decide +kernel
theorem dL_law_155 : decode cL_law 155 = .ok (.iconst 1, 1) := by decide +kernel
theorem dL_law_156 : decode cL_law 156 = .ok (.iadd, 1) := by decide +kernel
theorem dL_law_157 : decode cL_law 157 = .ok (.iaload, 1) := by decide +kernel
theorem dL_law_158 : decode cL_law 158 = .ok (.aload_n 0, 1) := by decide +kernel
theorem dL_law_159 : decode cL_law 159 = .ok (.iload_n 3, 1) := by decide +kernel
theorem dL_law_160 : decode cL_law 160 = .ok (.iconst 2, 1) := by decide +kernel
theorem dL_law_161 : decode cL_law 161 = .ok (.iadd, 1) := by decide +kernel
theorem dL_law_162 : decode cL_law 162 = .ok (.iaload, 1) := by decide +kernel
theorem dL_law_163 : decode cL_law 163 = .ok (.aload_n 0, 1) := by decide +kernel
theorem dL_law_164 : decode cL_law 164 = .ok (.iload_n 3, 1) := by decide +kernel
theorem dL_law_165 : decode cL_law 165 = .ok (.iconst 3, 1) := by decide +kernel
theorem dL_law_166 : decode cL_law 166 = .ok (.iadd, 1) := by decide +kernel
theorem dL_law_167 : decode cL_law 167 = .ok (.iaload, 1) := by decide +kernel
theorem dL_law_168 : decode cL_law 168 = .ok (.invokevirtual 21, 3) := by decide +kernel
theorem dL_law_171 : decode cL_law 171 = .ok (.aload_n 2, 1) := by decide +kernel
theorem dL_law_172 : decode cL_law 172 = .ok (.aload_n 0, 1) := by decide +kernel
theorem dL_law_173 : decode cL_law 173 = .ok (.iload_n 3, 1) := by decide +kernel
theorem dL_law_174 : decode cL_law 174 = .ok (.iconst 1, 1) := by decide +kernel
theorem dL_law_175 : decode cL_law 175 = .ok (.iadd, 1) := by decide +kernel
theorem dL_law_176 : decode cL_law 176 = .ok (.iaload, 1) := by decide +kernel
theorem dL_law_177 : decode cL_law 177 = .ok (.aload_n 0, 1) := by decide +kernel
theorem dL_law_178 : decode cL_law 178 = .ok (.iload_n 3, 1) := by decide +kernel
theorem dL_law_179 : decode cL_law 179 = .ok (.iconst 2, 1) := by decide +kernel
theorem dL_law_180 : decode cL_law 180 = .ok (.iadd, 1) := by decide +kernel
theorem dL_law_181 : decode cL_law 181 = .ok (.iaload, 1) := by decide +kernel
theorem dL_law_182 : decode cL_law 182 = .ok (.aload_n 0, 1) := by decide +kernel
theorem dL_law_183 : decode cL_law 183 = .ok (.iload_n 3, 1) := by decide +kernel
theorem dL_law_184 : decode cL_law 184 = .ok (.iconst 3, 1) := by decide +kernel
theorem dL_law_185 : decode cL_law 185 = .ok (.iadd, 1) := by decide +kernel
theorem dL_law_186 : decode cL_law 186 = .ok (.iaload, 1) := by decide +kernel
theorem dL_law_187 : decode cL_law 187 = .ok (.invokevirtual 25, 3) := by decide +kernel
theorem dL_law_190 : decode cL_law 190 = .ok (.if_icmp .eq 644, 3) := by decide +kernel
theorem dL_law_193 : decode cL_law 193 = .ok (.iconst 0, 1) := by decide +kernel
theorem dL_law_194 : decode cL_law 194 = .ok (.ireturn, 1) := by decide +kernel
theorem dL_law_195 : decode cL_law 195 = .ok (.aload_n 1, 1) := by decide +kernel
theorem dL_law_196 : decode cL_law 196 = .ok (.aload_n 0, 1) := by decide +kernel
theorem dL_law_197 : decode cL_law 197 = .ok (.iload_n 3, 1) := by decide +kernel
theorem dL_law_198 : decode cL_law 198 = .ok (.iconst 1, 1) := by decide +kernel
theorem dL_law_199 : decode cL_law 199 = .ok (.iadd, 1) := by decide +kernel
theorem dL_law_200 : decode cL_law 200 = .ok (.iaload, 1) := by decide +kernel
theorem dL_law_201 : decode cL_law 201 = .ok (.aload_n 0, 1) := by decide +kernel
theorem dL_law_202 : decode cL_law 202 = .ok (.iload_n 3, 1) := by decide +kernel
theorem dL_law_203 : decode cL_law 203 = .ok (.iconst 2, 1) := by decide +kernel
theorem dL_law_204 : decode cL_law 204 = .ok (.iadd, 1) := by decide +kernel
theorem dL_law_205 : decode cL_law 205 = .ok (.iaload, 1) := by decide +kernel
theorem dL_law_206 : decode cL_law 206 = .ok (.invokevirtual 26, 3) := by decide +kernel
theorem dL_law_209 : decode cL_law 209 = .ok (.aload_n 2, 1) := by decide +kernel
theorem dL_law_210 : decode cL_law 210 = .ok (.aload_n 0, 1) := by decide +kernel
theorem dL_law_211 : decode cL_law 211 = .ok (.iload_n 3, 1) := by decide +kernel
theorem dL_law_212 : decode cL_law 212 = .ok (.iconst 1, 1) := by decide +kernel
theorem dL_law_213 : decode cL_law 213 = .ok (.iadd, 1) := by decide +kernel
theorem dL_law_214 : decode cL_law 214 = .ok (.iaload, 1) := by decide +kernel
theorem dL_law_215 : decode cL_law 215 = .ok (.aload_n 0, 1) := by decide +kernel
theorem dL_law_216 : decode cL_law 216 = .ok (.iload_n 3, 1) := by decide +kernel
theorem dL_law_217 : decode cL_law 217 = .ok (.iconst 2, 1) := by decide +kernel
theorem dL_law_218 : decode cL_law 218 = .ok (.iadd, 1) := by decide +kernel
theorem dL_law_219 : decode cL_law 219 = .ok (.iaload, 1) := by decide +kernel
theorem dL_law_220 : decode cL_law 220 = .ok (.invokevirtual 30, 3) := by decide +kernel
theorem dL_law_223 : decode cL_law 223 = .ok (.if_icmp .eq 611, 3) := by decide +kernel
theorem dL_law_226 : decode cL_law 226 = .ok (.iconst 0, 1) := by decide +kernel
theorem dL_law_227 : decode cL_law 227 = .ok (.ireturn, 1) := by decide +kernel
theorem dL_law_228 : decode cL_law 228 = .ok (.aload_n 1, 1) := by decide +kernel
theorem dL_law_229 : decode cL_law 229 = .ok (.aload_n 0, 1) := by decide +kernel
theorem dL_law_230 : decode cL_law 230 = .ok (.iload_n 3, 1) := by decide +kernel
theorem dL_law_231 : decode cL_law 231 = .ok (.iconst 1, 1) := by decide +kernel
theorem dL_law_232 : decode cL_law 232 = .ok (.iadd, 1) := by decide +kernel
theorem dL_law_233 : decode cL_law 233 = .ok (.iaload, 1) := by decide +kernel
theorem dL_law_234 : decode cL_law 234 = .ok (.invokevirtual 31, 3) := by decide +kernel
theorem dL_law_237 : decode cL_law 237 = .ok (.aload_n 2, 1) := by decide +kernel
theorem dL_law_238 : decode cL_law 238 = .ok (.aload_n 0, 1) := by decide +kernel
theorem dL_law_239 : decode cL_law 239 = .ok (.iload_n 3, 1) := by decide +kernel
theorem dL_law_240 : decode cL_law 240 = .ok (.iconst 1, 1) := by decide +kernel
theorem dL_law_241 : decode cL_law 241 = .ok (.iadd, 1) := by decide +kernel
theorem dL_law_242 : decode cL_law 242 = .ok (.iaload, 1) := by decide +kernel
theorem dL_law_243 : decode cL_law 243 = .ok (.invokevirtual 35, 3) := by decide +kernel
theorem dL_law_246 : decode cL_law 246 = .ok (.if_icmp .eq 588, 3) := by decide +kernel
theorem dL_law_249 : decode cL_law 249 = .ok (.iconst 0, 1) := by decide +kernel
theorem dL_law_250 : decode cL_law 250 = .ok (.ireturn, 1) := by decide +kernel
theorem dL_law_251 : decode cL_law 251 = .ok (.aload_n 1, 1) := by decide +kernel
theorem dL_law_252 : decode cL_law 252 = .ok (.aload_n 0, 1) := by decide +kernel
theorem dL_law_253 : decode cL_law 253 = .ok (.iload_n 3, 1) := by decide +kernel
theorem dL_law_254 : decode cL_law 254 = .ok (.iconst 1, 1) := by decide +kernel
theorem dL_law_255 : decode cL_law 255 = .ok (.iadd, 1) := by decide +kernel
theorem dL_law_256 : decode cL_law 256 = .ok (.iaload, 1) := by decide +kernel
theorem dL_law_257 : decode cL_law 257 = .ok (.aload_n 0, 1) := by decide +kernel
theorem dL_law_258 : decode cL_law 258 = .ok (.iload_n 3, 1) := by decide +kernel
theorem dL_law_259 : decode cL_law 259 = .ok (.iconst 2, 1) := by decide +kernel
theorem dL_law_260 : decode cL_law 260 = .ok (.iadd, 1) := by decide +kernel
theorem dL_law_261 : decode cL_law 261 = .ok (.iaload, 1) := by decide +kernel
theorem dL_law_262 : decode cL_law 262 = .ok (.invokevirtual 36, 3) := by decide +kernel
theorem dL_law_265 : decode cL_law 265 = .ok (.aload_n 2, 1) := by decide +kernel
theorem dL_law_266 : decode cL_law 266 = .ok (.aload_n 0, 1) := by decide +kernel
theorem dL_law_267 : decode cL_law 267 = .ok (.iload_n 3, 1) := by decide +kernel
theorem dL_law_268 : decode cL_law 268 = .ok (.iconst 1, 1) := by decide +kernel
theorem dL_law_269 : decode cL_law 269 = .ok (.iadd, 1) := by decide +kernel
theorem dL_law_270 : decode cL_law 270 = .ok (.iaload, 1) := by decide +kernel
theorem dL_law_271 : decode cL_law 271 = .ok (.aload_n 0, 1) := by decide +kernel
theorem dL_law_272 : decode cL_law 272 = .ok (.iload_n 3, 1) := by decide +kernel
theorem dL_law_273 : decode cL_law 273 = .ok (.iconst 2, 1) := by decide +kernel
theorem dL_law_274 : decode cL_law 274 = .ok (.iadd, 1) := by decide +kernel
theorem dL_law_275 : decode cL_law 275 = .ok (.iaload, 1) := by decide +kernel
theorem dL_law_276 : decode cL_law 276 = .ok (.invokevirtual 40, 3) := by decide +kernel
theorem dL_law_279 : decode cL_law 279 = .ok (.if_icmp .eq 555, 3) := by decide +kernel
theorem dL_law_282 : decode cL_law 282 = .ok (.iconst 0, 1) := by decide +kernel
theorem dL_law_283 : decode cL_law 283 = .ok (.ireturn, 1) := by decide +kernel
theorem dL_law_284 : decode cL_law 284 = .ok (.aload_n 1, 1) := by decide +kernel
theorem dL_law_285 : decode cL_law 285 = .ok (.invokevirtual 41, 3) := by decide +kernel
theorem dL_law_288 : decode cL_law 288 = .ok (.aload_n 2, 1) := by decide +kernel
theorem dL_law_289 : decode cL_law 289 = .ok (.invokevirtual 45, 3) := by decide +kernel
theorem dL_law_292 : decode cL_law 292 = .ok (.if_icmp .eq 542, 3) := by decide +kernel
theorem dL_law_295 : decode cL_law 295 = .ok (.iconst 0, 1) := by decide +kernel
theorem dL_law_296 : decode cL_law 296 = .ok (.ireturn, 1) := by decide +kernel
theorem dL_law_297 : decode cL_law 297 = .ok (.aload_n 1, 1) := by decide +kernel
theorem dL_law_298 : decode cL_law 298 = .ok (.aload_n 0, 1) := by decide +kernel
theorem dL_law_299 : decode cL_law 299 = .ok (.iload_n 3, 1) := by decide +kernel
theorem dL_law_300 : decode cL_law 300 = .ok (.iconst 1, 1) := by decide +kernel
theorem dL_law_301 : decode cL_law 301 = .ok (.iadd, 1) := by decide +kernel
theorem dL_law_302 : decode cL_law 302 = .ok (.iaload, 1) := by decide +kernel
theorem dL_law_303 : decode cL_law 303 = .ok (.aload_n 0, 1) := by decide +kernel
theorem dL_law_304 : decode cL_law 304 = .ok (.iload_n 3, 1) := by decide +kernel
theorem dL_law_305 : decode cL_law 305 = .ok (.iconst 2, 1) := by decide +kernel
theorem dL_law_306 : decode cL_law 306 = .ok (.iadd, 1) := by decide +kernel
theorem dL_law_307 : decode cL_law 307 = .ok (.iaload, 1) := by decide +kernel
theorem dL_law_308 : decode cL_law 308 = .ok (.invokevirtual 46, 3) := by decide +kernel
theorem dL_law_311 : decode cL_law 311 = .ok (.aload_n 2, 1) := by decide +kernel
theorem dL_law_312 : decode cL_law 312 = .ok (.aload_n 0, 1) := by decide +kernel
theorem dL_law_313 : decode cL_law 313 = .ok (.iload_n 3, 1) := by decide +kernel
theorem dL_law_314 : decode cL_law 314 = .ok (.iconst 1, 1) := by decide +kernel
theorem dL_law_315 : decode cL_law 315 = .ok (.iadd, 1) := by decide +kernel
theorem dL_law_316 : decode cL_law 316 = .ok (.iaload, 1) := by decide +kernel
theorem dL_law_317 : decode cL_law 317 = .ok (.aload_n 0, 1) := by decide +kernel
theorem dL_law_318 : decode cL_law 318 = .ok (.iload_n 3, 1) := by decide +kernel
theorem dL_law_319 : decode cL_law 319 = .ok (.iconst 2, 1) := by decide +kernel
theorem dL_law_320 : decode cL_law 320 = .ok (.iadd, 1) := by decide +kernel
theorem dL_law_321 : decode cL_law 321 = .ok (.iaload, 1) := by decide +kernel
theorem dL_law_322 : decode cL_law 322 = .ok (.invokevirtual 49, 3) := by decide +kernel
theorem dL_law_325 : decode cL_law 325 = .ok (.if_icmp .eq 509, 3) := by decide +kernel
theorem dL_law_328 : decode cL_law 328 = .ok (.iconst 0, 1) := by decide +kernel
theorem dL_law_329 : decode cL_law 329 = .ok (.ireturn, 1) := by decide +kernel
theorem dL_law_330 : decode cL_law 330 = .ok (.aload_n 1, 1) := by decide +kernel
theorem dL_law_331 : decode cL_law 331 = .ok (.aload_n 0, 1) := by decide +kernel
theorem dL_law_332 : decode cL_law 332 = .ok (.iload_n 3, 1) := by decide +kernel
theorem dL_law_333 : decode cL_law 333 = .ok (.iconst 1, 1) := by decide +kernel
theorem dL_law_334 : decode cL_law 334 = .ok (.iadd, 1) := by decide +kernel
theorem dL_law_335 : decode cL_law 335 = .ok (.iaload, 1) := by decide +kernel
theorem dL_law_336 : decode cL_law 336 = .ok (.invokevirtual 50, 3) := by decide +kernel
theorem dL_law_339 : decode cL_law 339 = .ok (.aload_n 2, 1) := by decide +kernel
theorem dL_law_340 : decode cL_law 340 = .ok (.aload_n 0, 1) := by decide +kernel
theorem dL_law_341 : decode cL_law 341 = .ok (.iload_n 3, 1) := by decide +kernel
theorem dL_law_342 : decode cL_law 342 = .ok (.iconst 1, 1) := by decide +kernel
theorem dL_law_343 : decode cL_law 343 = .ok (.iadd, 1) := by decide +kernel
theorem dL_law_344 : decode cL_law 344 = .ok (.iaload, 1) := by decide +kernel
theorem dL_law_345 : decode cL_law 345 = .ok (.invokevirtual 53, 3) := by decide +kernel
theorem dL_law_348 : decode cL_law 348 = .ok (.if_icmp .eq 486, 3) := by decide +kernel
theorem dL_law_351 : decode cL_law 351 = .ok (.iconst 0, 1) := by decide +kernel
theorem dL_law_352 : decode cL_law 352 = .ok (.ireturn, 1) := by decide +kernel
theorem dL_law_353 : decode cL_law 353 = .ok (.aload_n 1, 1) := by decide +kernel
theorem dL_law_354 : decode cL_law 354 = .ok (.invokevirtual 54, 3) := by decide +kernel
theorem dL_law_357 : decode cL_law 357 = .ok (.aload_n 2, 1) := by decide +kernel
theorem dL_law_358 : decode cL_law 358 = .ok (.invokevirtual 57, 3) := by decide +kernel
theorem dL_law_361 : decode cL_law 361 = .ok (.if_icmp .eq 473, 3) := by decide +kernel
theorem dL_law_364 : decode cL_law 364 = .ok (.iconst 0, 1) := by decide +kernel
theorem dL_law_365 : decode cL_law 365 = .ok (.ireturn, 1) := by decide +kernel
theorem dL_law_366 : decode cL_law 366 = .ok (.aload_n 1, 1) := by decide +kernel
theorem dL_law_367 : decode cL_law 367 = .ok (.aload_n 0, 1) := by decide +kernel
theorem dL_law_368 : decode cL_law 368 = .ok (.iload_n 3, 1) := by decide +kernel
theorem dL_law_369 : decode cL_law 369 = .ok (.iconst 1, 1) := by decide +kernel
theorem dL_law_370 : decode cL_law 370 = .ok (.iadd, 1) := by decide +kernel
theorem dL_law_371 : decode cL_law 371 = .ok (.iaload, 1) := by decide +kernel
theorem dL_law_372 : decode cL_law 372 = .ok (.invokevirtual 58, 3) := by decide +kernel
theorem dL_law_375 : decode cL_law 375 = .ok (.aload_n 2, 1) := by decide +kernel
theorem dL_law_376 : decode cL_law 376 = .ok (.aload_n 0, 1) := by decide +kernel
theorem dL_law_377 : decode cL_law 377 = .ok (.iload_n 3, 1) := by decide +kernel
theorem dL_law_378 : decode cL_law 378 = .ok (.iconst 1, 1) := by decide +kernel
theorem dL_law_379 : decode cL_law 379 = .ok (.iadd, 1) := by decide +kernel
theorem dL_law_380 : decode cL_law 380 = .ok (.iaload, 1) := by decide +kernel
theorem dL_law_381 : decode cL_law 381 = .ok (.invokevirtual 61, 3) := by decide +kernel
theorem dL_law_384 : decode cL_law 384 = .ok (.if_icmp .eq 450, 3) := by decide +kernel
theorem dL_law_387 : decode cL_law 387 = .ok (.iconst 0, 1) := by decide +kernel
theorem dL_law_388 : decode cL_law 388 = .ok (.ireturn, 1) := by decide +kernel
theorem dL_law_389 : decode cL_law 389 = .ok (.aload_n 1, 1) := by decide +kernel
theorem dL_law_390 : decode cL_law 390 = .ok (.aload_n 0, 1) := by decide +kernel
theorem dL_law_391 : decode cL_law 391 = .ok (.iload_n 3, 1) := by decide +kernel
theorem dL_law_392 : decode cL_law 392 = .ok (.iconst 1, 1) := by decide +kernel
theorem dL_law_393 : decode cL_law 393 = .ok (.iadd, 1) := by decide +kernel
theorem dL_law_394 : decode cL_law 394 = .ok (.iaload, 1) := by decide +kernel
theorem dL_law_395 : decode cL_law 395 = .ok (.invokevirtual 62, 3) := by decide +kernel
theorem dL_law_398 : decode cL_law 398 = .ok (.aload_n 2, 1) := by decide +kernel
theorem dL_law_399 : decode cL_law 399 = .ok (.aload_n 0, 1) := by decide +kernel
theorem dL_law_400 : decode cL_law 400 = .ok (.iload_n 3, 1) := by decide +kernel
theorem dL_law_401 : decode cL_law 401 = .ok (.iconst 1, 1) := by decide +kernel
theorem dL_law_402 : decode cL_law 402 = .ok (.iadd, 1) := by decide +kernel
theorem dL_law_403 : decode cL_law 403 = .ok (.iaload, 1) := by decide +kernel
theorem dL_law_404 : decode cL_law 404 = .ok (.invokevirtual 65, 3) := by decide +kernel
theorem dL_law_407 : decode cL_law 407 = .ok (.if_icmp .eq 427, 3) := by decide +kernel
theorem dL_law_410 : decode cL_law 410 = .ok (.iconst 0, 1) := by decide +kernel
theorem dL_law_411 : decode cL_law 411 = .ok (.ireturn, 1) := by decide +kernel
theorem dL_law_412 : decode cL_law 412 = .ok (.aload_n 1, 1) := by decide +kernel
theorem dL_law_413 : decode cL_law 413 = .ok (.aload_n 0, 1) := by decide +kernel
theorem dL_law_414 : decode cL_law 414 = .ok (.iload_n 3, 1) := by decide +kernel
theorem dL_law_415 : decode cL_law 415 = .ok (.iconst 1, 1) := by decide +kernel
theorem dL_law_416 : decode cL_law 416 = .ok (.iadd, 1) := by decide +kernel
theorem dL_law_417 : decode cL_law 417 = .ok (.iaload, 1) := by decide +kernel
theorem dL_law_418 : decode cL_law 418 = .ok (.aload_n 0, 1) := by decide +kernel
theorem dL_law_419 : decode cL_law 419 = .ok (.iload_n 3, 1) := by decide +kernel
theorem dL_law_420 : decode cL_law 420 = .ok (.iconst 2, 1) := by decide +kernel
theorem dL_law_421 : decode cL_law 421 = .ok (.iadd, 1) := by decide +kernel
theorem dL_law_422 : decode cL_law 422 = .ok (.iaload, 1) := by decide +kernel
theorem dL_law_423 : decode cL_law 423 = .ok (.aload_n 0, 1) := by decide +kernel
theorem dL_law_424 : decode cL_law 424 = .ok (.iload_n 3, 1) := by decide +kernel
theorem dL_law_425 : decode cL_law 425 = .ok (.iconst 3, 1) := by decide +kernel
theorem dL_law_426 : decode cL_law 426 = .ok (.iadd, 1) := by decide +kernel
theorem dL_law_427 : decode cL_law 427 = .ok (.iaload, 1) := by decide +kernel
theorem dL_law_428 : decode cL_law 428 = .ok (.aload_n 0, 1) := by decide +kernel
theorem dL_law_429 : decode cL_law 429 = .ok (.iload_n 3, 1) := by decide +kernel
theorem dL_law_430 : decode cL_law 430 = .ok (.iconst 4, 1) := by decide +kernel
theorem dL_law_431 : decode cL_law 431 = .ok (.iadd, 1) := by decide +kernel
theorem dL_law_432 : decode cL_law 432 = .ok (.iaload, 1) := by decide +kernel
theorem dL_law_433 : decode cL_law 433 = .ok (.invokevirtual 66, 3) := by decide +kernel
theorem dL_law_436 : decode cL_law 436 = .ok (.aload_n 2, 1) := by decide +kernel
theorem dL_law_437 : decode cL_law 437 = .ok (.aload_n 0, 1) := by decide +kernel
theorem dL_law_438 : decode cL_law 438 = .ok (.iload_n 3, 1) := by decide +kernel
theorem dL_law_439 : decode cL_law 439 = .ok (.iconst 1, 1) := by decide +kernel
theorem dL_law_440 : decode cL_law 440 = .ok (.iadd, 1) := by decide +kernel
theorem dL_law_441 : decode cL_law 441 = .ok (.iaload, 1) := by decide +kernel
theorem dL_law_442 : decode cL_law 442 = .ok (.aload_n 0, 1) := by decide +kernel
theorem dL_law_443 : decode cL_law 443 = .ok (.iload_n 3, 1) := by decide +kernel
theorem dL_law_444 : decode cL_law 444 = .ok (.iconst 2, 1) := by decide +kernel
theorem dL_law_445 : decode cL_law 445 = .ok (.iadd, 1) := by decide +kernel
theorem dL_law_446 : decode cL_law 446 = .ok (.iaload, 1) := by decide +kernel
theorem dL_law_447 : decode cL_law 447 = .ok (.aload_n 0, 1) := by decide +kernel
theorem dL_law_448 : decode cL_law 448 = .ok (.iload_n 3, 1) := by decide +kernel
theorem dL_law_449 : decode cL_law 449 = .ok (.iconst 3, 1) := by decide +kernel
theorem dL_law_450 : decode cL_law 450 = .ok (.iadd, 1) := by decide +kernel
theorem dL_law_451 : decode cL_law 451 = .ok (.iaload, 1) := by decide +kernel
theorem dL_law_452 : decode cL_law 452 = .ok (.aload_n 0, 1) := by decide +kernel
theorem dL_law_453 : decode cL_law 453 = .ok (.iload_n 3, 1) := by decide +kernel
theorem dL_law_454 : decode cL_law 454 = .ok (.iconst 4, 1) := by decide +kernel
theorem dL_law_455 : decode cL_law 455 = .ok (.iadd, 1) := by decide +kernel
theorem dL_law_456 : decode cL_law 456 = .ok (.iaload, 1) := by decide +kernel
theorem dL_law_457 : decode cL_law 457 = .ok (.invokevirtual 70, 3) := by decide +kernel
theorem dL_law_460 : decode cL_law 460 = .ok (.if_icmp .eq 374, 3) := by decide +kernel
theorem dL_law_463 : decode cL_law 463 = .ok (.iconst 0, 1) := by decide +kernel
theorem dL_law_464 : decode cL_law 464 = .ok (.ireturn, 1) := by decide +kernel
theorem dL_law_465 : decode cL_law 465 = .ok (.aload_n 1, 1) := by decide +kernel
theorem dL_law_466 : decode cL_law 466 = .ok (.invokevirtual 71, 3) := by decide +kernel
theorem dL_law_469 : decode cL_law 469 = .ok (.aload_n 2, 1) := by decide +kernel
theorem dL_law_470 : decode cL_law 470 = .ok (.invokevirtual 74, 3) := by decide +kernel
theorem dL_law_473 : decode cL_law 473 = .ok (.if_icmp .eq 361, 3) := by decide +kernel
theorem dL_law_476 : decode cL_law 476 = .ok (.iconst 0, 1) := by decide +kernel
theorem dL_law_477 : decode cL_law 477 = .ok (.ireturn, 1) := by decide +kernel
theorem dL_law_478 : decode cL_law 478 = .ok (.aload_n 1, 1) := by decide +kernel
theorem dL_law_479 : decode cL_law 479 = .ok (.aload_n 0, 1) := by decide +kernel
theorem dL_law_480 : decode cL_law 480 = .ok (.iload_n 3, 1) := by decide +kernel
theorem dL_law_481 : decode cL_law 481 = .ok (.iconst 1, 1) := by decide +kernel
theorem dL_law_482 : decode cL_law 482 = .ok (.iadd, 1) := by decide +kernel
theorem dL_law_483 : decode cL_law 483 = .ok (.iaload, 1) := by decide +kernel
theorem dL_law_484 : decode cL_law 484 = .ok (.aload_n 0, 1) := by decide +kernel
theorem dL_law_485 : decode cL_law 485 = .ok (.iload_n 3, 1) := by decide +kernel
theorem dL_law_486 : decode cL_law 486 = .ok (.iconst 2, 1) := by decide +kernel
theorem dL_law_487 : decode cL_law 487 = .ok (.iadd, 1) := by decide +kernel
theorem dL_law_488 : decode cL_law 488 = .ok (.iaload, 1) := by decide +kernel
theorem dL_law_489 : decode cL_law 489 = .ok (.invokevirtual 75, 3) := by decide +kernel
theorem dL_law_492 : decode cL_law 492 = .ok (.aload_n 2, 1) := by decide +kernel
theorem dL_law_493 : decode cL_law 493 = .ok (.aload_n 0, 1) := by decide +kernel
theorem dL_law_494 : decode cL_law 494 = .ok (.iload_n 3, 1) := by decide +kernel
theorem dL_law_495 : decode cL_law 495 = .ok (.iconst 1, 1) := by decide +kernel
theorem dL_law_496 : decode cL_law 496 = .ok (.iadd, 1) := by decide +kernel
theorem dL_law_497 : decode cL_law 497 = .ok (.iaload, 1) := by decide +kernel
theorem dL_law_498 : decode cL_law 498 = .ok (.aload_n 0, 1) := by decide +kernel
theorem dL_law_499 : decode cL_law 499 = .ok (.iload_n 3, 1) := by decide +kernel
theorem dL_law_500 : decode cL_law 500 = .ok (.iconst 2, 1) := by decide +kernel
theorem dL_law_501 : decode cL_law 501 = .ok (.iadd, 1) := by decide +kernel
theorem dL_law_502 : decode cL_law 502 = .ok (.iaload, 1) := by decide +kernel
theorem dL_law_503 : decode cL_law 503 = .ok (.invokevirtual 78, 3) := by decide +kernel
theorem dL_law_506 : decode cL_law 506 = .ok (.if_icmp .eq 328, 3) := by decide +kernel
theorem dL_law_509 : decode cL_law 509 = .ok (.iconst 0, 1) := by decide +kernel
theorem dL_law_510 : decode cL_law 510 = .ok (.ireturn, 1) := by decide +kernel
theorem dL_law_511 : decode cL_law 511 = .ok (.aload_n 1, 1) := by decide +kernel
theorem dL_law_512 : decode cL_law 512 = .ok (.invokevirtual 79, 3) := by decide +kernel
theorem dL_law_515 : decode cL_law 515 = .ok (.aload_n 2, 1) := by decide +kernel
theorem dL_law_516 : decode cL_law 516 = .ok (.invokevirtual 82, 3) := by decide +kernel
theorem dL_law_519 : decode cL_law 519 = .ok (.if_icmp .eq 315, 3) := by decide +kernel
theorem dL_law_522 : decode cL_law 522 = .ok (.iconst 0, 1) := by decide +kernel
theorem dL_law_523 : decode cL_law 523 = .ok (.ireturn, 1) := by decide +kernel
theorem dL_law_524 : decode cL_law 524 = .ok (.aload_n 1, 1) := by decide +kernel
theorem dL_law_525 : decode cL_law 525 = .ok (.aload_n 0, 1) := by decide +kernel
theorem dL_law_526 : decode cL_law 526 = .ok (.iload_n 3, 1) := by decide +kernel
theorem dL_law_527 : decode cL_law 527 = .ok (.iconst 1, 1) := by decide +kernel
theorem dL_law_528 : decode cL_law 528 = .ok (.iadd, 1) := by decide +kernel
theorem dL_law_529 : decode cL_law 529 = .ok (.iaload, 1) := by decide +kernel
theorem dL_law_530 : decode cL_law 530 = .ok (.aload_n 0, 1) := by decide +kernel
theorem dL_law_531 : decode cL_law 531 = .ok (.iload_n 3, 1) := by decide +kernel
theorem dL_law_532 : decode cL_law 532 = .ok (.iconst 2, 1) := by decide +kernel
theorem dL_law_533 : decode cL_law 533 = .ok (.iadd, 1) := by decide +kernel
theorem dL_law_534 : decode cL_law 534 = .ok (.iaload, 1) := by decide +kernel
theorem dL_law_535 : decode cL_law 535 = .ok (.aload_n 0, 1) := by decide +kernel
theorem dL_law_536 : decode cL_law 536 = .ok (.iload_n 3, 1) := by decide +kernel
theorem dL_law_537 : decode cL_law 537 = .ok (.iconst 3, 1) := by decide +kernel
theorem dL_law_538 : decode cL_law 538 = .ok (.iadd, 1) := by decide +kernel
theorem dL_law_539 : decode cL_law 539 = .ok (.iaload, 1) := by decide +kernel
theorem dL_law_540 : decode cL_law 540 = .ok (.invokevirtual 83, 3) := by decide +kernel
theorem dL_law_543 : decode cL_law 543 = .ok (.aload_n 2, 1) := by decide +kernel
theorem dL_law_544 : decode cL_law 544 = .ok (.aload_n 0, 1) := by decide +kernel
theorem dL_law_545 : decode cL_law 545 = .ok (.iload_n 3, 1) := by decide +kernel
theorem dL_law_546 : decode cL_law 546 = .ok (.iconst 1, 1) := by decide +kernel
theorem dL_law_547 : decode cL_law 547 = .ok (.iadd, 1) := by decide +kernel
theorem dL_law_548 : decode cL_law 548 = .ok (.iaload, 1) := by decide +kernel
theorem dL_law_549 : decode cL_law 549 = .ok (.aload_n 0, 1) := by decide +kernel
theorem dL_law_550 : decode cL_law 550 = .ok (.iload_n 3, 1) := by decide +kernel
theorem dL_law_551 : decode cL_law 551 = .ok (.iconst 2, 1) := by decide +kernel
theorem dL_law_552 : decode cL_law 552 = .ok (.iadd, 1) := by decide +kernel
theorem dL_law_553 : decode cL_law 553 = .ok (.iaload, 1) := by decide +kernel
theorem dL_law_554 : decode cL_law 554 = .ok (.aload_n 0, 1) := by decide +kernel
theorem dL_law_555 : decode cL_law 555 = .ok (.iload_n 3, 1) := by decide +kernel
theorem dL_law_556 : decode cL_law 556 = .ok (.iconst 3, 1) := by decide +kernel
theorem dL_law_557 : decode cL_law 557 = .ok (.iadd, 1) := by decide +kernel
theorem dL_law_558 : decode cL_law 558 = .ok (.iaload, 1) := by decide +kernel
theorem dL_law_559 : decode cL_law 559 = .ok (.invokevirtual 86, 3) := by decide +kernel
theorem dL_law_562 : decode cL_law 562 = .ok (.if_icmp .eq 272, 3) := by decide +kernel
theorem dL_law_565 : decode cL_law 565 = .ok (.iconst 0, 1) := by decide +kernel
theorem dL_law_566 : decode cL_law 566 = .ok (.ireturn, 1) := by decide +kernel
theorem dL_law_567 : decode cL_law 567 = .ok (.aload_n 1, 1) := by decide +kernel
theorem dL_law_568 : decode cL_law 568 = .ok (.aload_n 0, 1) := by decide +kernel
theorem dL_law_569 : decode cL_law 569 = .ok (.iload_n 3, 1) := by decide +kernel
theorem dL_law_570 : decode cL_law 570 = .ok (.iconst 1, 1) := by decide +kernel
theorem dL_law_571 : decode cL_law 571 = .ok (.iadd, 1) := by decide +kernel
theorem dL_law_572 : decode cL_law 572 = .ok (.iaload, 1) := by decide +kernel
theorem dL_law_573 : decode cL_law 573 = .ok (.aload_n 0, 1) := by decide +kernel
theorem dL_law_574 : decode cL_law 574 = .ok (.iload_n 3, 1) := by decide +kernel
theorem dL_law_575 : decode cL_law 575 = .ok (.iconst 2, 1) := by decide +kernel
theorem dL_law_576 : decode cL_law 576 = .ok (.iadd, 1) := by decide +kernel
theorem dL_law_577 : decode cL_law 577 = .ok (.iaload, 1) := by decide +kernel
theorem dL_law_578 : decode cL_law 578 = .ok (.invokevirtual 87, 3) := by decide +kernel
theorem dL_law_581 : decode cL_law 581 = .ok (.aload_n 2, 1) := by decide +kernel
theorem dL_law_582 : decode cL_law 582 = .ok (.aload_n 0, 1) := by decide +kernel
theorem dL_law_583 : decode cL_law 583 = .ok (.iload_n 3, 1) := by decide +kernel
theorem dL_law_584 : decode cL_law 584 = .ok (.iconst 1, 1) := by decide +kernel
theorem dL_law_585 : decode cL_law 585 = .ok (.iadd, 1) := by decide +kernel
theorem dL_law_586 : decode cL_law 586 = .ok (.iaload, 1) := by decide +kernel
theorem dL_law_587 : decode cL_law 587 = .ok (.aload_n 0, 1) := by decide +kernel
theorem dL_law_588 : decode cL_law 588 = .ok (.iload_n 3, 1) := by decide +kernel
theorem dL_law_589 : decode cL_law 589 = .ok (.iconst 2, 1) := by decide +kernel
theorem dL_law_590 : decode cL_law 590 = .ok (.iadd, 1) := by decide +kernel
theorem dL_law_591 : decode cL_law 591 = .ok (.iaload, 1) := by decide +kernel
theorem dL_law_592 : decode cL_law 592 = .ok (.invokevirtual 90, 3) := by decide +kernel
theorem dL_law_595 : decode cL_law 595 = .ok (.if_icmp .eq 239, 3) := by decide +kernel
theorem dL_law_598 : decode cL_law 598 = .ok (.iconst 0, 1) := by decide +kernel
theorem dL_law_599 : decode cL_law 599 = .ok (.ireturn, 1) := by decide +kernel
theorem dL_law_600 : decode cL_law 600 = .ok (.aload_n 1, 1) := by decide +kernel
theorem dL_law_601 : decode cL_law 601 = .ok (.invokevirtual 91, 3) := by decide +kernel
theorem dL_law_604 : decode cL_law 604 = .ok (.aload_n 2, 1) := by decide +kernel
theorem dL_law_605 : decode cL_law 605 = .ok (.invokevirtual 94, 3) := by decide +kernel
theorem dL_law_608 : decode cL_law 608 = .ok (.if_icmp .eq 226, 3) := by decide +kernel
theorem dL_law_611 : decode cL_law 611 = .ok (.iconst 0, 1) := by decide +kernel
theorem dL_law_612 : decode cL_law 612 = .ok (.ireturn, 1) := by decide +kernel
theorem dL_law_613 : decode cL_law 613 = .ok (.aload_n 1, 1) := by decide +kernel
theorem dL_law_614 : decode cL_law 614 = .ok (.aload_n 0, 1) := by decide +kernel
theorem dL_law_615 : decode cL_law 615 = .ok (.iload_n 3, 1) := by decide +kernel
theorem dL_law_616 : decode cL_law 616 = .ok (.iconst 1, 1) := by decide +kernel
theorem dL_law_617 : decode cL_law 617 = .ok (.iadd, 1) := by decide +kernel
theorem dL_law_618 : decode cL_law 618 = .ok (.iaload, 1) := by decide +kernel
theorem dL_law_619 : decode cL_law 619 = .ok (.aload_n 0, 1) := by decide +kernel
theorem dL_law_620 : decode cL_law 620 = .ok (.iload_n 3, 1) := by decide +kernel
theorem dL_law_621 : decode cL_law 621 = .ok (.iconst 2, 1) := by decide +kernel
theorem dL_law_622 : decode cL_law 622 = .ok (.iadd, 1) := by decide +kernel
theorem dL_law_623 : decode cL_law 623 = .ok (.iaload, 1) := by decide +kernel
theorem dL_law_624 : decode cL_law 624 = .ok (.invokevirtual 95, 3) := by decide +kernel
theorem dL_law_627 : decode cL_law 627 = .ok (.aload_n 2, 1) := by decide +kernel
theorem dL_law_628 : decode cL_law 628 = .ok (.aload_n 0, 1) := by decide +kernel
theorem dL_law_629 : decode cL_law 629 = .ok (.iload_n 3, 1) := by decide +kernel
theorem dL_law_630 : decode cL_law 630 = .ok (.iconst 1, 1) := by decide +kernel
theorem dL_law_631 : decode cL_law 631 = .ok (.iadd, 1) := by decide +kernel
theorem dL_law_632 : decode cL_law 632 = .ok (.iaload, 1) := by decide +kernel
theorem dL_law_633 : decode cL_law 633 = .ok (.aload_n 0, 1) := by decide +kernel
theorem dL_law_634 : decode cL_law 634 = .ok (.iload_n 3, 1) := by decide +kernel
theorem dL_law_635 : decode cL_law 635 = .ok (.iconst 2, 1) := by decide +kernel
theorem dL_law_636 : decode cL_law 636 = .ok (.iadd, 1) := by decide +kernel
theorem dL_law_637 : decode cL_law 637 = .ok (.iaload, 1) := by decide +kernel
theorem dL_law_638 : decode cL_law 638 = .ok (.invokevirtual 98, 3) := by decide +kernel
theorem dL_law_641 : decode cL_law 641 = .ok (.if_icmp .eq 193, 3) := by decide +kernel
theorem dL_law_644 : decode cL_law 644 = .ok (.iconst 0, 1) := by decide +kernel
theorem dL_law_645 : decode cL_law 645 = .ok (.ireturn, 1) := by decide +kernel
theorem dL_law_646 : decode cL_law 646 = .ok (.aload_n 1, 1) := by decide +kernel
theorem dL_law_647 : decode cL_law 647 = .ok (.aload_n 0, 1) := by decide +kernel
theorem dL_law_648 : decode cL_law 648 = .ok (.iload_n 3, 1) := by decide +kernel
theorem dL_law_649 : decode cL_law 649 = .ok (.iconst 1, 1) := by decide +kernel
theorem dL_law_650 : decode cL_law 650 = .ok (.iadd, 1) := by decide +kernel
theorem dL_law_651 : decode cL_law 651 = .ok (.iaload, 1) := by decide +kernel
theorem dL_law_652 : decode cL_law 652 = .ok (.aload_n 0, 1) := by decide +kernel
theorem dL_law_653 : decode cL_law 653 = .ok (.iload_n 3, 1) := by decide +kernel
theorem dL_law_654 : decode cL_law 654 = .ok (.iconst 2, 1) := by decide +kernel
theorem dL_law_655 : decode cL_law 655 = .ok (.iadd, 1) := by decide +kernel
theorem dL_law_656 : decode cL_law 656 = .ok (.iaload, 1) := by decide +kernel
theorem dL_law_657 : decode cL_law 657 = .ok (.aload_n 0, 1) := by decide +kernel
theorem dL_law_658 : decode cL_law 658 = .ok (.iload_n 3, 1) := by decide +kernel
theorem dL_law_659 : decode cL_law 659 = .ok (.iconst 3, 1) := by decide +kernel
theorem dL_law_660 : decode cL_law 660 = .ok (.iadd, 1) := by decide +kernel
theorem dL_law_661 : decode cL_law 661 = .ok (.iaload, 1) := by decide +kernel
theorem dL_law_662 : decode cL_law 662 = .ok (.aload_n 0, 1) := by decide +kernel
theorem dL_law_663 : decode cL_law 663 = .ok (.iload_n 3, 1) := by decide +kernel
theorem dL_law_664 : decode cL_law 664 = .ok (.iconst 4, 1) := by decide +kernel
theorem dL_law_665 : decode cL_law 665 = .ok (.iadd, 1) := by decide +kernel
theorem dL_law_666 : decode cL_law 666 = .ok (.iaload, 1) := by decide +kernel
theorem dL_law_667 : decode cL_law 667 = .ok (.aload_n 0, 1) := by decide +kernel
theorem dL_law_668 : decode cL_law 668 = .ok (.iload_n 3, 1) := by decide +kernel
theorem dL_law_669 : decode cL_law 669 = .ok (.iconst 5, 1) := by decide +kernel
theorem dL_law_670 : decode cL_law 670 = .ok (.iadd, 1) := by decide +kernel
theorem dL_law_671 : decode cL_law 671 = .ok (.iaload, 1) := by decide +kernel
theorem dL_law_672 : decode cL_law 672 = .ok (.invokevirtual 99, 3) := by decide +kernel
theorem dL_law_675 : decode cL_law 675 = .ok (.aload_n 2, 1) := by decide +kernel
theorem dL_law_676 : decode cL_law 676 = .ok (.aload_n 0, 1) := by decide +kernel
theorem dL_law_677 : decode cL_law 677 = .ok (.iload_n 3, 1) := by decide +kernel
theorem dL_law_678 : decode cL_law 678 = .ok (.iconst 1, 1) := by decide +kernel
theorem dL_law_679 : decode cL_law 679 = .ok (.iadd, 1) := by decide +kernel
theorem dL_law_680 : decode cL_law 680 = .ok (.iaload, 1) := by decide +kernel
theorem dL_law_681 : decode cL_law 681 = .ok (.aload_n 0, 1) := by decide +kernel
theorem dL_law_682 : decode cL_law 682 = .ok (.iload_n 3, 1) := by decide +kernel
theorem dL_law_683 : decode cL_law 683 = .ok (.iconst 2, 1) := by decide +kernel
theorem dL_law_684 : decode cL_law 684 = .ok (.iadd, 1) := by decide +kernel
theorem dL_law_685 : decode cL_law 685 = .ok (.iaload, 1) := by decide +kernel
theorem dL_law_686 : decode cL_law 686 = .ok (.aload_n 0, 1) := by decide +kernel
theorem dL_law_687 : decode cL_law 687 = .ok (.iload_n 3, 1) := by decide +kernel
theorem dL_law_688 : decode cL_law 688 = .ok (.iconst 3, 1) := by decide +kernel
theorem dL_law_689 : decode cL_law 689 = .ok (.iadd, 1) := by decide +kernel
theorem dL_law_690 : decode cL_law 690 = .ok (.iaload, 1) := by decide +kernel
theorem dL_law_691 : decode cL_law 691 = .ok (.aload_n 0, 1) := by decide +kernel
theorem dL_law_692 : decode cL_law 692 = .ok (.iload_n 3, 1) := by decide +kernel
theorem dL_law_693 : decode cL_law 693 = .ok (.iconst 4, 1) := by decide +kernel
theorem dL_law_694 : decode cL_law 694 = .ok (.iadd, 1) := by decide +kernel
theorem dL_law_695 : decode cL_law 695 = .ok (.iaload, 1) := by decide +kernel
theorem dL_law_696 : decode cL_law 696 = .ok (.aload_n 0, 1) := by decide +kernel
theorem dL_law_697 : decode cL_law 697 = .ok (.iload_n 3, 1) := by decide +kernel
theorem dL_law_698 : decode cL_law 698 = .ok (.iconst 5, 1) := by decide +kernel
theorem dL_law_699 : decode cL_law 699 = .ok (.iadd, 1) := by decide +kernel
theorem dL_law_700 : decode cL_law 700 = .ok (.iaload, 1) := by decide +kernel
theorem dL_law_701 : decode cL_law 701 = .ok (.invokevirtual 103, 3) := by decide +kernel
theorem dL_law_704 : decode cL_law 704 = .ok (.if_icmp .eq 130, 3) := by decide +kernel
theorem dL_law_707 : decode cL_law 707 = .ok (.iconst 0, 1) := by decide +kernel
theorem dL_law_708 : decode cL_law 708 = .ok (.ireturn, 1) := by decide +kernel
theorem dL_law_709 : decode cL_law 709 = .ok (.aload_n 1, 1) := by decide +kernel
theorem dL_law_710 : decode cL_law 710 = .ok (.aload_n 0, 1) := by decide +kernel
theorem dL_law_711 : decode cL_law 711 = .ok (.iload_n 3, 1) := by decide +kernel
theorem dL_law_712 : decode cL_law 712 = .ok (.iconst 1, 1) := by decide +kernel
theorem dL_law_713 : decode cL_law 713 = .ok (.iadd, 1) := by decide +kernel
theorem dL_law_714 : decode cL_law 714 = .ok (.iaload, 1) := by decide +kernel
theorem dL_law_715 : decode cL_law 715 = .ok (.invokevirtual 104, 3) := by decide +kernel
theorem dL_law_718 : decode cL_law 718 = .ok (.aload_n 2, 1) := by decide +kernel
theorem dL_law_719 : decode cL_law 719 = .ok (.aload_n 0, 1) := by decide +kernel
theorem dL_law_720 : decode cL_law 720 = .ok (.iload_n 3, 1) := by decide +kernel
theorem dL_law_721 : decode cL_law 721 = .ok (.iconst 1, 1) := by decide +kernel
theorem dL_law_722 : decode cL_law 722 = .ok (.iadd, 1) := by decide +kernel
theorem dL_law_723 : decode cL_law 723 = .ok (.iaload, 1) := by decide +kernel
theorem dL_law_724 : decode cL_law 724 = .ok (.invokevirtual 107, 3) := by decide +kernel
theorem dL_law_727 : decode cL_law 727 = .ok (.if_icmp .eq 107, 3) := by decide +kernel
theorem dL_law_730 : decode cL_law 730 = .ok (.iconst 0, 1) := by decide +kernel
theorem dL_law_731 : decode cL_law 731 = .ok (.ireturn, 1) := by decide +kernel
theorem dL_law_732 : decode cL_law 732 = .ok (.aload_n 1, 1) := by decide +kernel
theorem dL_law_733 : decode cL_law 733 = .ok (.invokevirtual 108, 3) := by decide +kernel
theorem dL_law_736 : decode cL_law 736 = .ok (.aload_n 2, 1) := by decide +kernel
theorem dL_law_737 : decode cL_law 737 = .ok (.invokevirtual 111, 3) := by decide +kernel
theorem dL_law_740 : decode cL_law 740 = .ok (.if_icmp .eq 94, 3) := by decide +kernel
theorem dL_law_743 : decode cL_law 743 = .ok (.iconst 0, 1) := by decide +kernel
theorem dL_law_744 : decode cL_law 744 = .ok (.ireturn, 1) := by decide +kernel
theorem dL_law_745 : decode cL_law 745 = .ok (.aload_n 1, 1) := by decide +kernel
theorem dL_law_746 : decode cL_law 746 = .ok (.aload_n 0, 1) := by decide +kernel
theorem dL_law_747 : decode cL_law 747 = .ok (.iload_n 3, 1) := by decide +kernel
theorem dL_law_748 : decode cL_law 748 = .ok (.iconst 1, 1) := by decide +kernel
theorem dL_law_749 : decode cL_law 749 = .ok (.iadd, 1) := by decide +kernel
theorem dL_law_750 : decode cL_law 750 = .ok (.iaload, 1) := by decide +kernel
theorem dL_law_751 : decode cL_law 751 = .ok (.invokevirtual 112, 3) := by decide +kernel
theorem dL_law_754 : decode cL_law 754 = .ok (.aload_n 2, 1) := by decide +kernel
theorem dL_law_755 : decode cL_law 755 = .ok (.aload_n 0, 1) := by decide +kernel
theorem dL_law_756 : decode cL_law 756 = .ok (.iload_n 3, 1) := by decide +kernel
theorem dL_law_757 : decode cL_law 757 = .ok (.iconst 1, 1) := by decide +kernel
theorem dL_law_758 : decode cL_law 758 = .ok (.iadd, 1) := by decide +kernel
theorem dL_law_759 : decode cL_law 759 = .ok (.iaload, 1) := by decide +kernel
theorem dL_law_760 : decode cL_law 760 = .ok (.invokevirtual 115, 3) := by decide +kernel
theorem dL_law_763 : decode cL_law 763 = .ok (.if_icmp .eq 71, 3) := by decide +kernel
theorem dL_law_766 : decode cL_law 766 = .ok (.iconst 0, 1) := by decide +kernel
theorem dL_law_767 : decode cL_law 767 = .ok (.ireturn, 1) := by decide +kernel
theorem dL_law_768 : decode cL_law 768 = .ok (.aload_n 1, 1) := by decide +kernel
theorem dL_law_769 : decode cL_law 769 = .ok (.aload_n 0, 1) := by decide +kernel
theorem dL_law_770 : decode cL_law 770 = .ok (.iload_n 3, 1) := by decide +kernel
theorem dL_law_771 : decode cL_law 771 = .ok (.iconst 1, 1) := by decide +kernel
theorem dL_law_772 : decode cL_law 772 = .ok (.iadd, 1) := by decide +kernel
theorem dL_law_773 : decode cL_law 773 = .ok (.iaload, 1) := by decide +kernel
theorem dL_law_774 : decode cL_law 774 = .ok (.aload_n 0, 1) := by decide +kernel
theorem dL_law_775 : decode cL_law 775 = .ok (.iload_n 3, 1) := by decide +kernel
theorem dL_law_776 : decode cL_law 776 = .ok (.iconst 2, 1) := by decide +kernel
theorem dL_law_777 : decode cL_law 777 = .ok (.iadd, 1) := by decide +kernel
theorem dL_law_778 : decode cL_law 778 = .ok (.iaload, 1) := by decide +kernel
theorem dL_law_779 : decode cL_law 779 = .ok (.aload_n 0, 1) := by decide +kernel
theorem dL_law_780 : decode cL_law 780 = .ok (.iload_n 3, 1) := by decide +kernel
theorem dL_law_781 : decode cL_law 781 = .ok (.iconst 3, 1) := by decide +kernel
theorem dL_law_782 : decode cL_law 782 = .ok (.iadd, 1) := by decide +kernel
theorem dL_law_783 : decode cL_law 783 = .ok (.iaload, 1) := by decide +kernel
theorem dL_law_784 : decode cL_law 784 = .ok (.invokevirtual 116, 3) := by decide +kernel
theorem dL_law_787 : decode cL_law 787 = .ok (.aload_n 2, 1) := by decide +kernel
theorem dL_law_788 : decode cL_law 788 = .ok (.aload_n 0, 1) := by decide +kernel
theorem dL_law_789 : decode cL_law 789 = .ok (.iload_n 3, 1) := by decide +kernel
theorem dL_law_790 : decode cL_law 790 = .ok (.iconst 1, 1) := by decide +kernel
theorem dL_law_791 : decode cL_law 791 = .ok (.iadd, 1) := by decide +kernel
theorem dL_law_792 : decode cL_law 792 = .ok (.iaload, 1) := by decide +kernel
theorem dL_law_793 : decode cL_law 793 = .ok (.aload_n 0, 1) := by decide +kernel
theorem dL_law_794 : decode cL_law 794 = .ok (.iload_n 3, 1) := by decide +kernel
theorem dL_law_795 : decode cL_law 795 = .ok (.iconst 2, 1) := by decide +kernel
theorem dL_law_796 : decode cL_law 796 = .ok (.iadd, 1) := by decide +kernel
theorem dL_law_797 : decode cL_law 797 = .ok (.iaload, 1) := by decide +kernel
theorem dL_law_798 : decode cL_law 798 = .ok (.aload_n 0, 1) := by decide +kernel
theorem dL_law_799 : decode cL_law 799 = .ok (.iload_n 3, 1) := by decide +kernel
theorem dL_law_800 : decode cL_law 800 = .ok (.iconst 3, 1) := by decide +kernel
theorem dL_law_801 : decode cL_law 801 = .ok (.iadd, 1) := by decide +kernel
theorem dL_law_802 : decode cL_law 802 = .ok (.iaload, 1) := by decide +kernel
theorem dL_law_803 : decode cL_law 803 = .ok (.invokevirtual 120, 3) := by decide +kernel
theorem dL_law_806 : decode cL_law 806 = .ok (.if_icmp .eq 28, 3) := by decide +kernel
theorem dL_law_809 : decode cL_law 809 = .ok (.iconst 0, 1) := by decide +kernel
theorem dL_law_810 : decode cL_law 810 = .ok (.ireturn, 1) := by decide +kernel
theorem dL_law_811 : decode cL_law 811 = .ok (.aload_n 1, 1) := by decide +kernel
theorem dL_law_812 : decode cL_law 812 = .ok (.aload_n 0, 1) := by decide +kernel
theorem dL_law_813 : decode cL_law 813 = .ok (.iload_n 3, 1) := by decide +kernel
end
section
theorem dL_law_814 : decode cL_law 814 = .ok (.iconst 1, 1) := by decide +kernel
theorem dL_law_815 : decode cL_law 815 = .ok (.iadd, 1) := by decide +kernel
theorem dL_law_816 : decode cL_law 816 = .ok (.iaload, 1) := by decide +kernel
theorem dL_law_817 : decode cL_law 817 = .ok (.invokevirtual 121, 3) := by decide +kernel
theorem dL_law_820 : decode cL_law 820 = .ok (.aload_n 2, 1) := by decide +kernel
theorem dL_law_821 : decode cL_law 821 = .ok (.aload_n 0, 1) := by decide +kernel
theorem dL_law_822 : decode cL_law 822 = .ok (.iload_n 3, 1) := by decide +kernel
theorem dL_law_823 : decode cL_law 823 = .ok (.iconst 1, 1) := by decide +kernel
theorem dL_law_824 : decode cL_law 824 = .ok (.iadd, 1) := by decide +kernel
theorem dL_law_825 : decode cL_law 825 = .ok (.iaload, 1) := by decide +kernel
theorem dL_law_826 : decode cL_law 826 = .ok (.invokevirtual 124, 3) := by decide +kernel
theorem dL_law_829 : decode cL_law 829 = .ok (.if_icmp .eq 5, 3) := by decide +kernel
theorem dL_law_832 : decode cL_law 832 = .ok (.iconst 0, 1) := by decide +kernel
theorem dL_law_833 : decode cL_law 833 = .ok (.ireturn, 1) := by decide +kernel
theorem dL_law_834 : decode cL_law 834 = .ok (.iinc 3 6, 3) := by decide +kernel
theorem dL_law_837 : decode cL_law 837 = .ok (.goto (-809), 3) := by decide +kernel
theorem dL_law_840 : decode cL_law 840 = .ok (.iconst 1, 1) := by decide +kernel
theorem dL_law_841 : decode cL_law 841 = .ok (.ireturn, 1) := by decide +kernel
end
section
-- PURE WORDS: a state is its whole numbers (S.1 k) and its rows (S.2 k)
abbrev St : Type := (Nat → Int32) × (Nat → Nat → Int32)
def S0 : St := (fun _ => 0, fun _ _ => 0)
def pF (S : St) (k : Nat) (v : Int32) : St := (upd S.1 k v, S.2)
def pA (S : St) (k : Nat) (f : Nat → Int32) : St := (S.1, fun j => if j = k then f else S.2 j)
def inB (i : Int32) (n : Nat) : Bool := !(decide (i < 0) || decide (n ≤ i.toNatClampNeg))
theorem inB_in {i : Int32} {n : Nat} (h : inB i n = true) : vp_in i n := by
  unfold inB at h
  unfold vp_in
  simp at h
  intro hc
  rcases hc with hc | hc
  · exact absurd hc (by simpa using h.1)
  · exact absurd hc (by omega)
def rd (f : Nat → Int32) (n : Nat) (i : Int32) : Option Int32 := if inB i n = true then some (f i.toNatClampNeg) else none
def wr (S : St) (k n : Nat) (i x : Int32) : Option St := if inB i n = true then some (pA S k (upd (S.2 k) i.toNatClampNeg x)) else none
def lett {α β : Type} (a : α) (f : α → β) : β := f a
theorem rd_some {α : Type} {f : Nat → Int32} {n : Nat} {i : Int32} {K : Int32 → Option α} {r : α} (h : (rd f n i).bind K = some r) : vp_in i n ∧ K (f i.toNatClampNeg) = some r := by
  unfold rd at h
  by_cases hb : inB i n = true
  · rw [if_pos hb] at h
    exact ⟨inB_in hb, h⟩
  · rw [if_neg hb] at h
    cases h
theorem wr_some {α : Type} {S : St} {k n : Nat} {i x : Int32} {K : St → Option α} {r : α} (h : (wr S k n i x).bind K = some r) : vp_in i n ∧ K (pA S k (upd (S.2 k) i.toNatClampNeg x)) = some r := by
  unfold wr at h
  by_cases hb : inB i n = true
  · rw [if_pos hb] at h
    exact ⟨inB_in hb, h⟩
  · rw [if_neg hb] at h
    cases h
theorem bd_some {α β : Type} {o : Option β} {K : β → Option α} {r : α} (h : o.bind K = some r) : ∃ v, o = some v ∧ K v = some r := by
  cases o with
  | none => cases h
  | some v => exact ⟨v, rfl, h⟩
def loop0 {α : Type} (b : (St → Option α) → St → Option α) : Nat → St → Option α
  | 0, _ => none
  | n + 1, S => b (loop0 b n) S
def loop1 {α T1 : Type} (b : (St → T1 → Option α) → St → T1 → Option α) : Nat → St → T1 → Option α
  | 0, _, _ => none
  | n + 1, S, x => b (loop1 b n) S x
def loop2 {α T1 T2 : Type} (b : (St → T1 → T2 → Option α) → St → T1 → T2 → Option α) : Nat → St → T1 → T2 → Option α
  | 0, _, _, _ => none
  | n + 1, S, x, y => b (loop2 b n) S x y
def loop3 {α T1 T2 T3 : Type} (b : (St → T1 → T2 → T3 → Option α) → St → T1 → T2 → T3 → Option α) : Nat → St → T1 → T2 → T3 → Option α
  | 0, _, _, _, _ => none
  | n + 1, S, x, y, z => b (loop3 b n) S x y z
def loop4 {α T1 T2 T3 T4 : Type} (b : (St → T1 → T2 → T3 → T4 → Option α) → St → T1 → T2 → T3 → T4 → Option α) : Nat → St → T1 → T2 → T3 → T4 → Option α
  | 0, _, _, _, _, _ => none
  | n + 1, S, x, y, z, u => b (loop4 b n) S x y z u
-- WORDS OF THE TABLES: one list for every method
def big : List Cond := lw_tbl.filter goodWord
theorem big_of {w : Cond} (i : Nat) (h : lw_tbl[i]? = some w) (hg : goodWord w = true) : w ∈ big := List.mem_filter.mpr ⟨List.mem_of_getElem? h, hg⟩
theorem big_good : GoodIn big big := fun w h => ⟨h, good_of_word (List.mem_filter.mp h).2⟩
theorem big_cons {x : Cond} (h : x ∈ big) {ws : List Cond} (k : ∀ w ∈ ws, w ∈ big) : ∀ w ∈ x :: ws, w ∈ big := fun w hw => (List.mem_cons.mp hw).elim (fun e => e ▸ h) (k w)
theorem big_sub {ws : List Cond} (k : ∀ w ∈ ws, w ∈ big) : GoodIn big ws := fun w h => big_good w (k w h)
-- THE WORLD OF A METHOD: a function of the state, its addresses fixed
def Aw (w : St → va_W) (sz : Nat) : Nat → Prop := va_A (w S0) sz
def Flat (w : St → va_W) : Prop := ∀ S, (w S).map (fun q => q.1) = (w S0).map (fun q => q.1)
theorem fl_get {w : St → va_W} (h : Flat w) {S : St} {k a : Nat} {e : va_E} (hk : (w S)[k]? = some (a, e)) : ∃ e', (w S0)[k]? = some (a, e') := by
  have h1 : ((w S).map (fun q => q.1))[k]? = some a := by rw [List.getElem?_map, hk]; rfl
  rw [h S, List.getElem?_map] at h1
  cases h2 : (w S0)[k]? with
  | none => rw [h2] at h1; cases h1
  | some x =>
    rw [h2] at h1
    obtain ⟨a', e'⟩ := x
    cases h1
    exact ⟨e', rfl⟩
theorem fl_get0 {w : St → va_W} (h : Flat w) (S : St) {k a : Nat} {e : va_E} (hk : (w S0)[k]? = some (a, e)) : ∃ e', (w S)[k]? = some (a, e') := by
  have h1 : ((w S0).map (fun q => q.1))[k]? = some a := by rw [List.getElem?_map, hk]; rfl
  rw [← h S, List.getElem?_map] at h1
  cases h2 : (w S)[k]? with
  | none => rw [h2] at h1; cases h1
  | some x =>
    rw [h2] at h1
    obtain ⟨a', e'⟩ := x
    cases h1
    exact ⟨e', rfl⟩
theorem fl_D {w : St → va_W} (h : Flat w) {A : Nat → Prop} {S : St} (hD : va_D A (w S)) (S' : St) : va_D A (w S') := by
  have back : ∀ {k : Nat} {q : Nat × va_E}, (w S')[k]? = some q → ∃ e', (w S)[k]? = some (q.1, e') := by
    intro k q hq
    obtain ⟨a, e⟩ := q
    obtain ⟨e0, h0⟩ := fl_get h hq
    exact fl_get0 h S h0
  refine ⟨fun i j p q hi hj e => ?_, fun k q hk => ?_⟩
  · obtain ⟨e1, h1⟩ := back hi
    obtain ⟨e2, h2⟩ := back hj
    exact hD.1 i j _ _ h1 h2 e
  · obtain ⟨e1, h1⟩ := back hk
    exact hD.2 k (q.1, e1) h1
theorem fl_A {w : St → va_W} (h : Flat w) {A : Nat → Prop} {S : St} (hD : va_D A (w S)) {s0 sz : Nat} (hA : ∀ q, s0 ≤ q → A q) (hs : s0 ≤ sz) : ∀ q, Aw w sz q → A q := by
  intro q hq
  rcases hq with ⟨k, e, hk⟩ | hq
  · obtain ⟨e', h'⟩ := fl_get0 h S hk
    exact hD.2 k _ h'
  · exact hA q (Nat.le_trans hs hq)
theorem fl_Aw {w : St → va_W} (h : Flat w) {B : Nat → Prop} {S : St} (hD : va_D B (w S)) (sz : Nat) (S' : St) : va_D (Aw w sz) (w S') := by
  refine fl_D h (S := S) ⟨hD.1, fun k q hk => ?_⟩ S'
  obtain ⟨a, e⟩ := q
  obtain ⟨e0, h0⟩ := fl_get h hk
  exact Or.inl ⟨k, e0, h0⟩
abbrev tyL (cI cB cZ : ClassId) : List (ClassId × FieldType) := [(cI, .int), (cB, .byte), (cZ, .boolean)]
abbrev TY : Type := List (ClassId × FieldType)
/-- what a method stands on at its entry: the machine, its code, the tables' words, the kinds, the world's addresses -/
def Ok (p : Program) (s : State) (m : MethodId) (args : Array Value) (c : Code) (cc : ByteArray) (nL : Nat) (own : String) (D : va_G) (tys : TY) (A : Nat → Prop) (w : St → va_W) : Prop :=
  p.tables.exec = Jvm.exec ∧ c.code = cc ∧ c.maxLocals = nL ∧ s.vm.findClass own = some m.cls ∧ (∀ x ∈ big, x.before args s = true) ∧ va_K D vwCl tys s ∧ (∀ S, va_D A (w S)) ∧ (∀ q, s.heap.size ≤ q → A q) ∧ Flat w
/-- the machine at a place of a method, its world holding the state S, comes to Q -/
def G (p : Program) (l : Launch) (e : Env) (R : Room) (s : State) (m : MethodId) (args : Array Value) (below : List Frame) (meth : Method) (c : Code) (kc ks : Nat) (Q : State → Prop) (nL : Nat) (D : va_G) (A : Nat → Prop) (w : St → va_W) (S : St) (pc : Nat) (lv : List (Nat × Value)) (st : List Value) : Prop :=
  ∀ (H : Heap) (locs : List Loc) (ls : Array Slot), va_P D vwCl (w S) H → va_S A s.heap H locs → lv_has ls nL lv → W p l e R s m args below meth c H locs kc ks Q (F0 m pc ls st)
section GR
variable {p : Program} {l : Launch} {e : Env} {R : Room} {s : State} {m : MethodId} {args : Array Value} {below : List Frame} {meth : Method} {c : Code} {kc ks : Nat} {Q : State → Prop} {nL : Nat} {D : va_G} {A : Nat → Prop} {w : St → va_W} {S : St} {lv lv' : List (Nat × Value)} {st : List Value} {cc : ByteArray} {own : String} {tys : TY} {pc : Nat} {α : Type} {res : α}
theorem g_sub (ks' : List Nat) (h : lv_pick lv ks' = lv') (k : G p l e R s m args below meth c kc ks Q nL D A w S pc lv' st) : G p l e R s m args below meth c kc ks Q nL D A w S pc lv st :=
  fun H locs ls hP hS hl => k H locs ls hP hS (lv_sub hl ks' h)
theorem g_iconst (pc' : Nat) (v : Int32) (K : Ok p s m args c cc nL own D tys A w) {n : Int} (hd : decode cc pc = .ok (.iconst n, 1)) (hp : pc + 1 = pc') (hv : Int32.ofInt n = v) (k : G p l e R s m args below meth c kc ks Q nL D A w S pc' lv (.int v :: st)) : G p l e R s m args below meth c kc ks Q nL D A w S pc lv st := by
  subst hp
  exact fun H locs ls hP hS hl => lv_iconst K.1 K.2.1 hd hv (k H locs ls hP hS hl)
theorem g_bipush (pc' : Nat) (v : Int32) (K : Ok p s m args c cc nL own D tys A w) {n : Int} (hd : decode cc pc = .ok (.bipush n, 2)) (hp : pc + 2 = pc') (hv : (Int8.ofInt n).toInt32 = v) (k : G p l e R s m args below meth c kc ks Q nL D A w S pc' lv (.int v :: st)) : G p l e R s m args below meth c kc ks Q nL D A w S pc lv st := by
  subst hp
  exact fun H locs ls hP hS hl => lv_bipush K.1 K.2.1 hd hv (k H locs ls hP hS hl)
theorem g_sipush (pc' : Nat) (v : Int32) (K : Ok p s m args c cc nL own D tys A w) {n : Int} (hd : decode cc pc = .ok (.sipush n, 3)) (hp : pc + 3 = pc') (hv : (Int16.ofInt n).toInt32 = v) (k : G p l e R s m args below meth c kc ks Q nL D A w S pc' lv (.int v :: st)) : G p l e R s m args below meth c kc ks Q nL D A w S pc lv st := by
  subst hp
  exact fun H locs ls hP hS hl => lv_sipush K.1 K.2.1 hd hv (k H locs ls hP hS hl)
theorem g_lconst (pc' : Nat) (v : Int64) (K : Ok p s m args c cc nL own D tys A w) {n : Fin 2} (hd : decode cc pc = .ok (.lconst n, 1)) (hp : pc + 1 = pc') (hv : Int64.ofNat (n : Nat) = v) (k : G p l e R s m args below meth c kc ks Q nL D A w S pc' lv (.long v :: st)) : G p l e R s m args below meth c kc ks Q nL D A w S pc lv st := by
  subst hp
  exact fun H locs ls hP hS hl => lv_lconst K.1 K.2.1 hd hv (k H locs ls hP hS hl)
theorem g_ldc (pc' : Nat) (v : Int32) (K : Ok p s m args c cc nL own D tys A w) {i : Nat} (hd : decode cc pc = .ok (.ldc i, 2)) (hp : pc + 2 = pc') (hw : Cond.constant own i v ∈ big) (k : G p l e R s m args below meth c kc ks Q nL D A w S pc' lv (.int v :: st)) : G p l e R s m args below meth c kc ks Q nL D A w S pc lv st := by
  subst hp
  exact fun H locs ls hP hS hl => W.ldc (g := F0 m pc ls st) K.1 K.2.1 K.2.2.2.1 (K.2.2.2.2.1 _ hw) rfl hd (k H locs ls hP hS hl)
theorem g_ldc2 (pc' : Nat) (v : Int64) (K : Ok p s m args c cc nL own D tys A w) {i : Nat} (hd : decode cc pc = .ok (.ldc2_w i, 3)) (hp : pc + 3 = pc') (hw : Cond.constantLong own i v ∈ big) (k : G p l e R s m args below meth c kc ks Q nL D A w S pc' lv (.long v :: st)) : G p l e R s m args below meth c kc ks Q nL D A w S pc lv st := by
  subst hp
  exact fun H locs ls hP hS hl => W.ldc2 (g := F0 m pc ls st) K.1 K.2.1 K.2.2.2.1 (K.2.2.2.2.1 _ hw) rfl hd (k H locs ls hP hS hl)
theorem g_iload_n (pc' i : Nat) (K : Ok p s m args c cc nL own D tys A w) {j : Fin 4} {a : Nat} {x : Int32} (hd : decode cc pc = .ok (.iload_n j, 1)) (hp : pc + 1 = pc') (hi : lv[i]? = some (a, .int x)) (hj : (j : Nat) = a) (k : G p l e R s m args below meth c kc ks Q nL D A w S pc' lv (.int x :: st)) : G p l e R s m args below meth c kc ks Q nL D A w S pc lv st := by
  subst hp
  exact fun H locs ls hP hS hl => lv_iload_n K.1 K.2.1 hd hj (lv_at hl i hi) (k H locs ls hP hS hl)
theorem g_iload (pc' i : Nat) (K : Ok p s m args c cc nL own D tys A w) {a : Nat} {x : Int32} (hd : decode cc pc = .ok (.iload a, 2)) (hp : pc + 2 = pc') (hi : lv[i]? = some (a, .int x)) (k : G p l e R s m args below meth c kc ks Q nL D A w S pc' lv (.int x :: st)) : G p l e R s m args below meth c kc ks Q nL D A w S pc lv st := by
  subst hp
  exact fun H locs ls hP hS hl => lv_iload K.1 K.2.1 hd (lv_at hl i hi) (k H locs ls hP hS hl)
theorem g_lload_n (pc' i : Nat) (K : Ok p s m args c cc nL own D tys A w) {j : Fin 4} {a : Nat} {x : Int64} (hd : decode cc pc = .ok (.lload_n j, 1)) (hp : pc + 1 = pc') (hi : lv[i]? = some (a, .long x)) (hj : (j : Nat) = a) (k : G p l e R s m args below meth c kc ks Q nL D A w S pc' lv (.long x :: st)) : G p l e R s m args below meth c kc ks Q nL D A w S pc lv st := by
  subst hp
  exact fun H locs ls hP hS hl => lv_lload_n K.1 K.2.1 hd hj (lv_at hl i hi) (k H locs ls hP hS hl)
theorem g_lload (pc' i : Nat) (K : Ok p s m args c cc nL own D tys A w) {a : Nat} {x : Int64} (hd : decode cc pc = .ok (.lload a, 2)) (hp : pc + 2 = pc') (hi : lv[i]? = some (a, .long x)) (k : G p l e R s m args below meth c kc ks Q nL D A w S pc' lv (.long x :: st)) : G p l e R s m args below meth c kc ks Q nL D A w S pc lv st := by
  subst hp
  exact fun H locs ls hP hS hl => lv_lload K.1 K.2.1 hd (lv_at hl i hi) (k H locs ls hP hS hl)
theorem g_aload_n (pc' i : Nat) (K : Ok p s m args c cc nL own D tys A w) {j : Fin 4} {a x : Nat} (hd : decode cc pc = .ok (.aload_n j, 1)) (hp : pc + 1 = pc') (hi : lv[i]? = some (a, .ref x)) (hj : (j : Nat) = a) (k : G p l e R s m args below meth c kc ks Q nL D A w S pc' lv (.ref x :: st)) : G p l e R s m args below meth c kc ks Q nL D A w S pc lv st := by
  subst hp
  exact fun H locs ls hP hS hl => lv_aload_n K.1 K.2.1 hd hj (lv_at hl i hi) (k H locs ls hP hS hl)
theorem g_istore_n (pc' i : Nat) (K : Ok p s m args c cc nL own D tys A w) {j : Fin 4} {x : Int32} (hd : decode cc pc = .ok (.istore_n j, 1)) (hp : pc + 1 = pc') (hj : (j : Nat) = i) (hn : i < nL) (hl' : (i, Value.int x) :: lv.filter (fun q => !(q.1 == i) && !(q.1 + 1 == i && q.2.category == 2)) = lv') (k : G p l e R s m args below meth c kc ks Q nL D A w S pc' lv' st) : G p l e R s m args below meth c kc ks Q nL D A w S pc lv (.int x :: st) := by
  subst hp
  exact fun H locs ls hP hS hl => lv_istore_n K.1 K.2.1 hd hj hl hn hl' (fun ls' h' => k H locs ls' hP hS h')
theorem g_istore (pc' i : Nat) (K : Ok p s m args c cc nL own D tys A w) {x : Int32} (hd : decode cc pc = .ok (.istore i, 2)) (hp : pc + 2 = pc') (hn : i < nL) (hl' : (i, Value.int x) :: lv.filter (fun q => !(q.1 == i) && !(q.1 + 1 == i && q.2.category == 2)) = lv') (k : G p l e R s m args below meth c kc ks Q nL D A w S pc' lv' st) : G p l e R s m args below meth c kc ks Q nL D A w S pc lv (.int x :: st) := by
  subst hp
  exact fun H locs ls hP hS hl => lv_istore K.1 K.2.1 hd hl hn hl' (fun ls' h' => k H locs ls' hP hS h')
theorem g_lstore_n (pc' i : Nat) (K : Ok p s m args c cc nL own D tys A w) {j : Fin 4} {x : Int64} (hd : decode cc pc = .ok (.lstore_n j, 1)) (hp : pc + 1 = pc') (hj : (j : Nat) = i) (hn : i + 1 < nL) (hl' : (i, Value.long x) :: lv.filter (fun q => !(q.1 == i) && (!(q.1 == i + 1) && !(q.1 + 1 == i && q.2.category == 2))) = lv') (k : G p l e R s m args below meth c kc ks Q nL D A w S pc' lv' st) : G p l e R s m args below meth c kc ks Q nL D A w S pc lv (.long x :: st) := by
  subst hp
  exact fun H locs ls hP hS hl => lv_lstore_n K.1 K.2.1 hd hj hl hn hl' (fun ls' h' => k H locs ls' hP hS h')
theorem g_iinc (pc' i : Nat) (v : Int32) (K : Ok p s m args c cc nL own D tys A w) {a : Nat} {n : Int} {x : Int32} (hd : decode cc pc = .ok (.iinc a n, 3)) (hp : pc + 3 = pc') (hi : lv[i]? = some (a, .int x)) (hv : Int32.ofInt n = v) (hn : a < nL) (hl' : (a, Value.int (x + v)) :: lv.filter (fun q => !(q.1 == a) && !(q.1 + 1 == a && q.2.category == 2)) = lv') (k : G p l e R s m args below meth c kc ks Q nL D A w S pc' lv' st) : G p l e R s m args below meth c kc ks Q nL D A w S pc lv st := by
  subst hp
  subst hv
  exact fun H locs ls hP hS hl => lv_iinc K.1 K.2.1 hd hl hi rfl hn hl' (fun ls' h' => k H locs ls' hP hS h')
theorem g_iadd (pc' : Nat) (K : Ok p s m args c cc nL own D tys A w) {x y : Int32} (hd : decode cc pc = .ok (.iadd, 1)) (hp : pc + 1 = pc') (k : G p l e R s m args below meth c kc ks Q nL D A w S pc' lv (.int (x + y) :: st)) : G p l e R s m args below meth c kc ks Q nL D A w S pc lv (.int y :: .int x :: st) := by
  subst hp
  exact fun H locs ls hP hS hl => lv_iadd K.1 K.2.1 hd (k H locs ls hP hS hl)
theorem g_isub (pc' : Nat) (K : Ok p s m args c cc nL own D tys A w) {x y : Int32} (hd : decode cc pc = .ok (.isub, 1)) (hp : pc + 1 = pc') (k : G p l e R s m args below meth c kc ks Q nL D A w S pc' lv (.int (x - y) :: st)) : G p l e R s m args below meth c kc ks Q nL D A w S pc lv (.int y :: .int x :: st) := by
  subst hp
  exact fun H locs ls hP hS hl => lv_isub K.1 K.2.1 hd (k H locs ls hP hS hl)
theorem g_imul (pc' : Nat) (K : Ok p s m args c cc nL own D tys A w) {x y : Int32} (hd : decode cc pc = .ok (.imul, 1)) (hp : pc + 1 = pc') (k : G p l e R s m args below meth c kc ks Q nL D A w S pc' lv (.int (x * y) :: st)) : G p l e R s m args below meth c kc ks Q nL D A w S pc lv (.int y :: .int x :: st) := by
  subst hp
  exact fun H locs ls hP hS hl => lv_imul K.1 K.2.1 hd (k H locs ls hP hS hl)
theorem g_iand (pc' : Nat) (K : Ok p s m args c cc nL own D tys A w) {x y : Int32} (hd : decode cc pc = .ok (.iand, 1)) (hp : pc + 1 = pc') (k : G p l e R s m args below meth c kc ks Q nL D A w S pc' lv (.int (x &&& y) :: st)) : G p l e R s m args below meth c kc ks Q nL D A w S pc lv (.int y :: .int x :: st) := by
  subst hp
  exact fun H locs ls hP hS hl => lv_iand K.1 K.2.1 hd (k H locs ls hP hS hl)
theorem g_idiv (pc' : Nat) (K : Ok p s m args c cc nL own D tys A w) {x y : Int32} (hd : decode cc pc = .ok (.idiv, 1)) (hp : pc + 1 = pc') (hne : ¬ y = 0) (k : G p l e R s m args below meth c kc ks Q nL D A w S pc' lv (.int (x / y) :: st)) : G p l e R s m args below meth c kc ks Q nL D A w S pc lv (.int y :: .int x :: st) := by
  subst hp
  exact fun H locs ls hP hS hl => lv_idiv K.1 K.2.1 hd hne (k H locs ls hP hS hl)
theorem g_ishr (pc' : Nat) (K : Ok p s m args c cc nL own D tys A w) {x y : Int32} (hd : decode cc pc = .ok (.ishr, 1)) (hp : pc + 1 = pc') (k : G p l e R s m args below meth c kc ks Q nL D A w S pc' lv (.int (x >>> (y &&& 31)) :: st)) : G p l e R s m args below meth c kc ks Q nL D A w S pc lv (.int y :: .int x :: st) := by
  subst hp
  exact fun H locs ls hP hS hl => lv_ishr K.1 K.2.1 hd (k H locs ls hP hS hl)
theorem g_ladd (pc' : Nat) (K : Ok p s m args c cc nL own D tys A w) {x y : Int64} (hd : decode cc pc = .ok (.ladd, 1)) (hp : pc + 1 = pc') (k : G p l e R s m args below meth c kc ks Q nL D A w S pc' lv (.long (x + y) :: st)) : G p l e R s m args below meth c kc ks Q nL D A w S pc lv (.long y :: .long x :: st) := by
  subst hp
  exact fun H locs ls hP hS hl => lv_ladd K.1 K.2.1 hd (k H locs ls hP hS hl)
theorem g_lsub (pc' : Nat) (K : Ok p s m args c cc nL own D tys A w) {x y : Int64} (hd : decode cc pc = .ok (.lsub, 1)) (hp : pc + 1 = pc') (k : G p l e R s m args below meth c kc ks Q nL D A w S pc' lv (.long (x - y) :: st)) : G p l e R s m args below meth c kc ks Q nL D A w S pc lv (.long y :: .long x :: st) := by
  subst hp
  exact fun H locs ls hP hS hl => lv_lsub K.1 K.2.1 hd (k H locs ls hP hS hl)
theorem g_lmul (pc' : Nat) (K : Ok p s m args c cc nL own D tys A w) {x y : Int64} (hd : decode cc pc = .ok (.lmul, 1)) (hp : pc + 1 = pc') (k : G p l e R s m args below meth c kc ks Q nL D A w S pc' lv (.long (x * y) :: st)) : G p l e R s m args below meth c kc ks Q nL D A w S pc lv (.long y :: .long x :: st) := by
  subst hp
  exact fun H locs ls hP hS hl => lv_lmul K.1 K.2.1 hd (k H locs ls hP hS hl)
theorem g_lcmp (pc' : Nat) (K : Ok p s m args c cc nL own D tys A w) {x y : Int64} (hd : decode cc pc = .ok (.lcmp, 1)) (hp : pc + 1 = pc') (k : G p l e R s m args below meth c kc ks Q nL D A w S pc' lv (.int (lg_cmp x y) :: st)) : G p l e R s m args below meth c kc ks Q nL D A w S pc lv (.long y :: .long x :: st) := by
  subst hp
  exact fun H locs ls hP hS hl => W.lcmp K.1 K.2.1 hd (k H locs ls hP hS hl)
theorem g_i2l (pc' : Nat) (K : Ok p s m args c cc nL own D tys A w) {x : Int32} (hd : decode cc pc = .ok (.i2l, 1)) (hp : pc + 1 = pc') (k : G p l e R s m args below meth c kc ks Q nL D A w S pc' lv (.long x.toInt64 :: st)) : G p l e R s m args below meth c kc ks Q nL D A w S pc lv (.int x :: st) := by
  subst hp
  exact fun H locs ls hP hS hl => lv_i2l K.1 K.2.1 hd rfl (k H locs ls hP hS hl)
theorem g_i2b (pc' : Nat) (K : Ok p s m args c cc nL own D tys A w) {x : Int32} (hd : decode cc pc = .ok (.i2b, 1)) (hp : pc + 1 = pc') (k : G p l e R s m args below meth c kc ks Q nL D A w S pc' lv (.int x.toInt8.toInt32 :: st)) : G p l e R s m args below meth c kc ks Q nL D A w S pc lv (.int x :: st) := by
  subst hp
  exact fun H locs ls hP hS hl => lv_i2b K.1 K.2.1 hd rfl (k H locs ls hP hS hl)
theorem g_i2c (pc' : Nat) (K : Ok p s m args c cc nL own D tys A w) {x : Int32} (hd : decode cc pc = .ok (.i2c, 1)) (hp : pc + 1 = pc') (k : G p l e R s m args below meth c kc ks Q nL D A w S pc' lv (.int (x.toUInt32 % 65536).toInt32 :: st)) : G p l e R s m args below meth c kc ks Q nL D A w S pc lv (.int x :: st) := by
  subst hp
  exact fun H locs ls hP hS hl => lv_i2c K.1 K.2.1 hd rfl (k H locs ls hP hS hl)
theorem g_dup (pc' : Nat) (K : Ok p s m args c cc nL own D tys A w) {v : Value} (hd : decode cc pc = .ok (.dup, 1)) (hp : pc + 1 = pc') (hc : v.category = 1) (k : G p l e R s m args below meth c kc ks Q nL D A w S pc' lv (v :: v :: st)) : G p l e R s m args below meth c kc ks Q nL D A w S pc lv (v :: st) := by
  subst hp
  exact fun H locs ls hP hS hl => lv_dup K.1 K.2.1 hd hc (k H locs ls hP hS hl)
theorem g_pop (pc' : Nat) (K : Ok p s m args c cc nL own D tys A w) {v : Value} (hd : decode cc pc = .ok (.pop, 1)) (hp : pc + 1 = pc') (hc : v.category = 1) (k : G p l e R s m args below meth c kc ks Q nL D A w S pc' lv st) : G p l e R s m args below meth c kc ks Q nL D A w S pc lv (v :: st) := by
  subst hp
  exact fun H locs ls hP hS hl => lv_pop K.1 K.2.1 hd hc (k H locs ls hP hS hl)
theorem g_dup2 (pc' : Nat) (K : Ok p s m args c cc nL own D tys A w) {v u : Value} (hd : decode cc pc = .ok (.dup2, 1)) (hp : pc + 1 = pc') (hc : v.category = 1) (hc2 : u.category = 1) (k : G p l e R s m args below meth c kc ks Q nL D A w S pc' lv (v :: u :: v :: u :: st)) : G p l e R s m args below meth c kc ks Q nL D A w S pc lv (v :: u :: st) := by
  subst hp
  exact fun H locs ls hP hS hl => lv_dup2_11 K.1 K.2.1 hd hc hc2 (k H locs ls hP hS hl)
theorem g_goto (t : Nat) (K : Ok p s m args c cc nL own D tys A w) {off : Int} (hd : decode cc pc = .ok (.goto off, 3)) (ht : (pc : Int) + off = (t : Int)) (k : G p l e R s m args below meth c kc ks Q nL D A w S t lv st) : G p l e R s m args below meth c kc ks Q nL D A w S pc lv st :=
  fun H locs ls hP hS hl => lv_goto K.1 K.2.1 hd ht (k H locs ls hP hS hl)
theorem g_if_eq (t pc' : Nat) (K : Ok p s m args c cc nL own D tys A w) {x : Int32} {off : Int} {dc : Decidable (x = 0)} {a b : Option α} (hf : @ite _ (x = 0) dc a b = some res) (hd : decode cc pc = .ok (.ifCond .eq off, 3)) (ht : (pc : Int) + off = (t : Int)) (hp : pc + 3 = pc') (ka : a = some res → G p l e R s m args below meth c kc ks Q nL D A w S t lv st) (kb : b = some res → G p l e R s m args below meth c kc ks Q nL D A w S pc' lv st) : G p l e R s m args below meth c kc ks Q nL D A w S pc lv (.int x :: st) := by
  subst hp
  exact fun H locs ls hP hS hl => lv_if_eq K.1 K.2.1 hd ht (fun h => ka (by rw [if_pos h] at hf; exact hf) H locs ls hP hS hl) (fun h => kb (by rw [if_neg h] at hf; exact hf) H locs ls hP hS hl)
theorem g_icmp_eq (t pc' : Nat) (K : Ok p s m args c cc nL own D tys A w) {x y : Int32} {off : Int} {dc : Decidable (x = y)} {a b : Option α} (hf : @ite _ (x = y) dc a b = some res) (hd : decode cc pc = .ok (.if_icmp .eq off, 3)) (ht : (pc : Int) + off = (t : Int)) (hp : pc + 3 = pc') (ka : a = some res → G p l e R s m args below meth c kc ks Q nL D A w S t lv st) (kb : b = some res → G p l e R s m args below meth c kc ks Q nL D A w S pc' lv st) : G p l e R s m args below meth c kc ks Q nL D A w S pc lv (.int y :: .int x :: st) := by
  subst hp
  exact fun H locs ls hP hS hl => lv_icmp_eq K.1 K.2.1 hd ht (fun h => ka (by rw [if_pos h] at hf; exact hf) H locs ls hP hS hl) (fun h => kb (by rw [if_neg h] at hf; exact hf) H locs ls hP hS hl)
theorem g_if_ne (t pc' : Nat) (K : Ok p s m args c cc nL own D tys A w) {x : Int32} {off : Int} {dc : Decidable (x = 0)} {a b : Option α} (hf : @ite _ (x = 0) dc a b = some res) (hd : decode cc pc = .ok (.ifCond .ne off, 3)) (ht : (pc : Int) + off = (t : Int)) (hp : pc + 3 = pc') (ka : a = some res → G p l e R s m args below meth c kc ks Q nL D A w S pc' lv st) (kb : b = some res → G p l e R s m args below meth c kc ks Q nL D A w S t lv st) : G p l e R s m args below meth c kc ks Q nL D A w S pc lv (.int x :: st) := by
  subst hp
  exact fun H locs ls hP hS hl => lv_if_ne K.1 K.2.1 hd ht (fun h => kb (by rw [if_neg h] at hf; exact hf) H locs ls hP hS hl) (fun h => ka (by rw [if_pos h] at hf; exact hf) H locs ls hP hS hl)
theorem g_icmp_ne (t pc' : Nat) (K : Ok p s m args c cc nL own D tys A w) {x y : Int32} {off : Int} {dc : Decidable (x = y)} {a b : Option α} (hf : @ite _ (x = y) dc a b = some res) (hd : decode cc pc = .ok (.if_icmp .ne off, 3)) (ht : (pc : Int) + off = (t : Int)) (hp : pc + 3 = pc') (ka : a = some res → G p l e R s m args below meth c kc ks Q nL D A w S pc' lv st) (kb : b = some res → G p l e R s m args below meth c kc ks Q nL D A w S t lv st) : G p l e R s m args below meth c kc ks Q nL D A w S pc lv (.int y :: .int x :: st) := by
  subst hp
  exact fun H locs ls hP hS hl => lv_icmp_ne K.1 K.2.1 hd ht (fun h => kb (by rw [if_neg h] at hf; exact hf) H locs ls hP hS hl) (fun h => ka (by rw [if_pos h] at hf; exact hf) H locs ls hP hS hl)
theorem g_if_lt (t pc' : Nat) (K : Ok p s m args c cc nL own D tys A w) {x : Int32} {off : Int} {dc : Decidable (x < 0)} {a b : Option α} (hf : @ite _ (x < 0) dc a b = some res) (hd : decode cc pc = .ok (.ifCond .lt off, 3)) (ht : (pc : Int) + off = (t : Int)) (hp : pc + 3 = pc') (ka : a = some res → G p l e R s m args below meth c kc ks Q nL D A w S t lv st) (kb : b = some res → G p l e R s m args below meth c kc ks Q nL D A w S pc' lv st) : G p l e R s m args below meth c kc ks Q nL D A w S pc lv (.int x :: st) := by
  subst hp
  exact fun H locs ls hP hS hl => lv_if_lt K.1 K.2.1 hd ht (fun h => ka (by rw [if_pos h] at hf; exact hf) H locs ls hP hS hl) (fun h => kb (by rw [if_neg h] at hf; exact hf) H locs ls hP hS hl)
theorem g_icmp_lt (t pc' : Nat) (K : Ok p s m args c cc nL own D tys A w) {x y : Int32} {off : Int} {dc : Decidable (x < y)} {a b : Option α} (hf : @ite _ (x < y) dc a b = some res) (hd : decode cc pc = .ok (.if_icmp .lt off, 3)) (ht : (pc : Int) + off = (t : Int)) (hp : pc + 3 = pc') (ka : a = some res → G p l e R s m args below meth c kc ks Q nL D A w S t lv st) (kb : b = some res → G p l e R s m args below meth c kc ks Q nL D A w S pc' lv st) : G p l e R s m args below meth c kc ks Q nL D A w S pc lv (.int y :: .int x :: st) := by
  subst hp
  exact fun H locs ls hP hS hl => lv_icmp_lt K.1 K.2.1 hd ht (fun h => ka (by rw [if_pos h] at hf; exact hf) H locs ls hP hS hl) (fun h => kb (by rw [if_neg h] at hf; exact hf) H locs ls hP hS hl)
theorem g_if_ge (t pc' : Nat) (K : Ok p s m args c cc nL own D tys A w) {x : Int32} {off : Int} {dc : Decidable (0 ≤ x)} {a b : Option α} (hf : @ite _ (0 ≤ x) dc a b = some res) (hd : decode cc pc = .ok (.ifCond .ge off, 3)) (ht : (pc : Int) + off = (t : Int)) (hp : pc + 3 = pc') (ka : a = some res → G p l e R s m args below meth c kc ks Q nL D A w S t lv st) (kb : b = some res → G p l e R s m args below meth c kc ks Q nL D A w S pc' lv st) : G p l e R s m args below meth c kc ks Q nL D A w S pc lv (.int x :: st) := by
  subst hp
  exact fun H locs ls hP hS hl => lv_if_ge K.1 K.2.1 hd ht (fun h => ka (by rw [if_pos h] at hf; exact hf) H locs ls hP hS hl) (fun h => kb (by rw [if_neg h] at hf; exact hf) H locs ls hP hS hl)
theorem g_icmp_ge (t pc' : Nat) (K : Ok p s m args c cc nL own D tys A w) {x y : Int32} {off : Int} {dc : Decidable (y ≤ x)} {a b : Option α} (hf : @ite _ (y ≤ x) dc a b = some res) (hd : decode cc pc = .ok (.if_icmp .ge off, 3)) (ht : (pc : Int) + off = (t : Int)) (hp : pc + 3 = pc') (ka : a = some res → G p l e R s m args below meth c kc ks Q nL D A w S t lv st) (kb : b = some res → G p l e R s m args below meth c kc ks Q nL D A w S pc' lv st) : G p l e R s m args below meth c kc ks Q nL D A w S pc lv (.int y :: .int x :: st) := by
  subst hp
  exact fun H locs ls hP hS hl => lv_icmp_ge K.1 K.2.1 hd ht (fun h => ka (by rw [if_pos h] at hf; exact hf) H locs ls hP hS hl) (fun h => kb (by rw [if_neg h] at hf; exact hf) H locs ls hP hS hl)
theorem g_if_gt (t pc' : Nat) (K : Ok p s m args c cc nL own D tys A w) {x : Int32} {off : Int} {dc : Decidable (0 < x)} {a b : Option α} (hf : @ite _ (0 < x) dc a b = some res) (hd : decode cc pc = .ok (.ifCond .gt off, 3)) (ht : (pc : Int) + off = (t : Int)) (hp : pc + 3 = pc') (ka : a = some res → G p l e R s m args below meth c kc ks Q nL D A w S t lv st) (kb : b = some res → G p l e R s m args below meth c kc ks Q nL D A w S pc' lv st) : G p l e R s m args below meth c kc ks Q nL D A w S pc lv (.int x :: st) := by
  subst hp
  exact fun H locs ls hP hS hl => lv_if_gt K.1 K.2.1 hd ht (fun h => ka (by rw [if_pos h] at hf; exact hf) H locs ls hP hS hl) (fun h => kb (by rw [if_neg h] at hf; exact hf) H locs ls hP hS hl)
theorem g_icmp_gt (t pc' : Nat) (K : Ok p s m args c cc nL own D tys A w) {x y : Int32} {off : Int} {dc : Decidable (y < x)} {a b : Option α} (hf : @ite _ (y < x) dc a b = some res) (hd : decode cc pc = .ok (.if_icmp .gt off, 3)) (ht : (pc : Int) + off = (t : Int)) (hp : pc + 3 = pc') (ka : a = some res → G p l e R s m args below meth c kc ks Q nL D A w S t lv st) (kb : b = some res → G p l e R s m args below meth c kc ks Q nL D A w S pc' lv st) : G p l e R s m args below meth c kc ks Q nL D A w S pc lv (.int y :: .int x :: st) := by
  subst hp
  exact fun H locs ls hP hS hl => lv_icmp_gt K.1 K.2.1 hd ht (fun h => ka (by rw [if_pos h] at hf; exact hf) H locs ls hP hS hl) (fun h => kb (by rw [if_neg h] at hf; exact hf) H locs ls hP hS hl)
theorem g_if_le (t pc' : Nat) (K : Ok p s m args c cc nL own D tys A w) {x : Int32} {off : Int} {dc : Decidable (x ≤ 0)} {a b : Option α} (hf : @ite _ (x ≤ 0) dc a b = some res) (hd : decode cc pc = .ok (.ifCond .le off, 3)) (ht : (pc : Int) + off = (t : Int)) (hp : pc + 3 = pc') (ka : a = some res → G p l e R s m args below meth c kc ks Q nL D A w S t lv st) (kb : b = some res → G p l e R s m args below meth c kc ks Q nL D A w S pc' lv st) : G p l e R s m args below meth c kc ks Q nL D A w S pc lv (.int x :: st) := by
  subst hp
  exact fun H locs ls hP hS hl => lv_if_le K.1 K.2.1 hd ht (fun h => ka (by rw [if_pos h] at hf; exact hf) H locs ls hP hS hl) (fun h => kb (by rw [if_neg h] at hf; exact hf) H locs ls hP hS hl)
theorem g_icmp_le (t pc' : Nat) (K : Ok p s m args c cc nL own D tys A w) {x y : Int32} {off : Int} {dc : Decidable (x ≤ y)} {a b : Option α} (hf : @ite _ (x ≤ y) dc a b = some res) (hd : decode cc pc = .ok (.if_icmp .le off, 3)) (ht : (pc : Int) + off = (t : Int)) (hp : pc + 3 = pc') (ka : a = some res → G p l e R s m args below meth c kc ks Q nL D A w S t lv st) (kb : b = some res → G p l e R s m args below meth c kc ks Q nL D A w S pc' lv st) : G p l e R s m args below meth c kc ks Q nL D A w S pc lv (.int y :: .int x :: st) := by
  subst hp
  exact fun H locs ls hP hS hl => lv_icmp_le K.1 K.2.1 hd ht (fun h => ka (by rw [if_pos h] at hf; exact hf) H locs ls hP hS hl) (fun h => kb (by rw [if_neg h] at hf; exact hf) H locs ls hP hS hl)
theorem g_loop0 {b : (St → Option α) → St → Option α} (lvf : List (Nat × Value)) {N : Nat} (hf : loop0 b N S = some res) (h : ∀ (k : St → Option α) (S : St), (∀ (S : St), k S = some res → G p l e R s m args below meth c kc ks Q nL D A w S pc lvf st) → b k S = some res → G p l e R s m args below meth c kc ks Q nL D A w S pc lvf st) : G p l e R s m args below meth c kc ks Q nL D A w S pc lvf st := by
  induction N generalizing S with
  | zero => cases hf
  | succ n ih => exact h (loop0 b n) S (fun S hk => ih hk) hf
theorem g_join0 {B : (St → Option α) → Option α} {T : St → Option α} (pm : Nat) (lvf : List (Nat × Value)) (stf : List Value) (hf : lett T B = some res) (ht : ∀ (S : St), T S = some res → G p l e R s m args below meth c kc ks Q nL D A w S pm lvf stf) (hb : ∀ k : St → Option α, (∀ (S : St), k S = some res → G p l e R s m args below meth c kc ks Q nL D A w S pm lvf stf) → B k = some res → G p l e R s m args below meth c kc ks Q nL D A w S pc lv st) : G p l e R s m args below meth c kc ks Q nL D A w S pc lv st := hb T ht hf
theorem g_loop1 {T1 : Type} {b : (St → T1 → Option α) → St → T1 → Option α} (lvf : T1 → List (Nat × Value)) {N : Nat} {x1 : T1} (hf : loop1 b N S x1 = some res) (h : ∀ (k : St → T1 → Option α) (S : St) (x1 : T1), (∀ (S : St) (x1 : T1), k S x1 = some res → G p l e R s m args below meth c kc ks Q nL D A w S pc (lvf x1) st) → b k S x1 = some res → G p l e R s m args below meth c kc ks Q nL D A w S pc (lvf x1) st) : G p l e R s m args below meth c kc ks Q nL D A w S pc (lvf x1) st := by
  induction N generalizing S x1 with
  | zero => cases hf
  | succ n ih => exact h (loop1 b n) S x1 (fun S x1 hk => ih hk) hf
theorem g_join1 {T1 : Type} {B : (St → T1 → Option α) → Option α} {T : St → T1 → Option α} (pm : Nat) (lvf : T1 → List (Nat × Value)) (stf : T1 → List Value) (hf : lett T B = some res) (ht : ∀ (S : St) (x1 : T1), T S x1 = some res → G p l e R s m args below meth c kc ks Q nL D A w S pm (lvf x1) (stf x1)) (hb : ∀ k : St → T1 → Option α, (∀ (S : St) (x1 : T1), k S x1 = some res → G p l e R s m args below meth c kc ks Q nL D A w S pm (lvf x1) (stf x1)) → B k = some res → G p l e R s m args below meth c kc ks Q nL D A w S pc lv st) : G p l e R s m args below meth c kc ks Q nL D A w S pc lv st := hb T ht hf
theorem g_loop2 {T1 T2 : Type} {b : (St → T1 → T2 → Option α) → St → T1 → T2 → Option α} (lvf : T1 → T2 → List (Nat × Value)) {N : Nat} {x1 : T1} {x2 : T2} (hf : loop2 b N S x1 x2 = some res) (h : ∀ (k : St → T1 → T2 → Option α) (S : St) (x1 : T1) (x2 : T2), (∀ (S : St) (x1 : T1) (x2 : T2), k S x1 x2 = some res → G p l e R s m args below meth c kc ks Q nL D A w S pc (lvf x1 x2) st) → b k S x1 x2 = some res → G p l e R s m args below meth c kc ks Q nL D A w S pc (lvf x1 x2) st) : G p l e R s m args below meth c kc ks Q nL D A w S pc (lvf x1 x2) st := by
  induction N generalizing S x1 x2 with
  | zero => cases hf
  | succ n ih => exact h (loop2 b n) S x1 x2 (fun S x1 x2 hk => ih hk) hf
theorem g_join2 {T1 T2 : Type} {B : (St → T1 → T2 → Option α) → Option α} {T : St → T1 → T2 → Option α} (pm : Nat) (lvf : T1 → T2 → List (Nat × Value)) (stf : T1 → T2 → List Value) (hf : lett T B = some res) (ht : ∀ (S : St) (x1 : T1) (x2 : T2), T S x1 x2 = some res → G p l e R s m args below meth c kc ks Q nL D A w S pm (lvf x1 x2) (stf x1 x2)) (hb : ∀ k : St → T1 → T2 → Option α, (∀ (S : St) (x1 : T1) (x2 : T2), k S x1 x2 = some res → G p l e R s m args below meth c kc ks Q nL D A w S pm (lvf x1 x2) (stf x1 x2)) → B k = some res → G p l e R s m args below meth c kc ks Q nL D A w S pc lv st) : G p l e R s m args below meth c kc ks Q nL D A w S pc lv st := hb T ht hf
theorem g_loop3 {T1 T2 T3 : Type} {b : (St → T1 → T2 → T3 → Option α) → St → T1 → T2 → T3 → Option α} (lvf : T1 → T2 → T3 → List (Nat × Value)) {N : Nat} {x1 : T1} {x2 : T2} {x3 : T3} (hf : loop3 b N S x1 x2 x3 = some res) (h : ∀ (k : St → T1 → T2 → T3 → Option α) (S : St) (x1 : T1) (x2 : T2) (x3 : T3), (∀ (S : St) (x1 : T1) (x2 : T2) (x3 : T3), k S x1 x2 x3 = some res → G p l e R s m args below meth c kc ks Q nL D A w S pc (lvf x1 x2 x3) st) → b k S x1 x2 x3 = some res → G p l e R s m args below meth c kc ks Q nL D A w S pc (lvf x1 x2 x3) st) : G p l e R s m args below meth c kc ks Q nL D A w S pc (lvf x1 x2 x3) st := by
  induction N generalizing S x1 x2 x3 with
  | zero => cases hf
  | succ n ih => exact h (loop3 b n) S x1 x2 x3 (fun S x1 x2 x3 hk => ih hk) hf
theorem g_join3 {T1 T2 T3 : Type} {B : (St → T1 → T2 → T3 → Option α) → Option α} {T : St → T1 → T2 → T3 → Option α} (pm : Nat) (lvf : T1 → T2 → T3 → List (Nat × Value)) (stf : T1 → T2 → T3 → List Value) (hf : lett T B = some res) (ht : ∀ (S : St) (x1 : T1) (x2 : T2) (x3 : T3), T S x1 x2 x3 = some res → G p l e R s m args below meth c kc ks Q nL D A w S pm (lvf x1 x2 x3) (stf x1 x2 x3)) (hb : ∀ k : St → T1 → T2 → T3 → Option α, (∀ (S : St) (x1 : T1) (x2 : T2) (x3 : T3), k S x1 x2 x3 = some res → G p l e R s m args below meth c kc ks Q nL D A w S pm (lvf x1 x2 x3) (stf x1 x2 x3)) → B k = some res → G p l e R s m args below meth c kc ks Q nL D A w S pc lv st) : G p l e R s m args below meth c kc ks Q nL D A w S pc lv st := hb T ht hf
theorem g_loop4 {T1 T2 T3 T4 : Type} {b : (St → T1 → T2 → T3 → T4 → Option α) → St → T1 → T2 → T3 → T4 → Option α} (lvf : T1 → T2 → T3 → T4 → List (Nat × Value)) {N : Nat} {x1 : T1} {x2 : T2} {x3 : T3} {x4 : T4} (hf : loop4 b N S x1 x2 x3 x4 = some res) (h : ∀ (k : St → T1 → T2 → T3 → T4 → Option α) (S : St) (x1 : T1) (x2 : T2) (x3 : T3) (x4 : T4), (∀ (S : St) (x1 : T1) (x2 : T2) (x3 : T3) (x4 : T4), k S x1 x2 x3 x4 = some res → G p l e R s m args below meth c kc ks Q nL D A w S pc (lvf x1 x2 x3 x4) st) → b k S x1 x2 x3 x4 = some res → G p l e R s m args below meth c kc ks Q nL D A w S pc (lvf x1 x2 x3 x4) st) : G p l e R s m args below meth c kc ks Q nL D A w S pc (lvf x1 x2 x3 x4) st := by
  induction N generalizing S x1 x2 x3 x4 with
  | zero => cases hf
  | succ n ih => exact h (loop4 b n) S x1 x2 x3 x4 (fun S x1 x2 x3 x4 hk => ih hk) hf
theorem g_join4 {T1 T2 T3 T4 : Type} {B : (St → T1 → T2 → T3 → T4 → Option α) → Option α} {T : St → T1 → T2 → T3 → T4 → Option α} (pm : Nat) (lvf : T1 → T2 → T3 → T4 → List (Nat × Value)) (stf : T1 → T2 → T3 → T4 → List Value) (hf : lett T B = some res) (ht : ∀ (S : St) (x1 : T1) (x2 : T2) (x3 : T3) (x4 : T4), T S x1 x2 x3 x4 = some res → G p l e R s m args below meth c kc ks Q nL D A w S pm (lvf x1 x2 x3 x4) (stf x1 x2 x3 x4)) (hb : ∀ k : St → T1 → T2 → T3 → T4 → Option α, (∀ (S : St) (x1 : T1) (x2 : T2) (x3 : T3) (x4 : T4), k S x1 x2 x3 x4 = some res → G p l e R s m args below meth c kc ks Q nL D A w S pm (lvf x1 x2 x3 x4) (stf x1 x2 x3 x4)) → B k = some res → G p l e R s m args below meth c kc ks Q nL D A w S pc lv st) : G p l e R s m args below meth c kc ks Q nL D A w S pc lv st := hb T ht hf
theorem g_join5 {T1 T2 T3 T4 T5 : Type} {B : (St → T1 → T2 → T3 → T4 → T5 → Option α) → Option α} {T : St → T1 → T2 → T3 → T4 → T5 → Option α} (pm : Nat) (lvf : T1 → T2 → T3 → T4 → T5 → List (Nat × Value)) (stf : T1 → T2 → T3 → T4 → T5 → List Value) (hf : lett T B = some res) (ht : ∀ (S : St) (x1 : T1) (x2 : T2) (x3 : T3) (x4 : T4) (x5 : T5), T S x1 x2 x3 x4 x5 = some res → G p l e R s m args below meth c kc ks Q nL D A w S pm (lvf x1 x2 x3 x4 x5) (stf x1 x2 x3 x4 x5)) (hb : ∀ k : St → T1 → T2 → T3 → T4 → T5 → Option α, (∀ (S : St) (x1 : T1) (x2 : T2) (x3 : T3) (x4 : T4) (x5 : T5), k S x1 x2 x3 x4 x5 = some res → G p l e R s m args below meth c kc ks Q nL D A w S pm (lvf x1 x2 x3 x4 x5) (stf x1 x2 x3 x4 x5)) → B k = some res → G p l e R s m args below meth c kc ks Q nL D A w S pc lv st) : G p l e R s m args below meth c kc ks Q nL D A w S pc lv st := hb T ht hf
theorem g_join6 {T1 T2 T3 T4 T5 T6 : Type} {B : (St → T1 → T2 → T3 → T4 → T5 → T6 → Option α) → Option α} {T : St → T1 → T2 → T3 → T4 → T5 → T6 → Option α} (pm : Nat) (lvf : T1 → T2 → T3 → T4 → T5 → T6 → List (Nat × Value)) (stf : T1 → T2 → T3 → T4 → T5 → T6 → List Value) (hf : lett T B = some res) (ht : ∀ (S : St) (x1 : T1) (x2 : T2) (x3 : T3) (x4 : T4) (x5 : T5) (x6 : T6), T S x1 x2 x3 x4 x5 x6 = some res → G p l e R s m args below meth c kc ks Q nL D A w S pm (lvf x1 x2 x3 x4 x5 x6) (stf x1 x2 x3 x4 x5 x6)) (hb : ∀ k : St → T1 → T2 → T3 → T4 → T5 → T6 → Option α, (∀ (S : St) (x1 : T1) (x2 : T2) (x3 : T3) (x4 : T4) (x5 : T5) (x6 : T6), k S x1 x2 x3 x4 x5 x6 = some res → G p l e R s m args below meth c kc ks Q nL D A w S pm (lvf x1 x2 x3 x4 x5 x6) (stf x1 x2 x3 x4 x5 x6)) → B k = some res → G p l e R s m args below meth c kc ks Q nL D A w S pc lv st) : G p l e R s m args below meth c kc ks Q nL D A w S pc lv st := hb T ht hf
end GR
end
section
-- words of the tables, one by one
theorem bg {x : Cond} (h : x ∈ lw_tbl) (hg : goodWord x = true) : x ∈ big := List.mem_filter.mpr ⟨h, hg⟩
theorem kS0 {x : Cond} (h : x ∈ k2_sels lw_privs) : x ∈ lw_tbl := List.mem_append_left _ h
theorem kT0 {x : Cond} (h : x ∈ tables_1) : x ∈ lw_tbl := List.mem_append_right _ h
theorem kT1 {x : Cond} (h : x ∈ tables_1_1) : x ∈ lw_tbl := kT0 (List.mem_append_left _ h)
theorem kT2 {x : Cond} (h : x ∈ tables_1_2) : x ∈ lw_tbl := kT0 (List.mem_append_right _ (List.mem_append_left _ h))
theorem kT3 {x : Cond} (h : x ∈ tables_1_3) : x ∈ lw_tbl := kT0 (List.mem_append_right _ (List.mem_append_right _ (List.mem_append_left _ h)))
theorem kT4 {x : Cond} (h : x ∈ tables_1_4) : x ∈ lw_tbl := kT0 (List.mem_append_right _ (List.mem_append_right _ (List.mem_append_right _ (List.mem_append_left _ h))))
theorem kT5 {x : Cond} (h : x ∈ tables_1_5) : x ∈ lw_tbl := kT0 (List.mem_append_right _ (List.mem_append_right _ (List.mem_append_right _ (List.mem_append_right _ h))))
theorem ki_L : Cond.initialized RL ∈ big := bg (kT1 (List.mem_of_getElem? (i := 0) rfl)) rfl
theorem ki_X6 : Cond.initialized RX6 ∈ big := bg (kT1 (List.mem_of_getElem? (i := 1) rfl)) rfl
theorem ki_X0 : Cond.initialized RX0 ∈ big := bg (kT1 (List.mem_of_getElem? (i := 2) rfl)) rfl
theorem ki_J9 : Cond.initialized RJ9 ∈ big := bg (kT1 (List.mem_of_getElem? (i := 3) rfl)) rfl
theorem ki_J7 : Cond.initialized RJ7 ∈ big := bg (kT1 (List.mem_of_getElem? (i := 4) rfl)) rfl
theorem ki_X1 : Cond.initialized RX1 ∈ big := bg (kT1 (List.mem_of_getElem? (i := 5) rfl)) rfl
theorem ki_X2 : Cond.initialized RX2 ∈ big := bg (kT1 (List.mem_of_getElem? (i := 6) rfl)) rfl
theorem ki_X3 : Cond.initialized RX3 ∈ big := bg (kT1 (List.mem_of_getElem? (i := 7) rfl)) rfl
theorem ki_X5 : Cond.initialized RX5 ∈ big := bg (kT1 (List.mem_of_getElem? (i := 8) rfl)) rfl
theorem ki_X4 : Cond.initialized RX4 ∈ big := bg (kT1 (List.mem_of_getElem? (i := 9) rfl)) rfl
theorem ki_X7 : Cond.initialized RX7 ∈ big := bg (kT1 (List.mem_of_getElem? (i := 10) rfl)) rfl
theorem ki_J0 : Cond.initialized RJ0 ∈ big := bg (kT1 (List.mem_of_getElem? (i := 11) rfl)) rfl
theorem ki_J1 : Cond.initialized RJ1 ∈ big := bg (kT1 (List.mem_of_getElem? (i := 12) rfl)) rfl
theorem ki_J3 : Cond.initialized RJ3 ∈ big := bg (kT1 (List.mem_of_getElem? (i := 13) rfl)) rfl
theorem ki_J2 : Cond.initialized RJ2 ∈ big := bg (kT1 (List.mem_of_getElem? (i := 14) rfl)) rfl
theorem kq_L_7 : Cond.classLink RL 7 RX6 ∈ big := bg (kT1 (List.mem_of_getElem? (i := 15) rfl)) rfl
theorem kn_X6 : Cond.instantiable RX6 6 ∈ big := bg (kT1 (List.mem_of_getElem? (i := 16) rfl)) rfl
theorem km_L_15 : Cond.methodLink RL 15 yX6_init ∈ big := bg (kT1 (List.mem_of_getElem? (i := 17) rfl)) rfl
theorem kI_X6_init : Cond.instanceMethod yX6_init ∈ big := bg (kT1 (List.mem_of_getElem? (i := 18) rfl)) rfl
theorem kC_X6_init : Cond.code yX6_init cX6_init 2 none ∈ big := bg (kT1 (List.mem_of_getElem? (i := 19) rfl)) rfl
theorem km_X6_1 : Cond.methodLink RX6 1 objectInit ∈ big := bg (kT1 (List.mem_of_getElem? (i := 20) rfl)) rfl
theorem kI_Object_init : Cond.instanceMethod objectInit ∈ big := bg (kT1 (List.mem_of_getElem? (i := 21) rfl)) rfl
theorem kC_Object_init : Cond.code objectInit ⟨#[0xb1]⟩ 1 none ∈ big := bg (kT1 (List.mem_of_getElem? (i := 22) rfl)) rfl
theorem kq_X6_7 : Cond.classLink RX6 7 RX0 ∈ big := bg (kT1 (List.mem_of_getElem? (i := 23) rfl)) rfl
theorem kn_X0 : Cond.instantiable RX0 12 ∈ big := bg (kT1 (List.mem_of_getElem? (i := 24) rfl)) rfl
theorem km_X6_11 : Cond.methodLink RX6 11 Lib.Math.min.name ∈ big := bg (kT1 (List.mem_of_getElem? (i := 25) rfl)) rfl
theorem kt_J9_min_7cf53 : Cond.static Lib.Math.min.name ∈ big := bg (kT1 (List.mem_of_getElem? (i := 26) rfl)) rfl
theorem kC_J9_min_7cf53 : Cond.code Lib.Math.min.name Lib.Math.min.code 2 (some .int) ∈ big := bg (kT1 (List.mem_of_getElem? (i := 27) rfl)) rfl
theorem km_X6_17 : Cond.methodLink RX6 17 Lib.Math.max.name ∈ big := bg (kT1 (List.mem_of_getElem? (i := 28) rfl)) rfl
theorem kt_J9_max_7cf53 : Cond.static Lib.Math.max.name ∈ big := bg (kT1 (List.mem_of_getElem? (i := 29) rfl)) rfl
theorem kC_J9_max_7cf53 : Cond.code Lib.Math.max.name Lib.Math.max.code 2 (some .int) ∈ big := bg (kT1 (List.mem_of_getElem? (i := 30) rfl)) rfl
theorem km_X6_20 : Cond.methodLink RX6 20 yX0_init ∈ big := bg (kT1 (List.mem_of_getElem? (i := 31) rfl)) rfl
theorem kI_X0_init : Cond.instanceMethod yX0_init ∈ big := bg (kT1 (List.mem_of_getElem? (i := 32) rfl)) rfl
theorem kC_X0_init : Cond.code yX0_init cX0_init 2 none ∈ big := bg (kT1 (List.mem_of_getElem? (i := 33) rfl)) rfl
theorem km_X0_3 : Cond.methodLink RX0 3 objectInit ∈ big := bg (kT1 (List.mem_of_getElem? (i := 34) rfl)) rfl
theorem km_X0_37 : Cond.methodLink RX0 37 yJ7_fill_53178 ∈ big := bg (kT1 (List.mem_of_getElem? (i := 35) rfl)) rfl
theorem kt_J7_fill_53178 : Cond.static yJ7_fill_53178 ∈ big := bg (kT1 (List.mem_of_getElem? (i := 36) rfl)) rfl
theorem kC_J7_fill_53178 : Cond.code yJ7_fill_53178 cJ7_fill_53178 4 none ∈ big := bg (kT1 (List.mem_of_getElem? (i := 37) rfl)) rfl
theorem kf_X0_24 : Cond.fieldLink RX0 24 "BoatBridge$Deck" "hulls" "I" ∈ big := bg (kT1 (List.mem_of_getElem? (i := 38) rfl)) rfl
theorem kf_X0_28 : Cond.fieldLink RX0 28 "BoatBridge$Deck" "bears" "[I" ∈ big := bg (kT1 (List.mem_of_getElem? (i := 39) rfl)) rfl
theorem kf_X0_31 : Cond.fieldLink RX0 31 "BoatBridge$Deck" "anchors" "[I" ∈ big := bg (kT1 (List.mem_of_getElem? (i := 40) rfl)) rfl
theorem kf_X0_34 : Cond.fieldLink RX0 34 "BoatBridge$Deck" "loads" "[I" ∈ big := bg (kT1 (List.mem_of_getElem? (i := 41) rfl)) rfl
theorem kf_X0_9 : Cond.fieldLink RX0 9 "BoatBridge$Deck" "pulls" "[I" ∈ big := bg (kT1 (List.mem_of_getElem? (i := 42) rfl)) rfl
theorem kf_X0_15 : Cond.fieldLink RX0 15 "BoatBridge$Deck" "weights" "[I" ∈ big := bg (kT1 (List.mem_of_getElem? (i := 43) rfl)) rfl
theorem kf_X0_18 : Cond.fieldLink RX0 18 "BoatBridge$Deck" "behindFirst" "[I" ∈ big := bg (kT1 (List.mem_of_getElem? (i := 44) rfl)) rfl
theorem kf_X0_21 : Cond.fieldLink RX0 21 "BoatBridge$Deck" "evenBehind" "[I" ∈ big := bg (kT1 (List.mem_of_getElem? (i := 45) rfl)) rfl
theorem kf_X0_43 : Cond.fieldLink RX0 43 "BoatBridge$Deck" "carts" "I" ∈ big := bg (kT1 (List.mem_of_getElem? (i := 46) rfl)) rfl
theorem kf_X0_58 : Cond.fieldLink RX0 58 "BoatBridge$Deck" "foundMargin" "I" ∈ big := bg (kT1 (List.mem_of_getElem? (i := 47) rfl)) rfl
theorem kf_X0_61 : Cond.fieldLink RX0 61 "BoatBridge$Deck" "foundHull" "I" ∈ big := bg (kT1 (List.mem_of_getElem? (i := 48) rfl)) rfl
theorem kf_X0_64 : Cond.fieldLink RX0 64 "BoatBridge$Deck" "foundStep" "I" ∈ big := bg (kT1 (List.mem_of_getElem? (i := 49) rfl)) rfl
theorem ka_int : Cond.arrayClass .int ∈ big := bg (kT1 (List.mem_of_getElem? (i := 75) rfl)) rfl
theorem kq_X6_27 : Cond.classLink RX6 27 RX1 ∈ big := bg (kT1 (List.mem_of_getElem? (i := 76) rfl)) rfl
theorem kn_X1 : Cond.instantiable RX1 19 ∈ big := bg (kT1 (List.mem_of_getElem? (i := 77) rfl)) rfl
theorem kN_X6_29 : Cond.methodLinkNest RX6 29 yX1_init "BoatBridge" ∈ lw_tbl := kT1 (List.mem_of_getElem? (i := 78) rfl)
theorem kI_X1_init : Cond.instanceMethod yX1_init ∈ big := bg (kT1 (List.mem_of_getElem? (i := 79) rfl)) rfl
theorem kC_X1_init : Cond.code yX1_init cX1_init 1 none ∈ big := bg (kT1 (List.mem_of_getElem? (i := 80) rfl)) rfl
theorem km_X1_3 : Cond.methodLink RX1 3 objectInit ∈ big := bg (kT1 (List.mem_of_getElem? (i := 81) rfl)) rfl
theorem kf_X1_9 : Cond.fieldLink RX1 9 "BoatBridge$River" "comings" "[I" ∈ big := bg (kT1 (List.mem_of_getElem? (i := 82) rfl)) rfl
theorem kf_X1_15 : Cond.fieldLink RX1 15 "BoatBridge$River" "comingSums" "[I" ∈ big := bg (kT1 (List.mem_of_getElem? (i := 83) rfl)) rfl
theorem kf_X1_18 : Cond.fieldLink RX1 18 "BoatBridge$River" "shipsBy" "[I" ∈ big := bg (kT1 (List.mem_of_getElem? (i := 84) rfl)) rfl
theorem kf_X1_21 : Cond.fieldLink RX1 21 "BoatBridge$River" "crossersAhead" "[I" ∈ big := bg (kT1 (List.mem_of_getElem? (i := 85) rfl)) rfl
theorem kf_X1_24 : Cond.fieldLink RX1 24 "BoatBridge$River" "crosserSums" "[I" ∈ big := bg (kT1 (List.mem_of_getElem? (i := 86) rfl)) rfl
theorem kf_X1_27 : Cond.fieldLink RX1 27 "BoatBridge$River" "least" "[I" ∈ big := bg (kT1 (List.mem_of_getElem? (i := 87) rfl)) rfl
theorem kf_X1_30 : Cond.fieldLink RX1 30 "BoatBridge$River" "chosen" "[I" ∈ big := bg (kT1 (List.mem_of_getElem? (i := 88) rfl)) rfl
theorem kf_X1_33 : Cond.fieldLink RX1 33 "BoatBridge$River" "openMinutes" "[I" ∈ big := bg (kT1 (List.mem_of_getElem? (i := 89) rfl)) rfl
theorem kf_X1_36 : Cond.fieldLink RX1 36 "BoatBridge$River" "openShips" "[I" ∈ big := bg (kT1 (List.mem_of_getElem? (i := 90) rfl)) rfl
theorem kf_X1_39 : Cond.fieldLink RX1 39 "BoatBridge$River" "openEnds" "[I" ∈ big := bg (kT1 (List.mem_of_getElem? (i := 91) rfl)) rfl
theorem kf_X1_55 : Cond.fieldLink RX1 55 "BoatBridge$River" "ships" "I" ∈ big := bg (kT1 (List.mem_of_getElem? (i := 92) rfl)) rfl
theorem kf_X1_58 : Cond.fieldLink RX1 58 "BoatBridge$River" "crossers" "I" ∈ big := bg (kT1 (List.mem_of_getElem? (i := 93) rfl)) rfl
theorem kf_X1_42 : Cond.fieldLink RX1 42 "BoatBridge$River" "opens" "I" ∈ big := bg (kT1 (List.mem_of_getElem? (i := 94) rfl)) rfl
theorem kf_X1_46 : Cond.fieldLink RX1 46 "BoatBridge$River" "takes" "I" ∈ big := bg (kT1 (List.mem_of_getElem? (i := 95) rfl)) rfl
theorem kf_X1_49 : Cond.fieldLink RX1 49 "BoatBridge$River" "shuts" "I" ∈ big := bg (kT1 (List.mem_of_getElem? (i := 96) rfl)) rfl
theorem kf_X1_52 : Cond.fieldLink RX1 52 "BoatBridge$River" "shipRank" "I" ∈ big := bg (kT1 (List.mem_of_getElem? (i := 97) rfl)) rfl
theorem kf_X1_72 : Cond.fieldLink RX1 72 "BoatBridge$River" "openings" "I" ∈ big := bg (kT1 (List.mem_of_getElem? (i := 98) rfl)) rfl
theorem kf_X1_68 : Cond.fieldLink RX1 68 "BoatBridge$River" "total" "I" ∈ big := bg (kT1 (List.mem_of_getElem? (i := 99) rfl)) rfl
theorem kf_X1_61 : Cond.fieldLink RX1 61 "BoatBridge$River" "planned" "Z" ∈ big := bg (kT1 (List.mem_of_getElem? (i := 100) rfl)) rfl
theorem kq_X6_34 : Cond.classLink RX6 34 RX2 ∈ big := bg (kT1 (List.mem_of_getElem? (i := 140) rfl)) rfl
theorem kn_X2 : Cond.instantiable RX2 6 ∈ big := bg (kT1 (List.mem_of_getElem? (i := 141) rfl)) rfl
theorem km_X6_36 : Cond.methodLink RX6 36 yX2_init ∈ big := bg (kT1 (List.mem_of_getElem? (i := 142) rfl)) rfl
theorem kI_X2_init : Cond.instanceMethod yX2_init ∈ big := bg (kT1 (List.mem_of_getElem? (i := 143) rfl)) rfl
theorem kC_X2_init : Cond.code yX2_init cX2_init 1 none ∈ big := bg (kT1 (List.mem_of_getElem? (i := 144) rfl)) rfl
theorem km_X2_3 : Cond.methodLink RX2 3 objectInit ∈ big := bg (kT1 (List.mem_of_getElem? (i := 145) rfl)) rfl
theorem km_X2_29 : Cond.methodLink RX2 29 yJ7_fill_53178 ∈ big := bg (kT1 (List.mem_of_getElem? (i := 146) rfl)) rfl
theorem kf_X2_9 : Cond.fieldLink RX2 9 "BoatBridge$Season" "highs" "[I" ∈ big := bg (kT1 (List.mem_of_getElem? (i := 147) rfl)) rfl
theorem kf_X2_15 : Cond.fieldLink RX2 15 "BoatBridge$Season" "outDays" "[Z" ∈ big := bg (kT1 (List.mem_of_getElem? (i := 148) rfl)) rfl
theorem kf_X2_19 : Cond.fieldLink RX2 19 "BoatBridge$Season" "needed" "[I" ∈ big := bg (kT1 (List.mem_of_getElem? (i := 149) rfl)) rfl
theorem kf_X2_22 : Cond.fieldLink RX2 22 "BoatBridge$Season" "mostLevel" "I" ∈ big := bg (kT1 (List.mem_of_getElem? (i := 150) rfl)) rfl
theorem kf_X2_26 : Cond.fieldLink RX2 26 "BoatBridge$Season" "laysDays" "I" ∈ big := bg (kT1 (List.mem_of_getElem? (i := 151) rfl)) rfl
theorem kf_X2_35 : Cond.fieldLink RX2 35 "BoatBridge$Season" "planned" "Z" ∈ big := bg (kT1 (List.mem_of_getElem? (i := 152) rfl)) rfl
theorem ka_boolean : Cond.arrayClass .boolean ∈ big := bg (kT1 (List.mem_of_getElem? (i := 166) rfl)) rfl
theorem kq_X6_41 : Cond.classLink RX6 41 RX3 ∈ big := bg (kT1 (List.mem_of_getElem? (i := 167) rfl)) rfl
theorem kn_X3 : Cond.instantiable RX3 2 ∈ big := bg (kT1 (List.mem_of_getElem? (i := 168) rfl)) rfl
theorem kN_X6_43 : Cond.methodLinkNest RX6 43 yX3_init "BoatBridge" ∈ lw_tbl := kT1 (List.mem_of_getElem? (i := 169) rfl)
theorem kI_X3_init : Cond.instanceMethod yX3_init ∈ big := bg (kT1 (List.mem_of_getElem? (i := 170) rfl)) rfl
theorem kC_X3_init : Cond.code yX3_init cX3_init 1 none ∈ big := bg (kT1 (List.mem_of_getElem? (i := 171) rfl)) rfl
theorem km_X3_3 : Cond.methodLink RX3 3 objectInit ∈ big := bg (kT1 (List.mem_of_getElem? (i := 172) rfl)) rfl
theorem kf_X3_9 : Cond.fieldLink RX3 9 "BoatBridge$Tape" "bytes" "[B" ∈ big := bg (kT1 (List.mem_of_getElem? (i := 173) rfl)) rfl
theorem kf_X3_15 : Cond.fieldLink RX3 15 "BoatBridge$Tape" "length" "I" ∈ big := bg (kT1 (List.mem_of_getElem? (i := 174) rfl)) rfl
theorem ka_byte : Cond.arrayClass .byte ∈ big := bg (kT1 (List.mem_of_getElem? (i := 180) rfl)) rfl
theorem kq_X6_48 : Cond.classLink RX6 48 RX5 ∈ big := bg (kT1 (List.mem_of_getElem? (i := 181) rfl)) rfl
theorem kn_X5 : Cond.instantiable RX5 12 ∈ big := bg (kT1 (List.mem_of_getElem? (i := 182) rfl)) rfl
theorem kN_X6_50 : Cond.methodLinkNest RX6 50 yX5_init "BoatBridge" ∈ lw_tbl := kT1 (List.mem_of_getElem? (i := 183) rfl)
theorem kI_X5_init : Cond.instanceMethod yX5_init ∈ big := bg (kT1 (List.mem_of_getElem? (i := 184) rfl)) rfl
theorem kC_X5_init : Cond.code yX5_init cX5_init 1 none ∈ big := bg (kT1 (List.mem_of_getElem? (i := 185) rfl)) rfl
theorem km_X5_3 : Cond.methodLink RX5 3 objectInit ∈ big := bg (kT1 (List.mem_of_getElem? (i := 186) rfl)) rfl
theorem kf_X5_9 : Cond.fieldLink RX5 9 "BoatBridge$TollReader" "tollRow" "[I" ∈ big := bg (kT1 (List.mem_of_getElem? (i := 187) rfl)) rfl
theorem kf_X5_15 : Cond.fieldLink RX5 15 "BoatBridge$TollReader" "againRow" "[I" ∈ big := bg (kT1 (List.mem_of_getElem? (i := 188) rfl)) rfl
theorem kf_X5_25 : Cond.fieldLink RX5 25 "BoatBridge$TollReader" "clauses" "I" ∈ big := bg (kT1 (List.mem_of_getElem? (i := 189) rfl)) rfl
theorem kf_X5_18 : Cond.fieldLink RX5 18 "BoatBridge$TollReader" "faultCode" "I" ∈ big := bg (kT1 (List.mem_of_getElem? (i := 190) rfl)) rfl
theorem kf_X5_22 : Cond.fieldLink RX5 22 "BoatBridge$TollReader" "faultPlace" "I" ∈ big := bg (kT1 (List.mem_of_getElem? (i := 191) rfl)) rfl
theorem kf_X5_65 : Cond.fieldLink RX5 65 "BoatBridge$TollReader" "cursor" "I" ∈ big := bg (kT1 (List.mem_of_getElem? (i := 192) rfl)) rfl
theorem kf_X5_47 : Cond.fieldLink RX5 47 "BoatBridge$TollReader" "tokenType" "I" ∈ big := bg (kT1 (List.mem_of_getElem? (i := 193) rfl)) rfl
theorem kf_X5_56 : Cond.fieldLink RX5 56 "BoatBridge$TollReader" "tokenStart" "I" ∈ big := bg (kT1 (List.mem_of_getElem? (i := 194) rfl)) rfl
theorem kf_X5_85 : Cond.fieldLink RX5 85 "BoatBridge$TollReader" "tokenValue" "I" ∈ big := bg (kT1 (List.mem_of_getElem? (i := 195) rfl)) rfl
theorem kf_X5_50 : Cond.fieldLink RX5 50 "BoatBridge$TollReader" "due" "I" ∈ big := bg (kT1 (List.mem_of_getElem? (i := 196) rfl)) rfl
theorem kf_X5_120 : Cond.fieldLink RX5 120 "BoatBridge$TollReader" "clauseType" "I" ∈ big := bg (kT1 (List.mem_of_getElem? (i := 197) rfl)) rfl
theorem kf_X5_131 : Cond.fieldLink RX5 131 "BoatBridge$TollReader" "clauseKind" "I" ∈ big := bg (kT1 (List.mem_of_getElem? (i := 198) rfl)) rfl
theorem kq_X6_55 : Cond.classLink RX6 55 RX4 ∈ big := bg (kT1 (List.mem_of_getElem? (i := 224) rfl)) rfl
theorem kn_X4 : Cond.instantiable RX4 6 ∈ big := bg (kT1 (List.mem_of_getElem? (i := 225) rfl)) rfl
theorem km_X6_57 : Cond.methodLink RX6 57 yX4_init ∈ big := bg (kT1 (List.mem_of_getElem? (i := 226) rfl)) rfl
theorem kI_X4_init : Cond.instanceMethod yX4_init ∈ big := bg (kT1 (List.mem_of_getElem? (i := 227) rfl)) rfl
theorem kC_X4_init : Cond.code yX4_init cX4_init 1 none ∈ big := bg (kT1 (List.mem_of_getElem? (i := 228) rfl)) rfl
theorem km_X4_3 : Cond.methodLink RX4 3 objectInit ∈ big := bg (kT1 (List.mem_of_getElem? (i := 229) rfl)) rfl
theorem km_X4_21 : Cond.methodLink RX4 21 yJ7_fill_53178 ∈ big := bg (kT1 (List.mem_of_getElem? (i := 230) rfl)) rfl
theorem kf_X4_9 : Cond.fieldLink RX4 9 "BoatBridge$Till" "tollRow" "[I" ∈ big := bg (kT1 (List.mem_of_getElem? (i := 231) rfl)) rfl
theorem kf_X4_15 : Cond.fieldLink RX4 15 "BoatBridge$Till" "againRow" "[I" ∈ big := bg (kT1 (List.mem_of_getElem? (i := 232) rfl)) rfl
theorem kf_X4_18 : Cond.fieldLink RX4 18 "BoatBridge$Till" "openReturns" "[I" ∈ big := bg (kT1 (List.mem_of_getElem? (i := 233) rfl)) rfl
theorem kf_X4_27 : Cond.fieldLink RX4 27 "BoatBridge$Till" "latest" "I" ∈ big := bg (kT1 (List.mem_of_getElem? (i := 234) rfl)) rfl
theorem kf_X4_31 : Cond.fieldLink RX4 31 "BoatBridge$Till" "paid" "I" ∈ big := bg (kT1 (List.mem_of_getElem? (i := 235) rfl)) rfl
theorem kf_X4_34 : Cond.fieldLink RX4 34 "BoatBridge$Till" "free" "I" ∈ big := bg (kT1 (List.mem_of_getElem? (i := 236) rfl)) rfl
theorem kf_X6_23 : Cond.fieldLink RX6 23 "BoatBridge" "deck" "LBoatBridge$Deck;" ∈ big := bg (kT2 (List.mem_of_getElem? (i := 10) rfl)) rfl
theorem kf_X6_30 : Cond.fieldLink RX6 30 "BoatBridge" "river" "LBoatBridge$River;" ∈ big := bg (kT2 (List.mem_of_getElem? (i := 11) rfl)) rfl
theorem kf_X6_37 : Cond.fieldLink RX6 37 "BoatBridge" "season" "LBoatBridge$Season;" ∈ big := bg (kT2 (List.mem_of_getElem? (i := 12) rfl)) rfl
theorem kf_X6_44 : Cond.fieldLink RX6 44 "BoatBridge" "tape" "LBoatBridge$Tape;" ∈ big := bg (kT2 (List.mem_of_getElem? (i := 13) rfl)) rfl
theorem kf_X6_51 : Cond.fieldLink RX6 51 "BoatBridge" "reader" "LBoatBridge$TollReader;" ∈ big := bg (kT2 (List.mem_of_getElem? (i := 14) rfl)) rfl
theorem kf_X6_58 : Cond.fieldLink RX6 58 "BoatBridge" "till" "LBoatBridge$Till;" ∈ big := bg (kT2 (List.mem_of_getElem? (i := 15) rfl)) rfl
theorem km_L_21 : Cond.methodLink RL 21 yX6_hull ∈ big := bg (kT2 (List.mem_of_getElem? (i := 29) rfl)) rfl
theorem kI_X6_hull : Cond.instanceMethod yX6_hull ∈ big := bg (kT2 (List.mem_of_getElem? (i := 30) rfl)) rfl
theorem kS_X6_hull : Cond.selects RX6 yX6_hull yX6_hull ∈ big := bg (kT2 (List.mem_of_getElem? (i := 31) rfl)) rfl
theorem kC_X6_hull : Cond.code yX6_hull cX6_hull 4 (some .boolean) ∈ big := bg (kT2 (List.mem_of_getElem? (i := 32) rfl)) rfl
theorem km_X6_62 : Cond.methodLink RX6 62 yX0_hasHull ∈ big := bg (kT2 (List.mem_of_getElem? (i := 33) rfl)) rfl
theorem kI_X0_hasHull : Cond.instanceMethod yX0_hasHull ∈ big := bg (kT2 (List.mem_of_getElem? (i := 34) rfl)) rfl
theorem kS_X0_hasHull : Cond.selects RX0 yX0_hasHull yX0_hasHull ∈ big := bg (kT2 (List.mem_of_getElem? (i := 35) rfl)) rfl
theorem kC_X0_hasHull : Cond.code yX0_hasHull cX0_hasHull 2 (some .boolean) ∈ big := bg (kT2 (List.mem_of_getElem? (i := 36) rfl)) rfl
theorem kN_X0_46 : Cond.methodLinkNest RX0 46 yX6_within "BoatBridge" ∈ lw_tbl := kT2 (List.mem_of_getElem? (i := 37) rfl)
theorem kt_X6_within : Cond.static yX6_within ∈ big := bg (kT2 (List.mem_of_getElem? (i := 38) rfl)) rfl
theorem kC_X6_within : Cond.code yX6_within cX6_within 3 (some .boolean) ∈ big := bg (kT2 (List.mem_of_getElem? (i := 39) rfl)) rfl
theorem km_X6_66 : Cond.methodLink RX6 66 yX6_within ∈ big := bg (kT2 (List.mem_of_getElem? (i := 40) rfl)) rfl
theorem km_X6_70 : Cond.methodLink RX6 70 yX0_setHull ∈ big := bg (kT2 (List.mem_of_getElem? (i := 41) rfl)) rfl
theorem kI_X0_setHull : Cond.instanceMethod yX0_setHull ∈ big := bg (kT2 (List.mem_of_getElem? (i := 42) rfl)) rfl
theorem kS_X0_setHull : Cond.selects RX0 yX0_setHull yX0_setHull ∈ big := bg (kT2 (List.mem_of_getElem? (i := 43) rfl)) rfl
theorem kC_X0_setHull : Cond.code yX0_setHull cX0_setHull 4 none ∈ big := bg (kT2 (List.mem_of_getElem? (i := 44) rfl)) rfl
theorem km_L_26 : Cond.methodLink RL 26 yX6_pull ∈ big := bg (kT2 (List.mem_of_getElem? (i := 45) rfl)) rfl
theorem kI_X6_pull : Cond.instanceMethod yX6_pull ∈ big := bg (kT2 (List.mem_of_getElem? (i := 46) rfl)) rfl
theorem kS_X6_pull : Cond.selects RX6 yX6_pull yX6_pull ∈ big := bg (kT2 (List.mem_of_getElem? (i := 47) rfl)) rfl
theorem kC_X6_pull : Cond.code yX6_pull cX6_pull 3 (some .boolean) ∈ big := bg (kT2 (List.mem_of_getElem? (i := 48) rfl)) rfl
theorem km_X6_74 : Cond.methodLink RX6 74 yX0_setPull ∈ big := bg (kT2 (List.mem_of_getElem? (i := 49) rfl)) rfl
theorem kI_X0_setPull : Cond.instanceMethod yX0_setPull ∈ big := bg (kT2 (List.mem_of_getElem? (i := 50) rfl)) rfl
theorem kS_X0_setPull : Cond.selects RX0 yX0_setPull yX0_setPull ∈ big := bg (kT2 (List.mem_of_getElem? (i := 51) rfl)) rfl
theorem kC_X0_setPull : Cond.code yX0_setPull cX0_setPull 3 none ∈ big := bg (kT2 (List.mem_of_getElem? (i := 52) rfl)) rfl
theorem km_L_31 : Cond.methodLink RL 31 yX6_drags ∈ big := bg (kT2 (List.mem_of_getElem? (i := 53) rfl)) rfl
theorem kI_X6_drags : Cond.instanceMethod yX6_drags ∈ big := bg (kT2 (List.mem_of_getElem? (i := 54) rfl)) rfl
theorem kS_X6_drags : Cond.selects RX6 yX6_drags yX6_drags ∈ big := bg (kT2 (List.mem_of_getElem? (i := 55) rfl)) rfl
theorem kC_X6_drags : Cond.code yX6_drags cX6_drags 2 (some .int) ∈ big := bg (kT2 (List.mem_of_getElem? (i := 56) rfl)) rfl
theorem km_X6_78 : Cond.methodLink RX6 78 yX0_anchorsBelow ∈ big := bg (kT2 (List.mem_of_getElem? (i := 57) rfl)) rfl
theorem kI_X0_anchorsBelow : Cond.instanceMethod yX0_anchorsBelow ∈ big := bg (kT2 (List.mem_of_getElem? (i := 58) rfl)) rfl
theorem kS_X0_anchorsBelow : Cond.selects RX0 yX0_anchorsBelow yX0_anchorsBelow ∈ big := bg (kT2 (List.mem_of_getElem? (i := 59) rfl)) rfl
theorem kC_X0_anchorsBelow : Cond.code yX0_anchorsBelow cX0_anchorsBelow 4 (some .int) ∈ big := bg (kT2 (List.mem_of_getElem? (i := 60) rfl)) rfl
theorem km_L_36 : Cond.methodLink RL 36 yX6_cart ∈ big := bg (kT2 (List.mem_of_getElem? (i := 61) rfl)) rfl
theorem kI_X6_cart : Cond.instanceMethod yX6_cart ∈ big := bg (kT2 (List.mem_of_getElem? (i := 62) rfl)) rfl
theorem kS_X6_cart : Cond.selects RX6 yX6_cart yX6_cart ∈ big := bg (kT2 (List.mem_of_getElem? (i := 63) rfl)) rfl
theorem kC_X6_cart : Cond.code yX6_cart cX6_cart 3 (some .int) ∈ big := bg (kT2 (List.mem_of_getElem? (i := 64) rfl)) rfl
theorem km_X6_82 : Cond.methodLink RX6 82 yX0_cartCount ∈ big := bg (kT2 (List.mem_of_getElem? (i := 65) rfl)) rfl
theorem kI_X0_cartCount : Cond.instanceMethod yX0_cartCount ∈ big := bg (kT2 (List.mem_of_getElem? (i := 66) rfl)) rfl
theorem kS_X0_cartCount : Cond.selects RX0 yX0_cartCount yX0_cartCount ∈ big := bg (kT2 (List.mem_of_getElem? (i := 67) rfl)) rfl
theorem kC_X0_cartCount : Cond.code yX0_cartCount cX0_cartCount 1 (some .int) ∈ big := bg (kT2 (List.mem_of_getElem? (i := 68) rfl)) rfl
theorem km_X6_86 : Cond.methodLink RX6 86 yX0_addCart ∈ big := bg (kT2 (List.mem_of_getElem? (i := 69) rfl)) rfl
theorem kI_X0_addCart : Cond.instanceMethod yX0_addCart ∈ big := bg (kT2 (List.mem_of_getElem? (i := 70) rfl)) rfl
theorem kS_X0_addCart : Cond.selects RX0 yX0_addCart yX0_addCart ∈ big := bg (kT2 (List.mem_of_getElem? (i := 71) rfl)) rfl
theorem kC_X0_addCart : Cond.code yX0_addCart cX0_addCart 3 (some .int) ∈ big := bg (kT2 (List.mem_of_getElem? (i := 72) rfl)) rfl
theorem km_L_41 : Cond.methodLink RL 41 yX6_clear ∈ big := bg (kT2 (List.mem_of_getElem? (i := 73) rfl)) rfl
theorem kI_X6_clear : Cond.instanceMethod yX6_clear ∈ big := bg (kT2 (List.mem_of_getElem? (i := 74) rfl)) rfl
theorem kS_X6_clear : Cond.selects RX6 yX6_clear yX6_clear ∈ big := bg (kT2 (List.mem_of_getElem? (i := 75) rfl)) rfl
theorem kC_X6_clear : Cond.code yX6_clear cX6_clear 1 (some .int) ∈ big := bg (kT2 (List.mem_of_getElem? (i := 76) rfl)) rfl
theorem km_X6_89 : Cond.methodLink RX6 89 yX0_dropCarts ∈ big := bg (kT2 (List.mem_of_getElem? (i := 77) rfl)) rfl
theorem kI_X0_dropCarts : Cond.instanceMethod yX0_dropCarts ∈ big := bg (kT2 (List.mem_of_getElem? (i := 78) rfl)) rfl
theorem kS_X0_dropCarts : Cond.selects RX0 yX0_dropCarts yX0_dropCarts ∈ big := bg (kT2 (List.mem_of_getElem? (i := 79) rfl)) rfl
theorem kC_X0_dropCarts : Cond.code yX0_dropCarts cX0_dropCarts 2 (some .int) ∈ big := bg (kT2 (List.mem_of_getElem? (i := 80) rfl)) rfl
theorem km_L_46 : Cond.methodLink RL 46 yX6_pressed ∈ big := bg (kT2 (List.mem_of_getElem? (i := 81) rfl)) rfl
theorem kI_X6_pressed : Cond.instanceMethod yX6_pressed ∈ big := bg (kT2 (List.mem_of_getElem? (i := 82) rfl)) rfl
theorem kS_X6_pressed : Cond.selects RX6 yX6_pressed yX6_pressed ∈ big := bg (kT2 (List.mem_of_getElem? (i := 83) rfl)) rfl
theorem kC_X6_pressed : Cond.code yX6_pressed cX6_pressed 3 (some .int) ∈ big := bg (kT2 (List.mem_of_getElem? (i := 84) rfl)) rfl
theorem km_X6_92 : Cond.methodLink RX6 92 yX0_loadOn ∈ big := bg (kT2 (List.mem_of_getElem? (i := 85) rfl)) rfl
theorem kI_X0_loadOn : Cond.instanceMethod yX0_loadOn ∈ big := bg (kT2 (List.mem_of_getElem? (i := 86) rfl)) rfl
theorem kS_X0_loadOn : Cond.selects RX0 yX0_loadOn yX0_loadOn ∈ big := bg (kT2 (List.mem_of_getElem? (i := 87) rfl)) rfl
theorem kC_X0_loadOn : Cond.code yX0_loadOn cX0_loadOn 3 (some .int) ∈ big := bg (kT2 (List.mem_of_getElem? (i := 88) rfl)) rfl
theorem km_X0_50 : Cond.methodLink RX0 50 yX0_layLoads ∈ big := bg (kT2 (List.mem_of_getElem? (i := 89) rfl)) rfl
theorem kI_X0_layLoads : Cond.instanceMethod yX0_layLoads ∈ big := bg (kT2 (List.mem_of_getElem? (i := 91) rfl)) rfl
theorem kC_X0_layLoads : Cond.code yX0_layLoads cX0_layLoads 5 none ∈ big := bg (kT2 (List.mem_of_getElem? (i := 92) rfl)) rfl
theorem km_X0_70 : Cond.methodLink RX0 70 yX0_hasHull ∈ big := bg (kT2 (List.mem_of_getElem? (i := 93) rfl)) rfl
theorem km_X0_74 : Cond.methodLink RX0 74 yX0_press ∈ big := bg (kT2 (List.mem_of_getElem? (i := 94) rfl)) rfl
theorem kI_X0_press : Cond.instanceMethod yX0_press ∈ big := bg (kT2 (List.mem_of_getElem? (i := 96) rfl)) rfl
theorem kC_X0_press : Cond.code yX0_press cX0_press 3 none ∈ big := bg (kT2 (List.mem_of_getElem? (i := 97) rfl)) rfl
theorem km_L_50 : Cond.methodLink RL 50 yX6_worst ∈ big := bg (kT2 (List.mem_of_getElem? (i := 98) rfl)) rfl
theorem kI_X6_worst : Cond.instanceMethod yX6_worst ∈ big := bg (kT2 (List.mem_of_getElem? (i := 99) rfl)) rfl
theorem kS_X6_worst : Cond.selects RX6 yX6_worst yX6_worst ∈ big := bg (kT2 (List.mem_of_getElem? (i := 100) rfl)) rfl
theorem kC_X6_worst : Cond.code yX6_worst cX6_worst 2 (some .int) ∈ big := bg (kT2 (List.mem_of_getElem? (i := 101) rfl)) rfl
theorem km_X6_95 : Cond.methodLink RX6 95 yX0_leastMargin ∈ big := bg (kT2 (List.mem_of_getElem? (i := 102) rfl)) rfl
theorem kI_X0_leastMargin : Cond.instanceMethod yX0_leastMargin ∈ big := bg (kT2 (List.mem_of_getElem? (i := 103) rfl)) rfl
theorem kS_X0_leastMargin : Cond.selects RX0 yX0_leastMargin yX0_leastMargin ∈ big := bg (kT2 (List.mem_of_getElem? (i := 104) rfl)) rfl
theorem kC_X0_leastMargin : Cond.code yX0_leastMargin cX0_leastMargin 2 (some .int) ∈ big := bg (kT2 (List.mem_of_getElem? (i := 105) rfl)) rfl
theorem km_X0_54 : Cond.methodLink RX0 54 yX0_findLeastMargin ∈ big := bg (kT2 (List.mem_of_getElem? (i := 106) rfl)) rfl
theorem kI_X0_findLeastMargin : Cond.instanceMethod yX0_findLeastMargin ∈ big := bg (kT2 (List.mem_of_getElem? (i := 108) rfl)) rfl
theorem kC_X0_findLeastMargin : Cond.code yX0_findLeastMargin cX0_findLeastMargin 6 none ∈ big := bg (kT2 (List.mem_of_getElem? (i := 109) rfl)) rfl
theorem kc_X0_69 : Cond.constant RX0 69 (2147483647) ∈ big := bg (kT2 (List.mem_of_getElem? (i := 110) rfl)) rfl
theorem kc_X6_98 : Cond.constant RX6 98 (-100000) ∈ big := bg (kT2 (List.mem_of_getElem? (i := 111) rfl)) rfl
theorem km_L_54 : Cond.methodLink RL 54 yX6_gap ∈ big := bg (kT2 (List.mem_of_getElem? (i := 112) rfl)) rfl
theorem kI_X6_gap : Cond.instanceMethod yX6_gap ∈ big := bg (kT2 (List.mem_of_getElem? (i := 113) rfl)) rfl
theorem kS_X6_gap : Cond.selects RX6 yX6_gap yX6_gap ∈ big := bg (kT2 (List.mem_of_getElem? (i := 114) rfl)) rfl
theorem kC_X6_gap : Cond.code yX6_gap cX6_gap 1 (some .int) ∈ big := bg (kT2 (List.mem_of_getElem? (i := 115) rfl)) rfl
theorem km_X6_99 : Cond.methodLink RX6 99 yX0_leastEvenGap ∈ big := bg (kT2 (List.mem_of_getElem? (i := 116) rfl)) rfl
theorem kI_X0_leastEvenGap : Cond.instanceMethod yX0_leastEvenGap ∈ big := bg (kT2 (List.mem_of_getElem? (i := 117) rfl)) rfl
theorem kS_X0_leastEvenGap : Cond.selects RX0 yX0_leastEvenGap yX0_leastEvenGap ∈ big := bg (kT2 (List.mem_of_getElem? (i := 118) rfl)) rfl
theorem kC_X0_leastEvenGap : Cond.code yX0_leastEvenGap cX0_leastEvenGap 3 (some .int) ∈ big := bg (kT2 (List.mem_of_getElem? (i := 119) rfl)) rfl
theorem km_L_58 : Cond.methodLink RL 58 yX6_ship ∈ big := bg (kT2 (List.mem_of_getElem? (i := 120) rfl)) rfl
theorem kI_X6_ship : Cond.instanceMethod yX6_ship ∈ big := bg (kT2 (List.mem_of_getElem? (i := 121) rfl)) rfl
theorem kS_X6_ship : Cond.selects RX6 yX6_ship yX6_ship ∈ big := bg (kT2 (List.mem_of_getElem? (i := 122) rfl)) rfl
theorem kC_X6_ship : Cond.code yX6_ship cX6_ship 2 (some .int) ∈ big := bg (kT2 (List.mem_of_getElem? (i := 123) rfl)) rfl
theorem km_X6_102 : Cond.methodLink RX6 102 yX1_shipCount ∈ big := bg (kT2 (List.mem_of_getElem? (i := 124) rfl)) rfl
theorem kI_X1_shipCount : Cond.instanceMethod yX1_shipCount ∈ big := bg (kT2 (List.mem_of_getElem? (i := 125) rfl)) rfl
theorem kS_X1_shipCount : Cond.selects RX1 yX1_shipCount yX1_shipCount ∈ big := bg (kT2 (List.mem_of_getElem? (i := 126) rfl)) rfl
theorem kC_X1_shipCount : Cond.code yX1_shipCount cX1_shipCount 1 (some .int) ∈ big := bg (kT2 (List.mem_of_getElem? (i := 127) rfl)) rfl
theorem km_X6_105 : Cond.methodLink RX6 105 yX1_addShip ∈ big := bg (kT2 (List.mem_of_getElem? (i := 128) rfl)) rfl
theorem kI_X1_addShip : Cond.instanceMethod yX1_addShip ∈ big := bg (kT2 (List.mem_of_getElem? (i := 129) rfl)) rfl
theorem kS_X1_addShip : Cond.selects RX1 yX1_addShip yX1_addShip ∈ big := bg (kT2 (List.mem_of_getElem? (i := 130) rfl)) rfl
theorem kC_X1_addShip : Cond.code yX1_addShip cX1_addShip 4 (some .int) ∈ big := bg (kT2 (List.mem_of_getElem? (i := 131) rfl)) rfl
theorem km_L_62 : Cond.methodLink RL 62 yX6_crosser ∈ big := bg (kT2 (List.mem_of_getElem? (i := 132) rfl)) rfl
theorem kI_X6_crosser : Cond.instanceMethod yX6_crosser ∈ big := bg (kT2 (List.mem_of_getElem? (i := 133) rfl)) rfl
theorem kS_X6_crosser : Cond.selects RX6 yX6_crosser yX6_crosser ∈ big := bg (kT2 (List.mem_of_getElem? (i := 134) rfl)) rfl
theorem kC_X6_crosser : Cond.code yX6_crosser cX6_crosser 2 (some .int) ∈ big := bg (kT2 (List.mem_of_getElem? (i := 135) rfl)) rfl
theorem km_X6_108 : Cond.methodLink RX6 108 yX1_crosserCount ∈ big := bg (kT2 (List.mem_of_getElem? (i := 136) rfl)) rfl
theorem kI_X1_crosserCount : Cond.instanceMethod yX1_crosserCount ∈ big := bg (kT2 (List.mem_of_getElem? (i := 137) rfl)) rfl
theorem kS_X1_crosserCount : Cond.selects RX1 yX1_crosserCount yX1_crosserCount ∈ big := bg (kT2 (List.mem_of_getElem? (i := 138) rfl)) rfl
theorem kC_X1_crosserCount : Cond.code yX1_crosserCount cX1_crosserCount 1 (some .int) ∈ big := bg (kT2 (List.mem_of_getElem? (i := 139) rfl)) rfl
theorem km_X6_111 : Cond.methodLink RX6 111 yX1_addCrosser ∈ big := bg (kT2 (List.mem_of_getElem? (i := 140) rfl)) rfl
theorem kI_X1_addCrosser : Cond.instanceMethod yX1_addCrosser ∈ big := bg (kT2 (List.mem_of_getElem? (i := 141) rfl)) rfl
theorem kS_X1_addCrosser : Cond.selects RX1 yX1_addCrosser yX1_addCrosser ∈ big := bg (kT2 (List.mem_of_getElem? (i := 142) rfl)) rfl
theorem kC_X1_addCrosser : Cond.code yX1_addCrosser cX1_addCrosser 3 (some .int) ∈ big := bg (kT2 (List.mem_of_getElem? (i := 143) rfl)) rfl
theorem km_L_66 : Cond.methodLink RL 66 yX6_times ∈ big := bg (kT2 (List.mem_of_getElem? (i := 144) rfl)) rfl
theorem kI_X6_times : Cond.instanceMethod yX6_times ∈ big := bg (kT2 (List.mem_of_getElem? (i := 145) rfl)) rfl
theorem kS_X6_times : Cond.selects RX6 yX6_times yX6_times ∈ big := bg (kT2 (List.mem_of_getElem? (i := 146) rfl)) rfl
theorem kC_X6_times : Cond.code yX6_times cX6_times 5 (some .boolean) ∈ big := bg (kT2 (List.mem_of_getElem? (i := 147) rfl)) rfl
theorem km_X6_114 : Cond.methodLink RX6 114 yX1_setTimes ∈ big := bg (kT2 (List.mem_of_getElem? (i := 148) rfl)) rfl
theorem kI_X1_setTimes : Cond.instanceMethod yX1_setTimes ∈ big := bg (kT2 (List.mem_of_getElem? (i := 149) rfl)) rfl
theorem kS_X1_setTimes : Cond.selects RX1 yX1_setTimes yX1_setTimes ∈ big := bg (kT2 (List.mem_of_getElem? (i := 150) rfl)) rfl
theorem kC_X1_setTimes : Cond.code yX1_setTimes cX1_setTimes 5 none ∈ big := bg (kT2 (List.mem_of_getElem? (i := 151) rfl)) rfl
theorem km_L_71 : Cond.methodLink RL 71 yX6_waits ∈ big := bg (kT2 (List.mem_of_getElem? (i := 152) rfl)) rfl
theorem kI_X6_waits : Cond.instanceMethod yX6_waits ∈ big := bg (kT2 (List.mem_of_getElem? (i := 153) rfl)) rfl
theorem kS_X6_waits : Cond.selects RX6 yX6_waits yX6_waits ∈ big := bg (kT2 (List.mem_of_getElem? (i := 154) rfl)) rfl
theorem kC_X6_waits : Cond.code yX6_waits cX6_waits 1 (some .int) ∈ big := bg (kT2 (List.mem_of_getElem? (i := 155) rfl)) rfl
theorem km_X6_118 : Cond.methodLink RX6 118 yX1_leastWaits ∈ big := bg (kT2 (List.mem_of_getElem? (i := 156) rfl)) rfl
theorem kI_X1_leastWaits : Cond.instanceMethod yX1_leastWaits ∈ big := bg (kT2 (List.mem_of_getElem? (i := 157) rfl)) rfl
theorem kS_X1_leastWaits : Cond.selects RX1 yX1_leastWaits yX1_leastWaits ∈ big := bg (kT2 (List.mem_of_getElem? (i := 158) rfl)) rfl
theorem kC_X1_leastWaits : Cond.code yX1_leastWaits cX1_leastWaits 1 (some .int) ∈ big := bg (kT2 (List.mem_of_getElem? (i := 159) rfl)) rfl
theorem km_X1_65 : Cond.methodLink RX1 65 yX1_plan ∈ big := bg (kT2 (List.mem_of_getElem? (i := 160) rfl)) rfl
theorem kI_X1_plan : Cond.instanceMethod yX1_plan ∈ big := bg (kT2 (List.mem_of_getElem? (i := 162) rfl)) rfl
theorem kC_X1_plan : Cond.code yX1_plan cX1_plan 6 none ∈ big := bg (kT2 (List.mem_of_getElem? (i := 163) rfl)) rfl
theorem kc_X1_71 : Cond.constant RX1 71 (1000000000) ∈ big := bg (kT2 (List.mem_of_getElem? (i := 164) rfl)) rfl
theorem km_X1_91 : Cond.methodLink RX1 91 yX1_waitsFrom ∈ big := bg (kT2 (List.mem_of_getElem? (i := 165) rfl)) rfl
theorem kI_X1_waitsFrom : Cond.instanceMethod yX1_waitsFrom ∈ big := bg (kT2 (List.mem_of_getElem? (i := 167) rfl)) rfl
theorem kC_X1_waitsFrom : Cond.code yX1_waitsFrom cX1_waitsFrom 6 (some .int) ∈ big := bg (kT2 (List.mem_of_getElem? (i := 168) rfl)) rfl
theorem km_X1_85 : Cond.methodLink RX1 85 yX1_waitsOfOpening ∈ big := bg (kT2 (List.mem_of_getElem? (i := 169) rfl)) rfl
theorem kI_X1_waitsOfOpening : Cond.instanceMethod yX1_waitsOfOpening ∈ big := bg (kT2 (List.mem_of_getElem? (i := 171) rfl)) rfl
theorem kC_X1_waitsOfOpening : Cond.code yX1_waitsOfOpening cX1_waitsOfOpening 7 (some .int) ∈ big := bg (kT2 (List.mem_of_getElem? (i := 172) rfl)) rfl
theorem km_X1_88 : Cond.methodLink RX1 88 yX1_endOfOpening ∈ big := bg (kT2 (List.mem_of_getElem? (i := 173) rfl)) rfl
theorem kI_X1_endOfOpening : Cond.instanceMethod yX1_endOfOpening ∈ big := bg (kT2 (List.mem_of_getElem? (i := 175) rfl)) rfl
theorem kC_X1_endOfOpening : Cond.code yX1_endOfOpening cX1_endOfOpening 3 (some .int) ∈ big := bg (kT2 (List.mem_of_getElem? (i := 176) rfl)) rfl
theorem km_X1_100 : Cond.methodLink RX1 100 yX1_crosserWaits ∈ big := bg (kT2 (List.mem_of_getElem? (i := 177) rfl)) rfl
theorem kI_X1_crosserWaits : Cond.instanceMethod yX1_crosserWaits ∈ big := bg (kT2 (List.mem_of_getElem? (i := 179) rfl)) rfl
theorem kC_X1_crosserWaits : Cond.code yX1_crosserWaits cX1_crosserWaits 6 (some .int) ∈ big := bg (kT2 (List.mem_of_getElem? (i := 180) rfl)) rfl
theorem km_X1_97 : Cond.methodLink RX1 97 Lib.Math.min.name ∈ big := bg (kT2 (List.mem_of_getElem? (i := 181) rfl)) rfl
theorem km_X1_94 : Cond.methodLink RX1 94 yX1_walkBest ∈ big := bg (kT2 (List.mem_of_getElem? (i := 182) rfl)) rfl
theorem kI_X1_walkBest : Cond.instanceMethod yX1_walkBest ∈ big := bg (kT2 (List.mem_of_getElem? (i := 184) rfl)) rfl
theorem kC_X1_walkBest : Cond.code yX1_walkBest cX1_walkBest 5 none ∈ big := bg (kT2 (List.mem_of_getElem? (i := 185) rfl)) rfl
theorem km_L_75 : Cond.methodLink RL 75 yX6_opening ∈ big := bg (kT2 (List.mem_of_getElem? (i := 186) rfl)) rfl
theorem kI_X6_opening : Cond.instanceMethod yX6_opening ∈ big := bg (kT2 (List.mem_of_getElem? (i := 187) rfl)) rfl
theorem kS_X6_opening : Cond.selects RX6 yX6_opening yX6_opening ∈ big := bg (kT2 (List.mem_of_getElem? (i := 188) rfl)) rfl
theorem kC_X6_opening : Cond.code yX6_opening cX6_opening 3 (some .int) ∈ big := bg (kT2 (List.mem_of_getElem? (i := 189) rfl)) rfl
theorem km_X6_121 : Cond.methodLink RX6 121 yX1_openingOfBest ∈ big := bg (kT2 (List.mem_of_getElem? (i := 190) rfl)) rfl
theorem kI_X1_openingOfBest : Cond.instanceMethod yX1_openingOfBest ∈ big := bg (kT2 (List.mem_of_getElem? (i := 191) rfl)) rfl
theorem kS_X1_openingOfBest : Cond.selects RX1 yX1_openingOfBest yX1_openingOfBest ∈ big := bg (kT2 (List.mem_of_getElem? (i := 192) rfl)) rfl
theorem kC_X1_openingOfBest : Cond.code yX1_openingOfBest cX1_openingOfBest 3 (some .int) ∈ big := bg (kT2 (List.mem_of_getElem? (i := 193) rfl)) rfl
theorem kN_X1_75 : Cond.methodLinkNest RX1 75 yX6_within "BoatBridge" ∈ lw_tbl := kT2 (List.mem_of_getElem? (i := 194) rfl)
theorem km_L_79 : Cond.methodLink RL 79 yX6_atOnce ∈ big := bg (kT2 (List.mem_of_getElem? (i := 195) rfl)) rfl
theorem kI_X6_atOnce : Cond.instanceMethod yX6_atOnce ∈ big := bg (kT2 (List.mem_of_getElem? (i := 196) rfl)) rfl
theorem kS_X6_atOnce : Cond.selects RX6 yX6_atOnce yX6_atOnce ∈ big := bg (kT2 (List.mem_of_getElem? (i := 197) rfl)) rfl
theorem kC_X6_atOnce : Cond.code yX6_atOnce cX6_atOnce 1 (some .int) ∈ big := bg (kT2 (List.mem_of_getElem? (i := 198) rfl)) rfl
theorem km_X6_124 : Cond.methodLink RX6 124 yX1_earliestWaits ∈ big := bg (kT2 (List.mem_of_getElem? (i := 199) rfl)) rfl
theorem kI_X1_earliestWaits : Cond.instanceMethod yX1_earliestWaits ∈ big := bg (kT2 (List.mem_of_getElem? (i := 200) rfl)) rfl
theorem kS_X1_earliestWaits : Cond.selects RX1 yX1_earliestWaits yX1_earliestWaits ∈ big := bg (kT2 (List.mem_of_getElem? (i := 201) rfl)) rfl
theorem kC_X1_earliestWaits : Cond.code yX1_earliestWaits cX1_earliestWaits 6 (some .int) ∈ big := bg (kT2 (List.mem_of_getElem? (i := 202) rfl)) rfl
theorem km_X1_79 : Cond.methodLink RX1 79 Lib.Math.max.name ∈ big := bg (kT2 (List.mem_of_getElem? (i := 203) rfl)) rfl
theorem km_L_83 : Cond.methodLink RL 83 yX6_level ∈ big := bg (kT2 (List.mem_of_getElem? (i := 204) rfl)) rfl
theorem kI_X6_level : Cond.instanceMethod yX6_level ∈ big := bg (kT2 (List.mem_of_getElem? (i := 205) rfl)) rfl
theorem kS_X6_level : Cond.selects RX6 yX6_level yX6_level ∈ big := bg (kT2 (List.mem_of_getElem? (i := 206) rfl)) rfl
theorem kC_X6_level : Cond.code yX6_level cX6_level 4 (some .boolean) ∈ big := bg (kT2 (List.mem_of_getElem? (i := 207) rfl)) rfl
theorem km_X6_127 : Cond.methodLink RX6 127 yX2_foretell ∈ big := bg (kT2 (List.mem_of_getElem? (i := 208) rfl)) rfl
theorem kI_X2_foretell : Cond.instanceMethod yX2_foretell ∈ big := bg (kT2 (List.mem_of_getElem? (i := 209) rfl)) rfl
theorem kS_X2_foretell : Cond.selects RX2 yX2_foretell yX2_foretell ∈ big := bg (kT2 (List.mem_of_getElem? (i := 210) rfl)) rfl
theorem kC_X2_foretell : Cond.code yX2_foretell cX2_foretell 3 none ∈ big := bg (kT2 (List.mem_of_getElem? (i := 211) rfl)) rfl
theorem km_L_87 : Cond.methodLink RL 87 yX6_flood ∈ big := bg (kT2 (List.mem_of_getElem? (i := 212) rfl)) rfl
theorem kI_X6_flood : Cond.instanceMethod yX6_flood ∈ big := bg (kT2 (List.mem_of_getElem? (i := 213) rfl)) rfl
theorem kS_X6_flood : Cond.selects RX6 yX6_flood yX6_flood ∈ big := bg (kT2 (List.mem_of_getElem? (i := 214) rfl)) rfl
theorem kC_X6_flood : Cond.code yX6_flood cX6_flood 3 (some .boolean) ∈ big := bg (kT2 (List.mem_of_getElem? (i := 215) rfl)) rfl
theorem km_X6_130 : Cond.methodLink RX6 130 yX2_setLimits ∈ big := bg (kT2 (List.mem_of_getElem? (i := 216) rfl)) rfl
theorem kI_X2_setLimits : Cond.instanceMethod yX2_setLimits ∈ big := bg (kT2 (List.mem_of_getElem? (i := 217) rfl)) rfl
theorem kS_X2_setLimits : Cond.selects RX2 yX2_setLimits yX2_setLimits ∈ big := bg (kT2 (List.mem_of_getElem? (i := 218) rfl)) rfl
theorem kC_X2_setLimits : Cond.code yX2_setLimits cX2_setLimits 3 none ∈ big := bg (kT2 (List.mem_of_getElem? (i := 219) rfl)) rfl
theorem km_L_91 : Cond.methodLink RL 91 yX6_out ∈ big := bg (kT2 (List.mem_of_getElem? (i := 220) rfl)) rfl
theorem kI_X6_out : Cond.instanceMethod yX6_out ∈ big := bg (kT2 (List.mem_of_getElem? (i := 221) rfl)) rfl
theorem kS_X6_out : Cond.selects RX6 yX6_out yX6_out ∈ big := bg (kT2 (List.mem_of_getElem? (i := 222) rfl)) rfl
theorem kC_X6_out : Cond.code yX6_out cX6_out 1 (some .int) ∈ big := bg (kT2 (List.mem_of_getElem? (i := 223) rfl)) rfl
theorem km_X6_133 : Cond.methodLink RX6 133 yX2_fewest ∈ big := bg (kT2 (List.mem_of_getElem? (i := 224) rfl)) rfl
theorem kI_X2_fewest : Cond.instanceMethod yX2_fewest ∈ big := bg (kT2 (List.mem_of_getElem? (i := 225) rfl)) rfl
theorem kS_X2_fewest : Cond.selects RX2 yX2_fewest yX2_fewest ∈ big := bg (kT2 (List.mem_of_getElem? (i := 226) rfl)) rfl
theorem kC_X2_fewest : Cond.code yX2_fewest cX2_fewest 1 (some .int) ∈ big := bg (kT2 (List.mem_of_getElem? (i := 227) rfl)) rfl
theorem km_X2_39 : Cond.methodLink RX2 39 yX2_plan ∈ big := bg (kT2 (List.mem_of_getElem? (i := 228) rfl)) rfl
theorem kI_X2_plan : Cond.instanceMethod yX2_plan ∈ big := bg (kT2 (List.mem_of_getElem? (i := 230) rfl)) rfl
theorem kC_X2_plan : Cond.code yX2_plan cX2_plan 4 none ∈ big := bg (kT2 (List.mem_of_getElem? (i := 231) rfl)) rfl
theorem km_X2_42 : Cond.methodLink RX2 42 yX2_needIfOut ∈ big := bg (kT2 (List.mem_of_getElem? (i := 232) rfl)) rfl
theorem kI_X2_needIfOut : Cond.instanceMethod yX2_needIfOut ∈ big := bg (kT2 (List.mem_of_getElem? (i := 234) rfl)) rfl
theorem kC_X2_needIfOut : Cond.code yX2_needIfOut cX2_needIfOut 3 (some .int) ∈ big := bg (kT2 (List.mem_of_getElem? (i := 235) rfl)) rfl
theorem km_X2_54 : Cond.methodLink RX2 54 Lib.Math.min.name ∈ big := bg (kT2 (List.mem_of_getElem? (i := 236) rfl)) rfl
theorem km_X2_46 : Cond.methodLink RX2 46 yX2_mayBeIn ∈ big := bg (kT2 (List.mem_of_getElem? (i := 237) rfl)) rfl
theorem kI_X2_mayBeIn : Cond.instanceMethod yX2_mayBeIn ∈ big := bg (kT2 (List.mem_of_getElem? (i := 239) rfl)) rfl
theorem kC_X2_mayBeIn : Cond.code yX2_mayBeIn cX2_mayBeIn 3 (some .boolean) ∈ big := bg (kT3 (List.mem_of_getElem? (i := 0) rfl)) rfl
theorem km_X2_62 : Cond.methodLink RX2 62 yX2_isBad ∈ big := bg (kT3 (List.mem_of_getElem? (i := 1) rfl)) rfl
theorem kI_X2_isBad : Cond.instanceMethod yX2_isBad ∈ big := bg (kT3 (List.mem_of_getElem? (i := 2) rfl)) rfl
theorem kS_X2_isBad : Cond.selects RX2 yX2_isBad yX2_isBad ∈ big := bg (kT3 (List.mem_of_getElem? (i := 3) rfl)) rfl
theorem kC_X2_isBad : Cond.code yX2_isBad cX2_isBad 2 (some .boolean) ∈ big := bg (kT3 (List.mem_of_getElem? (i := 4) rfl)) rfl
theorem km_X2_50 : Cond.methodLink RX2 50 yX2_needIfIn ∈ big := bg (kT3 (List.mem_of_getElem? (i := 5) rfl)) rfl
theorem kI_X2_needIfIn : Cond.instanceMethod yX2_needIfIn ∈ big := bg (kT3 (List.mem_of_getElem? (i := 7) rfl)) rfl
theorem kC_X2_needIfIn : Cond.code yX2_needIfIn cX2_needIfIn 2 (some .int) ∈ big := bg (kT3 (List.mem_of_getElem? (i := 8) rfl)) rfl
theorem km_X2_59 : Cond.methodLink RX2 59 yX2_chooseDays ∈ big := bg (kT3 (List.mem_of_getElem? (i := 9) rfl)) rfl
theorem kI_X2_chooseDays : Cond.instanceMethod yX2_chooseDays ∈ big := bg (kT3 (List.mem_of_getElem? (i := 11) rfl)) rfl
theorem kC_X2_chooseDays : Cond.code yX2_chooseDays cX2_chooseDays 4 none ∈ big := bg (kT3 (List.mem_of_getElem? (i := 12) rfl)) rfl
theorem km_L_95 : Cond.methodLink RL 95 yX6_outOn ∈ big := bg (kT3 (List.mem_of_getElem? (i := 13) rfl)) rfl
theorem kI_X6_outOn : Cond.instanceMethod yX6_outOn ∈ big := bg (kT3 (List.mem_of_getElem? (i := 14) rfl)) rfl
theorem kS_X6_outOn : Cond.selects RX6 yX6_outOn yX6_outOn ∈ big := bg (kT3 (List.mem_of_getElem? (i := 15) rfl)) rfl
theorem kC_X6_outOn : Cond.code yX6_outOn cX6_outOn 4 (some .int) ∈ big := bg (kT3 (List.mem_of_getElem? (i := 16) rfl)) rfl
theorem km_X6_136 : Cond.methodLink RX6 136 yX2_isOut ∈ big := bg (kT3 (List.mem_of_getElem? (i := 17) rfl)) rfl
theorem kI_X2_isOut : Cond.instanceMethod yX2_isOut ∈ big := bg (kT3 (List.mem_of_getElem? (i := 18) rfl)) rfl
theorem kS_X2_isOut : Cond.selects RX2 yX2_isOut yX2_isOut ∈ big := bg (kT3 (List.mem_of_getElem? (i := 19) rfl)) rfl
theorem kC_X2_isOut : Cond.code yX2_isOut cX2_isOut 2 (some .boolean) ∈ big := bg (kT3 (List.mem_of_getElem? (i := 20) rfl)) rfl
theorem km_X6_139 : Cond.methodLink RX6 139 yX2_isBad ∈ big := bg (kT3 (List.mem_of_getElem? (i := 21) rfl)) rfl
theorem km_L_99 : Cond.methodLink RL 99 yX6_feed ∈ big := bg (kT3 (List.mem_of_getElem? (i := 22) rfl)) rfl
theorem kI_X6_feed : Cond.instanceMethod yX6_feed ∈ big := bg (kT3 (List.mem_of_getElem? (i := 23) rfl)) rfl
theorem kS_X6_feed : Cond.selects RX6 yX6_feed yX6_feed ∈ big := bg (kT3 (List.mem_of_getElem? (i := 24) rfl)) rfl
theorem kC_X6_feed : Cond.code yX6_feed cX6_feed 6 (some .int) ∈ big := bg (kT3 (List.mem_of_getElem? (i := 25) rfl)) rfl
theorem km_X6_142 : Cond.methodLink RX6 142 yX3_size ∈ big := bg (kT3 (List.mem_of_getElem? (i := 26) rfl)) rfl
theorem kI_X3_size : Cond.instanceMethod yX3_size ∈ big := bg (kT3 (List.mem_of_getElem? (i := 27) rfl)) rfl
theorem kS_X3_size : Cond.selects RX3 yX3_size yX3_size ∈ big := bg (kT3 (List.mem_of_getElem? (i := 28) rfl)) rfl
theorem kC_X3_size : Cond.code yX3_size cX3_size 1 (some .int) ∈ big := bg (kT3 (List.mem_of_getElem? (i := 29) rfl)) rfl
theorem km_X6_145 : Cond.methodLink RX6 145 yX3_addWord ∈ big := bg (kT3 (List.mem_of_getElem? (i := 30) rfl)) rfl
theorem kI_X3_addWord : Cond.instanceMethod yX3_addWord ∈ big := bg (kT3 (List.mem_of_getElem? (i := 31) rfl)) rfl
theorem kS_X3_addWord : Cond.selects RX3 yX3_addWord yX3_addWord ∈ big := bg (kT3 (List.mem_of_getElem? (i := 32) rfl)) rfl
theorem kC_X3_addWord : Cond.code yX3_addWord cX3_addWord 3 none ∈ big := bg (kT3 (List.mem_of_getElem? (i := 33) rfl)) rfl
theorem km_L_104 : Cond.methodLink RL 104 yX6_end ∈ big := bg (kT3 (List.mem_of_getElem? (i := 34) rfl)) rfl
theorem kI_X6_end : Cond.instanceMethod yX6_end ∈ big := bg (kT3 (List.mem_of_getElem? (i := 35) rfl)) rfl
theorem kS_X6_end : Cond.selects RX6 yX6_end yX6_end ∈ big := bg (kT3 (List.mem_of_getElem? (i := 36) rfl)) rfl
theorem kC_X6_end : Cond.code yX6_end cX6_end 2 (some .int) ∈ big := bg (kT3 (List.mem_of_getElem? (i := 37) rfl)) rfl
theorem km_X6_148 : Cond.methodLink RX6 148 yX3_cutTo ∈ big := bg (kT3 (List.mem_of_getElem? (i := 38) rfl)) rfl
theorem kI_X3_cutTo : Cond.instanceMethod yX3_cutTo ∈ big := bg (kT3 (List.mem_of_getElem? (i := 39) rfl)) rfl
theorem kS_X3_cutTo : Cond.selects RX3 yX3_cutTo yX3_cutTo ∈ big := bg (kT3 (List.mem_of_getElem? (i := 40) rfl)) rfl
theorem kC_X3_cutTo : Cond.code yX3_cutTo cX3_cutTo 2 none ∈ big := bg (kT3 (List.mem_of_getElem? (i := 41) rfl)) rfl
theorem km_L_108 : Cond.methodLink RL 108 yX6_tolls ∈ big := bg (kT3 (List.mem_of_getElem? (i := 42) rfl)) rfl
theorem kI_X6_tolls : Cond.instanceMethod yX6_tolls ∈ big := bg (kT3 (List.mem_of_getElem? (i := 43) rfl)) rfl
theorem kS_X6_tolls : Cond.selects RX6 yX6_tolls yX6_tolls ∈ big := bg (kT3 (List.mem_of_getElem? (i := 44) rfl)) rfl
theorem kC_X6_tolls : Cond.code yX6_tolls cX6_tolls 2 (some .int) ∈ big := bg (kT3 (List.mem_of_getElem? (i := 45) rfl)) rfl
theorem km_X6_151 : Cond.methodLink RX6 151 yX5_read ∈ big := bg (kT3 (List.mem_of_getElem? (i := 46) rfl)) rfl
theorem kI_X5_read : Cond.instanceMethod yX5_read ∈ big := bg (kT3 (List.mem_of_getElem? (i := 47) rfl)) rfl
theorem kS_X5_read : Cond.selects RX5 yX5_read yX5_read ∈ big := bg (kT3 (List.mem_of_getElem? (i := 48) rfl)) rfl
theorem kC_X5_read : Cond.code yX5_read cX5_read 4 (some .boolean) ∈ big := bg (kT3 (List.mem_of_getElem? (i := 49) rfl)) rfl
theorem km_X5_34 : Cond.methodLink RX5 34 yX5_begin ∈ big := bg (kT3 (List.mem_of_getElem? (i := 50) rfl)) rfl
theorem kI_X5_begin : Cond.instanceMethod yX5_begin ∈ big := bg (kT3 (List.mem_of_getElem? (i := 52) rfl)) rfl
theorem kC_X5_begin : Cond.code yX5_begin cX5_begin 1 none ∈ big := bg (kT3 (List.mem_of_getElem? (i := 53) rfl)) rfl
theorem km_X5_59 : Cond.methodLink RX5 59 yJ7_fill_53178 ∈ big := bg (kT3 (List.mem_of_getElem? (i := 54) rfl)) rfl
theorem km_X5_37 : Cond.methodLink RX5 37 yX3_size ∈ big := bg (kT3 (List.mem_of_getElem? (i := 55) rfl)) rfl
theorem km_X5_43 : Cond.methodLink RX5 43 yX5_nextToken ∈ big := bg (kT3 (List.mem_of_getElem? (i := 56) rfl)) rfl
theorem kI_X5_nextToken : Cond.instanceMethod yX5_nextToken ∈ big := bg (kT3 (List.mem_of_getElem? (i := 58) rfl)) rfl
theorem kC_X5_nextToken : Cond.code yX5_nextToken cX5_nextToken 3 none ∈ big := bg (kT3 (List.mem_of_getElem? (i := 59) rfl)) rfl
theorem km_X5_68 : Cond.methodLink RX5 68 yX3_byteAt ∈ big := bg (kT3 (List.mem_of_getElem? (i := 60) rfl)) rfl
theorem kI_X3_byteAt : Cond.instanceMethod yX3_byteAt ∈ big := bg (kT3 (List.mem_of_getElem? (i := 61) rfl)) rfl
theorem kS_X3_byteAt : Cond.selects RX3 yX3_byteAt yX3_byteAt ∈ big := bg (kT3 (List.mem_of_getElem? (i := 62) rfl)) rfl
theorem kC_X3_byteAt : Cond.code yX3_byteAt cX3_byteAt 2 (some .int) ∈ big := bg (kT3 (List.mem_of_getElem? (i := 63) rfl)) rfl
theorem kN_X3_19 : Cond.methodLinkNest RX3 19 yX6_within "BoatBridge" ∈ lw_tbl := kT3 (List.mem_of_getElem? (i := 64) rfl)
theorem km_X5_72 : Cond.methodLink RX5 72 yX5_isDigit ∈ big := bg (kT3 (List.mem_of_getElem? (i := 65) rfl)) rfl
theorem kt_X5_isDigit : Cond.static yX5_isDigit ∈ big := bg (kT3 (List.mem_of_getElem? (i := 66) rfl)) rfl
theorem kC_X5_isDigit : Cond.code yX5_isDigit cX5_isDigit 1 (some .boolean) ∈ big := bg (kT3 (List.mem_of_getElem? (i := 67) rfl)) rfl
theorem kN_X5_123 : Cond.methodLinkNest RX5 123 yX6_within "BoatBridge" ∈ lw_tbl := kT3 (List.mem_of_getElem? (i := 68) rfl)
theorem km_X5_76 : Cond.methodLink RX5 76 yX5_takeDigits ∈ big := bg (kT3 (List.mem_of_getElem? (i := 69) rfl)) rfl
theorem kI_X5_takeDigits : Cond.instanceMethod yX5_takeDigits ∈ big := bg (kT3 (List.mem_of_getElem? (i := 71) rfl)) rfl
theorem kC_X5_takeDigits : Cond.code yX5_takeDigits cX5_takeDigits 3 none ∈ big := bg (kT3 (List.mem_of_getElem? (i := 72) rfl)) rfl
theorem km_X5_88 : Cond.methodLink RX5 88 Lib.Math.min.name ∈ big := bg (kT3 (List.mem_of_getElem? (i := 73) rfl)) rfl
theorem km_X5_79 : Cond.methodLink RX5 79 yX5_isLetter ∈ big := bg (kT3 (List.mem_of_getElem? (i := 74) rfl)) rfl
theorem kt_X5_isLetter : Cond.static yX5_isLetter ∈ big := bg (kT3 (List.mem_of_getElem? (i := 75) rfl)) rfl
theorem kC_X5_isLetter : Cond.code yX5_isLetter cX5_isLetter 1 (some .boolean) ∈ big := bg (kT3 (List.mem_of_getElem? (i := 76) rfl)) rfl
theorem km_X5_82 : Cond.methodLink RX5 82 yX5_takeLetters ∈ big := bg (kT3 (List.mem_of_getElem? (i := 77) rfl)) rfl
theorem kI_X5_takeLetters : Cond.instanceMethod yX5_takeLetters ∈ big := bg (kT3 (List.mem_of_getElem? (i := 79) rfl)) rfl
theorem kC_X5_takeLetters : Cond.code yX5_takeLetters cX5_takeLetters 2 none ∈ big := bg (kT3 (List.mem_of_getElem? (i := 80) rfl)) rfl
theorem km_X5_93 : Cond.methodLink RX5 93 yX5_tokenIs ∈ big := bg (kT3 (List.mem_of_getElem? (i := 82) rfl)) rfl
theorem kI_X5_tokenIs : Cond.instanceMethod yX5_tokenIs ∈ big := bg (kT3 (List.mem_of_getElem? (i := 84) rfl)) rfl
theorem kC_X5_tokenIs : Cond.code yX5_tokenIs cX5_tokenIs 4 (some .boolean) ∈ big := bg (kT3 (List.mem_of_getElem? (i := 85) rfl)) rfl
theorem km_X5_99 : Cond.methodLink RX5 99 yJ0_length_8abf5 ∈ big := bg (kT3 (List.mem_of_getElem? (i := 86) rfl)) rfl
theorem kI_J0_length_8abf5 : Cond.instanceMethod yJ0_length_8abf5 ∈ big := bg (kT3 (List.mem_of_getElem? (i := 87) rfl)) rfl
theorem kS_J0_length_8abf5 : Cond.selects RJ0 yJ0_length_8abf5 yJ0_length_8abf5 ∈ big := bg (kT3 (List.mem_of_getElem? (i := 88) rfl)) rfl
theorem kC_J0_length_8abf5 : Cond.code yJ0_length_8abf5 cJ0_length_8abf5 1 (some .int) ∈ big := bg (kT3 (List.mem_of_getElem? (i := 89) rfl)) rfl
theorem km_J0_335 : Cond.methodLink RJ0 335 yJ0_coder_7d493 ∈ big := bg (kT3 (List.mem_of_getElem? (i := 90) rfl)) rfl
theorem kI_J0_coder_7d493 : Cond.instanceMethod yJ0_coder_7d493 ∈ big := bg (kT3 (List.mem_of_getElem? (i := 91) rfl)) rfl
theorem kS_J0_coder_7d493 : Cond.selects RJ0 yJ0_coder_7d493 yJ0_coder_7d493 ∈ big := bg (kT3 (List.mem_of_getElem? (i := 92) rfl)) rfl
theorem kC_J0_coder_7d493 : Cond.code yJ0_coder_7d493 cJ0_coder_7d493 1 (some .byte) ∈ big := bg (kT3 (List.mem_of_getElem? (i := 93) rfl)) rfl
theorem kf_J0_38 : Cond.fieldLink RJ0 38 "java/lang/String" "COMPACT_STRINGS" "Z" ∈ big := bg (kT3 (List.mem_of_getElem? (i := 94) rfl)) rfl
theorem km_X5_104 : Cond.methodLink RX5 104 yJ0_charAt_5068e ∈ big := bg (kT3 (List.mem_of_getElem? (i := 96) rfl)) rfl
theorem kI_J0_charAt_5068e : Cond.instanceMethod yJ0_charAt_5068e ∈ big := bg (kT3 (List.mem_of_getElem? (i := 97) rfl)) rfl
theorem kS_J0_charAt_5068e : Cond.selects RJ0 yJ0_charAt_5068e yJ0_charAt_5068e ∈ big := bg (kT3 (List.mem_of_getElem? (i := 98) rfl)) rfl
theorem kC_J0_charAt_5068e : Cond.code yJ0_charAt_5068e cJ0_charAt_5068e 2 (some .char) ∈ big := bg (kT3 (List.mem_of_getElem? (i := 99) rfl)) rfl
theorem km_J0_492 : Cond.methodLink RJ0 492 yJ0_isLatin1_aae02 ∈ big := bg (kT3 (List.mem_of_getElem? (i := 100) rfl)) rfl
theorem kI_J0_isLatin1_aae02 : Cond.instanceMethod yJ0_isLatin1_aae02 ∈ big := bg (kT3 (List.mem_of_getElem? (i := 101) rfl)) rfl
theorem kS_J0_isLatin1_aae02 : Cond.selects RJ0 yJ0_isLatin1_aae02 yJ0_isLatin1_aae02 ∈ big := bg (kT3 (List.mem_of_getElem? (i := 102) rfl)) rfl
theorem kC_J0_isLatin1_aae02 : Cond.code yJ0_isLatin1_aae02 cJ0_isLatin1_aae02 1 (some .boolean) ∈ big := bg (kT3 (List.mem_of_getElem? (i := 103) rfl)) rfl
theorem km_J0_495 : Cond.methodLink RJ0 495 yJ1_charAt_3b067 ∈ big := bg (kT3 (List.mem_of_getElem? (i := 104) rfl)) rfl
theorem kt_J1_charAt_3b067 : Cond.static yJ1_charAt_3b067 ∈ big := bg (kT3 (List.mem_of_getElem? (i := 105) rfl)) rfl
theorem kC_J1_charAt_3b067 : Cond.code yJ1_charAt_3b067 cJ1_charAt_3b067 2 (some .char) ∈ big := bg (kT3 (List.mem_of_getElem? (i := 106) rfl)) rfl
theorem km_J1_9 : Cond.methodLink RJ1 9 yJ0_checkIndex_df160 ∈ big := bg (kT3 (List.mem_of_getElem? (i := 107) rfl)) rfl
theorem kt_J0_checkIndex_df160 : Cond.static yJ0_checkIndex_df160 ∈ big := bg (kT3 (List.mem_of_getElem? (i := 108) rfl)) rfl
theorem kC_J0_checkIndex_df160 : Cond.code yJ0_checkIndex_df160 cJ0_checkIndex_df160 2 none ∈ big := bg (kT3 (List.mem_of_getElem? (i := 109) rfl)) rfl
theorem kf_J0_1053 : Cond.fieldLink RJ0 1053 "jdk/internal/util/Preconditions" "SIOOBE_FORMATTER" "Ljava/util/function/BiFunction;" ∈ big := bg (kT3 (List.mem_of_getElem? (i := 110) rfl)) rfl
theorem km_J0_1059 : Cond.methodLink RJ0 1059 yJ3_checkIndex_8e157 ∈ big := bg (kT3 (List.mem_of_getElem? (i := 112) rfl)) rfl
theorem kt_J3_checkIndex_8e157 : Cond.static yJ3_checkIndex_8e157 ∈ big := bg (kT3 (List.mem_of_getElem? (i := 113) rfl)) rfl
theorem kC_J3_checkIndex_8e157 : Cond.code yJ3_checkIndex_8e157 cJ3_checkIndex_8e157 3 (some .int) ∈ big := bg (kT3 (List.mem_of_getElem? (i := 114) rfl)) rfl
theorem km_J0_498 : Cond.methodLink RJ0 498 yJ2_charAt_3b067 ∈ big := bg (kT3 (List.mem_of_getElem? (i := 115) rfl)) rfl
theorem kt_J2_charAt_3b067 : Cond.static yJ2_charAt_3b067 ∈ big := bg (kT3 (List.mem_of_getElem? (i := 116) rfl)) rfl
theorem kC_J2_charAt_3b067 : Cond.code yJ2_charAt_3b067 cJ2_charAt_3b067 2 (some .char) ∈ big := bg (kT3 (List.mem_of_getElem? (i := 117) rfl)) rfl
theorem km_J2_67 : Cond.methodLink RJ2 67 yJ2_checkIndex_2214a ∈ big := bg (kT3 (List.mem_of_getElem? (i := 118) rfl)) rfl
theorem kt_J2_checkIndex_2214a : Cond.static yJ2_checkIndex_2214a ∈ big := bg (kT3 (List.mem_of_getElem? (i := 119) rfl)) rfl
theorem kC_J2_checkIndex_2214a : Cond.code yJ2_checkIndex_2214a cJ2_checkIndex_2214a 2 none ∈ big := bg (kT3 (List.mem_of_getElem? (i := 120) rfl)) rfl
theorem km_J2_48 : Cond.methodLink RJ2 48 yJ2_length_9d52b ∈ big := bg (kT3 (List.mem_of_getElem? (i := 121) rfl)) rfl
theorem kt_J2_length_9d52b : Cond.static yJ2_length_9d52b ∈ big := bg (kT3 (List.mem_of_getElem? (i := 122) rfl)) rfl
theorem kC_J2_length_9d52b : Cond.code yJ2_length_9d52b cJ2_length_9d52b 1 (some .int) ∈ big := bg (kT3 (List.mem_of_getElem? (i := 123) rfl)) rfl
theorem km_J2_414 : Cond.methodLink RJ2 414 yJ0_checkIndex_df160 ∈ big := bg (kT3 (List.mem_of_getElem? (i := 124) rfl)) rfl
theorem km_J2_71 : Cond.methodLink RJ2 71 yJ2_getChar_3b067 ∈ big := bg (kT3 (List.mem_of_getElem? (i := 125) rfl)) rfl
theorem kt_J2_getChar_3b067 : Cond.static yJ2_getChar_3b067 ∈ big := bg (kT3 (List.mem_of_getElem? (i := 126) rfl)) rfl
theorem kC_J2_getChar_3b067 : Cond.code yJ2_getChar_3b067 cJ2_getChar_3b067 2 (some .char) ∈ big := bg (kT3 (List.mem_of_getElem? (i := 127) rfl)) rfl
theorem kf_J2_44 : Cond.fieldLink RJ2 44 "java/lang/StringUTF16" "$assertionsDisabled" "Z" ∈ big := bg (kT3 (List.mem_of_getElem? (i := 128) rfl)) rfl
theorem kf_J2_59 : Cond.fieldLink RJ2 59 "java/lang/StringUTF16" "HI_BYTE_SHIFT" "I" ∈ big := bg (kT3 (List.mem_of_getElem? (i := 130) rfl)) rfl
theorem kf_J2_63 : Cond.fieldLink RJ2 63 "java/lang/StringUTF16" "LO_BYTE_SHIFT" "I" ∈ big := bg (kT3 (List.mem_of_getElem? (i := 132) rfl)) rfl
theorem km_X5_53 : Cond.methodLink RX5 53 yX5_takeToken ∈ big := bg (kT3 (List.mem_of_getElem? (i := 135) rfl)) rfl
theorem kI_X5_takeToken : Cond.instanceMethod yX5_takeToken ∈ big := bg (kT3 (List.mem_of_getElem? (i := 137) rfl)) rfl
theorem kC_X5_takeToken : Cond.code yX5_takeToken cX5_takeToken 1 (some .int) ∈ big := bg (kT3 (List.mem_of_getElem? (i := 138) rfl)) rfl
theorem km_X5_108 : Cond.methodLink RX5 108 yX5_takeClauseWord ∈ big := bg (kT3 (List.mem_of_getElem? (i := 139) rfl)) rfl
theorem kI_X5_takeClauseWord : Cond.instanceMethod yX5_takeClauseWord ∈ big := bg (kT3 (List.mem_of_getElem? (i := 141) rfl)) rfl
theorem kC_X5_takeClauseWord : Cond.code yX5_takeClauseWord cX5_takeClauseWord 1 (some .int) ∈ big := bg (kT3 (List.mem_of_getElem? (i := 142) rfl)) rfl
theorem km_X5_111 : Cond.methodLink RX5 111 yX5_takeKind ∈ big := bg (kT3 (List.mem_of_getElem? (i := 143) rfl)) rfl
theorem kI_X5_takeKind : Cond.instanceMethod yX5_takeKind ∈ big := bg (kT3 (List.mem_of_getElem? (i := 145) rfl)) rfl
theorem kC_X5_takeKind : Cond.code yX5_takeKind cX5_takeKind 1 (some .int) ∈ big := bg (kT3 (List.mem_of_getElem? (i := 146) rfl)) rfl
theorem km_X5_127 : Cond.methodLink RX5 127 yX5_clauseRow ∈ big := bg (kT3 (List.mem_of_getElem? (i := 147) rfl)) rfl
theorem kI_X5_clauseRow : Cond.instanceMethod yX5_clauseRow ∈ big := bg (kT3 (List.mem_of_getElem? (i := 149) rfl)) rfl
theorem kC_X5_clauseRow : Cond.code yX5_clauseRow cX5_clauseRow 1 (some (.array .int)) ∈ big := bg (kT3 (List.mem_of_getElem? (i := 150) rfl)) rfl
theorem km_X5_114 : Cond.methodLink RX5 114 yX5_takeAmount ∈ big := bg (kT3 (List.mem_of_getElem? (i := 151) rfl)) rfl
theorem kI_X5_takeAmount : Cond.instanceMethod yX5_takeAmount ∈ big := bg (kT3 (List.mem_of_getElem? (i := 153) rfl)) rfl
theorem kC_X5_takeAmount : Cond.code yX5_takeAmount cX5_takeAmount 2 (some .int) ∈ big := bg (kT3 (List.mem_of_getElem? (i := 154) rfl)) rfl
theorem km_X5_117 : Cond.methodLink RX5 117 yX5_takeSemicolon ∈ big := bg (kT3 (List.mem_of_getElem? (i := 155) rfl)) rfl
theorem kI_X5_takeSemicolon : Cond.instanceMethod yX5_takeSemicolon ∈ big := bg (kT3 (List.mem_of_getElem? (i := 157) rfl)) rfl
theorem kC_X5_takeSemicolon : Cond.code yX5_takeSemicolon cX5_takeSemicolon 1 (some .int) ∈ big := bg (kT3 (List.mem_of_getElem? (i := 158) rfl)) rfl
theorem km_X6_155 : Cond.methodLink RX6 155 yX4_adopt ∈ big := bg (kT3 (List.mem_of_getElem? (i := 159) rfl)) rfl
theorem kI_X4_adopt : Cond.instanceMethod yX4_adopt ∈ big := bg (kT3 (List.mem_of_getElem? (i := 160) rfl)) rfl
theorem kS_X4_adopt : Cond.selects RX4 yX4_adopt yX4_adopt ∈ big := bg (kT3 (List.mem_of_getElem? (i := 161) rfl)) rfl
theorem kC_X4_adopt : Cond.code yX4_adopt cX4_adopt 3 none ∈ big := bg (kT3 (List.mem_of_getElem? (i := 162) rfl)) rfl
theorem km_X4_37 : Cond.methodLink RX4 37 yX5_readToll ∈ big := bg (kT3 (List.mem_of_getElem? (i := 163) rfl)) rfl
theorem kI_X5_readToll : Cond.instanceMethod yX5_readToll ∈ big := bg (kT3 (List.mem_of_getElem? (i := 164) rfl)) rfl
theorem kS_X5_readToll : Cond.selects RX5 yX5_readToll yX5_readToll ∈ big := bg (kT3 (List.mem_of_getElem? (i := 165) rfl)) rfl
theorem kC_X5_readToll : Cond.code yX5_readToll cX5_readToll 2 (some .int) ∈ big := bg (kT3 (List.mem_of_getElem? (i := 166) rfl)) rfl
theorem km_X5_28 : Cond.methodLink RX5 28 Lib.Math.max.name ∈ big := bg (kT3 (List.mem_of_getElem? (i := 167) rfl)) rfl
theorem km_X4_43 : Cond.methodLink RX4 43 yX5_readAgain ∈ big := bg (kT3 (List.mem_of_getElem? (i := 168) rfl)) rfl
theorem kI_X5_readAgain : Cond.instanceMethod yX5_readAgain ∈ big := bg (kT3 (List.mem_of_getElem? (i := 169) rfl)) rfl
theorem kS_X5_readAgain : Cond.selects RX5 yX5_readAgain yX5_readAgain ∈ big := bg (kT3 (List.mem_of_getElem? (i := 170) rfl)) rfl
theorem kC_X5_readAgain : Cond.code yX5_readAgain cX5_readAgain 2 (some .int) ∈ big := bg (kT3 (List.mem_of_getElem? (i := 171) rfl)) rfl
theorem km_X6_159 : Cond.methodLink RX6 159 yX5_clauseCount ∈ big := bg (kT3 (List.mem_of_getElem? (i := 172) rfl)) rfl
theorem kI_X5_clauseCount : Cond.instanceMethod yX5_clauseCount ∈ big := bg (kT3 (List.mem_of_getElem? (i := 173) rfl)) rfl
theorem kS_X5_clauseCount : Cond.selects RX5 yX5_clauseCount yX5_clauseCount ∈ big := bg (kT3 (List.mem_of_getElem? (i := 174) rfl)) rfl
theorem kC_X5_clauseCount : Cond.code yX5_clauseCount cX5_clauseCount 1 (some .int) ∈ big := bg (kT3 (List.mem_of_getElem? (i := 175) rfl)) rfl
theorem km_L_112 : Cond.methodLink RL 112 yX6_fault ∈ big := bg (kT3 (List.mem_of_getElem? (i := 176) rfl)) rfl
theorem kI_X6_fault : Cond.instanceMethod yX6_fault ∈ big := bg (kT3 (List.mem_of_getElem? (i := 177) rfl)) rfl
theorem kS_X6_fault : Cond.selects RX6 yX6_fault yX6_fault ∈ big := bg (kT3 (List.mem_of_getElem? (i := 178) rfl)) rfl
theorem kC_X6_fault : Cond.code yX6_fault cX6_fault 2 (some .int) ∈ big := bg (kT3 (List.mem_of_getElem? (i := 179) rfl)) rfl
theorem km_X6_162 : Cond.methodLink RX6 162 yX5_faultNumber ∈ big := bg (kT3 (List.mem_of_getElem? (i := 180) rfl)) rfl
theorem kI_X5_faultNumber : Cond.instanceMethod yX5_faultNumber ∈ big := bg (kT3 (List.mem_of_getElem? (i := 181) rfl)) rfl
theorem kS_X5_faultNumber : Cond.selects RX5 yX5_faultNumber yX5_faultNumber ∈ big := bg (kT3 (List.mem_of_getElem? (i := 182) rfl)) rfl
theorem kC_X5_faultNumber : Cond.code yX5_faultNumber cX5_faultNumber 1 (some .int) ∈ big := bg (kT3 (List.mem_of_getElem? (i := 183) rfl)) rfl
theorem km_X6_165 : Cond.methodLink RX6 165 yX5_faultAt ∈ big := bg (kT3 (List.mem_of_getElem? (i := 184) rfl)) rfl
theorem kI_X5_faultAt : Cond.instanceMethod yX5_faultAt ∈ big := bg (kT3 (List.mem_of_getElem? (i := 185) rfl)) rfl
theorem kS_X5_faultAt : Cond.selects RX5 yX5_faultAt yX5_faultAt ∈ big := bg (kT3 (List.mem_of_getElem? (i := 186) rfl)) rfl
theorem kC_X5_faultAt : Cond.code yX5_faultAt cX5_faultAt 1 (some .int) ∈ big := bg (kT3 (List.mem_of_getElem? (i := 187) rfl)) rfl
theorem km_L_116 : Cond.methodLink RL 116 yX6_pass ∈ big := bg (kT3 (List.mem_of_getElem? (i := 188) rfl)) rfl
theorem kI_X6_pass : Cond.instanceMethod yX6_pass ∈ big := bg (kT3 (List.mem_of_getElem? (i := 189) rfl)) rfl
theorem kS_X6_pass : Cond.selects RX6 yX6_pass yX6_pass ∈ big := bg (kT3 (List.mem_of_getElem? (i := 190) rfl)) rfl
theorem kC_X6_pass : Cond.code yX6_pass cX6_pass 4 (some .int) ∈ big := bg (kT3 (List.mem_of_getElem? (i := 191) rfl)) rfl
theorem km_X6_168 : Cond.methodLink RX6 168 yX4_latestMinute ∈ big := bg (kT3 (List.mem_of_getElem? (i := 192) rfl)) rfl
theorem kI_X4_latestMinute : Cond.instanceMethod yX4_latestMinute ∈ big := bg (kT3 (List.mem_of_getElem? (i := 193) rfl)) rfl
theorem kS_X4_latestMinute : Cond.selects RX4 yX4_latestMinute yX4_latestMinute ∈ big := bg (kT3 (List.mem_of_getElem? (i := 194) rfl)) rfl
theorem kC_X4_latestMinute : Cond.code yX4_latestMinute cX4_latestMinute 1 (some .int) ∈ big := bg (kT3 (List.mem_of_getElem? (i := 195) rfl)) rfl
theorem km_X6_171 : Cond.methodLink RX6 171 yX4_charge ∈ big := bg (kT3 (List.mem_of_getElem? (i := 196) rfl)) rfl
theorem kI_X4_charge : Cond.instanceMethod yX4_charge ∈ big := bg (kT3 (List.mem_of_getElem? (i := 197) rfl)) rfl
theorem kS_X4_charge : Cond.selects RX4 yX4_charge yX4_charge ∈ big := bg (kT3 (List.mem_of_getElem? (i := 198) rfl)) rfl
theorem kC_X4_charge : Cond.code yX4_charge cX4_charge 5 (some .int) ∈ big := bg (kT3 (List.mem_of_getElem? (i := 199) rfl)) rfl
theorem km_X4_46 : Cond.methodLink RX4 46 yX4_goesFree ∈ big := bg (kT3 (List.mem_of_getElem? (i := 200) rfl)) rfl
theorem kI_X4_goesFree : Cond.instanceMethod yX4_goesFree ∈ big := bg (kT3 (List.mem_of_getElem? (i := 202) rfl)) rfl
theorem kC_X4_goesFree : Cond.code yX4_goesFree cX4_goesFree 4 (some .boolean) ∈ big := bg (kT3 (List.mem_of_getElem? (i := 203) rfl)) rfl
theorem km_L_121 : Cond.methodLink RL 121 yX6_about ∈ big := bg (kT3 (List.mem_of_getElem? (i := 204) rfl)) rfl
theorem kI_X6_about : Cond.instanceMethod yX6_about ∈ big := bg (kT3 (List.mem_of_getElem? (i := 205) rfl)) rfl
theorem kS_X6_about : Cond.selects RX6 yX6_about yX6_about ∈ big := bg (kT3 (List.mem_of_getElem? (i := 206) rfl)) rfl
theorem kC_X6_about : Cond.code yX6_about cX6_about 2 (some .int) ∈ big := bg (kT3 (List.mem_of_getElem? (i := 207) rfl)) rfl
theorem km_X6_175 : Cond.methodLink RX6 175 yX4_tollOf ∈ big := bg (kT3 (List.mem_of_getElem? (i := 208) rfl)) rfl
theorem kI_X4_tollOf : Cond.instanceMethod yX4_tollOf ∈ big := bg (kT3 (List.mem_of_getElem? (i := 209) rfl)) rfl
theorem kS_X4_tollOf : Cond.selects RX4 yX4_tollOf yX4_tollOf ∈ big := bg (kT3 (List.mem_of_getElem? (i := 210) rfl)) rfl
theorem kC_X4_tollOf : Cond.code yX4_tollOf cX4_tollOf 2 (some .int) ∈ big := bg (kT3 (List.mem_of_getElem? (i := 211) rfl)) rfl
theorem km_X6_178 : Cond.methodLink RX6 178 yX4_againOf ∈ big := bg (kT3 (List.mem_of_getElem? (i := 212) rfl)) rfl
theorem kI_X4_againOf : Cond.instanceMethod yX4_againOf ∈ big := bg (kT3 (List.mem_of_getElem? (i := 213) rfl)) rfl
theorem kS_X4_againOf : Cond.selects RX4 yX4_againOf yX4_againOf ∈ big := bg (kT3 (List.mem_of_getElem? (i := 214) rfl)) rfl
theorem kC_X4_againOf : Cond.code yX4_againOf cX4_againOf 2 (some .int) ∈ big := bg (kT3 (List.mem_of_getElem? (i := 215) rfl)) rfl
theorem km_X6_181 : Cond.methodLink RX6 181 yX0_hullCount ∈ big := bg (kT3 (List.mem_of_getElem? (i := 216) rfl)) rfl
theorem kI_X0_hullCount : Cond.instanceMethod yX0_hullCount ∈ big := bg (kT3 (List.mem_of_getElem? (i := 217) rfl)) rfl
theorem kS_X0_hullCount : Cond.selects RX0 yX0_hullCount yX0_hullCount ∈ big := bg (kT3 (List.mem_of_getElem? (i := 218) rfl)) rfl
theorem kC_X0_hullCount : Cond.code yX0_hullCount cX0_hullCount 1 (some .int) ∈ big := bg (kT3 (List.mem_of_getElem? (i := 219) rfl)) rfl
theorem km_X6_184 : Cond.methodLink RX6 184 yX4_paidTogether ∈ big := bg (kT3 (List.mem_of_getElem? (i := 220) rfl)) rfl
theorem kI_X4_paidTogether : Cond.instanceMethod yX4_paidTogether ∈ big := bg (kT3 (List.mem_of_getElem? (i := 221) rfl)) rfl
theorem kS_X4_paidTogether : Cond.selects RX4 yX4_paidTogether yX4_paidTogether ∈ big := bg (kT3 (List.mem_of_getElem? (i := 222) rfl)) rfl
theorem kC_X4_paidTogether : Cond.code yX4_paidTogether cX4_paidTogether 1 (some .int) ∈ big := bg (kT3 (List.mem_of_getElem? (i := 223) rfl)) rfl
theorem km_X6_187 : Cond.methodLink RX6 187 yX4_wentFree ∈ big := bg (kT3 (List.mem_of_getElem? (i := 224) rfl)) rfl
theorem kI_X4_wentFree : Cond.instanceMethod yX4_wentFree ∈ big := bg (kT3 (List.mem_of_getElem? (i := 225) rfl)) rfl
theorem kS_X4_wentFree : Cond.selects RX4 yX4_wentFree yX4_wentFree ∈ big := bg (kT3 (List.mem_of_getElem? (i := 226) rfl)) rfl
theorem kC_X4_wentFree : Cond.code yX4_wentFree cX4_wentFree 1 (some .int) ∈ big := bg (kT3 (List.mem_of_getElem? (i := 227) rfl)) rfl
theorem km_L_9 : Cond.methodLink RL 9 yL_cell ∈ big := bg (kT3 (List.mem_of_getElem? (i := 228) rfl)) rfl
theorem kt_L_cell : Cond.static yL_cell ∈ big := bg (kT3 (List.mem_of_getElem? (i := 229) rfl)) rfl
theorem kC_L_cell : Cond.code yL_cell cL_cell 2 (some .int) ∈ big := bg (kT3 (List.mem_of_getElem? (i := 230) rfl)) rfl
theorem kq_L_18 : Cond.classLink RL 18 RX7 ∈ big := bg (kT3 (List.mem_of_getElem? (i := 231) rfl)) rfl
theorem kn_X7 : Cond.instantiable RX7 40 ∈ big := bg (kT3 (List.mem_of_getElem? (i := 232) rfl)) rfl
theorem km_L_20 : Cond.methodLink RL 20 yX7_init ∈ big := bg (kT3 (List.mem_of_getElem? (i := 233) rfl)) rfl
theorem kI_X7_init : Cond.instanceMethod yX7_init ∈ big := bg (kT3 (List.mem_of_getElem? (i := 234) rfl)) rfl
theorem kC_X7_init : Cond.code yX7_init cX7_init 3 none ∈ big := bg (kT3 (List.mem_of_getElem? (i := 235) rfl)) rfl
theorem km_X7_1 : Cond.methodLink RX7 1 objectInit ∈ big := bg (kT3 (List.mem_of_getElem? (i := 236) rfl)) rfl
theorem kf_X7_81 : Cond.fieldLink RX7 81 "BoatBridgeModel" "hulls" "I" ∈ big := bg (kT3 (List.mem_of_getElem? (i := 237) rfl)) rfl
theorem kf_X7_7 : Cond.fieldLink RX7 7 "BoatBridgeModel" "bears" "[I" ∈ big := bg (kT3 (List.mem_of_getElem? (i := 238) rfl)) rfl
theorem kf_X7_13 : Cond.fieldLink RX7 13 "BoatBridgeModel" "anchor" "[I" ∈ big := bg (kT3 (List.mem_of_getElem? (i := 239) rfl)) rfl
theorem kf_X7_16 : Cond.fieldLink RX7 16 "BoatBridgeModel" "pull" "[I" ∈ big := bg (kT4 (List.mem_of_getElem? (i := 0) rfl)) rfl
theorem kf_X7_98 : Cond.fieldLink RX7 98 "BoatBridgeModel" "carts" "I" ∈ big := bg (kT4 (List.mem_of_getElem? (i := 1) rfl)) rfl
theorem kf_X7_19 : Cond.fieldLink RX7 19 "BoatBridgeModel" "weight" "[I" ∈ big := bg (kT4 (List.mem_of_getElem? (i := 2) rfl)) rfl
theorem kf_X7_22 : Cond.fieldLink RX7 22 "BoatBridgeModel" "gap" "[I" ∈ big := bg (kT4 (List.mem_of_getElem? (i := 3) rfl)) rfl
theorem kf_X7_131 : Cond.fieldLink RX7 131 "BoatBridgeModel" "ships" "I" ∈ big := bg (kT4 (List.mem_of_getElem? (i := 4) rfl)) rfl
theorem kf_X7_25 : Cond.fieldLink RX7 25 "BoatBridgeModel" "comes" "[I" ∈ big := bg (kT4 (List.mem_of_getElem? (i := 5) rfl)) rfl
theorem kf_X7_134 : Cond.fieldLink RX7 134 "BoatBridgeModel" "crossers" "I" ∈ big := bg (kT4 (List.mem_of_getElem? (i := 6) rfl)) rfl
theorem kf_X7_28 : Cond.fieldLink RX7 28 "BoatBridgeModel" "crosses" "[I" ∈ big := bg (kT4 (List.mem_of_getElem? (i := 7) rfl)) rfl
theorem kf_X7_31 : Cond.fieldLink RX7 31 "BoatBridgeModel" "time" "[I" ∈ big := bg (kT4 (List.mem_of_getElem? (i := 8) rfl)) rfl
theorem kf_X7_34 : Cond.fieldLink RX7 34 "BoatBridgeModel" "low" "[I" ∈ big := bg (kT4 (List.mem_of_getElem? (i := 9) rfl)) rfl
theorem kf_X7_37 : Cond.fieldLink RX7 37 "BoatBridgeModel" "high" "[I" ∈ big := bg (kT4 (List.mem_of_getElem? (i := 10) rfl)) rfl
theorem kf_X7_40 : Cond.fieldLink RX7 40 "BoatBridgeModel" "mostLevel" "I" ∈ big := bg (kT4 (List.mem_of_getElem? (i := 11) rfl)) rfl
theorem kf_X7_44 : Cond.fieldLink RX7 44 "BoatBridgeModel" "lays" "I" ∈ big := bg (kT4 (List.mem_of_getElem? (i := 12) rfl)) rfl
theorem kf_X7_47 : Cond.fieldLink RX7 47 "BoatBridgeModel" "tape" "[B" ∈ big := bg (kT4 (List.mem_of_getElem? (i := 13) rfl)) rfl
theorem kf_X7_180 : Cond.fieldLink RX7 180 "BoatBridgeModel" "taped" "I" ∈ big := bg (kT4 (List.mem_of_getElem? (i := 14) rfl)) rfl
theorem kf_X7_198 : Cond.fieldLink RX7 198 "BoatBridgeModel" "at" "I" ∈ big := bg (kT4 (List.mem_of_getElem? (i := 15) rfl)) rfl
theorem kf_X7_201 : Cond.fieldLink RX7 201 "BoatBridgeModel" "token" "I" ∈ big := bg (kT4 (List.mem_of_getElem? (i := 16) rfl)) rfl
theorem kf_X7_204 : Cond.fieldLink RX7 204 "BoatBridgeModel" "sort" "I" ∈ big := bg (kT4 (List.mem_of_getElem? (i := 17) rfl)) rfl
theorem kf_X7_216 : Cond.fieldLink RX7 216 "BoatBridgeModel" "told" "I" ∈ big := bg (kT4 (List.mem_of_getElem? (i := 18) rfl)) rfl
theorem kf_X7_224 : Cond.fieldLink RX7 224 "BoatBridgeModel" "wrong" "I" ∈ big := bg (kT4 (List.mem_of_getElem? (i := 19) rfl)) rfl
theorem kf_X7_227 : Cond.fieldLink RX7 227 "BoatBridgeModel" "wrongAt" "I" ∈ big := bg (kT4 (List.mem_of_getElem? (i := 20) rfl)) rfl
theorem kf_X7_51 : Cond.fieldLink RX7 51 "BoatBridgeModel" "fault" "I" ∈ big := bg (kT4 (List.mem_of_getElem? (i := 21) rfl)) rfl
theorem kf_X7_54 : Cond.fieldLink RX7 54 "BoatBridgeModel" "faultAt" "I" ∈ big := bg (kT4 (List.mem_of_getElem? (i := 22) rfl)) rfl
theorem kf_X7_57 : Cond.fieldLink RX7 57 "BoatBridgeModel" "newToll" "[I" ∈ big := bg (kT4 (List.mem_of_getElem? (i := 23) rfl)) rfl
theorem kf_X7_60 : Cond.fieldLink RX7 60 "BoatBridgeModel" "newAgain" "[I" ∈ big := bg (kT4 (List.mem_of_getElem? (i := 24) rfl)) rfl
theorem kf_X7_63 : Cond.fieldLink RX7 63 "BoatBridgeModel" "toll" "[I" ∈ big := bg (kT4 (List.mem_of_getElem? (i := 25) rfl)) rfl
theorem kf_X7_66 : Cond.fieldLink RX7 66 "BoatBridgeModel" "again" "[I" ∈ big := bg (kT4 (List.mem_of_getElem? (i := 26) rfl)) rfl
theorem kf_X7_245 : Cond.fieldLink RX7 245 "BoatBridgeModel" "latest" "I" ∈ big := bg (kT4 (List.mem_of_getElem? (i := 27) rfl)) rfl
theorem kf_X7_253 : Cond.fieldLink RX7 253 "BoatBridgeModel" "paid" "I" ∈ big := bg (kT4 (List.mem_of_getElem? (i := 28) rfl)) rfl
theorem kf_X7_250 : Cond.fieldLink RX7 250 "BoatBridgeModel" "free" "I" ∈ big := bg (kT4 (List.mem_of_getElem? (i := 29) rfl)) rfl
theorem kf_X7_69 : Cond.fieldLink RX7 69 "BoatBridgeModel" "paidAt" "[I" ∈ big := bg (kT4 (List.mem_of_getElem? (i := 30) rfl)) rfl
theorem kf_X7_113 : Cond.fieldLink RX7 113 "BoatBridgeModel" "worstMargin" "I" ∈ big := bg (kT4 (List.mem_of_getElem? (i := 31) rfl)) rfl
theorem kf_X7_116 : Cond.fieldLink RX7 116 "BoatBridgeModel" "worstHull" "I" ∈ big := bg (kT4 (List.mem_of_getElem? (i := 32) rfl)) rfl
theorem kf_X7_119 : Cond.fieldLink RX7 119 "BoatBridgeModel" "worstStep" "I" ∈ big := bg (kT4 (List.mem_of_getElem? (i := 33) rfl)) rfl
theorem kf_X7_72 : Cond.fieldLink RX7 72 "BoatBridgeModel" "order" "[I" ∈ big := bg (kT4 (List.mem_of_getElem? (i := 34) rfl)) rfl
theorem kf_X7_75 : Cond.fieldLink RX7 75 "BoatBridgeModel" "least" "[I" ∈ big := bg (kT4 (List.mem_of_getElem? (i := 35) rfl)) rfl
theorem kf_X7_78 : Cond.fieldLink RX7 78 "BoatBridgeModel" "fewest" "[I" ∈ big := bg (kT4 (List.mem_of_getElem? (i := 36) rfl)) rfl
theorem km_L_25 : Cond.methodLink RL 25 yX7_hull ∈ big := bg (kT4 (List.mem_of_getElem? (i := 118) rfl)) rfl
theorem kI_X7_hull : Cond.instanceMethod yX7_hull ∈ big := bg (kT4 (List.mem_of_getElem? (i := 119) rfl)) rfl
theorem kS_X7_hull : Cond.selects RX7 yX7_hull yX7_hull ∈ big := bg (kT4 (List.mem_of_getElem? (i := 120) rfl)) rfl
theorem kC_X7_hull : Cond.code yX7_hull cX7_hull 4 (some .boolean) ∈ big := bg (kT4 (List.mem_of_getElem? (i := 121) rfl)) rfl
theorem km_X7_88 : Cond.methodLink RX7 88 yX7_isHull ∈ big := bg (kT4 (List.mem_of_getElem? (i := 122) rfl)) rfl
theorem kI_X7_isHull : Cond.instanceMethod yX7_isHull ∈ big := bg (kT4 (List.mem_of_getElem? (i := 124) rfl)) rfl
theorem kC_X7_isHull : Cond.code yX7_isHull cX7_isHull 2 (some .boolean) ∈ big := bg (kT4 (List.mem_of_getElem? (i := 125) rfl)) rfl
theorem km_X7_84 : Cond.methodLink RX7 84 yX7_in ∈ big := bg (kT4 (List.mem_of_getElem? (i := 126) rfl)) rfl
theorem kt_X7_in : Cond.static yX7_in ∈ big := bg (kT4 (List.mem_of_getElem? (i := 127) rfl)) rfl
theorem kC_X7_in : Cond.code yX7_in cX7_in 6 (some .boolean) ∈ big := bg (kT4 (List.mem_of_getElem? (i := 128) rfl)) rfl
theorem kc_X7_92 : Cond.constantLong RX7 92 (1000 : Int64) ∈ big := bg (kT4 (List.mem_of_getElem? (i := 129) rfl)) rfl
theorem km_L_30 : Cond.methodLink RL 30 yX7_pull ∈ big := bg (kT4 (List.mem_of_getElem? (i := 130) rfl)) rfl
theorem kI_X7_pull : Cond.instanceMethod yX7_pull ∈ big := bg (kT4 (List.mem_of_getElem? (i := 131) rfl)) rfl
theorem kS_X7_pull : Cond.selects RX7 yX7_pull yX7_pull ∈ big := bg (kT4 (List.mem_of_getElem? (i := 132) rfl)) rfl
theorem kC_X7_pull : Cond.code yX7_pull cX7_pull 3 (some .boolean) ∈ big := bg (kT4 (List.mem_of_getElem? (i := 133) rfl)) rfl
theorem kc_X7_94 : Cond.constantLong RX7 94 (9 : Int64) ∈ big := bg (kT4 (List.mem_of_getElem? (i := 134) rfl)) rfl
theorem km_L_35 : Cond.methodLink RL 35 yX7_drags ∈ big := bg (kT4 (List.mem_of_getElem? (i := 135) rfl)) rfl
theorem kI_X7_drags : Cond.instanceMethod yX7_drags ∈ big := bg (kT4 (List.mem_of_getElem? (i := 136) rfl)) rfl
theorem kS_X7_drags : Cond.selects RX7 yX7_drags yX7_drags ∈ big := bg (kT4 (List.mem_of_getElem? (i := 137) rfl)) rfl
theorem kC_X7_drags : Cond.code yX7_drags cX7_drags 4 (some .int) ∈ big := bg (kT4 (List.mem_of_getElem? (i := 138) rfl)) rfl
theorem km_L_40 : Cond.methodLink RL 40 yX7_cart ∈ big := bg (kT4 (List.mem_of_getElem? (i := 139) rfl)) rfl
theorem kI_X7_cart : Cond.instanceMethod yX7_cart ∈ big := bg (kT4 (List.mem_of_getElem? (i := 140) rfl)) rfl
theorem kS_X7_cart : Cond.selects RX7 yX7_cart yX7_cart ∈ big := bg (kT4 (List.mem_of_getElem? (i := 141) rfl)) rfl
theorem kC_X7_cart : Cond.code yX7_cart cX7_cart 3 (some .int) ∈ big := bg (kT4 (List.mem_of_getElem? (i := 142) rfl)) rfl
theorem kc_X7_96 : Cond.constantLong RX7 96 (400 : Int64) ∈ big := bg (kT4 (List.mem_of_getElem? (i := 143) rfl)) rfl
theorem kc_X7_101 : Cond.constantLong RX7 101 (12 : Int64) ∈ big := bg (kT4 (List.mem_of_getElem? (i := 144) rfl)) rfl
theorem km_L_45 : Cond.methodLink RL 45 yX7_clear ∈ big := bg (kT4 (List.mem_of_getElem? (i := 145) rfl)) rfl
theorem kI_X7_clear : Cond.instanceMethod yX7_clear ∈ big := bg (kT4 (List.mem_of_getElem? (i := 146) rfl)) rfl
theorem kS_X7_clear : Cond.selects RX7 yX7_clear yX7_clear ∈ big := bg (kT4 (List.mem_of_getElem? (i := 147) rfl)) rfl
theorem kC_X7_clear : Cond.code yX7_clear cX7_clear 2 (some .int) ∈ big := bg (kT4 (List.mem_of_getElem? (i := 148) rfl)) rfl
theorem km_L_49 : Cond.methodLink RL 49 yX7_pressed ∈ big := bg (kT4 (List.mem_of_getElem? (i := 149) rfl)) rfl
theorem kI_X7_pressed : Cond.instanceMethod yX7_pressed ∈ big := bg (kT4 (List.mem_of_getElem? (i := 150) rfl)) rfl
theorem kS_X7_pressed : Cond.selects RX7 yX7_pressed yX7_pressed ∈ big := bg (kT4 (List.mem_of_getElem? (i := 151) rfl)) rfl
theorem kC_X7_pressed : Cond.code yX7_pressed cX7_pressed 3 (some .int) ∈ big := bg (kT4 (List.mem_of_getElem? (i := 152) rfl)) rfl
theorem kc_X7_107 : Cond.constantLong RX7 107 (100 : Int64) ∈ big := bg (kT4 (List.mem_of_getElem? (i := 153) rfl)) rfl
theorem km_X7_109 : Cond.methodLink RX7 109 yX7_pressOn ∈ big := bg (kT4 (List.mem_of_getElem? (i := 154) rfl)) rfl
theorem kI_X7_pressOn : Cond.instanceMethod yX7_pressOn ∈ big := bg (kT4 (List.mem_of_getElem? (i := 156) rfl)) rfl
theorem kC_X7_pressOn : Cond.code yX7_pressOn cX7_pressOn 7 (some .int) ∈ big := bg (kT4 (List.mem_of_getElem? (i := 157) rfl)) rfl
theorem km_X7_103 : Cond.methodLink RX7 103 yX7_placeOf ∈ big := bg (kT4 (List.mem_of_getElem? (i := 158) rfl)) rfl
theorem kI_X7_placeOf : Cond.instanceMethod yX7_placeOf ∈ big := bg (kT4 (List.mem_of_getElem? (i := 160) rfl)) rfl
theorem kC_X7_placeOf : Cond.code yX7_placeOf cX7_placeOf 6 (some .int) ∈ big := bg (kT4 (List.mem_of_getElem? (i := 161) rfl)) rfl
theorem km_L_53 : Cond.methodLink RL 53 yX7_worst ∈ big := bg (kT4 (List.mem_of_getElem? (i := 162) rfl)) rfl
theorem kI_X7_worst : Cond.instanceMethod yX7_worst ∈ big := bg (kT4 (List.mem_of_getElem? (i := 163) rfl)) rfl
theorem kS_X7_worst : Cond.selects RX7 yX7_worst yX7_worst ∈ big := bg (kT4 (List.mem_of_getElem? (i := 164) rfl)) rfl
theorem kC_X7_worst : Cond.code yX7_worst cX7_worst 2 (some .int) ∈ big := bg (kT4 (List.mem_of_getElem? (i := 165) rfl)) rfl
theorem kc_X7_122 : Cond.constantLong RX7 122 (2 : Int64) ∈ big := bg (kT4 (List.mem_of_getElem? (i := 166) rfl)) rfl
theorem kc_X7_124 : Cond.constant RX7 124 (-100000) ∈ big := bg (kT4 (List.mem_of_getElem? (i := 167) rfl)) rfl
theorem km_X7_125 : Cond.methodLink RX7 125 yX7_looks ∈ big := bg (kT4 (List.mem_of_getElem? (i := 168) rfl)) rfl
theorem kI_X7_looks : Cond.instanceMethod yX7_looks ∈ big := bg (kT4 (List.mem_of_getElem? (i := 170) rfl)) rfl
theorem kC_X7_looks : Cond.code yX7_looks cX7_looks 5 none ∈ big := bg (kT4 (List.mem_of_getElem? (i := 171) rfl)) rfl
theorem kc_X7_112 : Cond.constant RX7 112 (100000000) ∈ big := bg (kT4 (List.mem_of_getElem? (i := 172) rfl)) rfl
theorem km_L_57 : Cond.methodLink RL 57 yX7_gap ∈ big := bg (kT4 (List.mem_of_getElem? (i := 173) rfl)) rfl
theorem kI_X7_gap : Cond.instanceMethod yX7_gap ∈ big := bg (kT4 (List.mem_of_getElem? (i := 174) rfl)) rfl
theorem kS_X7_gap : Cond.selects RX7 yX7_gap yX7_gap ∈ big := bg (kT4 (List.mem_of_getElem? (i := 175) rfl)) rfl
theorem kC_X7_gap : Cond.code yX7_gap cX7_gap 3 (some .int) ∈ big := bg (kT4 (List.mem_of_getElem? (i := 176) rfl)) rfl
theorem km_L_61 : Cond.methodLink RL 61 yX7_ship ∈ big := bg (kT4 (List.mem_of_getElem? (i := 177) rfl)) rfl
theorem kI_X7_ship : Cond.instanceMethod yX7_ship ∈ big := bg (kT4 (List.mem_of_getElem? (i := 178) rfl)) rfl
theorem kS_X7_ship : Cond.selects RX7 yX7_ship yX7_ship ∈ big := bg (kT4 (List.mem_of_getElem? (i := 179) rfl)) rfl
theorem kC_X7_ship : Cond.code yX7_ship cX7_ship 2 (some .int) ∈ big := bg (kT4 (List.mem_of_getElem? (i := 180) rfl)) rfl
theorem kc_X7_129 : Cond.constantLong RX7 129 (239 : Int64) ∈ big := bg (kT4 (List.mem_of_getElem? (i := 181) rfl)) rfl
theorem km_L_65 : Cond.methodLink RL 65 yX7_crosser ∈ big := bg (kT4 (List.mem_of_getElem? (i := 182) rfl)) rfl
theorem kI_X7_crosser : Cond.instanceMethod yX7_crosser ∈ big := bg (kT4 (List.mem_of_getElem? (i := 183) rfl)) rfl
theorem kS_X7_crosser : Cond.selects RX7 yX7_crosser yX7_crosser ∈ big := bg (kT4 (List.mem_of_getElem? (i := 184) rfl)) rfl
theorem kC_X7_crosser : Cond.code yX7_crosser cX7_crosser 2 (some .int) ∈ big := bg (kT4 (List.mem_of_getElem? (i := 185) rfl)) rfl
theorem km_L_70 : Cond.methodLink RL 70 yX7_times ∈ big := bg (kT4 (List.mem_of_getElem? (i := 186) rfl)) rfl
theorem kI_X7_times : Cond.instanceMethod yX7_times ∈ big := bg (kT4 (List.mem_of_getElem? (i := 187) rfl)) rfl
theorem kS_X7_times : Cond.selects RX7 yX7_times yX7_times ∈ big := bg (kT4 (List.mem_of_getElem? (i := 188) rfl)) rfl
theorem kC_X7_times : Cond.code yX7_times cX7_times 5 (some .boolean) ∈ big := bg (kT4 (List.mem_of_getElem? (i := 189) rfl)) rfl
theorem kc_X7_137 : Cond.constantLong RX7 137 (20 : Int64) ∈ big := bg (kT4 (List.mem_of_getElem? (i := 190) rfl)) rfl
theorem km_L_74 : Cond.methodLink RL 74 yX7_waits ∈ big := bg (kT4 (List.mem_of_getElem? (i := 191) rfl)) rfl
theorem kI_X7_waits : Cond.instanceMethod yX7_waits ∈ big := bg (kT4 (List.mem_of_getElem? (i := 192) rfl)) rfl
theorem kS_X7_waits : Cond.selects RX7 yX7_waits yX7_waits ∈ big := bg (kT4 (List.mem_of_getElem? (i := 193) rfl)) rfl
theorem kC_X7_waits : Cond.code yX7_waits cX7_waits 2 (some .int) ∈ big := bg (kT4 (List.mem_of_getElem? (i := 194) rfl)) rfl
theorem km_X7_159 : Cond.methodLink RX7 159 yX7_bestWaits ∈ big := bg (kT4 (List.mem_of_getElem? (i := 195) rfl)) rfl
theorem kI_X7_bestWaits : Cond.instanceMethod yX7_bestWaits ∈ big := bg (kT4 (List.mem_of_getElem? (i := 197) rfl)) rfl
theorem kC_X7_bestWaits : Cond.code yX7_bestWaits cX7_bestWaits 5 (some .int) ∈ big := bg (kT4 (List.mem_of_getElem? (i := 198) rfl)) rfl
theorem km_X7_153 : Cond.methodLink RX7 153 yX7_sorts ∈ big := bg (kT4 (List.mem_of_getElem? (i := 199) rfl)) rfl
theorem kI_X7_sorts : Cond.instanceMethod yX7_sorts ∈ big := bg (kT4 (List.mem_of_getElem? (i := 201) rfl)) rfl
theorem kC_X7_sorts : Cond.code yX7_sorts cX7_sorts 3 none ∈ big := bg (kT4 (List.mem_of_getElem? (i := 202) rfl)) rfl
theorem km_X7_156 : Cond.methodLink RX7 156 yX7_opens ∈ big := bg (kT4 (List.mem_of_getElem? (i := 203) rfl)) rfl
theorem kI_X7_opens : Cond.instanceMethod yX7_opens ∈ big := bg (kT4 (List.mem_of_getElem? (i := 205) rfl)) rfl
theorem kC_X7_opens : Cond.code yX7_opens cX7_opens 5 (some .int) ∈ big := bg (kT4 (List.mem_of_getElem? (i := 206) rfl)) rfl
theorem km_X7_139 : Cond.methodLink RX7 139 yX7_cameBy ∈ big := bg (kT4 (List.mem_of_getElem? (i := 207) rfl)) rfl
theorem kI_X7_cameBy : Cond.instanceMethod yX7_cameBy ∈ big := bg (kT4 (List.mem_of_getElem? (i := 209) rfl)) rfl
theorem kC_X7_cameBy : Cond.code yX7_cameBy cX7_cameBy 4 (some .int) ∈ big := bg (kT4 (List.mem_of_getElem? (i := 210) rfl)) rfl
theorem km_X7_143 : Cond.methodLink RX7 143 yX7_endOf ∈ big := bg (kT4 (List.mem_of_getElem? (i := 211) rfl)) rfl
theorem kI_X7_endOf : Cond.instanceMethod yX7_endOf ∈ big := bg (kT4 (List.mem_of_getElem? (i := 213) rfl)) rfl
theorem kC_X7_endOf : Cond.code yX7_endOf cX7_endOf 3 (some .int) ∈ big := bg (kT4 (List.mem_of_getElem? (i := 214) rfl)) rfl
theorem km_X7_147 : Cond.methodLink RX7 147 yX7_rest ∈ big := bg (kT4 (List.mem_of_getElem? (i := 215) rfl)) rfl
theorem kI_X7_rest : Cond.instanceMethod yX7_rest ∈ big := bg (kT4 (List.mem_of_getElem? (i := 217) rfl)) rfl
theorem kC_X7_rest : Cond.code yX7_rest cX7_rest 3 (some .int) ∈ big := bg (kT4 (List.mem_of_getElem? (i := 218) rfl)) rfl
theorem km_X7_150 : Cond.methodLink RX7 150 yX7_waitsOf ∈ big := bg (kT4 (List.mem_of_getElem? (i := 219) rfl)) rfl
theorem kI_X7_waitsOf : Cond.instanceMethod yX7_waitsOf ∈ big := bg (kT4 (List.mem_of_getElem? (i := 221) rfl)) rfl
theorem kC_X7_waitsOf : Cond.code yX7_waitsOf cX7_waitsOf 7 (some .int) ∈ big := bg (kT4 (List.mem_of_getElem? (i := 222) rfl)) rfl
theorem km_L_78 : Cond.methodLink RL 78 yX7_opening ∈ big := bg (kT4 (List.mem_of_getElem? (i := 223) rfl)) rfl
theorem kI_X7_opening : Cond.instanceMethod yX7_opening ∈ big := bg (kT4 (List.mem_of_getElem? (i := 224) rfl)) rfl
theorem kS_X7_opening : Cond.selects RX7 yX7_opening yX7_opening ∈ big := bg (kT4 (List.mem_of_getElem? (i := 225) rfl)) rfl
theorem kC_X7_opening : Cond.code yX7_opening cX7_opening 8 (some .int) ∈ big := bg (kT4 (List.mem_of_getElem? (i := 226) rfl)) rfl
theorem km_L_82 : Cond.methodLink RL 82 yX7_atOnce ∈ big := bg (kT4 (List.mem_of_getElem? (i := 227) rfl)) rfl
theorem kI_X7_atOnce : Cond.instanceMethod yX7_atOnce ∈ big := bg (kT4 (List.mem_of_getElem? (i := 228) rfl)) rfl
theorem kS_X7_atOnce : Cond.selects RX7 yX7_atOnce yX7_atOnce ∈ big := bg (kT4 (List.mem_of_getElem? (i := 229) rfl)) rfl
theorem kC_X7_atOnce : Cond.code yX7_atOnce cX7_atOnce 6 (some .int) ∈ big := bg (kT4 (List.mem_of_getElem? (i := 230) rfl)) rfl
theorem km_L_86 : Cond.methodLink RL 86 yX7_level ∈ big := bg (kT4 (List.mem_of_getElem? (i := 231) rfl)) rfl
theorem kI_X7_level : Cond.instanceMethod yX7_level ∈ big := bg (kT4 (List.mem_of_getElem? (i := 232) rfl)) rfl
theorem kS_X7_level : Cond.selects RX7 yX7_level yX7_level ∈ big := bg (kT4 (List.mem_of_getElem? (i := 233) rfl)) rfl
theorem kC_X7_level : Cond.code yX7_level cX7_level 4 (some .boolean) ∈ big := bg (kT4 (List.mem_of_getElem? (i := 234) rfl)) rfl
theorem kc_X7_163 : Cond.constantLong RX7 163 (59 : Int64) ∈ big := bg (kT4 (List.mem_of_getElem? (i := 235) rfl)) rfl
theorem kc_X7_165 : Cond.constantLong RX7 165 (99 : Int64) ∈ big := bg (kT4 (List.mem_of_getElem? (i := 236) rfl)) rfl
theorem km_L_90 : Cond.methodLink RL 90 yX7_flood ∈ big := bg (kT4 (List.mem_of_getElem? (i := 237) rfl)) rfl
theorem kI_X7_flood : Cond.instanceMethod yX7_flood ∈ big := bg (kT4 (List.mem_of_getElem? (i := 238) rfl)) rfl
theorem kS_X7_flood : Cond.selects RX7 yX7_flood yX7_flood ∈ big := bg (kT4 (List.mem_of_getElem? (i := 239) rfl)) rfl
theorem kC_X7_flood : Cond.code yX7_flood cX7_flood 3 (some .boolean) ∈ big := bg (kT5 (List.mem_of_getElem? (i := 0) rfl)) rfl
theorem km_L_94 : Cond.methodLink RL 94 yX7_out ∈ big := bg (kT5 (List.mem_of_getElem? (i := 1) rfl)) rfl
theorem kI_X7_out : Cond.instanceMethod yX7_out ∈ big := bg (kT5 (List.mem_of_getElem? (i := 2) rfl)) rfl
theorem kS_X7_out : Cond.selects RX7 yX7_out yX7_out ∈ big := bg (kT5 (List.mem_of_getElem? (i := 3) rfl)) rfl
theorem kC_X7_out : Cond.code yX7_out cX7_out 1 (some .int) ∈ big := bg (kT5 (List.mem_of_getElem? (i := 4) rfl)) rfl
theorem km_X7_177 : Cond.methodLink RX7 177 yX7_fewestOut ∈ big := bg (kT5 (List.mem_of_getElem? (i := 5) rfl)) rfl
theorem kI_X7_fewestOut : Cond.instanceMethod yX7_fewestOut ∈ big := bg (kT5 (List.mem_of_getElem? (i := 7) rfl)) rfl
theorem kC_X7_fewestOut : Cond.code yX7_fewestOut cX7_fewestOut 5 (some .int) ∈ big := bg (kT5 (List.mem_of_getElem? (i := 8) rfl)) rfl
theorem km_X7_173 : Cond.methodLink RX7 173 yX7_goes ∈ big := bg (kT5 (List.mem_of_getElem? (i := 9) rfl)) rfl
theorem kI_X7_goes : Cond.instanceMethod yX7_goes ∈ big := bg (kT5 (List.mem_of_getElem? (i := 11) rfl)) rfl
theorem kC_X7_goes : Cond.code yX7_goes cX7_goes 5 (some .int) ∈ big := bg (kT5 (List.mem_of_getElem? (i := 12) rfl)) rfl
theorem km_X7_167 : Cond.methodLink RX7 167 yX7_isBad ∈ big := bg (kT5 (List.mem_of_getElem? (i := 13) rfl)) rfl
theorem kI_X7_isBad : Cond.instanceMethod yX7_isBad ∈ big := bg (kT5 (List.mem_of_getElem? (i := 15) rfl)) rfl
theorem kC_X7_isBad : Cond.code yX7_isBad cX7_isBad 2 (some .boolean) ∈ big := bg (kT5 (List.mem_of_getElem? (i := 16) rfl)) rfl
theorem km_X7_170 : Cond.methodLink RX7 170 yX7_from ∈ big := bg (kT5 (List.mem_of_getElem? (i := 17) rfl)) rfl
theorem kI_X7_from : Cond.instanceMethod yX7_from ∈ big := bg (kT5 (List.mem_of_getElem? (i := 19) rfl)) rfl
theorem kC_X7_from : Cond.code yX7_from cX7_from 3 (some .int) ∈ big := bg (kT5 (List.mem_of_getElem? (i := 20) rfl)) rfl
theorem km_L_98 : Cond.methodLink RL 98 yX7_outOn ∈ big := bg (kT5 (List.mem_of_getElem? (i := 21) rfl)) rfl
theorem kI_X7_outOn : Cond.instanceMethod yX7_outOn ∈ big := bg (kT5 (List.mem_of_getElem? (i := 22) rfl)) rfl
theorem kS_X7_outOn : Cond.selects RX7 yX7_outOn yX7_outOn ∈ big := bg (kT5 (List.mem_of_getElem? (i := 23) rfl)) rfl
theorem kC_X7_outOn : Cond.code yX7_outOn cX7_outOn 7 (some .int) ∈ big := bg (kT5 (List.mem_of_getElem? (i := 24) rfl)) rfl
theorem km_L_103 : Cond.methodLink RL 103 yX7_feed ∈ big := bg (kT5 (List.mem_of_getElem? (i := 25) rfl)) rfl
theorem kI_X7_feed : Cond.instanceMethod yX7_feed ∈ big := bg (kT5 (List.mem_of_getElem? (i := 26) rfl)) rfl
theorem kS_X7_feed : Cond.selects RX7 yX7_feed yX7_feed ∈ big := bg (kT5 (List.mem_of_getElem? (i := 27) rfl)) rfl
theorem kC_X7_feed : Cond.code yX7_feed cX7_feed 6 (some .int) ∈ big := bg (kT5 (List.mem_of_getElem? (i := 28) rfl)) rfl
theorem km_X7_183 : Cond.methodLink RX7 183 yX7_put ∈ big := bg (kT5 (List.mem_of_getElem? (i := 29) rfl)) rfl
theorem kI_X7_put : Cond.instanceMethod yX7_put ∈ big := bg (kT5 (List.mem_of_getElem? (i := 31) rfl)) rfl
theorem kC_X7_put : Cond.code yX7_put cX7_put 2 none ∈ big := bg (kT5 (List.mem_of_getElem? (i := 32) rfl)) rfl
theorem km_L_107 : Cond.methodLink RL 107 yX7_end ∈ big := bg (kT5 (List.mem_of_getElem? (i := 33) rfl)) rfl
theorem kI_X7_end : Cond.instanceMethod yX7_end ∈ big := bg (kT5 (List.mem_of_getElem? (i := 34) rfl)) rfl
theorem kS_X7_end : Cond.selects RX7 yX7_end yX7_end ∈ big := bg (kT5 (List.mem_of_getElem? (i := 35) rfl)) rfl
theorem kC_X7_end : Cond.code yX7_end cX7_end 2 (some .int) ∈ big := bg (kT5 (List.mem_of_getElem? (i := 36) rfl)) rfl
theorem km_L_111 : Cond.methodLink RL 111 yX7_tolls ∈ big := bg (kT5 (List.mem_of_getElem? (i := 37) rfl)) rfl
theorem kI_X7_tolls : Cond.instanceMethod yX7_tolls ∈ big := bg (kT5 (List.mem_of_getElem? (i := 38) rfl)) rfl
theorem kS_X7_tolls : Cond.selects RX7 yX7_tolls yX7_tolls ∈ big := bg (kT5 (List.mem_of_getElem? (i := 39) rfl)) rfl
theorem kC_X7_tolls : Cond.code yX7_tolls cX7_tolls 4 (some .int) ∈ big := bg (kT5 (List.mem_of_getElem? (i := 40) rfl)) rfl
theorem km_X7_233 : Cond.methodLink RX7 233 yX7_next ∈ big := bg (kT5 (List.mem_of_getElem? (i := 41) rfl)) rfl
theorem kI_X7_next : Cond.instanceMethod yX7_next ∈ big := bg (kT5 (List.mem_of_getElem? (i := 43) rfl)) rfl
theorem kC_X7_next : Cond.code yX7_next cX7_next 6 none ∈ big := bg (kT5 (List.mem_of_getElem? (i := 44) rfl)) rfl
theorem km_X7_207 : Cond.methodLink RX7 207 yX7_isLetter ∈ big := bg (kT5 (List.mem_of_getElem? (i := 45) rfl)) rfl
theorem kt_X7_isLetter : Cond.static yX7_isLetter ∈ big := bg (kT5 (List.mem_of_getElem? (i := 46) rfl)) rfl
theorem kC_X7_isLetter : Cond.code yX7_isLetter cX7_isLetter 1 (some .boolean) ∈ big := bg (kT5 (List.mem_of_getElem? (i := 47) rfl)) rfl
theorem kc_X7_186 : Cond.constantLong RX7 186 (97 : Int64) ∈ big := bg (kT5 (List.mem_of_getElem? (i := 48) rfl)) rfl
theorem kc_X7_188 : Cond.constantLong RX7 188 (122 : Int64) ∈ big := bg (kT5 (List.mem_of_getElem? (i := 49) rfl)) rfl
theorem kc_X7_190 : Cond.constantLong RX7 190 (65 : Int64) ∈ big := bg (kT5 (List.mem_of_getElem? (i := 50) rfl)) rfl
theorem kc_X7_192 : Cond.constantLong RX7 192 (90 : Int64) ∈ big := bg (kT5 (List.mem_of_getElem? (i := 51) rfl)) rfl
theorem kc_X7_210 : Cond.constantLong RX7 210 (64 : Int64) ∈ big := bg (kT5 (List.mem_of_getElem? (i := 52) rfl)) rfl
theorem km_X7_212 : Cond.methodLink RX7 212 yX7_wordOf ∈ big := bg (kT5 (List.mem_of_getElem? (i := 53) rfl)) rfl
theorem kt_X7_wordOf : Cond.static yX7_wordOf ∈ big := bg (kT5 (List.mem_of_getElem? (i := 54) rfl)) rfl
theorem kC_X7_wordOf : Cond.code yX7_wordOf cX7_wordOf 2 (some .int) ∈ big := bg (kT5 (List.mem_of_getElem? (i := 55) rfl)) rfl
theorem kc_X7_194 : Cond.constantLong RX7 194 (13826860 : Int64) ∈ big := bg (kT5 (List.mem_of_getElem? (i := 56) rfl)) rfl
theorem kc_X7_196 : Cond.constantLong RX7 196 (564009582 : Int64) ∈ big := bg (kT5 (List.mem_of_getElem? (i := 57) rfl)) rfl
theorem kc_X7_219 : Cond.constantLong RX7 219 (48 : Int64) ∈ big := bg (kT5 (List.mem_of_getElem? (i := 58) rfl)) rfl
theorem kc_X7_221 : Cond.constantLong RX7 221 (57 : Int64) ∈ big := bg (kT5 (List.mem_of_getElem? (i := 59) rfl)) rfl
theorem kc_X7_223 : Cond.constant RX7 223 (99999) ∈ big := bg (kT5 (List.mem_of_getElem? (i := 60) rfl)) rfl
theorem km_X7_240 : Cond.methodLink RX7 240 yX7_clause ∈ big := bg (kT5 (List.mem_of_getElem? (i := 61) rfl)) rfl
theorem kI_X7_clause : Cond.instanceMethod yX7_clause ∈ big := bg (kT5 (List.mem_of_getElem? (i := 63) rfl)) rfl
theorem kC_X7_clause : Cond.code yX7_clause cX7_clause 4 none ∈ big := bg (kT5 (List.mem_of_getElem? (i := 64) rfl)) rfl
theorem km_X7_230 : Cond.methodLink RX7 230 yX7_fails ∈ big := bg (kT5 (List.mem_of_getElem? (i := 65) rfl)) rfl
theorem kI_X7_fails : Cond.instanceMethod yX7_fails ∈ big := bg (kT5 (List.mem_of_getElem? (i := 67) rfl)) rfl
theorem kC_X7_fails : Cond.code yX7_fails cX7_fails 2 none ∈ big := bg (kT5 (List.mem_of_getElem? (i := 68) rfl)) rfl
theorem kc_X7_236 : Cond.constantLong RX7 236 (5 : Int64) ∈ big := bg (kT5 (List.mem_of_getElem? (i := 69) rfl)) rfl
theorem kc_X7_238 : Cond.constantLong RX7 238 (999 : Int64) ∈ big := bg (kT5 (List.mem_of_getElem? (i := 70) rfl)) rfl
theorem km_L_115 : Cond.methodLink RL 115 yX7_fault ∈ big := bg (kT5 (List.mem_of_getElem? (i := 71) rfl)) rfl
theorem kI_X7_fault : Cond.instanceMethod yX7_fault ∈ big := bg (kT5 (List.mem_of_getElem? (i := 72) rfl)) rfl
theorem kS_X7_fault : Cond.selects RX7 yX7_fault yX7_fault ∈ big := bg (kT5 (List.mem_of_getElem? (i := 73) rfl)) rfl
theorem kC_X7_fault : Cond.code yX7_fault cX7_fault 2 (some .int) ∈ big := bg (kT5 (List.mem_of_getElem? (i := 74) rfl)) rfl
theorem km_L_120 : Cond.methodLink RL 120 yX7_pass ∈ big := bg (kT5 (List.mem_of_getElem? (i := 75) rfl)) rfl
theorem kI_X7_pass : Cond.instanceMethod yX7_pass ∈ big := bg (kT5 (List.mem_of_getElem? (i := 76) rfl)) rfl
theorem kS_X7_pass : Cond.selects RX7 yX7_pass yX7_pass ∈ big := bg (kT5 (List.mem_of_getElem? (i := 77) rfl)) rfl
theorem kC_X7_pass : Cond.code yX7_pass cX7_pass 6 (some .int) ∈ big := bg (kT5 (List.mem_of_getElem? (i := 78) rfl)) rfl
theorem kc_X7_243 : Cond.constantLong RX7 243 (19 : Int64) ∈ big := bg (kT5 (List.mem_of_getElem? (i := 79) rfl)) rfl
theorem kc_X7_248 : Cond.constantLong RX7 248 (9999 : Int64) ∈ big := bg (kT5 (List.mem_of_getElem? (i := 80) rfl)) rfl
theorem km_L_124 : Cond.methodLink RL 124 yX7_about ∈ big := bg (kT5 (List.mem_of_getElem? (i := 81) rfl)) rfl
theorem kI_X7_about : Cond.instanceMethod yX7_about ∈ big := bg (kT5 (List.mem_of_getElem? (i := 82) rfl)) rfl
theorem kS_X7_about : Cond.selects RX7 yX7_about yX7_about ∈ big := bg (kT5 (List.mem_of_getElem? (i := 83) rfl)) rfl
theorem kC_X7_about : Cond.code yX7_about cX7_about 2 (some .int) ∈ big := bg (kT5 (List.mem_of_getElem? (i := 84) rfl)) rfl
theorem kc_X7_256 : Cond.constantLong RX7 256 (25 : Int64) ∈ big := bg (kT5 (List.mem_of_getElem? (i := 85) rfl)) rfl
theorem kc_X7_258 : Cond.constantLong RX7 258 (30 : Int64) ∈ big := bg (kT5 (List.mem_of_getElem? (i := 86) rfl)) rfl
theorem kc_X7_260 : Cond.constantLong RX7 260 (35 : Int64) ∈ big := bg (kT5 (List.mem_of_getElem? (i := 87) rfl)) rfl
theorem kf_J0_9 : Cond.fieldLink RJ0 9 "java/lang/String" "value" "[B" ∈ big := bg (kT5 (List.mem_of_getElem? (i := 88) rfl)) rfl
theorem kf_J0_15 : Cond.fieldLink RJ0 15 "java/lang/String" "coder" "B" ∈ big := bg (kT5 (List.mem_of_getElem? (i := 89) rfl)) rfl
theorem kS_X0_layLoads : Cond.selects RX0 yX0_layLoads yX0_layLoads ∈ big := bg (kS0 (List.mem_of_getElem? (i := 0) rfl)) rfl
theorem kS_X0_press : Cond.selects RX0 yX0_press yX0_press ∈ big := bg (kS0 (List.mem_of_getElem? (i := 1) rfl)) rfl
theorem kS_X0_findLeastMargin : Cond.selects RX0 yX0_findLeastMargin yX0_findLeastMargin ∈ big := bg (kS0 (List.mem_of_getElem? (i := 2) rfl)) rfl
theorem kS_X1_plan : Cond.selects RX1 yX1_plan yX1_plan ∈ big := bg (kS0 (List.mem_of_getElem? (i := 3) rfl)) rfl
theorem kS_X1_waitsFrom : Cond.selects RX1 yX1_waitsFrom yX1_waitsFrom ∈ big := bg (kS0 (List.mem_of_getElem? (i := 4) rfl)) rfl
theorem kS_X1_waitsOfOpening : Cond.selects RX1 yX1_waitsOfOpening yX1_waitsOfOpening ∈ big := bg (kS0 (List.mem_of_getElem? (i := 5) rfl)) rfl
theorem kS_X1_endOfOpening : Cond.selects RX1 yX1_endOfOpening yX1_endOfOpening ∈ big := bg (kS0 (List.mem_of_getElem? (i := 6) rfl)) rfl
theorem kS_X1_crosserWaits : Cond.selects RX1 yX1_crosserWaits yX1_crosserWaits ∈ big := bg (kS0 (List.mem_of_getElem? (i := 7) rfl)) rfl
theorem kS_X1_walkBest : Cond.selects RX1 yX1_walkBest yX1_walkBest ∈ big := bg (kS0 (List.mem_of_getElem? (i := 8) rfl)) rfl
theorem kS_X2_plan : Cond.selects RX2 yX2_plan yX2_plan ∈ big := bg (kS0 (List.mem_of_getElem? (i := 9) rfl)) rfl
theorem kS_X2_needIfOut : Cond.selects RX2 yX2_needIfOut yX2_needIfOut ∈ big := bg (kS0 (List.mem_of_getElem? (i := 10) rfl)) rfl
theorem kS_X2_mayBeIn : Cond.selects RX2 yX2_mayBeIn yX2_mayBeIn ∈ big := bg (kS0 (List.mem_of_getElem? (i := 11) rfl)) rfl
theorem kS_X2_needIfIn : Cond.selects RX2 yX2_needIfIn yX2_needIfIn ∈ big := bg (kS0 (List.mem_of_getElem? (i := 12) rfl)) rfl
theorem kS_X2_chooseDays : Cond.selects RX2 yX2_chooseDays yX2_chooseDays ∈ big := bg (kS0 (List.mem_of_getElem? (i := 13) rfl)) rfl
theorem kS_X5_begin : Cond.selects RX5 yX5_begin yX5_begin ∈ big := bg (kS0 (List.mem_of_getElem? (i := 14) rfl)) rfl
theorem kS_X5_nextToken : Cond.selects RX5 yX5_nextToken yX5_nextToken ∈ big := bg (kS0 (List.mem_of_getElem? (i := 15) rfl)) rfl
theorem kS_X5_takeDigits : Cond.selects RX5 yX5_takeDigits yX5_takeDigits ∈ big := bg (kS0 (List.mem_of_getElem? (i := 16) rfl)) rfl
theorem kS_X5_takeLetters : Cond.selects RX5 yX5_takeLetters yX5_takeLetters ∈ big := bg (kS0 (List.mem_of_getElem? (i := 17) rfl)) rfl
theorem kS_X5_tokenIs : Cond.selects RX5 yX5_tokenIs yX5_tokenIs ∈ big := bg (kS0 (List.mem_of_getElem? (i := 18) rfl)) rfl
theorem kS_X5_takeToken : Cond.selects RX5 yX5_takeToken yX5_takeToken ∈ big := bg (kS0 (List.mem_of_getElem? (i := 19) rfl)) rfl
theorem kS_X5_takeClauseWord : Cond.selects RX5 yX5_takeClauseWord yX5_takeClauseWord ∈ big := bg (kS0 (List.mem_of_getElem? (i := 20) rfl)) rfl
theorem kS_X5_takeKind : Cond.selects RX5 yX5_takeKind yX5_takeKind ∈ big := bg (kS0 (List.mem_of_getElem? (i := 21) rfl)) rfl
theorem kS_X5_clauseRow : Cond.selects RX5 yX5_clauseRow yX5_clauseRow ∈ big := bg (kS0 (List.mem_of_getElem? (i := 22) rfl)) rfl
theorem kS_X5_takeAmount : Cond.selects RX5 yX5_takeAmount yX5_takeAmount ∈ big := bg (kS0 (List.mem_of_getElem? (i := 23) rfl)) rfl
theorem kS_X5_takeSemicolon : Cond.selects RX5 yX5_takeSemicolon yX5_takeSemicolon ∈ big := bg (kS0 (List.mem_of_getElem? (i := 24) rfl)) rfl
theorem kS_X4_goesFree : Cond.selects RX4 yX4_goesFree yX4_goesFree ∈ big := bg (kS0 (List.mem_of_getElem? (i := 25) rfl)) rfl
theorem kS_X7_isHull : Cond.selects RX7 yX7_isHull yX7_isHull ∈ big := bg (kS0 (List.mem_of_getElem? (i := 26) rfl)) rfl
theorem kS_X7_pressOn : Cond.selects RX7 yX7_pressOn yX7_pressOn ∈ big := bg (kS0 (List.mem_of_getElem? (i := 27) rfl)) rfl
theorem kS_X7_placeOf : Cond.selects RX7 yX7_placeOf yX7_placeOf ∈ big := bg (kS0 (List.mem_of_getElem? (i := 28) rfl)) rfl
theorem kS_X7_looks : Cond.selects RX7 yX7_looks yX7_looks ∈ big := bg (kS0 (List.mem_of_getElem? (i := 29) rfl)) rfl
theorem kS_X7_bestWaits : Cond.selects RX7 yX7_bestWaits yX7_bestWaits ∈ big := bg (kS0 (List.mem_of_getElem? (i := 30) rfl)) rfl
theorem kS_X7_sorts : Cond.selects RX7 yX7_sorts yX7_sorts ∈ big := bg (kS0 (List.mem_of_getElem? (i := 31) rfl)) rfl
theorem kS_X7_opens : Cond.selects RX7 yX7_opens yX7_opens ∈ big := bg (kS0 (List.mem_of_getElem? (i := 32) rfl)) rfl
theorem kS_X7_cameBy : Cond.selects RX7 yX7_cameBy yX7_cameBy ∈ big := bg (kS0 (List.mem_of_getElem? (i := 33) rfl)) rfl
theorem kS_X7_endOf : Cond.selects RX7 yX7_endOf yX7_endOf ∈ big := bg (kS0 (List.mem_of_getElem? (i := 34) rfl)) rfl
theorem kS_X7_rest : Cond.selects RX7 yX7_rest yX7_rest ∈ big := bg (kS0 (List.mem_of_getElem? (i := 35) rfl)) rfl
theorem kS_X7_waitsOf : Cond.selects RX7 yX7_waitsOf yX7_waitsOf ∈ big := bg (kS0 (List.mem_of_getElem? (i := 36) rfl)) rfl
theorem kS_X7_fewestOut : Cond.selects RX7 yX7_fewestOut yX7_fewestOut ∈ big := bg (kS0 (List.mem_of_getElem? (i := 37) rfl)) rfl
theorem kS_X7_goes : Cond.selects RX7 yX7_goes yX7_goes ∈ big := bg (kS0 (List.mem_of_getElem? (i := 38) rfl)) rfl
theorem kS_X7_isBad : Cond.selects RX7 yX7_isBad yX7_isBad ∈ big := bg (kS0 (List.mem_of_getElem? (i := 39) rfl)) rfl
theorem kS_X7_from : Cond.selects RX7 yX7_from yX7_from ∈ big := bg (kS0 (List.mem_of_getElem? (i := 40) rfl)) rfl
theorem kS_X7_put : Cond.selects RX7 yX7_put yX7_put ∈ big := bg (kS0 (List.mem_of_getElem? (i := 41) rfl)) rfl
theorem kS_X7_next : Cond.selects RX7 yX7_next yX7_next ∈ big := bg (kS0 (List.mem_of_getElem? (i := 42) rfl)) rfl
theorem kS_X7_clause : Cond.selects RX7 yX7_clause yX7_clause ∈ big := bg (kS0 (List.mem_of_getElem? (i := 43) rfl)) rfl
theorem kS_X7_fails : Cond.selects RX7 yX7_fails yX7_fails ∈ big := bg (kS0 (List.mem_of_getElem? (i := 44) rfl)) rfl
theorem kl_X0_0 : u_lay RX0 TX0 0 ∈ big := bg (kT1 (List.mem_of_getElem? (i := 50) rfl)) rfl
theorem kl_X0_1 : u_lay RX0 TX0 1 ∈ big := bg (kT1 (List.mem_of_getElem? (i := 52) rfl)) rfl
theorem kl_X0_2 : u_lay RX0 TX0 2 ∈ big := bg (kT1 (List.mem_of_getElem? (i := 54) rfl)) rfl
theorem kl_X0_3 : u_lay RX0 TX0 3 ∈ big := bg (kT1 (List.mem_of_getElem? (i := 56) rfl)) rfl
theorem kl_X0_4 : u_lay RX0 TX0 4 ∈ big := bg (kT1 (List.mem_of_getElem? (i := 58) rfl)) rfl
theorem kl_X0_5 : u_lay RX0 TX0 5 ∈ big := bg (kT1 (List.mem_of_getElem? (i := 60) rfl)) rfl
theorem kl_X0_6 : u_lay RX0 TX0 6 ∈ big := bg (kT1 (List.mem_of_getElem? (i := 62) rfl)) rfl
theorem kl_X0_7 : u_lay RX0 TX0 7 ∈ big := bg (kT1 (List.mem_of_getElem? (i := 64) rfl)) rfl
theorem kl_X0_8 : u_lay RX0 TX0 8 ∈ big := bg (kT1 (List.mem_of_getElem? (i := 66) rfl)) rfl
theorem kl_X0_9 : u_lay RX0 TX0 9 ∈ big := bg (kT1 (List.mem_of_getElem? (i := 68) rfl)) rfl
theorem kl_X0_10 : u_lay RX0 TX0 10 ∈ big := bg (kT1 (List.mem_of_getElem? (i := 70) rfl)) rfl
theorem kl_X0_11 : u_lay RX0 TX0 11 ∈ big := bg (kT1 (List.mem_of_getElem? (i := 72) rfl)) rfl
theorem hin_X0 : ∀ x ∈ u_ws RX0 TX0 12, x ∈ big := by
  intro x hx
  obtain ⟨k, hk, rfl⟩ := List.mem_map.mp hx
  have hk := List.mem_range.mp hk
  match k, hk with
  | 0, _ => exact kl_X0_0
  | 1, _ => exact kl_X0_1
  | 2, _ => exact kl_X0_2
  | 3, _ => exact kl_X0_3
  | 4, _ => exact kl_X0_4
  | 5, _ => exact kl_X0_5
  | 6, _ => exact kl_X0_6
  | 7, _ => exact kl_X0_7
  | 8, _ => exact kl_X0_8
  | 9, _ => exact kl_X0_9
  | 10, _ => exact kl_X0_10
  | 11, _ => exact kl_X0_11
  | n + 12, h => exact absurd h (by omega)
theorem kl_X1_0 : u_lay RX1 TX1 0 ∈ big := bg (kT1 (List.mem_of_getElem? (i := 101) rfl)) rfl
theorem kl_X1_1 : u_lay RX1 TX1 1 ∈ big := bg (kT1 (List.mem_of_getElem? (i := 103) rfl)) rfl
theorem kl_X1_2 : u_lay RX1 TX1 2 ∈ big := bg (kT1 (List.mem_of_getElem? (i := 105) rfl)) rfl
theorem kl_X1_3 : u_lay RX1 TX1 3 ∈ big := bg (kT1 (List.mem_of_getElem? (i := 107) rfl)) rfl
theorem kl_X1_4 : u_lay RX1 TX1 4 ∈ big := bg (kT1 (List.mem_of_getElem? (i := 109) rfl)) rfl
theorem kl_X1_5 : u_lay RX1 TX1 5 ∈ big := bg (kT1 (List.mem_of_getElem? (i := 111) rfl)) rfl
theorem kl_X1_6 : u_lay RX1 TX1 6 ∈ big := bg (kT1 (List.mem_of_getElem? (i := 113) rfl)) rfl
theorem kl_X1_7 : u_lay RX1 TX1 7 ∈ big := bg (kT1 (List.mem_of_getElem? (i := 115) rfl)) rfl
theorem kl_X1_8 : u_lay RX1 TX1 8 ∈ big := bg (kT1 (List.mem_of_getElem? (i := 117) rfl)) rfl
theorem kl_X1_9 : u_lay RX1 TX1 9 ∈ big := bg (kT1 (List.mem_of_getElem? (i := 119) rfl)) rfl
theorem kl_X1_10 : u_lay RX1 TX1 10 ∈ big := bg (kT1 (List.mem_of_getElem? (i := 121) rfl)) rfl
theorem kl_X1_11 : u_lay RX1 TX1 11 ∈ big := bg (kT1 (List.mem_of_getElem? (i := 123) rfl)) rfl
theorem kl_X1_12 : u_lay RX1 TX1 12 ∈ big := bg (kT1 (List.mem_of_getElem? (i := 125) rfl)) rfl
theorem kl_X1_13 : u_lay RX1 TX1 13 ∈ big := bg (kT1 (List.mem_of_getElem? (i := 127) rfl)) rfl
theorem kl_X1_14 : u_lay RX1 TX1 14 ∈ big := bg (kT1 (List.mem_of_getElem? (i := 129) rfl)) rfl
theorem kl_X1_15 : u_lay RX1 TX1 15 ∈ big := bg (kT1 (List.mem_of_getElem? (i := 131) rfl)) rfl
theorem kl_X1_16 : u_lay RX1 TX1 16 ∈ big := bg (kT1 (List.mem_of_getElem? (i := 133) rfl)) rfl
theorem kl_X1_17 : u_lay RX1 TX1 17 ∈ big := bg (kT1 (List.mem_of_getElem? (i := 135) rfl)) rfl
theorem kl_X1_18 : u_lay RX1 TX1 18 ∈ big := bg (kT1 (List.mem_of_getElem? (i := 137) rfl)) rfl
theorem hin_X1 : ∀ x ∈ u_ws RX1 TX1 19, x ∈ big := by
  intro x hx
  obtain ⟨k, hk, rfl⟩ := List.mem_map.mp hx
  have hk := List.mem_range.mp hk
  match k, hk with
  | 0, _ => exact kl_X1_0
  | 1, _ => exact kl_X1_1
  | 2, _ => exact kl_X1_2
  | 3, _ => exact kl_X1_3
  | 4, _ => exact kl_X1_4
  | 5, _ => exact kl_X1_5
  | 6, _ => exact kl_X1_6
  | 7, _ => exact kl_X1_7
  | 8, _ => exact kl_X1_8
  | 9, _ => exact kl_X1_9
  | 10, _ => exact kl_X1_10
  | 11, _ => exact kl_X1_11
  | 12, _ => exact kl_X1_12
  | 13, _ => exact kl_X1_13
  | 14, _ => exact kl_X1_14
  | 15, _ => exact kl_X1_15
  | 16, _ => exact kl_X1_16
  | 17, _ => exact kl_X1_17
  | 18, _ => exact kl_X1_18
  | n + 19, h => exact absurd h (by omega)
theorem kl_X2_0 : u_lay RX2 TX2 0 ∈ big := bg (kT1 (List.mem_of_getElem? (i := 153) rfl)) rfl
theorem kl_X2_1 : u_lay RX2 TX2 1 ∈ big := bg (kT1 (List.mem_of_getElem? (i := 155) rfl)) rfl
theorem kl_X2_2 : u_lay RX2 TX2 2 ∈ big := bg (kT1 (List.mem_of_getElem? (i := 157) rfl)) rfl
theorem kl_X2_3 : u_lay RX2 TX2 3 ∈ big := bg (kT1 (List.mem_of_getElem? (i := 159) rfl)) rfl
theorem kl_X2_4 : u_lay RX2 TX2 4 ∈ big := bg (kT1 (List.mem_of_getElem? (i := 161) rfl)) rfl
theorem kl_X2_5 : u_lay RX2 TX2 5 ∈ big := bg (kT1 (List.mem_of_getElem? (i := 163) rfl)) rfl
theorem hin_X2 : ∀ x ∈ u_ws RX2 TX2 6, x ∈ big := by
  intro x hx
  obtain ⟨k, hk, rfl⟩ := List.mem_map.mp hx
  have hk := List.mem_range.mp hk
  match k, hk with
  | 0, _ => exact kl_X2_0
  | 1, _ => exact kl_X2_1
  | 2, _ => exact kl_X2_2
  | 3, _ => exact kl_X2_3
  | 4, _ => exact kl_X2_4
  | 5, _ => exact kl_X2_5
  | n + 6, h => exact absurd h (by omega)
theorem kl_X3_0 : u_lay RX3 TX3 0 ∈ big := bg (kT1 (List.mem_of_getElem? (i := 175) rfl)) rfl
theorem kl_X3_1 : u_lay RX3 TX3 1 ∈ big := bg (kT1 (List.mem_of_getElem? (i := 177) rfl)) rfl
theorem hin_X3 : ∀ x ∈ u_ws RX3 TX3 2, x ∈ big := by
  intro x hx
  obtain ⟨k, hk, rfl⟩ := List.mem_map.mp hx
  have hk := List.mem_range.mp hk
  match k, hk with
  | 0, _ => exact kl_X3_0
  | 1, _ => exact kl_X3_1
  | n + 2, h => exact absurd h (by omega)
theorem kl_X4_0 : u_lay RX4 TX4 0 ∈ big := bg (kT1 (List.mem_of_getElem? (i := 237) rfl)) rfl
theorem kl_X4_1 : u_lay RX4 TX4 1 ∈ big := bg (kT1 (List.mem_of_getElem? (i := 239) rfl)) rfl
theorem kl_X4_2 : u_lay RX4 TX4 2 ∈ big := bg (kT2 (List.mem_of_getElem? (i := 1) rfl)) rfl
theorem kl_X4_3 : u_lay RX4 TX4 3 ∈ big := bg (kT2 (List.mem_of_getElem? (i := 3) rfl)) rfl
theorem kl_X4_4 : u_lay RX4 TX4 4 ∈ big := bg (kT2 (List.mem_of_getElem? (i := 5) rfl)) rfl
theorem kl_X4_5 : u_lay RX4 TX4 5 ∈ big := bg (kT2 (List.mem_of_getElem? (i := 7) rfl)) rfl
theorem hin_X4 : ∀ x ∈ u_ws RX4 TX4 6, x ∈ big := by
  intro x hx
  obtain ⟨k, hk, rfl⟩ := List.mem_map.mp hx
  have hk := List.mem_range.mp hk
  match k, hk with
  | 0, _ => exact kl_X4_0
  | 1, _ => exact kl_X4_1
  | 2, _ => exact kl_X4_2
  | 3, _ => exact kl_X4_3
  | 4, _ => exact kl_X4_4
  | 5, _ => exact kl_X4_5
  | n + 6, h => exact absurd h (by omega)
theorem kl_X5_0 : u_lay RX5 TX5 0 ∈ big := bg (kT1 (List.mem_of_getElem? (i := 199) rfl)) rfl
theorem kl_X5_1 : u_lay RX5 TX5 1 ∈ big := bg (kT1 (List.mem_of_getElem? (i := 201) rfl)) rfl
theorem kl_X5_2 : u_lay RX5 TX5 2 ∈ big := bg (kT1 (List.mem_of_getElem? (i := 203) rfl)) rfl
theorem kl_X5_3 : u_lay RX5 TX5 3 ∈ big := bg (kT1 (List.mem_of_getElem? (i := 205) rfl)) rfl
theorem kl_X5_4 : u_lay RX5 TX5 4 ∈ big := bg (kT1 (List.mem_of_getElem? (i := 207) rfl)) rfl
theorem kl_X5_5 : u_lay RX5 TX5 5 ∈ big := bg (kT1 (List.mem_of_getElem? (i := 209) rfl)) rfl
theorem kl_X5_6 : u_lay RX5 TX5 6 ∈ big := bg (kT1 (List.mem_of_getElem? (i := 211) rfl)) rfl
theorem kl_X5_7 : u_lay RX5 TX5 7 ∈ big := bg (kT1 (List.mem_of_getElem? (i := 213) rfl)) rfl
theorem kl_X5_8 : u_lay RX5 TX5 8 ∈ big := bg (kT1 (List.mem_of_getElem? (i := 215) rfl)) rfl
theorem kl_X5_9 : u_lay RX5 TX5 9 ∈ big := bg (kT1 (List.mem_of_getElem? (i := 217) rfl)) rfl
theorem kl_X5_10 : u_lay RX5 TX5 10 ∈ big := bg (kT1 (List.mem_of_getElem? (i := 219) rfl)) rfl
theorem kl_X5_11 : u_lay RX5 TX5 11 ∈ big := bg (kT1 (List.mem_of_getElem? (i := 221) rfl)) rfl
theorem hin_X5 : ∀ x ∈ u_ws RX5 TX5 12, x ∈ big := by
  intro x hx
  obtain ⟨k, hk, rfl⟩ := List.mem_map.mp hx
  have hk := List.mem_range.mp hk
  match k, hk with
  | 0, _ => exact kl_X5_0
  | 1, _ => exact kl_X5_1
  | 2, _ => exact kl_X5_2
  | 3, _ => exact kl_X5_3
  | 4, _ => exact kl_X5_4
  | 5, _ => exact kl_X5_5
  | 6, _ => exact kl_X5_6
  | 7, _ => exact kl_X5_7
  | 8, _ => exact kl_X5_8
  | 9, _ => exact kl_X5_9
  | 10, _ => exact kl_X5_10
  | 11, _ => exact kl_X5_11
  | n + 12, h => exact absurd h (by omega)
theorem kl_X6_0 : u_lay RX6 TX6 0 ∈ big := bg (kT2 (List.mem_of_getElem? (i := 16) rfl)) rfl
theorem kl_X6_1 : u_lay RX6 TX6 1 ∈ big := bg (kT2 (List.mem_of_getElem? (i := 18) rfl)) rfl
theorem kl_X6_2 : u_lay RX6 TX6 2 ∈ big := bg (kT2 (List.mem_of_getElem? (i := 20) rfl)) rfl
theorem kl_X6_3 : u_lay RX6 TX6 3 ∈ big := bg (kT2 (List.mem_of_getElem? (i := 22) rfl)) rfl
theorem kl_X6_4 : u_lay RX6 TX6 4 ∈ big := bg (kT2 (List.mem_of_getElem? (i := 24) rfl)) rfl
theorem kl_X6_5 : u_lay RX6 TX6 5 ∈ big := bg (kT2 (List.mem_of_getElem? (i := 26) rfl)) rfl
theorem hin_X6 : ∀ x ∈ u_ws RX6 TX6 6, x ∈ big := by
  intro x hx
  obtain ⟨k, hk, rfl⟩ := List.mem_map.mp hx
  have hk := List.mem_range.mp hk
  match k, hk with
  | 0, _ => exact kl_X6_0
  | 1, _ => exact kl_X6_1
  | 2, _ => exact kl_X6_2
  | 3, _ => exact kl_X6_3
  | 4, _ => exact kl_X6_4
  | 5, _ => exact kl_X6_5
  | n + 6, h => exact absurd h (by omega)
theorem kl_X7_0 : u_lay RX7 TX7 0 ∈ big := bg (kT4 (List.mem_of_getElem? (i := 37) rfl)) rfl
theorem kl_X7_1 : u_lay RX7 TX7 1 ∈ big := bg (kT4 (List.mem_of_getElem? (i := 39) rfl)) rfl
theorem kl_X7_2 : u_lay RX7 TX7 2 ∈ big := bg (kT4 (List.mem_of_getElem? (i := 41) rfl)) rfl
theorem kl_X7_3 : u_lay RX7 TX7 3 ∈ big := bg (kT4 (List.mem_of_getElem? (i := 43) rfl)) rfl
theorem kl_X7_4 : u_lay RX7 TX7 4 ∈ big := bg (kT4 (List.mem_of_getElem? (i := 45) rfl)) rfl
theorem kl_X7_5 : u_lay RX7 TX7 5 ∈ big := bg (kT4 (List.mem_of_getElem? (i := 47) rfl)) rfl
theorem kl_X7_6 : u_lay RX7 TX7 6 ∈ big := bg (kT4 (List.mem_of_getElem? (i := 49) rfl)) rfl
theorem kl_X7_7 : u_lay RX7 TX7 7 ∈ big := bg (kT4 (List.mem_of_getElem? (i := 51) rfl)) rfl
theorem kl_X7_8 : u_lay RX7 TX7 8 ∈ big := bg (kT4 (List.mem_of_getElem? (i := 53) rfl)) rfl
theorem kl_X7_9 : u_lay RX7 TX7 9 ∈ big := bg (kT4 (List.mem_of_getElem? (i := 55) rfl)) rfl
theorem kl_X7_10 : u_lay RX7 TX7 10 ∈ big := bg (kT4 (List.mem_of_getElem? (i := 57) rfl)) rfl
theorem kl_X7_11 : u_lay RX7 TX7 11 ∈ big := bg (kT4 (List.mem_of_getElem? (i := 59) rfl)) rfl
theorem kl_X7_12 : u_lay RX7 TX7 12 ∈ big := bg (kT4 (List.mem_of_getElem? (i := 61) rfl)) rfl
theorem kl_X7_13 : u_lay RX7 TX7 13 ∈ big := bg (kT4 (List.mem_of_getElem? (i := 63) rfl)) rfl
theorem kl_X7_14 : u_lay RX7 TX7 14 ∈ big := bg (kT4 (List.mem_of_getElem? (i := 65) rfl)) rfl
theorem kl_X7_15 : u_lay RX7 TX7 15 ∈ big := bg (kT4 (List.mem_of_getElem? (i := 67) rfl)) rfl
theorem kl_X7_16 : u_lay RX7 TX7 16 ∈ big := bg (kT4 (List.mem_of_getElem? (i := 69) rfl)) rfl
theorem kl_X7_17 : u_lay RX7 TX7 17 ∈ big := bg (kT4 (List.mem_of_getElem? (i := 71) rfl)) rfl
theorem kl_X7_18 : u_lay RX7 TX7 18 ∈ big := bg (kT4 (List.mem_of_getElem? (i := 73) rfl)) rfl
theorem kl_X7_19 : u_lay RX7 TX7 19 ∈ big := bg (kT4 (List.mem_of_getElem? (i := 75) rfl)) rfl
theorem kl_X7_20 : u_lay RX7 TX7 20 ∈ big := bg (kT4 (List.mem_of_getElem? (i := 77) rfl)) rfl
theorem kl_X7_21 : u_lay RX7 TX7 21 ∈ big := bg (kT4 (List.mem_of_getElem? (i := 79) rfl)) rfl
theorem kl_X7_22 : u_lay RX7 TX7 22 ∈ big := bg (kT4 (List.mem_of_getElem? (i := 81) rfl)) rfl
theorem kl_X7_23 : u_lay RX7 TX7 23 ∈ big := bg (kT4 (List.mem_of_getElem? (i := 83) rfl)) rfl
theorem kl_X7_24 : u_lay RX7 TX7 24 ∈ big := bg (kT4 (List.mem_of_getElem? (i := 85) rfl)) rfl
theorem kl_X7_25 : u_lay RX7 TX7 25 ∈ big := bg (kT4 (List.mem_of_getElem? (i := 87) rfl)) rfl
theorem kl_X7_26 : u_lay RX7 TX7 26 ∈ big := bg (kT4 (List.mem_of_getElem? (i := 89) rfl)) rfl
theorem kl_X7_27 : u_lay RX7 TX7 27 ∈ big := bg (kT4 (List.mem_of_getElem? (i := 91) rfl)) rfl
theorem kl_X7_28 : u_lay RX7 TX7 28 ∈ big := bg (kT4 (List.mem_of_getElem? (i := 93) rfl)) rfl
theorem kl_X7_29 : u_lay RX7 TX7 29 ∈ big := bg (kT4 (List.mem_of_getElem? (i := 95) rfl)) rfl
theorem kl_X7_30 : u_lay RX7 TX7 30 ∈ big := bg (kT4 (List.mem_of_getElem? (i := 97) rfl)) rfl
theorem kl_X7_31 : u_lay RX7 TX7 31 ∈ big := bg (kT4 (List.mem_of_getElem? (i := 99) rfl)) rfl
theorem kl_X7_32 : u_lay RX7 TX7 32 ∈ big := bg (kT4 (List.mem_of_getElem? (i := 101) rfl)) rfl
theorem kl_X7_33 : u_lay RX7 TX7 33 ∈ big := bg (kT4 (List.mem_of_getElem? (i := 103) rfl)) rfl
theorem kl_X7_34 : u_lay RX7 TX7 34 ∈ big := bg (kT4 (List.mem_of_getElem? (i := 105) rfl)) rfl
theorem kl_X7_35 : u_lay RX7 TX7 35 ∈ big := bg (kT4 (List.mem_of_getElem? (i := 107) rfl)) rfl
theorem kl_X7_36 : u_lay RX7 TX7 36 ∈ big := bg (kT4 (List.mem_of_getElem? (i := 109) rfl)) rfl
theorem kl_X7_37 : u_lay RX7 TX7 37 ∈ big := bg (kT4 (List.mem_of_getElem? (i := 111) rfl)) rfl
theorem kl_X7_38 : u_lay RX7 TX7 38 ∈ big := bg (kT4 (List.mem_of_getElem? (i := 113) rfl)) rfl
theorem kl_X7_39 : u_lay RX7 TX7 39 ∈ big := bg (kT4 (List.mem_of_getElem? (i := 115) rfl)) rfl
theorem hin_X7 : ∀ x ∈ u_ws RX7 TX7 40, x ∈ big := by
  intro x hx
  obtain ⟨k, hk, rfl⟩ := List.mem_map.mp hx
  have hk := List.mem_range.mp hk
  match k, hk with
  | 0, _ => exact kl_X7_0
  | 1, _ => exact kl_X7_1
  | 2, _ => exact kl_X7_2
  | 3, _ => exact kl_X7_3
  | 4, _ => exact kl_X7_4
  | 5, _ => exact kl_X7_5
  | 6, _ => exact kl_X7_6
  | 7, _ => exact kl_X7_7
  | 8, _ => exact kl_X7_8
  | 9, _ => exact kl_X7_9
  | 10, _ => exact kl_X7_10
  | 11, _ => exact kl_X7_11
  | 12, _ => exact kl_X7_12
  | 13, _ => exact kl_X7_13
  | 14, _ => exact kl_X7_14
  | 15, _ => exact kl_X7_15
  | 16, _ => exact kl_X7_16
  | 17, _ => exact kl_X7_17
  | 18, _ => exact kl_X7_18
  | 19, _ => exact kl_X7_19
  | 20, _ => exact kl_X7_20
  | 21, _ => exact kl_X7_21
  | 22, _ => exact kl_X7_22
  | 23, _ => exact kl_X7_23
  | 24, _ => exact kl_X7_24
  | 25, _ => exact kl_X7_25
  | 26, _ => exact kl_X7_26
  | 27, _ => exact kl_X7_27
  | 28, _ => exact kl_X7_28
  | 29, _ => exact kl_X7_29
  | 30, _ => exact kl_X7_30
  | 31, _ => exact kl_X7_31
  | 32, _ => exact kl_X7_32
  | 33, _ => exact kl_X7_33
  | 34, _ => exact kl_X7_34
  | 35, _ => exact kl_X7_35
  | 36, _ => exact kl_X7_36
  | 37, _ => exact kl_X7_37
  | 38, _ => exact kl_X7_38
  | 39, _ => exact kl_X7_39
  | n + 40, h => exact absurd h (by omega)
end
section
-- HEAP, CALLS, ENTRY, RETURN over G
/-- further facts of the start that a method may stand on: they stay as long as the world alone is written -/
abbrev FT : Type := (Nat → Prop) → State → Prop
def Fok (F : FT) : Prop := (∀ (A : Nat → Prop) (U : State) (g : JFrame) (mk : MethodId) (a : Array Value), F A U → F A (U.calling g mk a)) ∧ ∀ (A A' : Nat → Prop) (s U : State), F A s → s.WarmedH U.vm → s.heap.size ≤ U.heap.size → (∀ q : Nat, q < s.heap.size → ¬ A q → U.heap[q]? = s.heap[q]?) → (∀ q, A' q → A q) → F A' U
def PreU (D : va_G) (tys : TY) (F : FT) (w : St → va_W) (S : St) (sz : Nat) (U : State) : Prop := U.heap.size = sz ∧ va_P D vwCl (w S) U.heap ∧ va_K D vwCl tys U ∧ va_D (fun _ => True) (w S) ∧ F (Aw w sz) U
def PostU (D : va_G) (w : St → va_W) (rv : Option Value) (S' : St) (sz : Nat) (st : State) (oc : Outcome) (t : State) : Prop := (oc = .returned rv ∧ va_P D vwCl (w S') t.heap) ∧ va_F (Aw w sz) st t
/-- the contract of a method over a world: from S it answers rv and leaves S' -/
def Cn (l : Launch) (y : MethodName) (bytes : ByteArray) (maxL : Nat) (ret : Option FieldType) (fr lo : Nat) (D : va_G) (tys : TY) (F : FT) (w : St → va_W) (As : List Value) (S : St) (rv : Option Value) (S' : St) : Prop :=
  ∀ sz : Nat, Met l y (Cond.code y bytes maxL ret :: big) { frames := fr, cells := 0, slots := 0, locals := lo } (va_Pc As (PreU D tys F w S sz)) (fun _ st oc t => PostU D w rv S' sz st oc t) 0 0 (Aw w sz)
def Qm (below : List Frame) (args : Array Value) (s : State) (D : va_G) (w : St → va_W) (rv : Option Value) (S' : St) : State → Prop := MQ below (fun _ st oc t => PostU D w rv S' s.heap.size st oc t) args s 0 0 (Aw w s.heap.size)
def zr (v : Int32) (S : St) : Option (Int32 × St) := if v = 0 ∨ v = 1 then some (v, S) else none
section GH
variable {p : Program} {l : Launch} {e : Env} {R : Room} {s : State} {m : MethodId} {args : Array Value} {below : List Frame} {meth : Method} {c : Code} {kc ks : Nat} {Q : State → Prop} {nL : Nat} {D : va_G} {A : Nat → Prop} {w : St → va_W} {S : St} {lv lv' : List (Nat × Value)} {st : List Value} {cc : ByteArray} {own : String} {tys : TY} {pc : Nat} {α : Type} {res : α} {F : FT}
theorem g_get (pc' c0 k : Nat) (K : Ok p s m args c cc nL own D tys A w) {C ref : String} {T : u_T} {N ci idx a : Nat} {fs : List Value} {v : Value} (hin : ∀ x ∈ u_ws C T N, x ∈ big) (hc : vwCl[ci]? = some (C, T, N)) (hk : k < N) (hr : (T k).1 = ref) (hlk : Cond.fieldLink own idx ref (T k).2.1 (T k).2.2.1 ∈ big) (he : (w S)[c0]? = some (a, .inr (ci, fs))) (hv : fs[k]? = some v) (hd : decode cc pc = .ok (.getfield idx, 3)) (hp : pc + 3 = pc') (kk : G p l e R s m args below meth c kc ks Q nL D A w S pc' lv (v :: st)) : G p l e R s m args below meth c kc ks Q nL D A w S pc lv (.ref a :: st) := by
  subst hp
  exact fun H locs ls hP hS hl => va_get K.1 K.2.1 K.2.2.2.2.1 hin K.2.2.2.1 K.2.2.2.2.2.1 hP c0 he hc k hk (K.2.2.2.2.1 _ hlk) (fun _ h => by rw [← hr]; exact h) hv hd (kk H locs ls hP hS hl)
theorem g_put (pc' c0 k : Nat) (S1 : St) (K : Ok p s m args c cc nL own D tys A w) {C ref : String} {T : u_T} {N ci idx a : Nat} {fs : List Value} {v : Value} {ty : FieldType} (hin : ∀ x ∈ u_ws C T N, x ∈ big) (hc : vwCl[ci]? = some (C, T, N)) (hk : k < N) (hr : (T k).1 = ref) (hlk : Cond.fieldLink own idx ref (T k).2.1 (T k).2.2.1 ∈ big) (ty0 : Nat → FieldType) (hty : ∀ k, k < N → parseFieldDescriptor (T k).2.2.1 = some (ty0 k)) (hnm : ∀ a, a < N → ∀ b, b < N → a ≠ b → (T a).2.1 ≠ (T b).2.1) (he : (w S)[c0]? = some (a, .inr (ci, fs))) (hfin : (T k).2.2.2 = false) (hpd : parseFieldDescriptor (T k).2.2.1 = some ty) (hn : narrow ty v = v) (hfit : fits ty v = true) (hl0 : k < fs.length) (hw : (w S).set c0 (a, .inr (ci, fs.set k v)) = w S1) (hd : decode cc pc = .ok (.putfield idx, 3)) (hp : pc + 3 = pc') (kk : G p l e R s m args below meth c kc ks Q nL D A w S1 pc' lv st) : G p l e R s m args below meth c kc ks Q nL D A w S pc lv (v :: .ref a :: st) := by
  subst hp
  exact fun H locs ls hP hS hl => va_put K.1 K.2.1 K.2.2.2.2.1 hin ty0 hty hnm K.2.2.2.1 K.2.2.2.2.2.1 hP (K.2.2.2.2.2.2.1 S) hS c0 he hc k hk (K.2.2.2.2.1 _ hlk) (fun _ h => by rw [← hr]; exact h) hfin hpd hn hfit hl0 hd (fun H1 locs1 hP1 _ hS1 => kk H1 locs1 ls (by rw [hw] at hP1; exact hP1) hS1 hl)
theorem g_iald (pc' c0 t0 : Nat) (K : Ok p s m args c cc nL own D tys A w) {cA : ClassId} {n a : Nat} {f : Nat → Int32} {i : Int32} {Kf : Int32 → Option α} (he : (w S)[c0]? = some (a, .inl (cA, n, .inl f))) (ht : tys[t0]? = some (cA, .int)) (hf : (rd f n i).bind Kf = some res) (hd : decode cc pc = .ok (.iaload, 1)) (hp : pc + 1 = pc') (kk : ∀ v : Int32, Kf v = some res → G p l e R s m args below meth c kc ks Q nL D A w S pc' lv (.int v :: st)) : G p l e R s m args below meth c kc ks Q nL D A w S pc lv (.int i :: .ref a :: st) := by
  subst hp
  obtain ⟨h1, h2⟩ := rd_some hf
  exact fun H locs ls hP hS hl => va_iald K.1 K.2.1 K.2.2.2.2.2.1 hP c0 t0 he ht h1 hd (kk _ h2 H locs ls hP hS hl)
theorem g_bald (pc' c0 t0 : Nat) (K : Ok p s m args c cc nL own D tys A w) {cA : ClassId} {n a : Nat} {f : Nat → Int32} {i : Int32} {Kf : Int32 → Option α} (he : (w S)[c0]? = some (a, .inl (cA, n, .inl f))) (ht : tys[t0]? = some (cA, .byte)) (hf : (rd f n i).bind Kf = some res) (hd : decode cc pc = .ok (.baload, 1)) (hp : pc + 1 = pc') (kk : ∀ v : Int32, Kf v = some res → G p l e R s m args below meth c kc ks Q nL D A w S pc' lv (.int v :: st)) : G p l e R s m args below meth c kc ks Q nL D A w S pc lv (.int i :: .ref a :: st) := by
  subst hp
  obtain ⟨h1, h2⟩ := rd_some hf
  exact fun H locs ls hP hS hl => va_bald K.1 K.2.1 K.2.2.2.2.2.1 hP c0 t0 he ht h1 hd (kk _ h2 H locs ls hP hS hl)
theorem g_zald (pc' c0 t0 : Nat) (K : Ok p s m args c cc nL own D tys A w) {cA : ClassId} {n a : Nat} {f : Nat → Int32} {i : Int32} {Kf : Int32 → Option α} (he : (w S)[c0]? = some (a, .inl (cA, n, .inl f))) (ht : tys[t0]? = some (cA, .boolean)) (hf : (rd f n i).bind Kf = some res) (hd : decode cc pc = .ok (.baload, 1)) (hp : pc + 1 = pc') (kk : ∀ v : Int32, Kf v = some res → G p l e R s m args below meth c kc ks Q nL D A w S pc' lv (.int v :: st)) : G p l e R s m args below meth c kc ks Q nL D A w S pc lv (.int i :: .ref a :: st) := by
  subst hp
  obtain ⟨h1, h2⟩ := rd_some hf
  exact fun H locs ls hP hS hl => va_zald K.1 K.2.1 K.2.2.2.2.2.1 hP c0 t0 he ht h1 hd (kk _ h2 H locs ls hP hS hl)
theorem g_iast (pc' c0 t0 ak : Nat) (K : Ok p s m args c cc nL own D tys A w) {cA : ClassId} {n a : Nat} {i x : Int32} {Kf : St → Option α} (he : (w S)[c0]? = some (a, .inl (cA, n, .inl (S.2 ak)))) (ht : tys[t0]? = some (cA, .int)) (hw : ∀ f : Nat → Int32, (w S).set c0 (a, .inl (cA, n, .inl f)) = w (pA S ak f)) (hf : (wr S ak n i x).bind Kf = some res) (hd : decode cc pc = .ok (.iastore, 1)) (hp : pc + 1 = pc') (kk : ∀ S1 : St, Kf S1 = some res → G p l e R s m args below meth c kc ks Q nL D A w S1 pc' lv st) : G p l e R s m args below meth c kc ks Q nL D A w S pc lv (.int x :: .int i :: .ref a :: st) := by
  subst hp
  obtain ⟨h1, h2⟩ := wr_some hf
  exact fun H locs ls hP hS hl => va_iast K.1 K.2.1 K.2.2.2.2.2.1 hP (K.2.2.2.2.2.2.1 S) hS c0 t0 he ht h1 hd (fun H1 locs1 hP1 _ hS1 => kk _ h2 H1 locs1 ls (by rw [hw] at hP1; exact hP1) hS1 hl)
theorem g_bast (pc' c0 t0 ak : Nat) (K : Ok p s m args c cc nL own D tys A w) {cA : ClassId} {n a : Nat} {i x : Int32} {Kf : St → Option α} (he : (w S)[c0]? = some (a, .inl (cA, n, .inl (S.2 ak)))) (ht : tys[t0]? = some (cA, .byte)) (hw : ∀ f : Nat → Int32, (w S).set c0 (a, .inl (cA, n, .inl f)) = w (pA S ak f)) (hf : (wr S ak n i (vp_nar .byte x)).bind Kf = some res) (hd : decode cc pc = .ok (.bastore, 1)) (hp : pc + 1 = pc') (kk : ∀ S1 : St, Kf S1 = some res → G p l e R s m args below meth c kc ks Q nL D A w S1 pc' lv st) : G p l e R s m args below meth c kc ks Q nL D A w S pc lv (.int x :: .int i :: .ref a :: st) := by
  subst hp
  obtain ⟨h1, h2⟩ := wr_some hf
  exact fun H locs ls hP hS hl => va_bast K.1 K.2.1 K.2.2.2.2.2.1 hP (K.2.2.2.2.2.2.1 S) hS c0 t0 he ht h1 hd (fun H1 locs1 hP1 _ hS1 => kk _ h2 H1 locs1 ls (by rw [hw] at hP1; exact hP1) hS1 hl)
theorem g_zast (pc' c0 t0 ak : Nat) (K : Ok p s m args c cc nL own D tys A w) {cA : ClassId} {n a : Nat} {i x : Int32} {Kf : St → Option α} (he : (w S)[c0]? = some (a, .inl (cA, n, .inl (S.2 ak)))) (ht : tys[t0]? = some (cA, .boolean)) (hw : ∀ f : Nat → Int32, (w S).set c0 (a, .inl (cA, n, .inl f)) = w (pA S ak f)) (hf : (wr S ak n i (vp_nar .boolean x)).bind Kf = some res) (hd : decode cc pc = .ok (.bastore, 1)) (hp : pc + 1 = pc') (kk : ∀ S1 : St, Kf S1 = some res → G p l e R s m args below meth c kc ks Q nL D A w S1 pc' lv st) : G p l e R s m args below meth c kc ks Q nL D A w S pc lv (.int x :: .int i :: .ref a :: st) := by
  subst hp
  obtain ⟨h1, h2⟩ := wr_some hf
  exact fun H locs ls hP hS hl => va_zast K.1 K.2.1 K.2.2.2.2.2.1 hP (K.2.2.2.2.2.2.1 S) hS c0 t0 he ht h1 hd (fun H1 locs1 hP1 _ hS1 => kk _ h2 H1 locs1 ls (by rw [hw] at hP1; exact hP1) hS1 hl)
theorem g_alen (pc' c0 t0 : Nat) (v : Int32) (K : Ok p s m args c cc nL own D tys A w) {cA : ClassId} {a : Nat} {x : vp_A} {ty : FieldType} (he : (w S)[c0]? = some (a, .inl (cA, x))) (ht : tys[t0]? = some (cA, ty)) (hv : Int32.ofNat x.1 = v) (hd : decode cc pc = .ok (.arraylength, 1)) (hp : pc + 1 = pc') (kk : G p l e R s m args below meth c kc ks Q nL D A w S pc' lv (.int v :: st)) : G p l e R s m args below meth c kc ks Q nL D A w S pc lv (.ref a :: st) := by
  subst hp
  exact fun H locs ls hP hS hl => va_alen K.1 K.2.1 K.2.2.2.2.2.1 hP c0 t0 he ht hv hd (kk H locs ls hP hS hl)
theorem g_mmin (pc' : Nat) (K : Ok p s m args c cc nL own D tys A w) {idx : Nat} {x y : Int32} (h1 : Cond.methodLink own idx Lib.Math.min.name ∈ big) (h2 : Cond.static Lib.Math.min.name ∈ big) (h3 : Cond.initialized "java/lang/Math" ∈ big) (h4 : Cond.code Lib.Math.min.name Lib.Math.min.code 2 (some .int) ∈ big) (hR : 1 ≤ R.frames ∧ (st.map fun v => v.category).sum + 13 ≤ R.locals ∧ kc ≤ R.cells ∧ ks ≤ R.slots) (hd : decode cc pc = .ok (.invokestatic idx, 3)) (hp : pc + 3 = pc') (kk : G p l e R s m args below meth c kc ks Q nL D A w S pc' lv (.int (if y < x then y else x) :: st)) : G p l e R s m args below meth c kc ks Q nL D A w S pc lv (.int y :: .int x :: st) := by
  subst hp
  exact fun H locs ls hP hS hl => va_mmin K.1 K.2.1 (K.2.2.1.trans hl.1.symm) K.2.2.2.1 (K.2.2.2.2.1 _ h1) (K.2.2.2.2.1 _ h2) (K.2.2.2.2.1 _ h3) (K.2.2.2.2.1 _ h4) hR.1 hR.2.1 hR.2.2.1 hR.2.2.2 hd (kk H locs ls hP hS hl)
theorem g_mmax (pc' : Nat) (K : Ok p s m args c cc nL own D tys A w) {idx : Nat} {x y : Int32} (h1 : Cond.methodLink own idx Lib.Math.max.name ∈ big) (h2 : Cond.static Lib.Math.max.name ∈ big) (h3 : Cond.initialized "java/lang/Math" ∈ big) (h4 : Cond.code Lib.Math.max.name Lib.Math.max.code 2 (some .int) ∈ big) (hR : 1 ≤ R.frames ∧ (st.map fun v => v.category).sum + 13 ≤ R.locals ∧ kc ≤ R.cells ∧ ks ≤ R.slots) (hd : decode cc pc = .ok (.invokestatic idx, 3)) (hp : pc + 3 = pc') (kk : G p l e R s m args below meth c kc ks Q nL D A w S pc' lv (.int (if x < y then y else x) :: st)) : G p l e R s m args below meth c kc ks Q nL D A w S pc lv (.int y :: .int x :: st) := by
  subst hp
  exact fun H locs ls hP hS hl => va_mmax K.1 K.2.1 (K.2.2.1.trans hl.1.symm) K.2.2.2.1 (K.2.2.2.2.1 _ h1) (K.2.2.2.2.1 _ h2) (K.2.2.2.2.1 _ h3) (K.2.2.2.2.1 _ h4) hR.1 hR.2.1 hR.2.2.1 hR.2.2.2 hd (kk H locs ls hP hS hl)
theorem g_tabOut (t : Nat) (K : Ok p s m args c cc nL own D tys A w) {dflt lo hi : Int} {offs : Array Int} {len : Nat} {x : Int32} (h : x.toInt < lo ∨ hi < x.toInt) (hd : decode cc pc = .ok (.tableswitch dflt lo hi offs, len)) (ht : (pc : Int) + dflt = (t : Int)) (k : G p l e R s m args below meth c kc ks Q nL D A w S t lv st) : G p l e R s m args below meth c kc ks Q nL D A w S pc lv (.int x :: st) :=
  fun H locs ls hP hS hl => lv_tableOut K.1 K.2.1 hd h ht (k H locs ls hP hS hl)
theorem g_tabIn (t : Nat) (v : Int32) (K : Ok p s m args c cc nL own D tys A w) {dflt lo hi : Int} {offs : Array Int} {len : Nat} {x : Int32} {off : Int} (hx : x = v) (hd : decode cc pc = .ok (.tableswitch dflt lo hi offs, len)) (h1 : ¬ v.toInt < lo) (h2 : ¬ hi < v.toInt) (ho : offs[(v.toInt - lo).toNat]? = some off) (ht : (pc : Int) + off = (t : Int)) (k : G p l e R s m args below meth c kc ks Q nL D A w S t lv st) : G p l e R s m args below meth c kc ks Q nL D A w S pc lv (.int x :: st) := by
  subst hx
  exact fun H locs ls hP hS hl => lv_tableIn K.1 K.2.1 hd h1 h2 ho ht (k H locs ls hP hS hl)
/-- behind a call that changes the world alone -/
theorem g_after {rv : Option Value} {S1 : St} {st0 rest : List Value} (K : Ok p s m args c cc nL own D tys A w)
    (hr : ∀ (H : Heap) (locs : List Loc) (ls : Array Slot), va_P D vwCl (w S) H → va_S A s.heap H locs → lv_has ls nL lv → va_Run p l e R s m args below meth c H locs kc ks 0 0 (F0 m pc ls st0) rest (fun st oc t => PostU D w rv S1 H.size st oc t) (Aw w H.size))
    (kk : G p l e R s m args below meth c kc ks Q nL D A w S1 (pc + 3) lv (rv.toList ++ rest)) : G p l e R s m args below meth c kc ks Q nL D A w S pc lv st0 := by
  intro H locs ls hP hS hl T hT X
  obtain ⟨v, st₀, t, T', L, h0, X', hL, e1, e2, ⟨⟨hv, hp⟩, hz, hk⟩, stp⟩ := hr H locs ls hP hS hl T hT X
  cases hv
  rw [h0] at hz hk
  have hAw := fl_A K.2.2.2.2.2.2.2.2 (K.2.2.2.2.2.2.1 S) K.2.2.2.2.2.2.2.1 hS.1
  obtain ⟨t2, a1, b1⟩ := kk T'.heap (locs ++ L) ls (by rw [e1]; exact hp)
    ⟨Nat.le_trans hS.1 (by rw [e1]; exact hz), fun q h1 h2 => by rw [e1, hk q (Nat.lt_of_lt_of_le h1 hS.1) (fun z => h2 (hAw q z))]; exact hS.2.1 q h1 h2, fun q hq => by
      rcases List.mem_append.mp hq with h | h
      · exact hS.2.2 q h
      · exact hAw _ (hL q h)⟩ hl T' rfl X'
  exact ⟨t2, stp t2 a1, b1⟩
theorem c_blind (hF : Fok F) {w : St → va_W} {S : St} {sz : Nat} {As : List Value} : FrameBlind (va_Pc As (PreU D tys F w S sz)) := fun a U g mk q => by
  obtain ⟨q0, q1, qP, qK, qD, qF⟩ := q
  exact ⟨q0, q1, qP, va_K.moved (u := U) (U := U.calling g mk a) (Vm.Alike.refl U.vm) qK, qD, hF.1 _ _ _ _ _ qF⟩
theorem c_pre (K : Ok p s m args c cc nL own D tys A w) (hF : Fok F) (hs : F A s) {H : Heap} {locs : List Loc} (hP : va_P D vwCl (w S) H) (hS : va_S A s.heap H locs) {As : List Value} : ∀ U : State, U.heap = H → s.WarmedH U.vm → va_Pc As (PreU D tys F w S H.size) As.toArray U := fun U hU hW =>
  ⟨rfl, by rw [hU], by rw [hU]; exact hP, va_K.moved hW.alike K.2.2.2.2.2.1, (K.2.2.2.2.2.2.1 S).weaken (fun _ _ _ _ => trivial), hF.2 A _ s U hs hW (by rw [hU]; exact hS.1) (fun q h1 h2 => by rw [hU]; exact hS.2.1 q h1 h2) (fl_A K.2.2.2.2.2.2.2.2 (K.2.2.2.2.2.2.1 S) K.2.2.2.2.2.2.2.1 hS.1)⟩
abbrev Dsc (y : MethodName) (C : String) (n : Nat) : Prop := y.cls = C ∧ y.cls ≠ "java/lang/invoke/MethodHandle" ∧ y.cls ≠ "java/lang/invoke/VarHandle" ∧ (parseMethodDescriptor y.desc).map (fun d => d.parameters.length) = some n
theorem g_callV (pc' c0 : Nat) (K : Ok p s m args c cc nL own D tys A w) (hF : Fok F) (hs : F A s) {y : MethodName} {bytes : ByteArray} {maxL fr lo n idx ci b N : Nat} {ret : Option FieldType} {As rest : List Value} {rv : Option Value} {S1 : St} {C : String} {T : u_T} {fs : List Value} {st0 : List Value} (hM : Cn l y bytes maxL ret fr lo D tys F w (.ref b :: As) S rv S1) (h1 : Cond.methodLink own idx y ∈ big) (h2 : Cond.instanceMethod y ∈ big) (h3 : Cond.selects C y y ∈ big) (h4 : Cond.initialized C ∈ big) (h5 : Cond.code y bytes maxL ret ∈ big) (h6 : Dsc y C n) (hR : fr + 1 ≤ R.frames ∧ 8 + (maxL + 11) + lo ≤ R.locals ∧ kc ≤ R.cells ∧ ks ≤ R.slots) (hc : vwCl[ci]? = some (C, T, N)) (he : (w S)[c0]? = some (b, .inr (ci, fs))) (hn : As.length = n) (hst : st0 = As.reverse ++ .ref b :: rest) (hW : (rest.map fun v => v.category).sum ≤ 8) (hd : decode cc pc = .ok (.invokevirtual idx, 3)) (hp : pc + 3 = pc') (kk : G p l e R s m args below meth c kc ks Q nL D A w S1 pc' lv (rv.toList ++ rest)) : G p l e R s m args below meth c kc ks Q nL D A w S pc lv st0 := by
  subst hp
  subst hst
  have hG : GoodIn big (wsV own idx C y (Cond.code y bytes maxL ret :: big)) := big_sub (big_cons h1 (big_cons h2 (big_cons h3 (big_cons h4 (big_cons h5 (fun _ h => h))))))
  exact g_after K (fun H locs ls hP hS hl => va_runV (As := As) (rest := rest) ⟨K.1, K.2.1, K.2.2.1, K.2.2.2.1, K.2.2.2.2.1⟩ (hM H.size) (cwV n K.2.2.2.2.1 hG rfl rfl rfl h6 ⟨hR.1, hR.2.1⟩) ⟨c_blind hF, va_recv K.2.2.2.2.2.1 hP hc he, c_pre K hF hs hP hS⟩ rfl hn hl.1 rfl (lv_room hW) hd ⟨hR.2.2.1, hR.2.2.2⟩) kk
theorem g_callS (pc' : Nat) (K : Ok p s m args c cc nL own D tys A w) (hF : Fok F) (hs : F A s) {y : MethodName} {bytes : ByteArray} {maxL fr lo n idx : Nat} {ret : Option FieldType} {As rest : List Value} {rv : Option Value} {S1 : St} {C : String} {st0 : List Value} (hM : Cn l y bytes maxL ret fr lo D tys F w As S rv S1) (h1 : Cond.methodLink own idx y ∈ big) (h2 : Cond.static y ∈ big) (h4 : Cond.initialized C ∈ big) (h5 : Cond.code y bytes maxL ret ∈ big) (h6 : Dsc y C n) (hR : fr + 1 ≤ R.frames ∧ 8 + (maxL + 11) + lo ≤ R.locals ∧ kc ≤ R.cells ∧ ks ≤ R.slots) (hn : As.length = n) (hst : st0 = As.reverse ++ rest) (hW : (rest.map fun v => v.category).sum ≤ 8) (hd : decode cc pc = .ok (.invokestatic idx, 3)) (hp : pc + 3 = pc') (kk : G p l e R s m args below meth c kc ks Q nL D A w S1 pc' lv (rv.toList ++ rest)) : G p l e R s m args below meth c kc ks Q nL D A w S pc lv st0 := by
  subst hp
  subst hst
  obtain ⟨hC, h6⟩ := h6
  subst hC
  have hG : GoodIn big (va_wsS own idx y (Cond.code y bytes maxL ret :: big)) := big_sub (big_cons h1 (big_cons h2 (big_cons h4 (big_cons h5 (fun _ h => h)))))
  exact g_after K (fun H locs ls hP hS hl => va_runS (As := As) (rest := rest) ⟨K.1, K.2.1, K.2.2.1, K.2.2.2.1, K.2.2.2.2.1⟩ (hM H.size) (va_cwS n K.2.2.2.2.1 hG rfl rfl rfl h6 ⟨hR.1, hR.2.1⟩) ⟨c_blind hF, c_pre K hF hs hP hS⟩ rfl hn hl.1 rfl (lv_room hW) hd ⟨hR.2.2.1, hR.2.2.2⟩) kk
theorem g_callSN (pc' : Nat) (K : Ok p s m args c cc nL own D tys A w) (hF : Fok F) (hs : F A s) {y : MethodName} {bytes : ByteArray} {maxL fr lo n idx : Nat} {ret : Option FieldType} {As rest : List Value} {rv : Option Value} {S1 : St} {C host : String} {st0 : List Value} (hM : Cn l y bytes maxL ret fr lo D tys F w As S rv S1) (h1 : va_Nw (Cond.methodLinkNest own idx y host) s) (h2 : Cond.static y ∈ big) (h4 : Cond.initialized C ∈ big) (h5 : Cond.code y bytes maxL ret ∈ big) (h6 : Dsc y C n) (hR : fr + 1 ≤ R.frames ∧ 8 + (maxL + 11) + lo ≤ R.locals ∧ kc ≤ R.cells ∧ ks ≤ R.slots) (hn : As.length = n) (hst : st0 = As.reverse ++ rest) (hW : (rest.map fun v => v.category).sum ≤ 8) (hd : decode cc pc = .ok (.invokestatic idx, 3)) (hp : pc + 3 = pc') (kk : G p l e R s m args below meth c kc ks Q nL D A w S1 pc' lv (rv.toList ++ rest)) : G p l e R s m args below meth c kc ks Q nL D A w S pc lv st0 := by
  subst hp
  subst hst
  obtain ⟨hC, h6⟩ := h6
  subst hC
  have hG : GoodIn big (Cond.code y bytes maxL ret :: big) := big_sub (big_cons h5 (fun _ h => h))
  exact g_after K (fun H locs ls hP hS hl => va_runSN (As := As) (rest := rest) ⟨K.1, K.2.1, K.2.2.1, K.2.2.2.1, K.2.2.2.2.1⟩ (hM H.size) ⟨va_cnB n K.2.2.2.2.1 hG rfl rfl rfl h1 (K.2.2.2.2.1 _ h4) h6 ⟨hR.1, hR.2.1⟩, K.2.2.2.2.1 _ h2, trivial⟩ ⟨c_blind hF, c_pre K hF hs hP hS⟩ rfl hn hl.1 rfl (lv_room hW) hd ⟨hR.2.2.1, hR.2.2.2⟩) kk
theorem g_iret (K : Ok p s m args c cc nL own D tys (Aw w s.heap.size) w) (hr : meth.sig.returnType = some .int) (hlk : meth.locks = false) {v r : Int32} {S1 : St} (hf : some (v, S) = some (r, S1)) (hd : decode cc pc = .ok (.ireturn, 1)) : G p l e R s m args below meth c 0 0 (Qm below args s D w (some (.int r)) S1) nL D (Aw w s.heap.size) w S pc lv [.int v] := by
  cases hf
  exact fun H locs ls hP hS hl => W.iret K.1 K.2.1 hr (fun t ht hW => ⟨⟨rfl, by rw [ht]; exact hP⟩, hS.F ht⟩) hS.2.2 hd hlk
theorem g_zret (K : Ok p s m args c cc nL own D tys (Aw w s.heap.size) w) (hr : meth.sig.returnType = some .boolean) (hlk : meth.locks = false) {v r : Int32} {S1 : St} (hf : zr v S = some (r, S1)) (hd : decode cc pc = .ok (.ireturn, 1)) : G p l e R s m args below meth c 0 0 (Qm below args s D w (some (.int r)) S1) nL D (Aw w s.heap.size) w S pc lv [.int v] := by
  unfold zr at hf
  by_cases hv : v = 0 ∨ v = 1
  · rw [if_pos hv] at hf
    have hn : narrow .boolean (.int v) = .int v := by rcases hv with rfl | rfl <;> rfl
    cases hf
    exact fun H locs ls hP hS hl => W.zret K.1 K.2.1 hr hn (fun t ht hW => ⟨⟨rfl, by rw [ht]; exact hP⟩, hS.F ht⟩) hS.2.2 hd hlk
  · rw [if_neg hv] at hf
    cases hf
theorem g_vret (K : Ok p s m args c cc nL own D tys (Aw w s.heap.size) w) (hr : meth.sig.returnType = none) (hlk : meth.locks = false) {S1 : St} (hf : some S = some S1) (hd : decode cc pc = .ok (.return_, 1)) : G p l e R s m args below meth c 0 0 (Qm below args s D w none S1) nL D (Aw w s.heap.size) w S pc lv [] := by
  cases hf
  exact fun H locs ls hP hS hl => W.vret K.1 K.2.1 hr (fun t ht hW => ⟨⟨rfl, by rw [ht]; exact hP⟩, hS.F ht⟩) hS.2.2 hd hlk
end GH
theorem c_of {l : Launch} {y : MethodName} {bytes : ByteArray} {maxL : Nat} {ret : Option FieldType} {fr lo : Nat} {D : va_G} {tys : TY} {F : FT} {w : St → va_W} {As : List Value} {S : St} {rv : Option Value} {S1 : St} (hy : plainName y.cls = true) (hfl : Flat w) (hlen : (lg_sl As).length ≤ maxL) (lv0 : List (Nat × Value)) (hlv : lv_args 0 As = lv0)
    (body : ∀ (p : Program) (e : Env) (s : State) (m : MethodId) (args : Array Value) (below : List Frame) (meth : Method) (c : Code), Ok p s m args c bytes maxL y.cls D tys (Aw w s.heap.size) w → meth.sig.returnType = ret → meth.locks = false → F (Aw w s.heap.size) s →
      G p l e { frames := fr, cells := 0, slots := 0, locals := lo } s m args below meth c 0 0 (Qm below args s D w rv S1) maxL D (Aw w s.heap.size) w S 0 lv0 []) : Cn l y bytes maxL ret fr lo D tys F w As S rv S1 := by
  intro sz
  refine Met.ofW (cc := bytes) (maxL := maxL) (ret := ret) hy rfl ?_
  intro p e s m args below meth c s₁ B hml hv
  obtain ⟨rfl, hsz, hP, hK, hD, hF⟩ := hv
  subst hsz
  have hts := atoms_spec (ws := Cond.code y bytes maxL ret :: big) B.pre
  have hown : s.vm.findClass y.cls = some m.cls := findClass_of_methodNamed B.named
  have K : Ok p s m As.toArray c bytes maxL y.cls D tys (Aw w s.heap.size) w := ⟨B.exec, B.bytes, hml, hown, fun x hx => hts x (List.mem_cons_of_mem _ hx), hK, fl_Aw hfl hD _, fun q hq => Or.inr hq, hfl⟩
  have hl := lv_entry As (n := maxL) hlen
  rw [hlv] at hl
  have h1 := body p e s m As.toArray below meth c K B.returns B.notSynchronized hF s.heap [] _ hP va_S.rf hl
  rw [lg_entry_eq]
  exact h1
end
section
-- THE WORLDS: C the class under test, M the reference
def oC0 (q : Nat → Nat) (S : St) : List Value := [.ref (q 1), .ref (q 9), .ref (q 20), .ref (q 24), .ref (q 26), .ref (q 29)]
def oC1 (q : Nat → Nat) (S : St) : List Value := [.int (S.1 100), .ref (q 2), .ref (q 3), .ref (q 4), .ref (q 5), .ref (q 6), .ref (q 7), .ref (q 8), .int (S.1 108), .int (S.1 109), .int (S.1 110), .int (S.1 111)]
def oC9 (q : Nat → Nat) (S : St) : List Value := [.ref (q 10), .ref (q 11), .ref (q 12), .ref (q 13), .ref (q 14), .ref (q 15), .ref (q 16), .ref (q 17), .ref (q 18), .ref (q 19), .int (S.1 910), .int (S.1 911), .int (S.1 912), .int (S.1 913), .int (S.1 914), .int (S.1 915), .int (S.1 916), .int (S.1 917), .int (S.1 918)]
def oC20 (q : Nat → Nat) (S : St) : List Value := [.ref (q 21), .ref (q 22), .ref (q 23), .int (S.1 2003), .int (S.1 2004), .int (S.1 2005)]
def oC24 (q : Nat → Nat) (S : St) : List Value := [.ref (q 25), .int (S.1 2401)]
def oC26 (q : Nat → Nat) (S : St) : List Value := [.ref (q 27), .ref (q 28), .int (S.1 2602), .int (S.1 2603), .int (S.1 2604), .int (S.1 2605), .int (S.1 2606), .int (S.1 2607), .int (S.1 2608), .int (S.1 2609), .int (S.1 2610), .int (S.1 2611)]
def oC29 (q : Nat → Nat) (S : St) : List Value := [.ref (q 30), .ref (q 31), .ref (q 32), .int (S.1 2903), .int (S.1 2904), .int (S.1 2905)]
def wC (q : Nat → Nat) (n : Nat) (cI cB cZ : ClassId) (S : St) : va_W := [(q 0, .inr (6, oC0 q S)), (q 1, .inr (0, oC1 q S)), (q 2, .inl (cI, n, .inl (S.2 2))), (q 3, .inl (cI, n, .inl (S.2 3))), (q 4, .inl (cI, n, .inl (S.2 4))), (q 5, .inl (cI, 10, .inl (S.2 5))), (q 6, .inl (cI, 6, .inl (S.2 6))), (q 7, .inl (cI, 6, .inl (S.2 7))), (q 8, .inl (cI, 6, .inl (S.2 8))), (q 9, .inr (1, oC9 q S)), (q 10, .inl (cI, 10, .inl (S.2 10))), (q 11, .inl (cI, 11, .inl (S.2 11))), (q 12, .inl (cI, 300, .inl (S.2 12))), (q 13, .inl (cI, 241, .inl (S.2 13))), (q 14, .inl (cI, 241, .inl (S.2 14))), (q 15, .inl (cI, 3010, .inl (S.2 15))), (q 16, .inl (cI, 3010, .inl (S.2 16))), (q 17, .inl (cI, 10, .inl (S.2 17))), (q 18, .inl (cI, 10, .inl (S.2 18))), (q 19, .inl (cI, 10, .inl (S.2 19))), (q 20, .inr (2, oC20 q S)), (q 21, .inl (cI, 60, .inl (S.2 21))), (q 22, .inl (cZ, 60, .inl (S.2 22))), (q 23, .inl (cI, 610, .inl (S.2 23))), (q 24, .inr (3, oC24 q S)), (q 25, .inl (cB, 200, .inl (S.2 25))), (q 26, .inr (5, oC26 q S)), (q 27, .inl (cI, 6, .inl (S.2 27))), (q 28, .inl (cI, 6, .inl (S.2 28))), (q 29, .inr (4, oC29 q S)), (q 30, .inl (cI, 6, .inl (S.2 30))), (q 31, .inl (cI, 6, .inl (S.2 31))), (q 32, .inl (cI, 120, .inl (S.2 32)))]
theorem fl_wC {q : Nat → Nat} {n : Nat} {cI cB cZ : ClassId} : Flat (wC q n cI cB cZ) := fun _ => rfl
def oM0 (q : Nat → Nat) (S : St) : List Value := [.int (S.1 0), .ref (q 1), .ref (q 2), .ref (q 3), .int (S.1 4), .ref (q 4), .ref (q 5), .int (S.1 7), .ref (q 6), .int (S.1 9), .ref (q 7), .ref (q 8), .ref (q 9), .ref (q 10), .int (S.1 14), .int (S.1 15), .ref (q 11), .int (S.1 17), .int (S.1 18), .int (S.1 19), .int (S.1 20), .int (S.1 21), .int (S.1 22), .int (S.1 23), .int (S.1 24), .int (S.1 25), .ref (q 12), .ref (q 13), .ref (q 14), .ref (q 15), .int (S.1 30), .int (S.1 31), .int (S.1 32), .ref (q 16), .int (S.1 34), .int (S.1 35), .int (S.1 36), .ref (q 17), .ref (q 18), .ref (q 19)]
def wM (q : Nat → Nat) (n : Nat) (cI cB cZ : ClassId) (S : St) : va_W := [(q 0, .inr (7, oM0 q S)), (q 1, .inl (cI, 12, .inl (S.2 1))), (q 2, .inl (cI, 12, .inl (S.2 2))), (q 3, .inl (cI, 10, .inl (S.2 3))), (q 4, .inl (cI, 6, .inl (S.2 4))), (q 5, .inl (cI, 6, .inl (S.2 5))), (q 6, .inl (cI, 10, .inl (S.2 6))), (q 7, .inl (cI, 30, .inl (S.2 7))), (q 8, .inl (cI, 4, .inl (S.2 8))), (q 9, .inl (cI, 60, .inl (S.2 9))), (q 10, .inl (cI, 60, .inl (S.2 10))), (q 11, .inl (cB, 200, .inl (S.2 11))), (q 12, .inl (cI, 6, .inl (S.2 12))), (q 13, .inl (cI, 6, .inl (S.2 13))), (q 14, .inl (cI, 6, .inl (S.2 14))), (q 15, .inl (cI, 6, .inl (S.2 15))), (q 16, .inl (cI, 120, .inl (S.2 16))), (q 17, .inl (cI, 10, .inl (S.2 17))), (q 18, .inl (cI, 3311, .inl (S.2 18))), (q 19, .inl (cI, 610, .inl (S.2 19)))]
theorem fl_wM {q : Nat → Nat} {n : Nat} {cI cB cZ : ClassId} : Flat (wM q n cI cB cZ) := fun _ => rfl
/-- what the class needs of the start beside its world: the calls among nest mates, the two texts, two statics of the library -/
def Fx (adK adV : Nat → Nat) : FT := fun A U => (va_Nw (Cond.methodLinkNest RX0 46 yX6_within "BoatBridge") U ∧ va_Nw (Cond.methodLinkNest RX1 75 yX6_within "BoatBridge") U ∧ va_Nw (Cond.methodLinkNest RX3 19 yX6_within "BoatBridge") U ∧ va_Nw (Cond.methodLinkNest RX5 123 yX6_within "BoatBridge") U) ∧ (vk_R RX5 91 "toll" (adK 0) U ∧ vk_R RX5 97 "again" (adK 1) U) ∧ vk_S 2 [4, 5] [[116, 111, 108, 108], [97, 103, 97, 105, 110]] adK adV A U U.heap ∧ va_Z "java/lang/String" "COMPACT_STRINGS" "Z" (.int 1) A U U.heap ∧ va_Zq "jdk/internal/util/Preconditions" "SIOOBE_FORMATTER" "Ljava/util/function/BiFunction;" A U U.heap
theorem Fx_ok (adK adV : Nat → Nat) : Fok (Fx adK adV) := by
  refine ⟨fun A U g mk a h => ?_, fun A A' s U h hW hz hk hAB => ?_⟩
  · obtain ⟨⟨n1, n2, n3, n4⟩, ⟨r1, r2⟩, hv, hz, hq⟩ := h
    exact ⟨⟨va_Nw.same rfl rfl n1, va_Nw.same rfl rfl n2, va_Nw.same rfl rfl n3, va_Nw.same rfl rfl n4⟩, ⟨vk_R.same rfl r1, vk_R.same rfl r2⟩, vk_S.moved (u := U) (U := U.calling g mk a) (Vm.Alike.refl U.vm) hv, va_Z.moved (u := U) (U := U.calling g mk a) (Vm.Alike.refl U.vm) hz, va_Zq.moved (u := U) (U := U.calling g mk a) (Vm.Alike.refl U.vm) hq⟩
  · obtain ⟨⟨n1, n2, n3, n4⟩, ⟨r1, r2⟩, hv, hz1, hq⟩ := h
    exact ⟨⟨va_Nw.warmM hW n1, va_Nw.warmM hW n2, va_Nw.warmM hW n3, va_Nw.warmM hW n4⟩, ⟨vk_R.warm hW r1, vk_R.warm hW r2⟩, ((vk_S.moved hW.alike hv).kept hk).narrow hAB, ((va_Z.moved hW.alike hz1).kept hk).narrow hAB, ((va_Zq.moved hW.alike hq).kept hk).narrow hAB⟩
def bd2 {α : Type} (o : Option (Int32 × St)) (K : Int32 → St → Option α) : Option α := o.bind fun p => K p.1 p.2
theorem bd2_some {α : Type} {o : Option (Int32 × St)} {K : Int32 → St → Option α} {r : α} (h : bd2 o K = some r) : ∃ v S, o = some (v, S) ∧ K v S = some r := by
  obtain ⟨x, h1, h2⟩ := bd_some h
  exact ⟨x.1, x.2, h1, h2⟩
section RWC
variable {p : Program} {l : Launch} {e : Env} {R : Room} {s : State} {m : MethodId} {args : Array Value} {below : List Frame} {meth : Method} {c : Code} {kc ks : Nat} {Q : State → Prop} {nL : Nat} {D : va_G} {A : Nat → Prop} {S : St} {lv : List (Nat × Value)} {st : List Value} {cc : ByteArray} {own : String} {pc : Nat} {α : Type} {res : α} {q : Nat → Nat} {n : Nat} {cI cB cZ : ClassId}
theorem gf_C_0_0 (pc' : Nat) (K : Ok p s m args c cc nL RX6 D (tyL cI cB cZ) A (wC q n cI cB cZ)) (hd : decode cc pc = .ok (.getfield 23, 3)) (hp : pc + 3 = pc') (kk : G p l e R s m args below meth c kc ks Q nL D A (wC q n cI cB cZ) S pc' lv (.ref (q 1) :: st)) : G p l e R s m args below meth c kc ks Q nL D A (wC q n cI cB cZ) S pc lv (.ref (q 0) :: st) := g_get pc' 0 0 K hin_X6 rfl (by decide) rfl kf_X6_23 rfl rfl hd hp kk
theorem gf_C_0_1 (pc' : Nat) (K : Ok p s m args c cc nL RX6 D (tyL cI cB cZ) A (wC q n cI cB cZ)) (hd : decode cc pc = .ok (.getfield 30, 3)) (hp : pc + 3 = pc') (kk : G p l e R s m args below meth c kc ks Q nL D A (wC q n cI cB cZ) S pc' lv (.ref (q 9) :: st)) : G p l e R s m args below meth c kc ks Q nL D A (wC q n cI cB cZ) S pc lv (.ref (q 0) :: st) := g_get pc' 0 1 K hin_X6 rfl (by decide) rfl kf_X6_30 rfl rfl hd hp kk
theorem gf_C_0_2 (pc' : Nat) (K : Ok p s m args c cc nL RX6 D (tyL cI cB cZ) A (wC q n cI cB cZ)) (hd : decode cc pc = .ok (.getfield 37, 3)) (hp : pc + 3 = pc') (kk : G p l e R s m args below meth c kc ks Q nL D A (wC q n cI cB cZ) S pc' lv (.ref (q 20) :: st)) : G p l e R s m args below meth c kc ks Q nL D A (wC q n cI cB cZ) S pc lv (.ref (q 0) :: st) := g_get pc' 0 2 K hin_X6 rfl (by decide) rfl kf_X6_37 rfl rfl hd hp kk
theorem gf_C_0_3 (pc' : Nat) (K : Ok p s m args c cc nL RX6 D (tyL cI cB cZ) A (wC q n cI cB cZ)) (hd : decode cc pc = .ok (.getfield 44, 3)) (hp : pc + 3 = pc') (kk : G p l e R s m args below meth c kc ks Q nL D A (wC q n cI cB cZ) S pc' lv (.ref (q 24) :: st)) : G p l e R s m args below meth c kc ks Q nL D A (wC q n cI cB cZ) S pc lv (.ref (q 0) :: st) := g_get pc' 0 3 K hin_X6 rfl (by decide) rfl kf_X6_44 rfl rfl hd hp kk
theorem gf_C_0_4 (pc' : Nat) (K : Ok p s m args c cc nL RX6 D (tyL cI cB cZ) A (wC q n cI cB cZ)) (hd : decode cc pc = .ok (.getfield 51, 3)) (hp : pc + 3 = pc') (kk : G p l e R s m args below meth c kc ks Q nL D A (wC q n cI cB cZ) S pc' lv (.ref (q 26) :: st)) : G p l e R s m args below meth c kc ks Q nL D A (wC q n cI cB cZ) S pc lv (.ref (q 0) :: st) := g_get pc' 0 4 K hin_X6 rfl (by decide) rfl kf_X6_51 rfl rfl hd hp kk
theorem gf_C_0_5 (pc' : Nat) (K : Ok p s m args c cc nL RX6 D (tyL cI cB cZ) A (wC q n cI cB cZ)) (hd : decode cc pc = .ok (.getfield 58, 3)) (hp : pc + 3 = pc') (kk : G p l e R s m args below meth c kc ks Q nL D A (wC q n cI cB cZ) S pc' lv (.ref (q 29) :: st)) : G p l e R s m args below meth c kc ks Q nL D A (wC q n cI cB cZ) S pc lv (.ref (q 0) :: st) := g_get pc' 0 5 K hin_X6 rfl (by decide) rfl kf_X6_58 rfl rfl hd hp kk
theorem gf_C_1_0 (pc' : Nat) (K : Ok p s m args c cc nL RX0 D (tyL cI cB cZ) A (wC q n cI cB cZ)) (hd : decode cc pc = .ok (.getfield 24, 3)) (hp : pc + 3 = pc') (kk : G p l e R s m args below meth c kc ks Q nL D A (wC q n cI cB cZ) S pc' lv (.int (S.1 100) :: st)) : G p l e R s m args below meth c kc ks Q nL D A (wC q n cI cB cZ) S pc lv (.ref (q 1) :: st) := g_get pc' 1 0 K hin_X0 rfl (by decide) rfl kf_X0_24 rfl rfl hd hp kk
theorem gf_C_1_1 (pc' : Nat) (K : Ok p s m args c cc nL RX0 D (tyL cI cB cZ) A (wC q n cI cB cZ)) (hd : decode cc pc = .ok (.getfield 28, 3)) (hp : pc + 3 = pc') (kk : G p l e R s m args below meth c kc ks Q nL D A (wC q n cI cB cZ) S pc' lv (.ref (q 2) :: st)) : G p l e R s m args below meth c kc ks Q nL D A (wC q n cI cB cZ) S pc lv (.ref (q 1) :: st) := g_get pc' 1 1 K hin_X0 rfl (by decide) rfl kf_X0_28 rfl rfl hd hp kk
theorem gf_C_1_2 (pc' : Nat) (K : Ok p s m args c cc nL RX0 D (tyL cI cB cZ) A (wC q n cI cB cZ)) (hd : decode cc pc = .ok (.getfield 31, 3)) (hp : pc + 3 = pc') (kk : G p l e R s m args below meth c kc ks Q nL D A (wC q n cI cB cZ) S pc' lv (.ref (q 3) :: st)) : G p l e R s m args below meth c kc ks Q nL D A (wC q n cI cB cZ) S pc lv (.ref (q 1) :: st) := g_get pc' 1 2 K hin_X0 rfl (by decide) rfl kf_X0_31 rfl rfl hd hp kk
theorem gf_C_1_3 (pc' : Nat) (K : Ok p s m args c cc nL RX0 D (tyL cI cB cZ) A (wC q n cI cB cZ)) (hd : decode cc pc = .ok (.getfield 34, 3)) (hp : pc + 3 = pc') (kk : G p l e R s m args below meth c kc ks Q nL D A (wC q n cI cB cZ) S pc' lv (.ref (q 4) :: st)) : G p l e R s m args below meth c kc ks Q nL D A (wC q n cI cB cZ) S pc lv (.ref (q 1) :: st) := g_get pc' 1 3 K hin_X0 rfl (by decide) rfl kf_X0_34 rfl rfl hd hp kk
theorem gf_C_1_4 (pc' : Nat) (K : Ok p s m args c cc nL RX0 D (tyL cI cB cZ) A (wC q n cI cB cZ)) (hd : decode cc pc = .ok (.getfield 9, 3)) (hp : pc + 3 = pc') (kk : G p l e R s m args below meth c kc ks Q nL D A (wC q n cI cB cZ) S pc' lv (.ref (q 5) :: st)) : G p l e R s m args below meth c kc ks Q nL D A (wC q n cI cB cZ) S pc lv (.ref (q 1) :: st) := g_get pc' 1 4 K hin_X0 rfl (by decide) rfl kf_X0_9 rfl rfl hd hp kk
theorem gf_C_1_5 (pc' : Nat) (K : Ok p s m args c cc nL RX0 D (tyL cI cB cZ) A (wC q n cI cB cZ)) (hd : decode cc pc = .ok (.getfield 15, 3)) (hp : pc + 3 = pc') (kk : G p l e R s m args below meth c kc ks Q nL D A (wC q n cI cB cZ) S pc' lv (.ref (q 6) :: st)) : G p l e R s m args below meth c kc ks Q nL D A (wC q n cI cB cZ) S pc lv (.ref (q 1) :: st) := g_get pc' 1 5 K hin_X0 rfl (by decide) rfl kf_X0_15 rfl rfl hd hp kk
theorem gf_C_1_6 (pc' : Nat) (K : Ok p s m args c cc nL RX0 D (tyL cI cB cZ) A (wC q n cI cB cZ)) (hd : decode cc pc = .ok (.getfield 18, 3)) (hp : pc + 3 = pc') (kk : G p l e R s m args below meth c kc ks Q nL D A (wC q n cI cB cZ) S pc' lv (.ref (q 7) :: st)) : G p l e R s m args below meth c kc ks Q nL D A (wC q n cI cB cZ) S pc lv (.ref (q 1) :: st) := g_get pc' 1 6 K hin_X0 rfl (by decide) rfl kf_X0_18 rfl rfl hd hp kk
theorem gf_C_1_7 (pc' : Nat) (K : Ok p s m args c cc nL RX0 D (tyL cI cB cZ) A (wC q n cI cB cZ)) (hd : decode cc pc = .ok (.getfield 21, 3)) (hp : pc + 3 = pc') (kk : G p l e R s m args below meth c kc ks Q nL D A (wC q n cI cB cZ) S pc' lv (.ref (q 8) :: st)) : G p l e R s m args below meth c kc ks Q nL D A (wC q n cI cB cZ) S pc lv (.ref (q 1) :: st) := g_get pc' 1 7 K hin_X0 rfl (by decide) rfl kf_X0_21 rfl rfl hd hp kk
theorem gf_C_1_8 (pc' : Nat) (K : Ok p s m args c cc nL RX0 D (tyL cI cB cZ) A (wC q n cI cB cZ)) (hd : decode cc pc = .ok (.getfield 43, 3)) (hp : pc + 3 = pc') (kk : G p l e R s m args below meth c kc ks Q nL D A (wC q n cI cB cZ) S pc' lv (.int (S.1 108) :: st)) : G p l e R s m args below meth c kc ks Q nL D A (wC q n cI cB cZ) S pc lv (.ref (q 1) :: st) := g_get pc' 1 8 K hin_X0 rfl (by decide) rfl kf_X0_43 rfl rfl hd hp kk
theorem pf_C_1_8 (pc' : Nat) (K : Ok p s m args c cc nL RX0 D (tyL cI cB cZ) A (wC q n cI cB cZ)) {v : Int32} {Kf : St → Option α} (hf : lett (pF S 108 v) Kf = some res) (hd : decode cc pc = .ok (.putfield 43, 3)) (hp : pc + 3 = pc') (kk : ∀ S1 : St, Kf S1 = some res → G p l e R s m args below meth c kc ks Q nL D A (wC q n cI cB cZ) S1 pc' lv st) : G p l e R s m args below meth c kc ks Q nL D A (wC q n cI cB cZ) S pc lv (.int v :: .ref (q 1) :: st) := g_put (ty := .int) pc' 1 8 (pF S 108 v) K hin_X0 rfl (by decide) rfl kf_X0_43 tyX0 tyX0_ok nmX0 rfl rfl (by decide +kernel) rfl rfl (Nat.le_of_ble_eq_true rfl) rfl hd hp (kk _ hf)
theorem gf_C_1_9 (pc' : Nat) (K : Ok p s m args c cc nL RX0 D (tyL cI cB cZ) A (wC q n cI cB cZ)) (hd : decode cc pc = .ok (.getfield 58, 3)) (hp : pc + 3 = pc') (kk : G p l e R s m args below meth c kc ks Q nL D A (wC q n cI cB cZ) S pc' lv (.int (S.1 109) :: st)) : G p l e R s m args below meth c kc ks Q nL D A (wC q n cI cB cZ) S pc lv (.ref (q 1) :: st) := g_get pc' 1 9 K hin_X0 rfl (by decide) rfl kf_X0_58 rfl rfl hd hp kk
theorem pf_C_1_9 (pc' : Nat) (K : Ok p s m args c cc nL RX0 D (tyL cI cB cZ) A (wC q n cI cB cZ)) {v : Int32} {Kf : St → Option α} (hf : lett (pF S 109 v) Kf = some res) (hd : decode cc pc = .ok (.putfield 58, 3)) (hp : pc + 3 = pc') (kk : ∀ S1 : St, Kf S1 = some res → G p l e R s m args below meth c kc ks Q nL D A (wC q n cI cB cZ) S1 pc' lv st) : G p l e R s m args below meth c kc ks Q nL D A (wC q n cI cB cZ) S pc lv (.int v :: .ref (q 1) :: st) := g_put (ty := .int) pc' 1 9 (pF S 109 v) K hin_X0 rfl (by decide) rfl kf_X0_58 tyX0 tyX0_ok nmX0 rfl rfl (by decide +kernel) rfl rfl (Nat.le_of_ble_eq_true rfl) rfl hd hp (kk _ hf)
theorem gf_C_1_10 (pc' : Nat) (K : Ok p s m args c cc nL RX0 D (tyL cI cB cZ) A (wC q n cI cB cZ)) (hd : decode cc pc = .ok (.getfield 61, 3)) (hp : pc + 3 = pc') (kk : G p l e R s m args below meth c kc ks Q nL D A (wC q n cI cB cZ) S pc' lv (.int (S.1 110) :: st)) : G p l e R s m args below meth c kc ks Q nL D A (wC q n cI cB cZ) S pc lv (.ref (q 1) :: st) := g_get pc' 1 10 K hin_X0 rfl (by decide) rfl kf_X0_61 rfl rfl hd hp kk
theorem pf_C_1_10 (pc' : Nat) (K : Ok p s m args c cc nL RX0 D (tyL cI cB cZ) A (wC q n cI cB cZ)) {v : Int32} {Kf : St → Option α} (hf : lett (pF S 110 v) Kf = some res) (hd : decode cc pc = .ok (.putfield 61, 3)) (hp : pc + 3 = pc') (kk : ∀ S1 : St, Kf S1 = some res → G p l e R s m args below meth c kc ks Q nL D A (wC q n cI cB cZ) S1 pc' lv st) : G p l e R s m args below meth c kc ks Q nL D A (wC q n cI cB cZ) S pc lv (.int v :: .ref (q 1) :: st) := g_put (ty := .int) pc' 1 10 (pF S 110 v) K hin_X0 rfl (by decide) rfl kf_X0_61 tyX0 tyX0_ok nmX0 rfl rfl (by decide +kernel) rfl rfl (Nat.le_of_ble_eq_true rfl) rfl hd hp (kk _ hf)
theorem gf_C_1_11 (pc' : Nat) (K : Ok p s m args c cc nL RX0 D (tyL cI cB cZ) A (wC q n cI cB cZ)) (hd : decode cc pc = .ok (.getfield 64, 3)) (hp : pc + 3 = pc') (kk : G p l e R s m args below meth c kc ks Q nL D A (wC q n cI cB cZ) S pc' lv (.int (S.1 111) :: st)) : G p l e R s m args below meth c kc ks Q nL D A (wC q n cI cB cZ) S pc lv (.ref (q 1) :: st) := g_get pc' 1 11 K hin_X0 rfl (by decide) rfl kf_X0_64 rfl rfl hd hp kk
theorem pf_C_1_11 (pc' : Nat) (K : Ok p s m args c cc nL RX0 D (tyL cI cB cZ) A (wC q n cI cB cZ)) {v : Int32} {Kf : St → Option α} (hf : lett (pF S 111 v) Kf = some res) (hd : decode cc pc = .ok (.putfield 64, 3)) (hp : pc + 3 = pc') (kk : ∀ S1 : St, Kf S1 = some res → G p l e R s m args below meth c kc ks Q nL D A (wC q n cI cB cZ) S1 pc' lv st) : G p l e R s m args below meth c kc ks Q nL D A (wC q n cI cB cZ) S pc lv (.int v :: .ref (q 1) :: st) := g_put (ty := .int) pc' 1 11 (pF S 111 v) K hin_X0 rfl (by decide) rfl kf_X0_64 tyX0 tyX0_ok nmX0 rfl rfl (by decide +kernel) rfl rfl (Nat.le_of_ble_eq_true rfl) rfl hd hp (kk _ hf)
theorem al_C_2 (pc' : Nat) (K : Ok p s m args c cc nL own D (tyL cI cB cZ) A (wC q n cI cB cZ)) {i : Int32} {Kf : Int32 → Option α} (hf : (rd (S.2 2) n i).bind Kf = some res) (hd : decode cc pc = .ok (.iaload, 1)) (hp : pc + 1 = pc') (kk : ∀ v : Int32, Kf v = some res → G p l e R s m args below meth c kc ks Q nL D A (wC q n cI cB cZ) S pc' lv (.int v :: st)) : G p l e R s m args below meth c kc ks Q nL D A (wC q n cI cB cZ) S pc lv (.int i :: .ref (q 2) :: st) := g_iald pc' 2 0 K rfl rfl hf hd hp kk
theorem as_C_2 (pc' : Nat) (K : Ok p s m args c cc nL own D (tyL cI cB cZ) A (wC q n cI cB cZ)) {i x : Int32} {Kf : St → Option α} (hf : (wr S 2 n i x).bind Kf = some res) (hd : decode cc pc = .ok (.iastore, 1)) (hp : pc + 1 = pc') (kk : ∀ S1 : St, Kf S1 = some res → G p l e R s m args below meth c kc ks Q nL D A (wC q n cI cB cZ) S1 pc' lv st) : G p l e R s m args below meth c kc ks Q nL D A (wC q n cI cB cZ) S pc lv (.int x :: .int i :: .ref (q 2) :: st) := g_iast pc' 2 0 2 K rfl rfl (fun _ => rfl) hf hd hp kk
theorem an_C_2 (pc' : Nat) (K : Ok p s m args c cc nL own D (tyL cI cB cZ) A (wC q n cI cB cZ)) (hd : decode cc pc = .ok (.arraylength, 1)) (hp : pc + 1 = pc') (kk : G p l e R s m args below meth c kc ks Q nL D A (wC q n cI cB cZ) S pc' lv (.int (nI n) :: st)) : G p l e R s m args below meth c kc ks Q nL D A (wC q n cI cB cZ) S pc lv (.ref (q 2) :: st) := g_alen pc' 2 0 (nI n) K rfl rfl rfl hd hp kk
theorem al_C_3 (pc' : Nat) (K : Ok p s m args c cc nL own D (tyL cI cB cZ) A (wC q n cI cB cZ)) {i : Int32} {Kf : Int32 → Option α} (hf : (rd (S.2 3) n i).bind Kf = some res) (hd : decode cc pc = .ok (.iaload, 1)) (hp : pc + 1 = pc') (kk : ∀ v : Int32, Kf v = some res → G p l e R s m args below meth c kc ks Q nL D A (wC q n cI cB cZ) S pc' lv (.int v :: st)) : G p l e R s m args below meth c kc ks Q nL D A (wC q n cI cB cZ) S pc lv (.int i :: .ref (q 3) :: st) := g_iald pc' 3 0 K rfl rfl hf hd hp kk
theorem as_C_3 (pc' : Nat) (K : Ok p s m args c cc nL own D (tyL cI cB cZ) A (wC q n cI cB cZ)) {i x : Int32} {Kf : St → Option α} (hf : (wr S 3 n i x).bind Kf = some res) (hd : decode cc pc = .ok (.iastore, 1)) (hp : pc + 1 = pc') (kk : ∀ S1 : St, Kf S1 = some res → G p l e R s m args below meth c kc ks Q nL D A (wC q n cI cB cZ) S1 pc' lv st) : G p l e R s m args below meth c kc ks Q nL D A (wC q n cI cB cZ) S pc lv (.int x :: .int i :: .ref (q 3) :: st) := g_iast pc' 3 0 3 K rfl rfl (fun _ => rfl) hf hd hp kk
theorem an_C_3 (pc' : Nat) (K : Ok p s m args c cc nL own D (tyL cI cB cZ) A (wC q n cI cB cZ)) (hd : decode cc pc = .ok (.arraylength, 1)) (hp : pc + 1 = pc') (kk : G p l e R s m args below meth c kc ks Q nL D A (wC q n cI cB cZ) S pc' lv (.int (nI n) :: st)) : G p l e R s m args below meth c kc ks Q nL D A (wC q n cI cB cZ) S pc lv (.ref (q 3) :: st) := g_alen pc' 3 0 (nI n) K rfl rfl rfl hd hp kk
theorem al_C_4 (pc' : Nat) (K : Ok p s m args c cc nL own D (tyL cI cB cZ) A (wC q n cI cB cZ)) {i : Int32} {Kf : Int32 → Option α} (hf : (rd (S.2 4) n i).bind Kf = some res) (hd : decode cc pc = .ok (.iaload, 1)) (hp : pc + 1 = pc') (kk : ∀ v : Int32, Kf v = some res → G p l e R s m args below meth c kc ks Q nL D A (wC q n cI cB cZ) S pc' lv (.int v :: st)) : G p l e R s m args below meth c kc ks Q nL D A (wC q n cI cB cZ) S pc lv (.int i :: .ref (q 4) :: st) := g_iald pc' 4 0 K rfl rfl hf hd hp kk
theorem as_C_4 (pc' : Nat) (K : Ok p s m args c cc nL own D (tyL cI cB cZ) A (wC q n cI cB cZ)) {i x : Int32} {Kf : St → Option α} (hf : (wr S 4 n i x).bind Kf = some res) (hd : decode cc pc = .ok (.iastore, 1)) (hp : pc + 1 = pc') (kk : ∀ S1 : St, Kf S1 = some res → G p l e R s m args below meth c kc ks Q nL D A (wC q n cI cB cZ) S1 pc' lv st) : G p l e R s m args below meth c kc ks Q nL D A (wC q n cI cB cZ) S pc lv (.int x :: .int i :: .ref (q 4) :: st) := g_iast pc' 4 0 4 K rfl rfl (fun _ => rfl) hf hd hp kk
theorem an_C_4 (pc' : Nat) (K : Ok p s m args c cc nL own D (tyL cI cB cZ) A (wC q n cI cB cZ)) (hd : decode cc pc = .ok (.arraylength, 1)) (hp : pc + 1 = pc') (kk : G p l e R s m args below meth c kc ks Q nL D A (wC q n cI cB cZ) S pc' lv (.int (nI n) :: st)) : G p l e R s m args below meth c kc ks Q nL D A (wC q n cI cB cZ) S pc lv (.ref (q 4) :: st) := g_alen pc' 4 0 (nI n) K rfl rfl rfl hd hp kk
theorem al_C_5 (pc' : Nat) (K : Ok p s m args c cc nL own D (tyL cI cB cZ) A (wC q n cI cB cZ)) {i : Int32} {Kf : Int32 → Option α} (hf : (rd (S.2 5) 10 i).bind Kf = some res) (hd : decode cc pc = .ok (.iaload, 1)) (hp : pc + 1 = pc') (kk : ∀ v : Int32, Kf v = some res → G p l e R s m args below meth c kc ks Q nL D A (wC q n cI cB cZ) S pc' lv (.int v :: st)) : G p l e R s m args below meth c kc ks Q nL D A (wC q n cI cB cZ) S pc lv (.int i :: .ref (q 5) :: st) := g_iald pc' 5 0 K rfl rfl hf hd hp kk
theorem as_C_5 (pc' : Nat) (K : Ok p s m args c cc nL own D (tyL cI cB cZ) A (wC q n cI cB cZ)) {i x : Int32} {Kf : St → Option α} (hf : (wr S 5 10 i x).bind Kf = some res) (hd : decode cc pc = .ok (.iastore, 1)) (hp : pc + 1 = pc') (kk : ∀ S1 : St, Kf S1 = some res → G p l e R s m args below meth c kc ks Q nL D A (wC q n cI cB cZ) S1 pc' lv st) : G p l e R s m args below meth c kc ks Q nL D A (wC q n cI cB cZ) S pc lv (.int x :: .int i :: .ref (q 5) :: st) := g_iast pc' 5 0 5 K rfl rfl (fun _ => rfl) hf hd hp kk
theorem an_C_5 (pc' : Nat) (K : Ok p s m args c cc nL own D (tyL cI cB cZ) A (wC q n cI cB cZ)) (hd : decode cc pc = .ok (.arraylength, 1)) (hp : pc + 1 = pc') (kk : G p l e R s m args below meth c kc ks Q nL D A (wC q n cI cB cZ) S pc' lv (.int (nI 10) :: st)) : G p l e R s m args below meth c kc ks Q nL D A (wC q n cI cB cZ) S pc lv (.ref (q 5) :: st) := g_alen pc' 5 0 (nI 10) K rfl rfl rfl hd hp kk
theorem al_C_6 (pc' : Nat) (K : Ok p s m args c cc nL own D (tyL cI cB cZ) A (wC q n cI cB cZ)) {i : Int32} {Kf : Int32 → Option α} (hf : (rd (S.2 6) 6 i).bind Kf = some res) (hd : decode cc pc = .ok (.iaload, 1)) (hp : pc + 1 = pc') (kk : ∀ v : Int32, Kf v = some res → G p l e R s m args below meth c kc ks Q nL D A (wC q n cI cB cZ) S pc' lv (.int v :: st)) : G p l e R s m args below meth c kc ks Q nL D A (wC q n cI cB cZ) S pc lv (.int i :: .ref (q 6) :: st) := g_iald pc' 6 0 K rfl rfl hf hd hp kk
theorem as_C_6 (pc' : Nat) (K : Ok p s m args c cc nL own D (tyL cI cB cZ) A (wC q n cI cB cZ)) {i x : Int32} {Kf : St → Option α} (hf : (wr S 6 6 i x).bind Kf = some res) (hd : decode cc pc = .ok (.iastore, 1)) (hp : pc + 1 = pc') (kk : ∀ S1 : St, Kf S1 = some res → G p l e R s m args below meth c kc ks Q nL D A (wC q n cI cB cZ) S1 pc' lv st) : G p l e R s m args below meth c kc ks Q nL D A (wC q n cI cB cZ) S pc lv (.int x :: .int i :: .ref (q 6) :: st) := g_iast pc' 6 0 6 K rfl rfl (fun _ => rfl) hf hd hp kk
theorem an_C_6 (pc' : Nat) (K : Ok p s m args c cc nL own D (tyL cI cB cZ) A (wC q n cI cB cZ)) (hd : decode cc pc = .ok (.arraylength, 1)) (hp : pc + 1 = pc') (kk : G p l e R s m args below meth c kc ks Q nL D A (wC q n cI cB cZ) S pc' lv (.int (nI 6) :: st)) : G p l e R s m args below meth c kc ks Q nL D A (wC q n cI cB cZ) S pc lv (.ref (q 6) :: st) := g_alen pc' 6 0 (nI 6) K rfl rfl rfl hd hp kk
theorem al_C_7 (pc' : Nat) (K : Ok p s m args c cc nL own D (tyL cI cB cZ) A (wC q n cI cB cZ)) {i : Int32} {Kf : Int32 → Option α} (hf : (rd (S.2 7) 6 i).bind Kf = some res) (hd : decode cc pc = .ok (.iaload, 1)) (hp : pc + 1 = pc') (kk : ∀ v : Int32, Kf v = some res → G p l e R s m args below meth c kc ks Q nL D A (wC q n cI cB cZ) S pc' lv (.int v :: st)) : G p l e R s m args below meth c kc ks Q nL D A (wC q n cI cB cZ) S pc lv (.int i :: .ref (q 7) :: st) := g_iald pc' 7 0 K rfl rfl hf hd hp kk
theorem as_C_7 (pc' : Nat) (K : Ok p s m args c cc nL own D (tyL cI cB cZ) A (wC q n cI cB cZ)) {i x : Int32} {Kf : St → Option α} (hf : (wr S 7 6 i x).bind Kf = some res) (hd : decode cc pc = .ok (.iastore, 1)) (hp : pc + 1 = pc') (kk : ∀ S1 : St, Kf S1 = some res → G p l e R s m args below meth c kc ks Q nL D A (wC q n cI cB cZ) S1 pc' lv st) : G p l e R s m args below meth c kc ks Q nL D A (wC q n cI cB cZ) S pc lv (.int x :: .int i :: .ref (q 7) :: st) := g_iast pc' 7 0 7 K rfl rfl (fun _ => rfl) hf hd hp kk
theorem an_C_7 (pc' : Nat) (K : Ok p s m args c cc nL own D (tyL cI cB cZ) A (wC q n cI cB cZ)) (hd : decode cc pc = .ok (.arraylength, 1)) (hp : pc + 1 = pc') (kk : G p l e R s m args below meth c kc ks Q nL D A (wC q n cI cB cZ) S pc' lv (.int (nI 6) :: st)) : G p l e R s m args below meth c kc ks Q nL D A (wC q n cI cB cZ) S pc lv (.ref (q 7) :: st) := g_alen pc' 7 0 (nI 6) K rfl rfl rfl hd hp kk
theorem al_C_8 (pc' : Nat) (K : Ok p s m args c cc nL own D (tyL cI cB cZ) A (wC q n cI cB cZ)) {i : Int32} {Kf : Int32 → Option α} (hf : (rd (S.2 8) 6 i).bind Kf = some res) (hd : decode cc pc = .ok (.iaload, 1)) (hp : pc + 1 = pc') (kk : ∀ v : Int32, Kf v = some res → G p l e R s m args below meth c kc ks Q nL D A (wC q n cI cB cZ) S pc' lv (.int v :: st)) : G p l e R s m args below meth c kc ks Q nL D A (wC q n cI cB cZ) S pc lv (.int i :: .ref (q 8) :: st) := g_iald pc' 8 0 K rfl rfl hf hd hp kk
theorem as_C_8 (pc' : Nat) (K : Ok p s m args c cc nL own D (tyL cI cB cZ) A (wC q n cI cB cZ)) {i x : Int32} {Kf : St → Option α} (hf : (wr S 8 6 i x).bind Kf = some res) (hd : decode cc pc = .ok (.iastore, 1)) (hp : pc + 1 = pc') (kk : ∀ S1 : St, Kf S1 = some res → G p l e R s m args below meth c kc ks Q nL D A (wC q n cI cB cZ) S1 pc' lv st) : G p l e R s m args below meth c kc ks Q nL D A (wC q n cI cB cZ) S pc lv (.int x :: .int i :: .ref (q 8) :: st) := g_iast pc' 8 0 8 K rfl rfl (fun _ => rfl) hf hd hp kk
theorem an_C_8 (pc' : Nat) (K : Ok p s m args c cc nL own D (tyL cI cB cZ) A (wC q n cI cB cZ)) (hd : decode cc pc = .ok (.arraylength, 1)) (hp : pc + 1 = pc') (kk : G p l e R s m args below meth c kc ks Q nL D A (wC q n cI cB cZ) S pc' lv (.int (nI 6) :: st)) : G p l e R s m args below meth c kc ks Q nL D A (wC q n cI cB cZ) S pc lv (.ref (q 8) :: st) := g_alen pc' 8 0 (nI 6) K rfl rfl rfl hd hp kk
theorem gf_C_9_0 (pc' : Nat) (K : Ok p s m args c cc nL RX1 D (tyL cI cB cZ) A (wC q n cI cB cZ)) (hd : decode cc pc = .ok (.getfield 9, 3)) (hp : pc + 3 = pc') (kk : G p l e R s m args below meth c kc ks Q nL D A (wC q n cI cB cZ) S pc' lv (.ref (q 10) :: st)) : G p l e R s m args below meth c kc ks Q nL D A (wC q n cI cB cZ) S pc lv (.ref (q 9) :: st) := g_get pc' 9 0 K hin_X1 rfl (by decide) rfl kf_X1_9 rfl rfl hd hp kk
theorem gf_C_9_1 (pc' : Nat) (K : Ok p s m args c cc nL RX1 D (tyL cI cB cZ) A (wC q n cI cB cZ)) (hd : decode cc pc = .ok (.getfield 15, 3)) (hp : pc + 3 = pc') (kk : G p l e R s m args below meth c kc ks Q nL D A (wC q n cI cB cZ) S pc' lv (.ref (q 11) :: st)) : G p l e R s m args below meth c kc ks Q nL D A (wC q n cI cB cZ) S pc lv (.ref (q 9) :: st) := g_get pc' 9 1 K hin_X1 rfl (by decide) rfl kf_X1_15 rfl rfl hd hp kk
theorem gf_C_9_2 (pc' : Nat) (K : Ok p s m args c cc nL RX1 D (tyL cI cB cZ) A (wC q n cI cB cZ)) (hd : decode cc pc = .ok (.getfield 18, 3)) (hp : pc + 3 = pc') (kk : G p l e R s m args below meth c kc ks Q nL D A (wC q n cI cB cZ) S pc' lv (.ref (q 12) :: st)) : G p l e R s m args below meth c kc ks Q nL D A (wC q n cI cB cZ) S pc lv (.ref (q 9) :: st) := g_get pc' 9 2 K hin_X1 rfl (by decide) rfl kf_X1_18 rfl rfl hd hp kk
theorem gf_C_9_3 (pc' : Nat) (K : Ok p s m args c cc nL RX1 D (tyL cI cB cZ) A (wC q n cI cB cZ)) (hd : decode cc pc = .ok (.getfield 21, 3)) (hp : pc + 3 = pc') (kk : G p l e R s m args below meth c kc ks Q nL D A (wC q n cI cB cZ) S pc' lv (.ref (q 13) :: st)) : G p l e R s m args below meth c kc ks Q nL D A (wC q n cI cB cZ) S pc lv (.ref (q 9) :: st) := g_get pc' 9 3 K hin_X1 rfl (by decide) rfl kf_X1_21 rfl rfl hd hp kk
theorem gf_C_9_4 (pc' : Nat) (K : Ok p s m args c cc nL RX1 D (tyL cI cB cZ) A (wC q n cI cB cZ)) (hd : decode cc pc = .ok (.getfield 24, 3)) (hp : pc + 3 = pc') (kk : G p l e R s m args below meth c kc ks Q nL D A (wC q n cI cB cZ) S pc' lv (.ref (q 14) :: st)) : G p l e R s m args below meth c kc ks Q nL D A (wC q n cI cB cZ) S pc lv (.ref (q 9) :: st) := g_get pc' 9 4 K hin_X1 rfl (by decide) rfl kf_X1_24 rfl rfl hd hp kk
theorem gf_C_9_5 (pc' : Nat) (K : Ok p s m args c cc nL RX1 D (tyL cI cB cZ) A (wC q n cI cB cZ)) (hd : decode cc pc = .ok (.getfield 27, 3)) (hp : pc + 3 = pc') (kk : G p l e R s m args below meth c kc ks Q nL D A (wC q n cI cB cZ) S pc' lv (.ref (q 15) :: st)) : G p l e R s m args below meth c kc ks Q nL D A (wC q n cI cB cZ) S pc lv (.ref (q 9) :: st) := g_get pc' 9 5 K hin_X1 rfl (by decide) rfl kf_X1_27 rfl rfl hd hp kk
theorem gf_C_9_6 (pc' : Nat) (K : Ok p s m args c cc nL RX1 D (tyL cI cB cZ) A (wC q n cI cB cZ)) (hd : decode cc pc = .ok (.getfield 30, 3)) (hp : pc + 3 = pc') (kk : G p l e R s m args below meth c kc ks Q nL D A (wC q n cI cB cZ) S pc' lv (.ref (q 16) :: st)) : G p l e R s m args below meth c kc ks Q nL D A (wC q n cI cB cZ) S pc lv (.ref (q 9) :: st) := g_get pc' 9 6 K hin_X1 rfl (by decide) rfl kf_X1_30 rfl rfl hd hp kk
theorem gf_C_9_7 (pc' : Nat) (K : Ok p s m args c cc nL RX1 D (tyL cI cB cZ) A (wC q n cI cB cZ)) (hd : decode cc pc = .ok (.getfield 33, 3)) (hp : pc + 3 = pc') (kk : G p l e R s m args below meth c kc ks Q nL D A (wC q n cI cB cZ) S pc' lv (.ref (q 17) :: st)) : G p l e R s m args below meth c kc ks Q nL D A (wC q n cI cB cZ) S pc lv (.ref (q 9) :: st) := g_get pc' 9 7 K hin_X1 rfl (by decide) rfl kf_X1_33 rfl rfl hd hp kk
theorem gf_C_9_8 (pc' : Nat) (K : Ok p s m args c cc nL RX1 D (tyL cI cB cZ) A (wC q n cI cB cZ)) (hd : decode cc pc = .ok (.getfield 36, 3)) (hp : pc + 3 = pc') (kk : G p l e R s m args below meth c kc ks Q nL D A (wC q n cI cB cZ) S pc' lv (.ref (q 18) :: st)) : G p l e R s m args below meth c kc ks Q nL D A (wC q n cI cB cZ) S pc lv (.ref (q 9) :: st) := g_get pc' 9 8 K hin_X1 rfl (by decide) rfl kf_X1_36 rfl rfl hd hp kk
theorem gf_C_9_9 (pc' : Nat) (K : Ok p s m args c cc nL RX1 D (tyL cI cB cZ) A (wC q n cI cB cZ)) (hd : decode cc pc = .ok (.getfield 39, 3)) (hp : pc + 3 = pc') (kk : G p l e R s m args below meth c kc ks Q nL D A (wC q n cI cB cZ) S pc' lv (.ref (q 19) :: st)) : G p l e R s m args below meth c kc ks Q nL D A (wC q n cI cB cZ) S pc lv (.ref (q 9) :: st) := g_get pc' 9 9 K hin_X1 rfl (by decide) rfl kf_X1_39 rfl rfl hd hp kk
theorem gf_C_9_10 (pc' : Nat) (K : Ok p s m args c cc nL RX1 D (tyL cI cB cZ) A (wC q n cI cB cZ)) (hd : decode cc pc = .ok (.getfield 55, 3)) (hp : pc + 3 = pc') (kk : G p l e R s m args below meth c kc ks Q nL D A (wC q n cI cB cZ) S pc' lv (.int (S.1 910) :: st)) : G p l e R s m args below meth c kc ks Q nL D A (wC q n cI cB cZ) S pc lv (.ref (q 9) :: st) := g_get pc' 9 10 K hin_X1 rfl (by decide) rfl kf_X1_55 rfl rfl hd hp kk
theorem pf_C_9_10 (pc' : Nat) (K : Ok p s m args c cc nL RX1 D (tyL cI cB cZ) A (wC q n cI cB cZ)) {v : Int32} {Kf : St → Option α} (hf : lett (pF S 910 v) Kf = some res) (hd : decode cc pc = .ok (.putfield 55, 3)) (hp : pc + 3 = pc') (kk : ∀ S1 : St, Kf S1 = some res → G p l e R s m args below meth c kc ks Q nL D A (wC q n cI cB cZ) S1 pc' lv st) : G p l e R s m args below meth c kc ks Q nL D A (wC q n cI cB cZ) S pc lv (.int v :: .ref (q 9) :: st) := g_put (ty := .int) pc' 9 10 (pF S 910 v) K hin_X1 rfl (by decide) rfl kf_X1_55 tyX1 tyX1_ok nmX1 rfl rfl (by decide +kernel) rfl rfl (Nat.le_of_ble_eq_true rfl) rfl hd hp (kk _ hf)
theorem gf_C_9_11 (pc' : Nat) (K : Ok p s m args c cc nL RX1 D (tyL cI cB cZ) A (wC q n cI cB cZ)) (hd : decode cc pc = .ok (.getfield 58, 3)) (hp : pc + 3 = pc') (kk : G p l e R s m args below meth c kc ks Q nL D A (wC q n cI cB cZ) S pc' lv (.int (S.1 911) :: st)) : G p l e R s m args below meth c kc ks Q nL D A (wC q n cI cB cZ) S pc lv (.ref (q 9) :: st) := g_get pc' 9 11 K hin_X1 rfl (by decide) rfl kf_X1_58 rfl rfl hd hp kk
theorem pf_C_9_11 (pc' : Nat) (K : Ok p s m args c cc nL RX1 D (tyL cI cB cZ) A (wC q n cI cB cZ)) {v : Int32} {Kf : St → Option α} (hf : lett (pF S 911 v) Kf = some res) (hd : decode cc pc = .ok (.putfield 58, 3)) (hp : pc + 3 = pc') (kk : ∀ S1 : St, Kf S1 = some res → G p l e R s m args below meth c kc ks Q nL D A (wC q n cI cB cZ) S1 pc' lv st) : G p l e R s m args below meth c kc ks Q nL D A (wC q n cI cB cZ) S pc lv (.int v :: .ref (q 9) :: st) := g_put (ty := .int) pc' 9 11 (pF S 911 v) K hin_X1 rfl (by decide) rfl kf_X1_58 tyX1 tyX1_ok nmX1 rfl rfl (by decide +kernel) rfl rfl (Nat.le_of_ble_eq_true rfl) rfl hd hp (kk _ hf)
theorem gf_C_9_12 (pc' : Nat) (K : Ok p s m args c cc nL RX1 D (tyL cI cB cZ) A (wC q n cI cB cZ)) (hd : decode cc pc = .ok (.getfield 42, 3)) (hp : pc + 3 = pc') (kk : G p l e R s m args below meth c kc ks Q nL D A (wC q n cI cB cZ) S pc' lv (.int (S.1 912) :: st)) : G p l e R s m args below meth c kc ks Q nL D A (wC q n cI cB cZ) S pc lv (.ref (q 9) :: st) := g_get pc' 9 12 K hin_X1 rfl (by decide) rfl kf_X1_42 rfl rfl hd hp kk
theorem pf_C_9_12 (pc' : Nat) (K : Ok p s m args c cc nL RX1 D (tyL cI cB cZ) A (wC q n cI cB cZ)) {v : Int32} {Kf : St → Option α} (hf : lett (pF S 912 v) Kf = some res) (hd : decode cc pc = .ok (.putfield 42, 3)) (hp : pc + 3 = pc') (kk : ∀ S1 : St, Kf S1 = some res → G p l e R s m args below meth c kc ks Q nL D A (wC q n cI cB cZ) S1 pc' lv st) : G p l e R s m args below meth c kc ks Q nL D A (wC q n cI cB cZ) S pc lv (.int v :: .ref (q 9) :: st) := g_put (ty := .int) pc' 9 12 (pF S 912 v) K hin_X1 rfl (by decide) rfl kf_X1_42 tyX1 tyX1_ok nmX1 rfl rfl (by decide +kernel) rfl rfl (Nat.le_of_ble_eq_true rfl) rfl hd hp (kk _ hf)
theorem gf_C_9_13 (pc' : Nat) (K : Ok p s m args c cc nL RX1 D (tyL cI cB cZ) A (wC q n cI cB cZ)) (hd : decode cc pc = .ok (.getfield 46, 3)) (hp : pc + 3 = pc') (kk : G p l e R s m args below meth c kc ks Q nL D A (wC q n cI cB cZ) S pc' lv (.int (S.1 913) :: st)) : G p l e R s m args below meth c kc ks Q nL D A (wC q n cI cB cZ) S pc lv (.ref (q 9) :: st) := g_get pc' 9 13 K hin_X1 rfl (by decide) rfl kf_X1_46 rfl rfl hd hp kk
theorem pf_C_9_13 (pc' : Nat) (K : Ok p s m args c cc nL RX1 D (tyL cI cB cZ) A (wC q n cI cB cZ)) {v : Int32} {Kf : St → Option α} (hf : lett (pF S 913 v) Kf = some res) (hd : decode cc pc = .ok (.putfield 46, 3)) (hp : pc + 3 = pc') (kk : ∀ S1 : St, Kf S1 = some res → G p l e R s m args below meth c kc ks Q nL D A (wC q n cI cB cZ) S1 pc' lv st) : G p l e R s m args below meth c kc ks Q nL D A (wC q n cI cB cZ) S pc lv (.int v :: .ref (q 9) :: st) := g_put (ty := .int) pc' 9 13 (pF S 913 v) K hin_X1 rfl (by decide) rfl kf_X1_46 tyX1 tyX1_ok nmX1 rfl rfl (by decide +kernel) rfl rfl (Nat.le_of_ble_eq_true rfl) rfl hd hp (kk _ hf)
theorem gf_C_9_14 (pc' : Nat) (K : Ok p s m args c cc nL RX1 D (tyL cI cB cZ) A (wC q n cI cB cZ)) (hd : decode cc pc = .ok (.getfield 49, 3)) (hp : pc + 3 = pc') (kk : G p l e R s m args below meth c kc ks Q nL D A (wC q n cI cB cZ) S pc' lv (.int (S.1 914) :: st)) : G p l e R s m args below meth c kc ks Q nL D A (wC q n cI cB cZ) S pc lv (.ref (q 9) :: st) := g_get pc' 9 14 K hin_X1 rfl (by decide) rfl kf_X1_49 rfl rfl hd hp kk
theorem pf_C_9_14 (pc' : Nat) (K : Ok p s m args c cc nL RX1 D (tyL cI cB cZ) A (wC q n cI cB cZ)) {v : Int32} {Kf : St → Option α} (hf : lett (pF S 914 v) Kf = some res) (hd : decode cc pc = .ok (.putfield 49, 3)) (hp : pc + 3 = pc') (kk : ∀ S1 : St, Kf S1 = some res → G p l e R s m args below meth c kc ks Q nL D A (wC q n cI cB cZ) S1 pc' lv st) : G p l e R s m args below meth c kc ks Q nL D A (wC q n cI cB cZ) S pc lv (.int v :: .ref (q 9) :: st) := g_put (ty := .int) pc' 9 14 (pF S 914 v) K hin_X1 rfl (by decide) rfl kf_X1_49 tyX1 tyX1_ok nmX1 rfl rfl (by decide +kernel) rfl rfl (Nat.le_of_ble_eq_true rfl) rfl hd hp (kk _ hf)
theorem gf_C_9_15 (pc' : Nat) (K : Ok p s m args c cc nL RX1 D (tyL cI cB cZ) A (wC q n cI cB cZ)) (hd : decode cc pc = .ok (.getfield 52, 3)) (hp : pc + 3 = pc') (kk : G p l e R s m args below meth c kc ks Q nL D A (wC q n cI cB cZ) S pc' lv (.int (S.1 915) :: st)) : G p l e R s m args below meth c kc ks Q nL D A (wC q n cI cB cZ) S pc lv (.ref (q 9) :: st) := g_get pc' 9 15 K hin_X1 rfl (by decide) rfl kf_X1_52 rfl rfl hd hp kk
theorem pf_C_9_15 (pc' : Nat) (K : Ok p s m args c cc nL RX1 D (tyL cI cB cZ) A (wC q n cI cB cZ)) {v : Int32} {Kf : St → Option α} (hf : lett (pF S 915 v) Kf = some res) (hd : decode cc pc = .ok (.putfield 52, 3)) (hp : pc + 3 = pc') (kk : ∀ S1 : St, Kf S1 = some res → G p l e R s m args below meth c kc ks Q nL D A (wC q n cI cB cZ) S1 pc' lv st) : G p l e R s m args below meth c kc ks Q nL D A (wC q n cI cB cZ) S pc lv (.int v :: .ref (q 9) :: st) := g_put (ty := .int) pc' 9 15 (pF S 915 v) K hin_X1 rfl (by decide) rfl kf_X1_52 tyX1 tyX1_ok nmX1 rfl rfl (by decide +kernel) rfl rfl (Nat.le_of_ble_eq_true rfl) rfl hd hp (kk _ hf)
theorem gf_C_9_16 (pc' : Nat) (K : Ok p s m args c cc nL RX1 D (tyL cI cB cZ) A (wC q n cI cB cZ)) (hd : decode cc pc = .ok (.getfield 72, 3)) (hp : pc + 3 = pc') (kk : G p l e R s m args below meth c kc ks Q nL D A (wC q n cI cB cZ) S pc' lv (.int (S.1 916) :: st)) : G p l e R s m args below meth c kc ks Q nL D A (wC q n cI cB cZ) S pc lv (.ref (q 9) :: st) := g_get pc' 9 16 K hin_X1 rfl (by decide) rfl kf_X1_72 rfl rfl hd hp kk
theorem pf_C_9_16 (pc' : Nat) (K : Ok p s m args c cc nL RX1 D (tyL cI cB cZ) A (wC q n cI cB cZ)) {v : Int32} {Kf : St → Option α} (hf : lett (pF S 916 v) Kf = some res) (hd : decode cc pc = .ok (.putfield 72, 3)) (hp : pc + 3 = pc') (kk : ∀ S1 : St, Kf S1 = some res → G p l e R s m args below meth c kc ks Q nL D A (wC q n cI cB cZ) S1 pc' lv st) : G p l e R s m args below meth c kc ks Q nL D A (wC q n cI cB cZ) S pc lv (.int v :: .ref (q 9) :: st) := g_put (ty := .int) pc' 9 16 (pF S 916 v) K hin_X1 rfl (by decide) rfl kf_X1_72 tyX1 tyX1_ok nmX1 rfl rfl (by decide +kernel) rfl rfl (Nat.le_of_ble_eq_true rfl) rfl hd hp (kk _ hf)
theorem gf_C_9_17 (pc' : Nat) (K : Ok p s m args c cc nL RX1 D (tyL cI cB cZ) A (wC q n cI cB cZ)) (hd : decode cc pc = .ok (.getfield 68, 3)) (hp : pc + 3 = pc') (kk : G p l e R s m args below meth c kc ks Q nL D A (wC q n cI cB cZ) S pc' lv (.int (S.1 917) :: st)) : G p l e R s m args below meth c kc ks Q nL D A (wC q n cI cB cZ) S pc lv (.ref (q 9) :: st) := g_get pc' 9 17 K hin_X1 rfl (by decide) rfl kf_X1_68 rfl rfl hd hp kk
theorem pf_C_9_17 (pc' : Nat) (K : Ok p s m args c cc nL RX1 D (tyL cI cB cZ) A (wC q n cI cB cZ)) {v : Int32} {Kf : St → Option α} (hf : lett (pF S 917 v) Kf = some res) (hd : decode cc pc = .ok (.putfield 68, 3)) (hp : pc + 3 = pc') (kk : ∀ S1 : St, Kf S1 = some res → G p l e R s m args below meth c kc ks Q nL D A (wC q n cI cB cZ) S1 pc' lv st) : G p l e R s m args below meth c kc ks Q nL D A (wC q n cI cB cZ) S pc lv (.int v :: .ref (q 9) :: st) := g_put (ty := .int) pc' 9 17 (pF S 917 v) K hin_X1 rfl (by decide) rfl kf_X1_68 tyX1 tyX1_ok nmX1 rfl rfl (by decide +kernel) rfl rfl (Nat.le_of_ble_eq_true rfl) rfl hd hp (kk _ hf)
theorem gf_C_9_18 (pc' : Nat) (K : Ok p s m args c cc nL RX1 D (tyL cI cB cZ) A (wC q n cI cB cZ)) (hd : decode cc pc = .ok (.getfield 61, 3)) (hp : pc + 3 = pc') (kk : G p l e R s m args below meth c kc ks Q nL D A (wC q n cI cB cZ) S pc' lv (.int (S.1 918) :: st)) : G p l e R s m args below meth c kc ks Q nL D A (wC q n cI cB cZ) S pc lv (.ref (q 9) :: st) := g_get pc' 9 18 K hin_X1 rfl (by decide) rfl kf_X1_61 rfl rfl hd hp kk
theorem pf_C_9_18 (pc' : Nat) (K : Ok p s m args c cc nL RX1 D (tyL cI cB cZ) A (wC q n cI cB cZ)) {v : Int32} {Kf : St → Option α} (hf : lett (pF S 918 v) Kf = some res) (hz : v = 0 ∨ v = 1) (hd : decode cc pc = .ok (.putfield 61, 3)) (hp : pc + 3 = pc') (kk : ∀ S1 : St, Kf S1 = some res → G p l e R s m args below meth c kc ks Q nL D A (wC q n cI cB cZ) S1 pc' lv st) : G p l e R s m args below meth c kc ks Q nL D A (wC q n cI cB cZ) S pc lv (.int v :: .ref (q 9) :: st) := g_put (ty := .boolean) pc' 9 18 (pF S 918 v) K hin_X1 rfl (by decide) rfl kf_X1_61 tyX1 tyX1_ok nmX1 rfl rfl (by decide +kernel) (by rcases hz with rfl | rfl <;> rfl) (by rcases hz with rfl | rfl <;> rfl) (Nat.le_of_ble_eq_true rfl) rfl hd hp (kk _ hf)
theorem al_C_10 (pc' : Nat) (K : Ok p s m args c cc nL own D (tyL cI cB cZ) A (wC q n cI cB cZ)) {i : Int32} {Kf : Int32 → Option α} (hf : (rd (S.2 10) 10 i).bind Kf = some res) (hd : decode cc pc = .ok (.iaload, 1)) (hp : pc + 1 = pc') (kk : ∀ v : Int32, Kf v = some res → G p l e R s m args below meth c kc ks Q nL D A (wC q n cI cB cZ) S pc' lv (.int v :: st)) : G p l e R s m args below meth c kc ks Q nL D A (wC q n cI cB cZ) S pc lv (.int i :: .ref (q 10) :: st) := g_iald pc' 10 0 K rfl rfl hf hd hp kk
theorem as_C_10 (pc' : Nat) (K : Ok p s m args c cc nL own D (tyL cI cB cZ) A (wC q n cI cB cZ)) {i x : Int32} {Kf : St → Option α} (hf : (wr S 10 10 i x).bind Kf = some res) (hd : decode cc pc = .ok (.iastore, 1)) (hp : pc + 1 = pc') (kk : ∀ S1 : St, Kf S1 = some res → G p l e R s m args below meth c kc ks Q nL D A (wC q n cI cB cZ) S1 pc' lv st) : G p l e R s m args below meth c kc ks Q nL D A (wC q n cI cB cZ) S pc lv (.int x :: .int i :: .ref (q 10) :: st) := g_iast pc' 10 0 10 K rfl rfl (fun _ => rfl) hf hd hp kk
theorem an_C_10 (pc' : Nat) (K : Ok p s m args c cc nL own D (tyL cI cB cZ) A (wC q n cI cB cZ)) (hd : decode cc pc = .ok (.arraylength, 1)) (hp : pc + 1 = pc') (kk : G p l e R s m args below meth c kc ks Q nL D A (wC q n cI cB cZ) S pc' lv (.int (nI 10) :: st)) : G p l e R s m args below meth c kc ks Q nL D A (wC q n cI cB cZ) S pc lv (.ref (q 10) :: st) := g_alen pc' 10 0 (nI 10) K rfl rfl rfl hd hp kk
theorem al_C_11 (pc' : Nat) (K : Ok p s m args c cc nL own D (tyL cI cB cZ) A (wC q n cI cB cZ)) {i : Int32} {Kf : Int32 → Option α} (hf : (rd (S.2 11) 11 i).bind Kf = some res) (hd : decode cc pc = .ok (.iaload, 1)) (hp : pc + 1 = pc') (kk : ∀ v : Int32, Kf v = some res → G p l e R s m args below meth c kc ks Q nL D A (wC q n cI cB cZ) S pc' lv (.int v :: st)) : G p l e R s m args below meth c kc ks Q nL D A (wC q n cI cB cZ) S pc lv (.int i :: .ref (q 11) :: st) := g_iald pc' 11 0 K rfl rfl hf hd hp kk
theorem as_C_11 (pc' : Nat) (K : Ok p s m args c cc nL own D (tyL cI cB cZ) A (wC q n cI cB cZ)) {i x : Int32} {Kf : St → Option α} (hf : (wr S 11 11 i x).bind Kf = some res) (hd : decode cc pc = .ok (.iastore, 1)) (hp : pc + 1 = pc') (kk : ∀ S1 : St, Kf S1 = some res → G p l e R s m args below meth c kc ks Q nL D A (wC q n cI cB cZ) S1 pc' lv st) : G p l e R s m args below meth c kc ks Q nL D A (wC q n cI cB cZ) S pc lv (.int x :: .int i :: .ref (q 11) :: st) := g_iast pc' 11 0 11 K rfl rfl (fun _ => rfl) hf hd hp kk
theorem an_C_11 (pc' : Nat) (K : Ok p s m args c cc nL own D (tyL cI cB cZ) A (wC q n cI cB cZ)) (hd : decode cc pc = .ok (.arraylength, 1)) (hp : pc + 1 = pc') (kk : G p l e R s m args below meth c kc ks Q nL D A (wC q n cI cB cZ) S pc' lv (.int (nI 11) :: st)) : G p l e R s m args below meth c kc ks Q nL D A (wC q n cI cB cZ) S pc lv (.ref (q 11) :: st) := g_alen pc' 11 0 (nI 11) K rfl rfl rfl hd hp kk
theorem al_C_12 (pc' : Nat) (K : Ok p s m args c cc nL own D (tyL cI cB cZ) A (wC q n cI cB cZ)) {i : Int32} {Kf : Int32 → Option α} (hf : (rd (S.2 12) 300 i).bind Kf = some res) (hd : decode cc pc = .ok (.iaload, 1)) (hp : pc + 1 = pc') (kk : ∀ v : Int32, Kf v = some res → G p l e R s m args below meth c kc ks Q nL D A (wC q n cI cB cZ) S pc' lv (.int v :: st)) : G p l e R s m args below meth c kc ks Q nL D A (wC q n cI cB cZ) S pc lv (.int i :: .ref (q 12) :: st) := g_iald pc' 12 0 K rfl rfl hf hd hp kk
theorem as_C_12 (pc' : Nat) (K : Ok p s m args c cc nL own D (tyL cI cB cZ) A (wC q n cI cB cZ)) {i x : Int32} {Kf : St → Option α} (hf : (wr S 12 300 i x).bind Kf = some res) (hd : decode cc pc = .ok (.iastore, 1)) (hp : pc + 1 = pc') (kk : ∀ S1 : St, Kf S1 = some res → G p l e R s m args below meth c kc ks Q nL D A (wC q n cI cB cZ) S1 pc' lv st) : G p l e R s m args below meth c kc ks Q nL D A (wC q n cI cB cZ) S pc lv (.int x :: .int i :: .ref (q 12) :: st) := g_iast pc' 12 0 12 K rfl rfl (fun _ => rfl) hf hd hp kk
theorem an_C_12 (pc' : Nat) (K : Ok p s m args c cc nL own D (tyL cI cB cZ) A (wC q n cI cB cZ)) (hd : decode cc pc = .ok (.arraylength, 1)) (hp : pc + 1 = pc') (kk : G p l e R s m args below meth c kc ks Q nL D A (wC q n cI cB cZ) S pc' lv (.int (nI 300) :: st)) : G p l e R s m args below meth c kc ks Q nL D A (wC q n cI cB cZ) S pc lv (.ref (q 12) :: st) := g_alen pc' 12 0 (nI 300) K rfl rfl rfl hd hp kk
theorem al_C_13 (pc' : Nat) (K : Ok p s m args c cc nL own D (tyL cI cB cZ) A (wC q n cI cB cZ)) {i : Int32} {Kf : Int32 → Option α} (hf : (rd (S.2 13) 241 i).bind Kf = some res) (hd : decode cc pc = .ok (.iaload, 1)) (hp : pc + 1 = pc') (kk : ∀ v : Int32, Kf v = some res → G p l e R s m args below meth c kc ks Q nL D A (wC q n cI cB cZ) S pc' lv (.int v :: st)) : G p l e R s m args below meth c kc ks Q nL D A (wC q n cI cB cZ) S pc lv (.int i :: .ref (q 13) :: st) := g_iald pc' 13 0 K rfl rfl hf hd hp kk
theorem as_C_13 (pc' : Nat) (K : Ok p s m args c cc nL own D (tyL cI cB cZ) A (wC q n cI cB cZ)) {i x : Int32} {Kf : St → Option α} (hf : (wr S 13 241 i x).bind Kf = some res) (hd : decode cc pc = .ok (.iastore, 1)) (hp : pc + 1 = pc') (kk : ∀ S1 : St, Kf S1 = some res → G p l e R s m args below meth c kc ks Q nL D A (wC q n cI cB cZ) S1 pc' lv st) : G p l e R s m args below meth c kc ks Q nL D A (wC q n cI cB cZ) S pc lv (.int x :: .int i :: .ref (q 13) :: st) := g_iast pc' 13 0 13 K rfl rfl (fun _ => rfl) hf hd hp kk
theorem an_C_13 (pc' : Nat) (K : Ok p s m args c cc nL own D (tyL cI cB cZ) A (wC q n cI cB cZ)) (hd : decode cc pc = .ok (.arraylength, 1)) (hp : pc + 1 = pc') (kk : G p l e R s m args below meth c kc ks Q nL D A (wC q n cI cB cZ) S pc' lv (.int (nI 241) :: st)) : G p l e R s m args below meth c kc ks Q nL D A (wC q n cI cB cZ) S pc lv (.ref (q 13) :: st) := g_alen pc' 13 0 (nI 241) K rfl rfl rfl hd hp kk
theorem al_C_14 (pc' : Nat) (K : Ok p s m args c cc nL own D (tyL cI cB cZ) A (wC q n cI cB cZ)) {i : Int32} {Kf : Int32 → Option α} (hf : (rd (S.2 14) 241 i).bind Kf = some res) (hd : decode cc pc = .ok (.iaload, 1)) (hp : pc + 1 = pc') (kk : ∀ v : Int32, Kf v = some res → G p l e R s m args below meth c kc ks Q nL D A (wC q n cI cB cZ) S pc' lv (.int v :: st)) : G p l e R s m args below meth c kc ks Q nL D A (wC q n cI cB cZ) S pc lv (.int i :: .ref (q 14) :: st) := g_iald pc' 14 0 K rfl rfl hf hd hp kk
theorem as_C_14 (pc' : Nat) (K : Ok p s m args c cc nL own D (tyL cI cB cZ) A (wC q n cI cB cZ)) {i x : Int32} {Kf : St → Option α} (hf : (wr S 14 241 i x).bind Kf = some res) (hd : decode cc pc = .ok (.iastore, 1)) (hp : pc + 1 = pc') (kk : ∀ S1 : St, Kf S1 = some res → G p l e R s m args below meth c kc ks Q nL D A (wC q n cI cB cZ) S1 pc' lv st) : G p l e R s m args below meth c kc ks Q nL D A (wC q n cI cB cZ) S pc lv (.int x :: .int i :: .ref (q 14) :: st) := g_iast pc' 14 0 14 K rfl rfl (fun _ => rfl) hf hd hp kk
theorem an_C_14 (pc' : Nat) (K : Ok p s m args c cc nL own D (tyL cI cB cZ) A (wC q n cI cB cZ)) (hd : decode cc pc = .ok (.arraylength, 1)) (hp : pc + 1 = pc') (kk : G p l e R s m args below meth c kc ks Q nL D A (wC q n cI cB cZ) S pc' lv (.int (nI 241) :: st)) : G p l e R s m args below meth c kc ks Q nL D A (wC q n cI cB cZ) S pc lv (.ref (q 14) :: st) := g_alen pc' 14 0 (nI 241) K rfl rfl rfl hd hp kk
theorem al_C_15 (pc' : Nat) (K : Ok p s m args c cc nL own D (tyL cI cB cZ) A (wC q n cI cB cZ)) {i : Int32} {Kf : Int32 → Option α} (hf : (rd (S.2 15) 3010 i).bind Kf = some res) (hd : decode cc pc = .ok (.iaload, 1)) (hp : pc + 1 = pc') (kk : ∀ v : Int32, Kf v = some res → G p l e R s m args below meth c kc ks Q nL D A (wC q n cI cB cZ) S pc' lv (.int v :: st)) : G p l e R s m args below meth c kc ks Q nL D A (wC q n cI cB cZ) S pc lv (.int i :: .ref (q 15) :: st) := g_iald pc' 15 0 K rfl rfl hf hd hp kk
theorem as_C_15 (pc' : Nat) (K : Ok p s m args c cc nL own D (tyL cI cB cZ) A (wC q n cI cB cZ)) {i x : Int32} {Kf : St → Option α} (hf : (wr S 15 3010 i x).bind Kf = some res) (hd : decode cc pc = .ok (.iastore, 1)) (hp : pc + 1 = pc') (kk : ∀ S1 : St, Kf S1 = some res → G p l e R s m args below meth c kc ks Q nL D A (wC q n cI cB cZ) S1 pc' lv st) : G p l e R s m args below meth c kc ks Q nL D A (wC q n cI cB cZ) S pc lv (.int x :: .int i :: .ref (q 15) :: st) := g_iast pc' 15 0 15 K rfl rfl (fun _ => rfl) hf hd hp kk
theorem an_C_15 (pc' : Nat) (K : Ok p s m args c cc nL own D (tyL cI cB cZ) A (wC q n cI cB cZ)) (hd : decode cc pc = .ok (.arraylength, 1)) (hp : pc + 1 = pc') (kk : G p l e R s m args below meth c kc ks Q nL D A (wC q n cI cB cZ) S pc' lv (.int (nI 3010) :: st)) : G p l e R s m args below meth c kc ks Q nL D A (wC q n cI cB cZ) S pc lv (.ref (q 15) :: st) := g_alen pc' 15 0 (nI 3010) K rfl rfl rfl hd hp kk
theorem al_C_16 (pc' : Nat) (K : Ok p s m args c cc nL own D (tyL cI cB cZ) A (wC q n cI cB cZ)) {i : Int32} {Kf : Int32 → Option α} (hf : (rd (S.2 16) 3010 i).bind Kf = some res) (hd : decode cc pc = .ok (.iaload, 1)) (hp : pc + 1 = pc') (kk : ∀ v : Int32, Kf v = some res → G p l e R s m args below meth c kc ks Q nL D A (wC q n cI cB cZ) S pc' lv (.int v :: st)) : G p l e R s m args below meth c kc ks Q nL D A (wC q n cI cB cZ) S pc lv (.int i :: .ref (q 16) :: st) := g_iald pc' 16 0 K rfl rfl hf hd hp kk
theorem as_C_16 (pc' : Nat) (K : Ok p s m args c cc nL own D (tyL cI cB cZ) A (wC q n cI cB cZ)) {i x : Int32} {Kf : St → Option α} (hf : (wr S 16 3010 i x).bind Kf = some res) (hd : decode cc pc = .ok (.iastore, 1)) (hp : pc + 1 = pc') (kk : ∀ S1 : St, Kf S1 = some res → G p l e R s m args below meth c kc ks Q nL D A (wC q n cI cB cZ) S1 pc' lv st) : G p l e R s m args below meth c kc ks Q nL D A (wC q n cI cB cZ) S pc lv (.int x :: .int i :: .ref (q 16) :: st) := g_iast pc' 16 0 16 K rfl rfl (fun _ => rfl) hf hd hp kk
theorem an_C_16 (pc' : Nat) (K : Ok p s m args c cc nL own D (tyL cI cB cZ) A (wC q n cI cB cZ)) (hd : decode cc pc = .ok (.arraylength, 1)) (hp : pc + 1 = pc') (kk : G p l e R s m args below meth c kc ks Q nL D A (wC q n cI cB cZ) S pc' lv (.int (nI 3010) :: st)) : G p l e R s m args below meth c kc ks Q nL D A (wC q n cI cB cZ) S pc lv (.ref (q 16) :: st) := g_alen pc' 16 0 (nI 3010) K rfl rfl rfl hd hp kk
theorem al_C_17 (pc' : Nat) (K : Ok p s m args c cc nL own D (tyL cI cB cZ) A (wC q n cI cB cZ)) {i : Int32} {Kf : Int32 → Option α} (hf : (rd (S.2 17) 10 i).bind Kf = some res) (hd : decode cc pc = .ok (.iaload, 1)) (hp : pc + 1 = pc') (kk : ∀ v : Int32, Kf v = some res → G p l e R s m args below meth c kc ks Q nL D A (wC q n cI cB cZ) S pc' lv (.int v :: st)) : G p l e R s m args below meth c kc ks Q nL D A (wC q n cI cB cZ) S pc lv (.int i :: .ref (q 17) :: st) := g_iald pc' 17 0 K rfl rfl hf hd hp kk
theorem as_C_17 (pc' : Nat) (K : Ok p s m args c cc nL own D (tyL cI cB cZ) A (wC q n cI cB cZ)) {i x : Int32} {Kf : St → Option α} (hf : (wr S 17 10 i x).bind Kf = some res) (hd : decode cc pc = .ok (.iastore, 1)) (hp : pc + 1 = pc') (kk : ∀ S1 : St, Kf S1 = some res → G p l e R s m args below meth c kc ks Q nL D A (wC q n cI cB cZ) S1 pc' lv st) : G p l e R s m args below meth c kc ks Q nL D A (wC q n cI cB cZ) S pc lv (.int x :: .int i :: .ref (q 17) :: st) := g_iast pc' 17 0 17 K rfl rfl (fun _ => rfl) hf hd hp kk
theorem an_C_17 (pc' : Nat) (K : Ok p s m args c cc nL own D (tyL cI cB cZ) A (wC q n cI cB cZ)) (hd : decode cc pc = .ok (.arraylength, 1)) (hp : pc + 1 = pc') (kk : G p l e R s m args below meth c kc ks Q nL D A (wC q n cI cB cZ) S pc' lv (.int (nI 10) :: st)) : G p l e R s m args below meth c kc ks Q nL D A (wC q n cI cB cZ) S pc lv (.ref (q 17) :: st) := g_alen pc' 17 0 (nI 10) K rfl rfl rfl hd hp kk
theorem al_C_18 (pc' : Nat) (K : Ok p s m args c cc nL own D (tyL cI cB cZ) A (wC q n cI cB cZ)) {i : Int32} {Kf : Int32 → Option α} (hf : (rd (S.2 18) 10 i).bind Kf = some res) (hd : decode cc pc = .ok (.iaload, 1)) (hp : pc + 1 = pc') (kk : ∀ v : Int32, Kf v = some res → G p l e R s m args below meth c kc ks Q nL D A (wC q n cI cB cZ) S pc' lv (.int v :: st)) : G p l e R s m args below meth c kc ks Q nL D A (wC q n cI cB cZ) S pc lv (.int i :: .ref (q 18) :: st) := g_iald pc' 18 0 K rfl rfl hf hd hp kk
theorem as_C_18 (pc' : Nat) (K : Ok p s m args c cc nL own D (tyL cI cB cZ) A (wC q n cI cB cZ)) {i x : Int32} {Kf : St → Option α} (hf : (wr S 18 10 i x).bind Kf = some res) (hd : decode cc pc = .ok (.iastore, 1)) (hp : pc + 1 = pc') (kk : ∀ S1 : St, Kf S1 = some res → G p l e R s m args below meth c kc ks Q nL D A (wC q n cI cB cZ) S1 pc' lv st) : G p l e R s m args below meth c kc ks Q nL D A (wC q n cI cB cZ) S pc lv (.int x :: .int i :: .ref (q 18) :: st) := g_iast pc' 18 0 18 K rfl rfl (fun _ => rfl) hf hd hp kk
theorem an_C_18 (pc' : Nat) (K : Ok p s m args c cc nL own D (tyL cI cB cZ) A (wC q n cI cB cZ)) (hd : decode cc pc = .ok (.arraylength, 1)) (hp : pc + 1 = pc') (kk : G p l e R s m args below meth c kc ks Q nL D A (wC q n cI cB cZ) S pc' lv (.int (nI 10) :: st)) : G p l e R s m args below meth c kc ks Q nL D A (wC q n cI cB cZ) S pc lv (.ref (q 18) :: st) := g_alen pc' 18 0 (nI 10) K rfl rfl rfl hd hp kk
theorem al_C_19 (pc' : Nat) (K : Ok p s m args c cc nL own D (tyL cI cB cZ) A (wC q n cI cB cZ)) {i : Int32} {Kf : Int32 → Option α} (hf : (rd (S.2 19) 10 i).bind Kf = some res) (hd : decode cc pc = .ok (.iaload, 1)) (hp : pc + 1 = pc') (kk : ∀ v : Int32, Kf v = some res → G p l e R s m args below meth c kc ks Q nL D A (wC q n cI cB cZ) S pc' lv (.int v :: st)) : G p l e R s m args below meth c kc ks Q nL D A (wC q n cI cB cZ) S pc lv (.int i :: .ref (q 19) :: st) := g_iald pc' 19 0 K rfl rfl hf hd hp kk
theorem as_C_19 (pc' : Nat) (K : Ok p s m args c cc nL own D (tyL cI cB cZ) A (wC q n cI cB cZ)) {i x : Int32} {Kf : St → Option α} (hf : (wr S 19 10 i x).bind Kf = some res) (hd : decode cc pc = .ok (.iastore, 1)) (hp : pc + 1 = pc') (kk : ∀ S1 : St, Kf S1 = some res → G p l e R s m args below meth c kc ks Q nL D A (wC q n cI cB cZ) S1 pc' lv st) : G p l e R s m args below meth c kc ks Q nL D A (wC q n cI cB cZ) S pc lv (.int x :: .int i :: .ref (q 19) :: st) := g_iast pc' 19 0 19 K rfl rfl (fun _ => rfl) hf hd hp kk
theorem an_C_19 (pc' : Nat) (K : Ok p s m args c cc nL own D (tyL cI cB cZ) A (wC q n cI cB cZ)) (hd : decode cc pc = .ok (.arraylength, 1)) (hp : pc + 1 = pc') (kk : G p l e R s m args below meth c kc ks Q nL D A (wC q n cI cB cZ) S pc' lv (.int (nI 10) :: st)) : G p l e R s m args below meth c kc ks Q nL D A (wC q n cI cB cZ) S pc lv (.ref (q 19) :: st) := g_alen pc' 19 0 (nI 10) K rfl rfl rfl hd hp kk
theorem gf_C_20_0 (pc' : Nat) (K : Ok p s m args c cc nL RX2 D (tyL cI cB cZ) A (wC q n cI cB cZ)) (hd : decode cc pc = .ok (.getfield 9, 3)) (hp : pc + 3 = pc') (kk : G p l e R s m args below meth c kc ks Q nL D A (wC q n cI cB cZ) S pc' lv (.ref (q 21) :: st)) : G p l e R s m args below meth c kc ks Q nL D A (wC q n cI cB cZ) S pc lv (.ref (q 20) :: st) := g_get pc' 20 0 K hin_X2 rfl (by decide) rfl kf_X2_9 rfl rfl hd hp kk
theorem gf_C_20_1 (pc' : Nat) (K : Ok p s m args c cc nL RX2 D (tyL cI cB cZ) A (wC q n cI cB cZ)) (hd : decode cc pc = .ok (.getfield 15, 3)) (hp : pc + 3 = pc') (kk : G p l e R s m args below meth c kc ks Q nL D A (wC q n cI cB cZ) S pc' lv (.ref (q 22) :: st)) : G p l e R s m args below meth c kc ks Q nL D A (wC q n cI cB cZ) S pc lv (.ref (q 20) :: st) := g_get pc' 20 1 K hin_X2 rfl (by decide) rfl kf_X2_15 rfl rfl hd hp kk
theorem gf_C_20_2 (pc' : Nat) (K : Ok p s m args c cc nL RX2 D (tyL cI cB cZ) A (wC q n cI cB cZ)) (hd : decode cc pc = .ok (.getfield 19, 3)) (hp : pc + 3 = pc') (kk : G p l e R s m args below meth c kc ks Q nL D A (wC q n cI cB cZ) S pc' lv (.ref (q 23) :: st)) : G p l e R s m args below meth c kc ks Q nL D A (wC q n cI cB cZ) S pc lv (.ref (q 20) :: st) := g_get pc' 20 2 K hin_X2 rfl (by decide) rfl kf_X2_19 rfl rfl hd hp kk
theorem gf_C_20_3 (pc' : Nat) (K : Ok p s m args c cc nL RX2 D (tyL cI cB cZ) A (wC q n cI cB cZ)) (hd : decode cc pc = .ok (.getfield 22, 3)) (hp : pc + 3 = pc') (kk : G p l e R s m args below meth c kc ks Q nL D A (wC q n cI cB cZ) S pc' lv (.int (S.1 2003) :: st)) : G p l e R s m args below meth c kc ks Q nL D A (wC q n cI cB cZ) S pc lv (.ref (q 20) :: st) := g_get pc' 20 3 K hin_X2 rfl (by decide) rfl kf_X2_22 rfl rfl hd hp kk
theorem pf_C_20_3 (pc' : Nat) (K : Ok p s m args c cc nL RX2 D (tyL cI cB cZ) A (wC q n cI cB cZ)) {v : Int32} {Kf : St → Option α} (hf : lett (pF S 2003 v) Kf = some res) (hd : decode cc pc = .ok (.putfield 22, 3)) (hp : pc + 3 = pc') (kk : ∀ S1 : St, Kf S1 = some res → G p l e R s m args below meth c kc ks Q nL D A (wC q n cI cB cZ) S1 pc' lv st) : G p l e R s m args below meth c kc ks Q nL D A (wC q n cI cB cZ) S pc lv (.int v :: .ref (q 20) :: st) := g_put (ty := .int) pc' 20 3 (pF S 2003 v) K hin_X2 rfl (by decide) rfl kf_X2_22 tyX2 tyX2_ok nmX2 rfl rfl (by decide +kernel) rfl rfl (Nat.le_of_ble_eq_true rfl) rfl hd hp (kk _ hf)
theorem gf_C_20_4 (pc' : Nat) (K : Ok p s m args c cc nL RX2 D (tyL cI cB cZ) A (wC q n cI cB cZ)) (hd : decode cc pc = .ok (.getfield 26, 3)) (hp : pc + 3 = pc') (kk : G p l e R s m args below meth c kc ks Q nL D A (wC q n cI cB cZ) S pc' lv (.int (S.1 2004) :: st)) : G p l e R s m args below meth c kc ks Q nL D A (wC q n cI cB cZ) S pc lv (.ref (q 20) :: st) := g_get pc' 20 4 K hin_X2 rfl (by decide) rfl kf_X2_26 rfl rfl hd hp kk
theorem pf_C_20_4 (pc' : Nat) (K : Ok p s m args c cc nL RX2 D (tyL cI cB cZ) A (wC q n cI cB cZ)) {v : Int32} {Kf : St → Option α} (hf : lett (pF S 2004 v) Kf = some res) (hd : decode cc pc = .ok (.putfield 26, 3)) (hp : pc + 3 = pc') (kk : ∀ S1 : St, Kf S1 = some res → G p l e R s m args below meth c kc ks Q nL D A (wC q n cI cB cZ) S1 pc' lv st) : G p l e R s m args below meth c kc ks Q nL D A (wC q n cI cB cZ) S pc lv (.int v :: .ref (q 20) :: st) := g_put (ty := .int) pc' 20 4 (pF S 2004 v) K hin_X2 rfl (by decide) rfl kf_X2_26 tyX2 tyX2_ok nmX2 rfl rfl (by decide +kernel) rfl rfl (Nat.le_of_ble_eq_true rfl) rfl hd hp (kk _ hf)
theorem gf_C_20_5 (pc' : Nat) (K : Ok p s m args c cc nL RX2 D (tyL cI cB cZ) A (wC q n cI cB cZ)) (hd : decode cc pc = .ok (.getfield 35, 3)) (hp : pc + 3 = pc') (kk : G p l e R s m args below meth c kc ks Q nL D A (wC q n cI cB cZ) S pc' lv (.int (S.1 2005) :: st)) : G p l e R s m args below meth c kc ks Q nL D A (wC q n cI cB cZ) S pc lv (.ref (q 20) :: st) := g_get pc' 20 5 K hin_X2 rfl (by decide) rfl kf_X2_35 rfl rfl hd hp kk
theorem pf_C_20_5 (pc' : Nat) (K : Ok p s m args c cc nL RX2 D (tyL cI cB cZ) A (wC q n cI cB cZ)) {v : Int32} {Kf : St → Option α} (hf : lett (pF S 2005 v) Kf = some res) (hz : v = 0 ∨ v = 1) (hd : decode cc pc = .ok (.putfield 35, 3)) (hp : pc + 3 = pc') (kk : ∀ S1 : St, Kf S1 = some res → G p l e R s m args below meth c kc ks Q nL D A (wC q n cI cB cZ) S1 pc' lv st) : G p l e R s m args below meth c kc ks Q nL D A (wC q n cI cB cZ) S pc lv (.int v :: .ref (q 20) :: st) := g_put (ty := .boolean) pc' 20 5 (pF S 2005 v) K hin_X2 rfl (by decide) rfl kf_X2_35 tyX2 tyX2_ok nmX2 rfl rfl (by decide +kernel) (by rcases hz with rfl | rfl <;> rfl) (by rcases hz with rfl | rfl <;> rfl) (Nat.le_of_ble_eq_true rfl) rfl hd hp (kk _ hf)
theorem al_C_21 (pc' : Nat) (K : Ok p s m args c cc nL own D (tyL cI cB cZ) A (wC q n cI cB cZ)) {i : Int32} {Kf : Int32 → Option α} (hf : (rd (S.2 21) 60 i).bind Kf = some res) (hd : decode cc pc = .ok (.iaload, 1)) (hp : pc + 1 = pc') (kk : ∀ v : Int32, Kf v = some res → G p l e R s m args below meth c kc ks Q nL D A (wC q n cI cB cZ) S pc' lv (.int v :: st)) : G p l e R s m args below meth c kc ks Q nL D A (wC q n cI cB cZ) S pc lv (.int i :: .ref (q 21) :: st) := g_iald pc' 21 0 K rfl rfl hf hd hp kk
theorem as_C_21 (pc' : Nat) (K : Ok p s m args c cc nL own D (tyL cI cB cZ) A (wC q n cI cB cZ)) {i x : Int32} {Kf : St → Option α} (hf : (wr S 21 60 i x).bind Kf = some res) (hd : decode cc pc = .ok (.iastore, 1)) (hp : pc + 1 = pc') (kk : ∀ S1 : St, Kf S1 = some res → G p l e R s m args below meth c kc ks Q nL D A (wC q n cI cB cZ) S1 pc' lv st) : G p l e R s m args below meth c kc ks Q nL D A (wC q n cI cB cZ) S pc lv (.int x :: .int i :: .ref (q 21) :: st) := g_iast pc' 21 0 21 K rfl rfl (fun _ => rfl) hf hd hp kk
theorem an_C_21 (pc' : Nat) (K : Ok p s m args c cc nL own D (tyL cI cB cZ) A (wC q n cI cB cZ)) (hd : decode cc pc = .ok (.arraylength, 1)) (hp : pc + 1 = pc') (kk : G p l e R s m args below meth c kc ks Q nL D A (wC q n cI cB cZ) S pc' lv (.int (nI 60) :: st)) : G p l e R s m args below meth c kc ks Q nL D A (wC q n cI cB cZ) S pc lv (.ref (q 21) :: st) := g_alen pc' 21 0 (nI 60) K rfl rfl rfl hd hp kk
theorem al_C_22 (pc' : Nat) (K : Ok p s m args c cc nL own D (tyL cI cB cZ) A (wC q n cI cB cZ)) {i : Int32} {Kf : Int32 → Option α} (hf : (rd (S.2 22) 60 i).bind Kf = some res) (hd : decode cc pc = .ok (.baload, 1)) (hp : pc + 1 = pc') (kk : ∀ v : Int32, Kf v = some res → G p l e R s m args below meth c kc ks Q nL D A (wC q n cI cB cZ) S pc' lv (.int v :: st)) : G p l e R s m args below meth c kc ks Q nL D A (wC q n cI cB cZ) S pc lv (.int i :: .ref (q 22) :: st) := g_zald pc' 22 2 K rfl rfl hf hd hp kk
theorem as_C_22 (pc' : Nat) (K : Ok p s m args c cc nL own D (tyL cI cB cZ) A (wC q n cI cB cZ)) {i x : Int32} {Kf : St → Option α} (hf : (wr S 22 60 i (vp_nar .boolean x)).bind Kf = some res) (hd : decode cc pc = .ok (.bastore, 1)) (hp : pc + 1 = pc') (kk : ∀ S1 : St, Kf S1 = some res → G p l e R s m args below meth c kc ks Q nL D A (wC q n cI cB cZ) S1 pc' lv st) : G p l e R s m args below meth c kc ks Q nL D A (wC q n cI cB cZ) S pc lv (.int x :: .int i :: .ref (q 22) :: st) := g_zast pc' 22 2 22 K rfl rfl (fun _ => rfl) hf hd hp kk
theorem an_C_22 (pc' : Nat) (K : Ok p s m args c cc nL own D (tyL cI cB cZ) A (wC q n cI cB cZ)) (hd : decode cc pc = .ok (.arraylength, 1)) (hp : pc + 1 = pc') (kk : G p l e R s m args below meth c kc ks Q nL D A (wC q n cI cB cZ) S pc' lv (.int (nI 60) :: st)) : G p l e R s m args below meth c kc ks Q nL D A (wC q n cI cB cZ) S pc lv (.ref (q 22) :: st) := g_alen pc' 22 2 (nI 60) K rfl rfl rfl hd hp kk
theorem al_C_23 (pc' : Nat) (K : Ok p s m args c cc nL own D (tyL cI cB cZ) A (wC q n cI cB cZ)) {i : Int32} {Kf : Int32 → Option α} (hf : (rd (S.2 23) 610 i).bind Kf = some res) (hd : decode cc pc = .ok (.iaload, 1)) (hp : pc + 1 = pc') (kk : ∀ v : Int32, Kf v = some res → G p l e R s m args below meth c kc ks Q nL D A (wC q n cI cB cZ) S pc' lv (.int v :: st)) : G p l e R s m args below meth c kc ks Q nL D A (wC q n cI cB cZ) S pc lv (.int i :: .ref (q 23) :: st) := g_iald pc' 23 0 K rfl rfl hf hd hp kk
theorem as_C_23 (pc' : Nat) (K : Ok p s m args c cc nL own D (tyL cI cB cZ) A (wC q n cI cB cZ)) {i x : Int32} {Kf : St → Option α} (hf : (wr S 23 610 i x).bind Kf = some res) (hd : decode cc pc = .ok (.iastore, 1)) (hp : pc + 1 = pc') (kk : ∀ S1 : St, Kf S1 = some res → G p l e R s m args below meth c kc ks Q nL D A (wC q n cI cB cZ) S1 pc' lv st) : G p l e R s m args below meth c kc ks Q nL D A (wC q n cI cB cZ) S pc lv (.int x :: .int i :: .ref (q 23) :: st) := g_iast pc' 23 0 23 K rfl rfl (fun _ => rfl) hf hd hp kk
theorem an_C_23 (pc' : Nat) (K : Ok p s m args c cc nL own D (tyL cI cB cZ) A (wC q n cI cB cZ)) (hd : decode cc pc = .ok (.arraylength, 1)) (hp : pc + 1 = pc') (kk : G p l e R s m args below meth c kc ks Q nL D A (wC q n cI cB cZ) S pc' lv (.int (nI 610) :: st)) : G p l e R s m args below meth c kc ks Q nL D A (wC q n cI cB cZ) S pc lv (.ref (q 23) :: st) := g_alen pc' 23 0 (nI 610) K rfl rfl rfl hd hp kk
theorem gf_C_24_0 (pc' : Nat) (K : Ok p s m args c cc nL RX3 D (tyL cI cB cZ) A (wC q n cI cB cZ)) (hd : decode cc pc = .ok (.getfield 9, 3)) (hp : pc + 3 = pc') (kk : G p l e R s m args below meth c kc ks Q nL D A (wC q n cI cB cZ) S pc' lv (.ref (q 25) :: st)) : G p l e R s m args below meth c kc ks Q nL D A (wC q n cI cB cZ) S pc lv (.ref (q 24) :: st) := g_get pc' 24 0 K hin_X3 rfl (by decide) rfl kf_X3_9 rfl rfl hd hp kk
theorem gf_C_24_1 (pc' : Nat) (K : Ok p s m args c cc nL RX3 D (tyL cI cB cZ) A (wC q n cI cB cZ)) (hd : decode cc pc = .ok (.getfield 15, 3)) (hp : pc + 3 = pc') (kk : G p l e R s m args below meth c kc ks Q nL D A (wC q n cI cB cZ) S pc' lv (.int (S.1 2401) :: st)) : G p l e R s m args below meth c kc ks Q nL D A (wC q n cI cB cZ) S pc lv (.ref (q 24) :: st) := g_get pc' 24 1 K hin_X3 rfl (by decide) rfl kf_X3_15 rfl rfl hd hp kk
theorem pf_C_24_1 (pc' : Nat) (K : Ok p s m args c cc nL RX3 D (tyL cI cB cZ) A (wC q n cI cB cZ)) {v : Int32} {Kf : St → Option α} (hf : lett (pF S 2401 v) Kf = some res) (hd : decode cc pc = .ok (.putfield 15, 3)) (hp : pc + 3 = pc') (kk : ∀ S1 : St, Kf S1 = some res → G p l e R s m args below meth c kc ks Q nL D A (wC q n cI cB cZ) S1 pc' lv st) : G p l e R s m args below meth c kc ks Q nL D A (wC q n cI cB cZ) S pc lv (.int v :: .ref (q 24) :: st) := g_put (ty := .int) pc' 24 1 (pF S 2401 v) K hin_X3 rfl (by decide) rfl kf_X3_15 tyX3 tyX3_ok nmX3 rfl rfl (by decide +kernel) rfl rfl (Nat.le_of_ble_eq_true rfl) rfl hd hp (kk _ hf)
theorem al_C_25 (pc' : Nat) (K : Ok p s m args c cc nL own D (tyL cI cB cZ) A (wC q n cI cB cZ)) {i : Int32} {Kf : Int32 → Option α} (hf : (rd (S.2 25) 200 i).bind Kf = some res) (hd : decode cc pc = .ok (.baload, 1)) (hp : pc + 1 = pc') (kk : ∀ v : Int32, Kf v = some res → G p l e R s m args below meth c kc ks Q nL D A (wC q n cI cB cZ) S pc' lv (.int v :: st)) : G p l e R s m args below meth c kc ks Q nL D A (wC q n cI cB cZ) S pc lv (.int i :: .ref (q 25) :: st) := g_bald pc' 25 1 K rfl rfl hf hd hp kk
theorem as_C_25 (pc' : Nat) (K : Ok p s m args c cc nL own D (tyL cI cB cZ) A (wC q n cI cB cZ)) {i x : Int32} {Kf : St → Option α} (hf : (wr S 25 200 i (vp_nar .byte x)).bind Kf = some res) (hd : decode cc pc = .ok (.bastore, 1)) (hp : pc + 1 = pc') (kk : ∀ S1 : St, Kf S1 = some res → G p l e R s m args below meth c kc ks Q nL D A (wC q n cI cB cZ) S1 pc' lv st) : G p l e R s m args below meth c kc ks Q nL D A (wC q n cI cB cZ) S pc lv (.int x :: .int i :: .ref (q 25) :: st) := g_bast pc' 25 1 25 K rfl rfl (fun _ => rfl) hf hd hp kk
theorem an_C_25 (pc' : Nat) (K : Ok p s m args c cc nL own D (tyL cI cB cZ) A (wC q n cI cB cZ)) (hd : decode cc pc = .ok (.arraylength, 1)) (hp : pc + 1 = pc') (kk : G p l e R s m args below meth c kc ks Q nL D A (wC q n cI cB cZ) S pc' lv (.int (nI 200) :: st)) : G p l e R s m args below meth c kc ks Q nL D A (wC q n cI cB cZ) S pc lv (.ref (q 25) :: st) := g_alen pc' 25 1 (nI 200) K rfl rfl rfl hd hp kk
theorem gf_C_26_0 (pc' : Nat) (K : Ok p s m args c cc nL RX5 D (tyL cI cB cZ) A (wC q n cI cB cZ)) (hd : decode cc pc = .ok (.getfield 9, 3)) (hp : pc + 3 = pc') (kk : G p l e R s m args below meth c kc ks Q nL D A (wC q n cI cB cZ) S pc' lv (.ref (q 27) :: st)) : G p l e R s m args below meth c kc ks Q nL D A (wC q n cI cB cZ) S pc lv (.ref (q 26) :: st) := g_get pc' 26 0 K hin_X5 rfl (by decide) rfl kf_X5_9 rfl rfl hd hp kk
theorem gf_C_26_1 (pc' : Nat) (K : Ok p s m args c cc nL RX5 D (tyL cI cB cZ) A (wC q n cI cB cZ)) (hd : decode cc pc = .ok (.getfield 15, 3)) (hp : pc + 3 = pc') (kk : G p l e R s m args below meth c kc ks Q nL D A (wC q n cI cB cZ) S pc' lv (.ref (q 28) :: st)) : G p l e R s m args below meth c kc ks Q nL D A (wC q n cI cB cZ) S pc lv (.ref (q 26) :: st) := g_get pc' 26 1 K hin_X5 rfl (by decide) rfl kf_X5_15 rfl rfl hd hp kk
theorem gf_C_26_2 (pc' : Nat) (K : Ok p s m args c cc nL RX5 D (tyL cI cB cZ) A (wC q n cI cB cZ)) (hd : decode cc pc = .ok (.getfield 25, 3)) (hp : pc + 3 = pc') (kk : G p l e R s m args below meth c kc ks Q nL D A (wC q n cI cB cZ) S pc' lv (.int (S.1 2602) :: st)) : G p l e R s m args below meth c kc ks Q nL D A (wC q n cI cB cZ) S pc lv (.ref (q 26) :: st) := g_get pc' 26 2 K hin_X5 rfl (by decide) rfl kf_X5_25 rfl rfl hd hp kk
theorem pf_C_26_2 (pc' : Nat) (K : Ok p s m args c cc nL RX5 D (tyL cI cB cZ) A (wC q n cI cB cZ)) {v : Int32} {Kf : St → Option α} (hf : lett (pF S 2602 v) Kf = some res) (hd : decode cc pc = .ok (.putfield 25, 3)) (hp : pc + 3 = pc') (kk : ∀ S1 : St, Kf S1 = some res → G p l e R s m args below meth c kc ks Q nL D A (wC q n cI cB cZ) S1 pc' lv st) : G p l e R s m args below meth c kc ks Q nL D A (wC q n cI cB cZ) S pc lv (.int v :: .ref (q 26) :: st) := g_put (ty := .int) pc' 26 2 (pF S 2602 v) K hin_X5 rfl (by decide) rfl kf_X5_25 tyX5 tyX5_ok nmX5 rfl rfl (by decide +kernel) rfl rfl (Nat.le_of_ble_eq_true rfl) rfl hd hp (kk _ hf)
theorem gf_C_26_3 (pc' : Nat) (K : Ok p s m args c cc nL RX5 D (tyL cI cB cZ) A (wC q n cI cB cZ)) (hd : decode cc pc = .ok (.getfield 18, 3)) (hp : pc + 3 = pc') (kk : G p l e R s m args below meth c kc ks Q nL D A (wC q n cI cB cZ) S pc' lv (.int (S.1 2603) :: st)) : G p l e R s m args below meth c kc ks Q nL D A (wC q n cI cB cZ) S pc lv (.ref (q 26) :: st) := g_get pc' 26 3 K hin_X5 rfl (by decide) rfl kf_X5_18 rfl rfl hd hp kk
theorem pf_C_26_3 (pc' : Nat) (K : Ok p s m args c cc nL RX5 D (tyL cI cB cZ) A (wC q n cI cB cZ)) {v : Int32} {Kf : St → Option α} (hf : lett (pF S 2603 v) Kf = some res) (hd : decode cc pc = .ok (.putfield 18, 3)) (hp : pc + 3 = pc') (kk : ∀ S1 : St, Kf S1 = some res → G p l e R s m args below meth c kc ks Q nL D A (wC q n cI cB cZ) S1 pc' lv st) : G p l e R s m args below meth c kc ks Q nL D A (wC q n cI cB cZ) S pc lv (.int v :: .ref (q 26) :: st) := g_put (ty := .int) pc' 26 3 (pF S 2603 v) K hin_X5 rfl (by decide) rfl kf_X5_18 tyX5 tyX5_ok nmX5 rfl rfl (by decide +kernel) rfl rfl (Nat.le_of_ble_eq_true rfl) rfl hd hp (kk _ hf)
theorem gf_C_26_4 (pc' : Nat) (K : Ok p s m args c cc nL RX5 D (tyL cI cB cZ) A (wC q n cI cB cZ)) (hd : decode cc pc = .ok (.getfield 22, 3)) (hp : pc + 3 = pc') (kk : G p l e R s m args below meth c kc ks Q nL D A (wC q n cI cB cZ) S pc' lv (.int (S.1 2604) :: st)) : G p l e R s m args below meth c kc ks Q nL D A (wC q n cI cB cZ) S pc lv (.ref (q 26) :: st) := g_get pc' 26 4 K hin_X5 rfl (by decide) rfl kf_X5_22 rfl rfl hd hp kk
theorem pf_C_26_4 (pc' : Nat) (K : Ok p s m args c cc nL RX5 D (tyL cI cB cZ) A (wC q n cI cB cZ)) {v : Int32} {Kf : St → Option α} (hf : lett (pF S 2604 v) Kf = some res) (hd : decode cc pc = .ok (.putfield 22, 3)) (hp : pc + 3 = pc') (kk : ∀ S1 : St, Kf S1 = some res → G p l e R s m args below meth c kc ks Q nL D A (wC q n cI cB cZ) S1 pc' lv st) : G p l e R s m args below meth c kc ks Q nL D A (wC q n cI cB cZ) S pc lv (.int v :: .ref (q 26) :: st) := g_put (ty := .int) pc' 26 4 (pF S 2604 v) K hin_X5 rfl (by decide) rfl kf_X5_22 tyX5 tyX5_ok nmX5 rfl rfl (by decide +kernel) rfl rfl (Nat.le_of_ble_eq_true rfl) rfl hd hp (kk _ hf)
theorem gf_C_26_5 (pc' : Nat) (K : Ok p s m args c cc nL RX5 D (tyL cI cB cZ) A (wC q n cI cB cZ)) (hd : decode cc pc = .ok (.getfield 65, 3)) (hp : pc + 3 = pc') (kk : G p l e R s m args below meth c kc ks Q nL D A (wC q n cI cB cZ) S pc' lv (.int (S.1 2605) :: st)) : G p l e R s m args below meth c kc ks Q nL D A (wC q n cI cB cZ) S pc lv (.ref (q 26) :: st) := g_get pc' 26 5 K hin_X5 rfl (by decide) rfl kf_X5_65 rfl rfl hd hp kk
theorem pf_C_26_5 (pc' : Nat) (K : Ok p s m args c cc nL RX5 D (tyL cI cB cZ) A (wC q n cI cB cZ)) {v : Int32} {Kf : St → Option α} (hf : lett (pF S 2605 v) Kf = some res) (hd : decode cc pc = .ok (.putfield 65, 3)) (hp : pc + 3 = pc') (kk : ∀ S1 : St, Kf S1 = some res → G p l e R s m args below meth c kc ks Q nL D A (wC q n cI cB cZ) S1 pc' lv st) : G p l e R s m args below meth c kc ks Q nL D A (wC q n cI cB cZ) S pc lv (.int v :: .ref (q 26) :: st) := g_put (ty := .int) pc' 26 5 (pF S 2605 v) K hin_X5 rfl (by decide) rfl kf_X5_65 tyX5 tyX5_ok nmX5 rfl rfl (by decide +kernel) rfl rfl (Nat.le_of_ble_eq_true rfl) rfl hd hp (kk _ hf)
theorem gf_C_26_6 (pc' : Nat) (K : Ok p s m args c cc nL RX5 D (tyL cI cB cZ) A (wC q n cI cB cZ)) (hd : decode cc pc = .ok (.getfield 47, 3)) (hp : pc + 3 = pc') (kk : G p l e R s m args below meth c kc ks Q nL D A (wC q n cI cB cZ) S pc' lv (.int (S.1 2606) :: st)) : G p l e R s m args below meth c kc ks Q nL D A (wC q n cI cB cZ) S pc lv (.ref (q 26) :: st) := g_get pc' 26 6 K hin_X5 rfl (by decide) rfl kf_X5_47 rfl rfl hd hp kk
theorem pf_C_26_6 (pc' : Nat) (K : Ok p s m args c cc nL RX5 D (tyL cI cB cZ) A (wC q n cI cB cZ)) {v : Int32} {Kf : St → Option α} (hf : lett (pF S 2606 v) Kf = some res) (hd : decode cc pc = .ok (.putfield 47, 3)) (hp : pc + 3 = pc') (kk : ∀ S1 : St, Kf S1 = some res → G p l e R s m args below meth c kc ks Q nL D A (wC q n cI cB cZ) S1 pc' lv st) : G p l e R s m args below meth c kc ks Q nL D A (wC q n cI cB cZ) S pc lv (.int v :: .ref (q 26) :: st) := g_put (ty := .int) pc' 26 6 (pF S 2606 v) K hin_X5 rfl (by decide) rfl kf_X5_47 tyX5 tyX5_ok nmX5 rfl rfl (by decide +kernel) rfl rfl (Nat.le_of_ble_eq_true rfl) rfl hd hp (kk _ hf)
theorem gf_C_26_7 (pc' : Nat) (K : Ok p s m args c cc nL RX5 D (tyL cI cB cZ) A (wC q n cI cB cZ)) (hd : decode cc pc = .ok (.getfield 56, 3)) (hp : pc + 3 = pc') (kk : G p l e R s m args below meth c kc ks Q nL D A (wC q n cI cB cZ) S pc' lv (.int (S.1 2607) :: st)) : G p l e R s m args below meth c kc ks Q nL D A (wC q n cI cB cZ) S pc lv (.ref (q 26) :: st) := g_get pc' 26 7 K hin_X5 rfl (by decide) rfl kf_X5_56 rfl rfl hd hp kk
theorem pf_C_26_7 (pc' : Nat) (K : Ok p s m args c cc nL RX5 D (tyL cI cB cZ) A (wC q n cI cB cZ)) {v : Int32} {Kf : St → Option α} (hf : lett (pF S 2607 v) Kf = some res) (hd : decode cc pc = .ok (.putfield 56, 3)) (hp : pc + 3 = pc') (kk : ∀ S1 : St, Kf S1 = some res → G p l e R s m args below meth c kc ks Q nL D A (wC q n cI cB cZ) S1 pc' lv st) : G p l e R s m args below meth c kc ks Q nL D A (wC q n cI cB cZ) S pc lv (.int v :: .ref (q 26) :: st) := g_put (ty := .int) pc' 26 7 (pF S 2607 v) K hin_X5 rfl (by decide) rfl kf_X5_56 tyX5 tyX5_ok nmX5 rfl rfl (by decide +kernel) rfl rfl (Nat.le_of_ble_eq_true rfl) rfl hd hp (kk _ hf)
theorem gf_C_26_8 (pc' : Nat) (K : Ok p s m args c cc nL RX5 D (tyL cI cB cZ) A (wC q n cI cB cZ)) (hd : decode cc pc = .ok (.getfield 85, 3)) (hp : pc + 3 = pc') (kk : G p l e R s m args below meth c kc ks Q nL D A (wC q n cI cB cZ) S pc' lv (.int (S.1 2608) :: st)) : G p l e R s m args below meth c kc ks Q nL D A (wC q n cI cB cZ) S pc lv (.ref (q 26) :: st) := g_get pc' 26 8 K hin_X5 rfl (by decide) rfl kf_X5_85 rfl rfl hd hp kk
theorem pf_C_26_8 (pc' : Nat) (K : Ok p s m args c cc nL RX5 D (tyL cI cB cZ) A (wC q n cI cB cZ)) {v : Int32} {Kf : St → Option α} (hf : lett (pF S 2608 v) Kf = some res) (hd : decode cc pc = .ok (.putfield 85, 3)) (hp : pc + 3 = pc') (kk : ∀ S1 : St, Kf S1 = some res → G p l e R s m args below meth c kc ks Q nL D A (wC q n cI cB cZ) S1 pc' lv st) : G p l e R s m args below meth c kc ks Q nL D A (wC q n cI cB cZ) S pc lv (.int v :: .ref (q 26) :: st) := g_put (ty := .int) pc' 26 8 (pF S 2608 v) K hin_X5 rfl (by decide) rfl kf_X5_85 tyX5 tyX5_ok nmX5 rfl rfl (by decide +kernel) rfl rfl (Nat.le_of_ble_eq_true rfl) rfl hd hp (kk _ hf)
theorem gf_C_26_9 (pc' : Nat) (K : Ok p s m args c cc nL RX5 D (tyL cI cB cZ) A (wC q n cI cB cZ)) (hd : decode cc pc = .ok (.getfield 50, 3)) (hp : pc + 3 = pc') (kk : G p l e R s m args below meth c kc ks Q nL D A (wC q n cI cB cZ) S pc' lv (.int (S.1 2609) :: st)) : G p l e R s m args below meth c kc ks Q nL D A (wC q n cI cB cZ) S pc lv (.ref (q 26) :: st) := g_get pc' 26 9 K hin_X5 rfl (by decide) rfl kf_X5_50 rfl rfl hd hp kk
theorem pf_C_26_9 (pc' : Nat) (K : Ok p s m args c cc nL RX5 D (tyL cI cB cZ) A (wC q n cI cB cZ)) {v : Int32} {Kf : St → Option α} (hf : lett (pF S 2609 v) Kf = some res) (hd : decode cc pc = .ok (.putfield 50, 3)) (hp : pc + 3 = pc') (kk : ∀ S1 : St, Kf S1 = some res → G p l e R s m args below meth c kc ks Q nL D A (wC q n cI cB cZ) S1 pc' lv st) : G p l e R s m args below meth c kc ks Q nL D A (wC q n cI cB cZ) S pc lv (.int v :: .ref (q 26) :: st) := g_put (ty := .int) pc' 26 9 (pF S 2609 v) K hin_X5 rfl (by decide) rfl kf_X5_50 tyX5 tyX5_ok nmX5 rfl rfl (by decide +kernel) rfl rfl (Nat.le_of_ble_eq_true rfl) rfl hd hp (kk _ hf)
theorem gf_C_26_10 (pc' : Nat) (K : Ok p s m args c cc nL RX5 D (tyL cI cB cZ) A (wC q n cI cB cZ)) (hd : decode cc pc = .ok (.getfield 120, 3)) (hp : pc + 3 = pc') (kk : G p l e R s m args below meth c kc ks Q nL D A (wC q n cI cB cZ) S pc' lv (.int (S.1 2610) :: st)) : G p l e R s m args below meth c kc ks Q nL D A (wC q n cI cB cZ) S pc lv (.ref (q 26) :: st) := g_get pc' 26 10 K hin_X5 rfl (by decide) rfl kf_X5_120 rfl rfl hd hp kk
theorem pf_C_26_10 (pc' : Nat) (K : Ok p s m args c cc nL RX5 D (tyL cI cB cZ) A (wC q n cI cB cZ)) {v : Int32} {Kf : St → Option α} (hf : lett (pF S 2610 v) Kf = some res) (hd : decode cc pc = .ok (.putfield 120, 3)) (hp : pc + 3 = pc') (kk : ∀ S1 : St, Kf S1 = some res → G p l e R s m args below meth c kc ks Q nL D A (wC q n cI cB cZ) S1 pc' lv st) : G p l e R s m args below meth c kc ks Q nL D A (wC q n cI cB cZ) S pc lv (.int v :: .ref (q 26) :: st) := g_put (ty := .int) pc' 26 10 (pF S 2610 v) K hin_X5 rfl (by decide) rfl kf_X5_120 tyX5 tyX5_ok nmX5 rfl rfl (by decide +kernel) rfl rfl (Nat.le_of_ble_eq_true rfl) rfl hd hp (kk _ hf)
theorem gf_C_26_11 (pc' : Nat) (K : Ok p s m args c cc nL RX5 D (tyL cI cB cZ) A (wC q n cI cB cZ)) (hd : decode cc pc = .ok (.getfield 131, 3)) (hp : pc + 3 = pc') (kk : G p l e R s m args below meth c kc ks Q nL D A (wC q n cI cB cZ) S pc' lv (.int (S.1 2611) :: st)) : G p l e R s m args below meth c kc ks Q nL D A (wC q n cI cB cZ) S pc lv (.ref (q 26) :: st) := g_get pc' 26 11 K hin_X5 rfl (by decide) rfl kf_X5_131 rfl rfl hd hp kk
theorem pf_C_26_11 (pc' : Nat) (K : Ok p s m args c cc nL RX5 D (tyL cI cB cZ) A (wC q n cI cB cZ)) {v : Int32} {Kf : St → Option α} (hf : lett (pF S 2611 v) Kf = some res) (hd : decode cc pc = .ok (.putfield 131, 3)) (hp : pc + 3 = pc') (kk : ∀ S1 : St, Kf S1 = some res → G p l e R s m args below meth c kc ks Q nL D A (wC q n cI cB cZ) S1 pc' lv st) : G p l e R s m args below meth c kc ks Q nL D A (wC q n cI cB cZ) S pc lv (.int v :: .ref (q 26) :: st) := g_put (ty := .int) pc' 26 11 (pF S 2611 v) K hin_X5 rfl (by decide) rfl kf_X5_131 tyX5 tyX5_ok nmX5 rfl rfl (by decide +kernel) rfl rfl (Nat.le_of_ble_eq_true rfl) rfl hd hp (kk _ hf)
theorem al_C_27 (pc' : Nat) (K : Ok p s m args c cc nL own D (tyL cI cB cZ) A (wC q n cI cB cZ)) {i : Int32} {Kf : Int32 → Option α} (hf : (rd (S.2 27) 6 i).bind Kf = some res) (hd : decode cc pc = .ok (.iaload, 1)) (hp : pc + 1 = pc') (kk : ∀ v : Int32, Kf v = some res → G p l e R s m args below meth c kc ks Q nL D A (wC q n cI cB cZ) S pc' lv (.int v :: st)) : G p l e R s m args below meth c kc ks Q nL D A (wC q n cI cB cZ) S pc lv (.int i :: .ref (q 27) :: st) := g_iald pc' 27 0 K rfl rfl hf hd hp kk
theorem as_C_27 (pc' : Nat) (K : Ok p s m args c cc nL own D (tyL cI cB cZ) A (wC q n cI cB cZ)) {i x : Int32} {Kf : St → Option α} (hf : (wr S 27 6 i x).bind Kf = some res) (hd : decode cc pc = .ok (.iastore, 1)) (hp : pc + 1 = pc') (kk : ∀ S1 : St, Kf S1 = some res → G p l e R s m args below meth c kc ks Q nL D A (wC q n cI cB cZ) S1 pc' lv st) : G p l e R s m args below meth c kc ks Q nL D A (wC q n cI cB cZ) S pc lv (.int x :: .int i :: .ref (q 27) :: st) := g_iast pc' 27 0 27 K rfl rfl (fun _ => rfl) hf hd hp kk
theorem an_C_27 (pc' : Nat) (K : Ok p s m args c cc nL own D (tyL cI cB cZ) A (wC q n cI cB cZ)) (hd : decode cc pc = .ok (.arraylength, 1)) (hp : pc + 1 = pc') (kk : G p l e R s m args below meth c kc ks Q nL D A (wC q n cI cB cZ) S pc' lv (.int (nI 6) :: st)) : G p l e R s m args below meth c kc ks Q nL D A (wC q n cI cB cZ) S pc lv (.ref (q 27) :: st) := g_alen pc' 27 0 (nI 6) K rfl rfl rfl hd hp kk
theorem al_C_28 (pc' : Nat) (K : Ok p s m args c cc nL own D (tyL cI cB cZ) A (wC q n cI cB cZ)) {i : Int32} {Kf : Int32 → Option α} (hf : (rd (S.2 28) 6 i).bind Kf = some res) (hd : decode cc pc = .ok (.iaload, 1)) (hp : pc + 1 = pc') (kk : ∀ v : Int32, Kf v = some res → G p l e R s m args below meth c kc ks Q nL D A (wC q n cI cB cZ) S pc' lv (.int v :: st)) : G p l e R s m args below meth c kc ks Q nL D A (wC q n cI cB cZ) S pc lv (.int i :: .ref (q 28) :: st) := g_iald pc' 28 0 K rfl rfl hf hd hp kk
theorem as_C_28 (pc' : Nat) (K : Ok p s m args c cc nL own D (tyL cI cB cZ) A (wC q n cI cB cZ)) {i x : Int32} {Kf : St → Option α} (hf : (wr S 28 6 i x).bind Kf = some res) (hd : decode cc pc = .ok (.iastore, 1)) (hp : pc + 1 = pc') (kk : ∀ S1 : St, Kf S1 = some res → G p l e R s m args below meth c kc ks Q nL D A (wC q n cI cB cZ) S1 pc' lv st) : G p l e R s m args below meth c kc ks Q nL D A (wC q n cI cB cZ) S pc lv (.int x :: .int i :: .ref (q 28) :: st) := g_iast pc' 28 0 28 K rfl rfl (fun _ => rfl) hf hd hp kk
theorem an_C_28 (pc' : Nat) (K : Ok p s m args c cc nL own D (tyL cI cB cZ) A (wC q n cI cB cZ)) (hd : decode cc pc = .ok (.arraylength, 1)) (hp : pc + 1 = pc') (kk : G p l e R s m args below meth c kc ks Q nL D A (wC q n cI cB cZ) S pc' lv (.int (nI 6) :: st)) : G p l e R s m args below meth c kc ks Q nL D A (wC q n cI cB cZ) S pc lv (.ref (q 28) :: st) := g_alen pc' 28 0 (nI 6) K rfl rfl rfl hd hp kk
theorem gf_C_29_0 (pc' : Nat) (K : Ok p s m args c cc nL RX4 D (tyL cI cB cZ) A (wC q n cI cB cZ)) (hd : decode cc pc = .ok (.getfield 9, 3)) (hp : pc + 3 = pc') (kk : G p l e R s m args below meth c kc ks Q nL D A (wC q n cI cB cZ) S pc' lv (.ref (q 30) :: st)) : G p l e R s m args below meth c kc ks Q nL D A (wC q n cI cB cZ) S pc lv (.ref (q 29) :: st) := g_get pc' 29 0 K hin_X4 rfl (by decide) rfl kf_X4_9 rfl rfl hd hp kk
theorem gf_C_29_1 (pc' : Nat) (K : Ok p s m args c cc nL RX4 D (tyL cI cB cZ) A (wC q n cI cB cZ)) (hd : decode cc pc = .ok (.getfield 15, 3)) (hp : pc + 3 = pc') (kk : G p l e R s m args below meth c kc ks Q nL D A (wC q n cI cB cZ) S pc' lv (.ref (q 31) :: st)) : G p l e R s m args below meth c kc ks Q nL D A (wC q n cI cB cZ) S pc lv (.ref (q 29) :: st) := g_get pc' 29 1 K hin_X4 rfl (by decide) rfl kf_X4_15 rfl rfl hd hp kk
theorem gf_C_29_2 (pc' : Nat) (K : Ok p s m args c cc nL RX4 D (tyL cI cB cZ) A (wC q n cI cB cZ)) (hd : decode cc pc = .ok (.getfield 18, 3)) (hp : pc + 3 = pc') (kk : G p l e R s m args below meth c kc ks Q nL D A (wC q n cI cB cZ) S pc' lv (.ref (q 32) :: st)) : G p l e R s m args below meth c kc ks Q nL D A (wC q n cI cB cZ) S pc lv (.ref (q 29) :: st) := g_get pc' 29 2 K hin_X4 rfl (by decide) rfl kf_X4_18 rfl rfl hd hp kk
theorem gf_C_29_3 (pc' : Nat) (K : Ok p s m args c cc nL RX4 D (tyL cI cB cZ) A (wC q n cI cB cZ)) (hd : decode cc pc = .ok (.getfield 27, 3)) (hp : pc + 3 = pc') (kk : G p l e R s m args below meth c kc ks Q nL D A (wC q n cI cB cZ) S pc' lv (.int (S.1 2903) :: st)) : G p l e R s m args below meth c kc ks Q nL D A (wC q n cI cB cZ) S pc lv (.ref (q 29) :: st) := g_get pc' 29 3 K hin_X4 rfl (by decide) rfl kf_X4_27 rfl rfl hd hp kk
theorem pf_C_29_3 (pc' : Nat) (K : Ok p s m args c cc nL RX4 D (tyL cI cB cZ) A (wC q n cI cB cZ)) {v : Int32} {Kf : St → Option α} (hf : lett (pF S 2903 v) Kf = some res) (hd : decode cc pc = .ok (.putfield 27, 3)) (hp : pc + 3 = pc') (kk : ∀ S1 : St, Kf S1 = some res → G p l e R s m args below meth c kc ks Q nL D A (wC q n cI cB cZ) S1 pc' lv st) : G p l e R s m args below meth c kc ks Q nL D A (wC q n cI cB cZ) S pc lv (.int v :: .ref (q 29) :: st) := g_put (ty := .int) pc' 29 3 (pF S 2903 v) K hin_X4 rfl (by decide) rfl kf_X4_27 tyX4 tyX4_ok nmX4 rfl rfl (by decide +kernel) rfl rfl (Nat.le_of_ble_eq_true rfl) rfl hd hp (kk _ hf)
theorem gf_C_29_4 (pc' : Nat) (K : Ok p s m args c cc nL RX4 D (tyL cI cB cZ) A (wC q n cI cB cZ)) (hd : decode cc pc = .ok (.getfield 31, 3)) (hp : pc + 3 = pc') (kk : G p l e R s m args below meth c kc ks Q nL D A (wC q n cI cB cZ) S pc' lv (.int (S.1 2904) :: st)) : G p l e R s m args below meth c kc ks Q nL D A (wC q n cI cB cZ) S pc lv (.ref (q 29) :: st) := g_get pc' 29 4 K hin_X4 rfl (by decide) rfl kf_X4_31 rfl rfl hd hp kk
theorem pf_C_29_4 (pc' : Nat) (K : Ok p s m args c cc nL RX4 D (tyL cI cB cZ) A (wC q n cI cB cZ)) {v : Int32} {Kf : St → Option α} (hf : lett (pF S 2904 v) Kf = some res) (hd : decode cc pc = .ok (.putfield 31, 3)) (hp : pc + 3 = pc') (kk : ∀ S1 : St, Kf S1 = some res → G p l e R s m args below meth c kc ks Q nL D A (wC q n cI cB cZ) S1 pc' lv st) : G p l e R s m args below meth c kc ks Q nL D A (wC q n cI cB cZ) S pc lv (.int v :: .ref (q 29) :: st) := g_put (ty := .int) pc' 29 4 (pF S 2904 v) K hin_X4 rfl (by decide) rfl kf_X4_31 tyX4 tyX4_ok nmX4 rfl rfl (by decide +kernel) rfl rfl (Nat.le_of_ble_eq_true rfl) rfl hd hp (kk _ hf)
theorem gf_C_29_5 (pc' : Nat) (K : Ok p s m args c cc nL RX4 D (tyL cI cB cZ) A (wC q n cI cB cZ)) (hd : decode cc pc = .ok (.getfield 34, 3)) (hp : pc + 3 = pc') (kk : G p l e R s m args below meth c kc ks Q nL D A (wC q n cI cB cZ) S pc' lv (.int (S.1 2905) :: st)) : G p l e R s m args below meth c kc ks Q nL D A (wC q n cI cB cZ) S pc lv (.ref (q 29) :: st) := g_get pc' 29 5 K hin_X4 rfl (by decide) rfl kf_X4_34 rfl rfl hd hp kk
theorem pf_C_29_5 (pc' : Nat) (K : Ok p s m args c cc nL RX4 D (tyL cI cB cZ) A (wC q n cI cB cZ)) {v : Int32} {Kf : St → Option α} (hf : lett (pF S 2905 v) Kf = some res) (hd : decode cc pc = .ok (.putfield 34, 3)) (hp : pc + 3 = pc') (kk : ∀ S1 : St, Kf S1 = some res → G p l e R s m args below meth c kc ks Q nL D A (wC q n cI cB cZ) S1 pc' lv st) : G p l e R s m args below meth c kc ks Q nL D A (wC q n cI cB cZ) S pc lv (.int v :: .ref (q 29) :: st) := g_put (ty := .int) pc' 29 5 (pF S 2905 v) K hin_X4 rfl (by decide) rfl kf_X4_34 tyX4 tyX4_ok nmX4 rfl rfl (by decide +kernel) rfl rfl (Nat.le_of_ble_eq_true rfl) rfl hd hp (kk _ hf)
theorem al_C_30 (pc' : Nat) (K : Ok p s m args c cc nL own D (tyL cI cB cZ) A (wC q n cI cB cZ)) {i : Int32} {Kf : Int32 → Option α} (hf : (rd (S.2 30) 6 i).bind Kf = some res) (hd : decode cc pc = .ok (.iaload, 1)) (hp : pc + 1 = pc') (kk : ∀ v : Int32, Kf v = some res → G p l e R s m args below meth c kc ks Q nL D A (wC q n cI cB cZ) S pc' lv (.int v :: st)) : G p l e R s m args below meth c kc ks Q nL D A (wC q n cI cB cZ) S pc lv (.int i :: .ref (q 30) :: st) := g_iald pc' 30 0 K rfl rfl hf hd hp kk
theorem as_C_30 (pc' : Nat) (K : Ok p s m args c cc nL own D (tyL cI cB cZ) A (wC q n cI cB cZ)) {i x : Int32} {Kf : St → Option α} (hf : (wr S 30 6 i x).bind Kf = some res) (hd : decode cc pc = .ok (.iastore, 1)) (hp : pc + 1 = pc') (kk : ∀ S1 : St, Kf S1 = some res → G p l e R s m args below meth c kc ks Q nL D A (wC q n cI cB cZ) S1 pc' lv st) : G p l e R s m args below meth c kc ks Q nL D A (wC q n cI cB cZ) S pc lv (.int x :: .int i :: .ref (q 30) :: st) := g_iast pc' 30 0 30 K rfl rfl (fun _ => rfl) hf hd hp kk
theorem an_C_30 (pc' : Nat) (K : Ok p s m args c cc nL own D (tyL cI cB cZ) A (wC q n cI cB cZ)) (hd : decode cc pc = .ok (.arraylength, 1)) (hp : pc + 1 = pc') (kk : G p l e R s m args below meth c kc ks Q nL D A (wC q n cI cB cZ) S pc' lv (.int (nI 6) :: st)) : G p l e R s m args below meth c kc ks Q nL D A (wC q n cI cB cZ) S pc lv (.ref (q 30) :: st) := g_alen pc' 30 0 (nI 6) K rfl rfl rfl hd hp kk
theorem al_C_31 (pc' : Nat) (K : Ok p s m args c cc nL own D (tyL cI cB cZ) A (wC q n cI cB cZ)) {i : Int32} {Kf : Int32 → Option α} (hf : (rd (S.2 31) 6 i).bind Kf = some res) (hd : decode cc pc = .ok (.iaload, 1)) (hp : pc + 1 = pc') (kk : ∀ v : Int32, Kf v = some res → G p l e R s m args below meth c kc ks Q nL D A (wC q n cI cB cZ) S pc' lv (.int v :: st)) : G p l e R s m args below meth c kc ks Q nL D A (wC q n cI cB cZ) S pc lv (.int i :: .ref (q 31) :: st) := g_iald pc' 31 0 K rfl rfl hf hd hp kk
theorem as_C_31 (pc' : Nat) (K : Ok p s m args c cc nL own D (tyL cI cB cZ) A (wC q n cI cB cZ)) {i x : Int32} {Kf : St → Option α} (hf : (wr S 31 6 i x).bind Kf = some res) (hd : decode cc pc = .ok (.iastore, 1)) (hp : pc + 1 = pc') (kk : ∀ S1 : St, Kf S1 = some res → G p l e R s m args below meth c kc ks Q nL D A (wC q n cI cB cZ) S1 pc' lv st) : G p l e R s m args below meth c kc ks Q nL D A (wC q n cI cB cZ) S pc lv (.int x :: .int i :: .ref (q 31) :: st) := g_iast pc' 31 0 31 K rfl rfl (fun _ => rfl) hf hd hp kk
theorem an_C_31 (pc' : Nat) (K : Ok p s m args c cc nL own D (tyL cI cB cZ) A (wC q n cI cB cZ)) (hd : decode cc pc = .ok (.arraylength, 1)) (hp : pc + 1 = pc') (kk : G p l e R s m args below meth c kc ks Q nL D A (wC q n cI cB cZ) S pc' lv (.int (nI 6) :: st)) : G p l e R s m args below meth c kc ks Q nL D A (wC q n cI cB cZ) S pc lv (.ref (q 31) :: st) := g_alen pc' 31 0 (nI 6) K rfl rfl rfl hd hp kk
theorem al_C_32 (pc' : Nat) (K : Ok p s m args c cc nL own D (tyL cI cB cZ) A (wC q n cI cB cZ)) {i : Int32} {Kf : Int32 → Option α} (hf : (rd (S.2 32) 120 i).bind Kf = some res) (hd : decode cc pc = .ok (.iaload, 1)) (hp : pc + 1 = pc') (kk : ∀ v : Int32, Kf v = some res → G p l e R s m args below meth c kc ks Q nL D A (wC q n cI cB cZ) S pc' lv (.int v :: st)) : G p l e R s m args below meth c kc ks Q nL D A (wC q n cI cB cZ) S pc lv (.int i :: .ref (q 32) :: st) := g_iald pc' 32 0 K rfl rfl hf hd hp kk
theorem as_C_32 (pc' : Nat) (K : Ok p s m args c cc nL own D (tyL cI cB cZ) A (wC q n cI cB cZ)) {i x : Int32} {Kf : St → Option α} (hf : (wr S 32 120 i x).bind Kf = some res) (hd : decode cc pc = .ok (.iastore, 1)) (hp : pc + 1 = pc') (kk : ∀ S1 : St, Kf S1 = some res → G p l e R s m args below meth c kc ks Q nL D A (wC q n cI cB cZ) S1 pc' lv st) : G p l e R s m args below meth c kc ks Q nL D A (wC q n cI cB cZ) S pc lv (.int x :: .int i :: .ref (q 32) :: st) := g_iast pc' 32 0 32 K rfl rfl (fun _ => rfl) hf hd hp kk
theorem an_C_32 (pc' : Nat) (K : Ok p s m args c cc nL own D (tyL cI cB cZ) A (wC q n cI cB cZ)) (hd : decode cc pc = .ok (.arraylength, 1)) (hp : pc + 1 = pc') (kk : G p l e R s m args below meth c kc ks Q nL D A (wC q n cI cB cZ) S pc' lv (.int (nI 120) :: st)) : G p l e R s m args below meth c kc ks Q nL D A (wC q n cI cB cZ) S pc lv (.ref (q 32) :: st) := g_alen pc' 32 0 (nI 120) K rfl rfl rfl hd hp kk
end RWC
section RWM
variable {p : Program} {l : Launch} {e : Env} {R : Room} {s : State} {m : MethodId} {args : Array Value} {below : List Frame} {meth : Method} {c : Code} {kc ks : Nat} {Q : State → Prop} {nL : Nat} {D : va_G} {A : Nat → Prop} {S : St} {lv : List (Nat × Value)} {st : List Value} {cc : ByteArray} {own : String} {pc : Nat} {α : Type} {res : α} {q : Nat → Nat} {n : Nat} {cI cB cZ : ClassId}
theorem gf_M_0_0 (pc' : Nat) (K : Ok p s m args c cc nL RX7 D (tyL cI cB cZ) A (wM q n cI cB cZ)) (hd : decode cc pc = .ok (.getfield 81, 3)) (hp : pc + 3 = pc') (kk : G p l e R s m args below meth c kc ks Q nL D A (wM q n cI cB cZ) S pc' lv (.int (S.1 0) :: st)) : G p l e R s m args below meth c kc ks Q nL D A (wM q n cI cB cZ) S pc lv (.ref (q 0) :: st) := g_get pc' 0 0 K hin_X7 rfl (by decide) rfl kf_X7_81 rfl rfl hd hp kk
theorem gf_M_0_1 (pc' : Nat) (K : Ok p s m args c cc nL RX7 D (tyL cI cB cZ) A (wM q n cI cB cZ)) (hd : decode cc pc = .ok (.getfield 7, 3)) (hp : pc + 3 = pc') (kk : G p l e R s m args below meth c kc ks Q nL D A (wM q n cI cB cZ) S pc' lv (.ref (q 1) :: st)) : G p l e R s m args below meth c kc ks Q nL D A (wM q n cI cB cZ) S pc lv (.ref (q 0) :: st) := g_get pc' 0 1 K hin_X7 rfl (by decide) rfl kf_X7_7 rfl rfl hd hp kk
theorem gf_M_0_2 (pc' : Nat) (K : Ok p s m args c cc nL RX7 D (tyL cI cB cZ) A (wM q n cI cB cZ)) (hd : decode cc pc = .ok (.getfield 13, 3)) (hp : pc + 3 = pc') (kk : G p l e R s m args below meth c kc ks Q nL D A (wM q n cI cB cZ) S pc' lv (.ref (q 2) :: st)) : G p l e R s m args below meth c kc ks Q nL D A (wM q n cI cB cZ) S pc lv (.ref (q 0) :: st) := g_get pc' 0 2 K hin_X7 rfl (by decide) rfl kf_X7_13 rfl rfl hd hp kk
theorem gf_M_0_3 (pc' : Nat) (K : Ok p s m args c cc nL RX7 D (tyL cI cB cZ) A (wM q n cI cB cZ)) (hd : decode cc pc = .ok (.getfield 16, 3)) (hp : pc + 3 = pc') (kk : G p l e R s m args below meth c kc ks Q nL D A (wM q n cI cB cZ) S pc' lv (.ref (q 3) :: st)) : G p l e R s m args below meth c kc ks Q nL D A (wM q n cI cB cZ) S pc lv (.ref (q 0) :: st) := g_get pc' 0 3 K hin_X7 rfl (by decide) rfl kf_X7_16 rfl rfl hd hp kk
theorem gf_M_0_4 (pc' : Nat) (K : Ok p s m args c cc nL RX7 D (tyL cI cB cZ) A (wM q n cI cB cZ)) (hd : decode cc pc = .ok (.getfield 98, 3)) (hp : pc + 3 = pc') (kk : G p l e R s m args below meth c kc ks Q nL D A (wM q n cI cB cZ) S pc' lv (.int (S.1 4) :: st)) : G p l e R s m args below meth c kc ks Q nL D A (wM q n cI cB cZ) S pc lv (.ref (q 0) :: st) := g_get pc' 0 4 K hin_X7 rfl (by decide) rfl kf_X7_98 rfl rfl hd hp kk
theorem pf_M_0_4 (pc' : Nat) (K : Ok p s m args c cc nL RX7 D (tyL cI cB cZ) A (wM q n cI cB cZ)) {v : Int32} {Kf : St → Option α} (hf : lett (pF S 4 v) Kf = some res) (hd : decode cc pc = .ok (.putfield 98, 3)) (hp : pc + 3 = pc') (kk : ∀ S1 : St, Kf S1 = some res → G p l e R s m args below meth c kc ks Q nL D A (wM q n cI cB cZ) S1 pc' lv st) : G p l e R s m args below meth c kc ks Q nL D A (wM q n cI cB cZ) S pc lv (.int v :: .ref (q 0) :: st) := g_put (ty := .int) pc' 0 4 (pF S 4 v) K hin_X7 rfl (by decide) rfl kf_X7_98 tyX7 tyX7_ok nmX7 rfl rfl (by decide +kernel) rfl rfl (Nat.le_of_ble_eq_true rfl) rfl hd hp (kk _ hf)
theorem gf_M_0_5 (pc' : Nat) (K : Ok p s m args c cc nL RX7 D (tyL cI cB cZ) A (wM q n cI cB cZ)) (hd : decode cc pc = .ok (.getfield 19, 3)) (hp : pc + 3 = pc') (kk : G p l e R s m args below meth c kc ks Q nL D A (wM q n cI cB cZ) S pc' lv (.ref (q 4) :: st)) : G p l e R s m args below meth c kc ks Q nL D A (wM q n cI cB cZ) S pc lv (.ref (q 0) :: st) := g_get pc' 0 5 K hin_X7 rfl (by decide) rfl kf_X7_19 rfl rfl hd hp kk
theorem gf_M_0_6 (pc' : Nat) (K : Ok p s m args c cc nL RX7 D (tyL cI cB cZ) A (wM q n cI cB cZ)) (hd : decode cc pc = .ok (.getfield 22, 3)) (hp : pc + 3 = pc') (kk : G p l e R s m args below meth c kc ks Q nL D A (wM q n cI cB cZ) S pc' lv (.ref (q 5) :: st)) : G p l e R s m args below meth c kc ks Q nL D A (wM q n cI cB cZ) S pc lv (.ref (q 0) :: st) := g_get pc' 0 6 K hin_X7 rfl (by decide) rfl kf_X7_22 rfl rfl hd hp kk
theorem gf_M_0_7 (pc' : Nat) (K : Ok p s m args c cc nL RX7 D (tyL cI cB cZ) A (wM q n cI cB cZ)) (hd : decode cc pc = .ok (.getfield 131, 3)) (hp : pc + 3 = pc') (kk : G p l e R s m args below meth c kc ks Q nL D A (wM q n cI cB cZ) S pc' lv (.int (S.1 7) :: st)) : G p l e R s m args below meth c kc ks Q nL D A (wM q n cI cB cZ) S pc lv (.ref (q 0) :: st) := g_get pc' 0 7 K hin_X7 rfl (by decide) rfl kf_X7_131 rfl rfl hd hp kk
theorem pf_M_0_7 (pc' : Nat) (K : Ok p s m args c cc nL RX7 D (tyL cI cB cZ) A (wM q n cI cB cZ)) {v : Int32} {Kf : St → Option α} (hf : lett (pF S 7 v) Kf = some res) (hd : decode cc pc = .ok (.putfield 131, 3)) (hp : pc + 3 = pc') (kk : ∀ S1 : St, Kf S1 = some res → G p l e R s m args below meth c kc ks Q nL D A (wM q n cI cB cZ) S1 pc' lv st) : G p l e R s m args below meth c kc ks Q nL D A (wM q n cI cB cZ) S pc lv (.int v :: .ref (q 0) :: st) := g_put (ty := .int) pc' 0 7 (pF S 7 v) K hin_X7 rfl (by decide) rfl kf_X7_131 tyX7 tyX7_ok nmX7 rfl rfl (by decide +kernel) rfl rfl (Nat.le_of_ble_eq_true rfl) rfl hd hp (kk _ hf)
theorem gf_M_0_8 (pc' : Nat) (K : Ok p s m args c cc nL RX7 D (tyL cI cB cZ) A (wM q n cI cB cZ)) (hd : decode cc pc = .ok (.getfield 25, 3)) (hp : pc + 3 = pc') (kk : G p l e R s m args below meth c kc ks Q nL D A (wM q n cI cB cZ) S pc' lv (.ref (q 6) :: st)) : G p l e R s m args below meth c kc ks Q nL D A (wM q n cI cB cZ) S pc lv (.ref (q 0) :: st) := g_get pc' 0 8 K hin_X7 rfl (by decide) rfl kf_X7_25 rfl rfl hd hp kk
theorem gf_M_0_9 (pc' : Nat) (K : Ok p s m args c cc nL RX7 D (tyL cI cB cZ) A (wM q n cI cB cZ)) (hd : decode cc pc = .ok (.getfield 134, 3)) (hp : pc + 3 = pc') (kk : G p l e R s m args below meth c kc ks Q nL D A (wM q n cI cB cZ) S pc' lv (.int (S.1 9) :: st)) : G p l e R s m args below meth c kc ks Q nL D A (wM q n cI cB cZ) S pc lv (.ref (q 0) :: st) := g_get pc' 0 9 K hin_X7 rfl (by decide) rfl kf_X7_134 rfl rfl hd hp kk
theorem pf_M_0_9 (pc' : Nat) (K : Ok p s m args c cc nL RX7 D (tyL cI cB cZ) A (wM q n cI cB cZ)) {v : Int32} {Kf : St → Option α} (hf : lett (pF S 9 v) Kf = some res) (hd : decode cc pc = .ok (.putfield 134, 3)) (hp : pc + 3 = pc') (kk : ∀ S1 : St, Kf S1 = some res → G p l e R s m args below meth c kc ks Q nL D A (wM q n cI cB cZ) S1 pc' lv st) : G p l e R s m args below meth c kc ks Q nL D A (wM q n cI cB cZ) S pc lv (.int v :: .ref (q 0) :: st) := g_put (ty := .int) pc' 0 9 (pF S 9 v) K hin_X7 rfl (by decide) rfl kf_X7_134 tyX7 tyX7_ok nmX7 rfl rfl (by decide +kernel) rfl rfl (Nat.le_of_ble_eq_true rfl) rfl hd hp (kk _ hf)
theorem gf_M_0_10 (pc' : Nat) (K : Ok p s m args c cc nL RX7 D (tyL cI cB cZ) A (wM q n cI cB cZ)) (hd : decode cc pc = .ok (.getfield 28, 3)) (hp : pc + 3 = pc') (kk : G p l e R s m args below meth c kc ks Q nL D A (wM q n cI cB cZ) S pc' lv (.ref (q 7) :: st)) : G p l e R s m args below meth c kc ks Q nL D A (wM q n cI cB cZ) S pc lv (.ref (q 0) :: st) := g_get pc' 0 10 K hin_X7 rfl (by decide) rfl kf_X7_28 rfl rfl hd hp kk
theorem gf_M_0_11 (pc' : Nat) (K : Ok p s m args c cc nL RX7 D (tyL cI cB cZ) A (wM q n cI cB cZ)) (hd : decode cc pc = .ok (.getfield 31, 3)) (hp : pc + 3 = pc') (kk : G p l e R s m args below meth c kc ks Q nL D A (wM q n cI cB cZ) S pc' lv (.ref (q 8) :: st)) : G p l e R s m args below meth c kc ks Q nL D A (wM q n cI cB cZ) S pc lv (.ref (q 0) :: st) := g_get pc' 0 11 K hin_X7 rfl (by decide) rfl kf_X7_31 rfl rfl hd hp kk
theorem gf_M_0_12 (pc' : Nat) (K : Ok p s m args c cc nL RX7 D (tyL cI cB cZ) A (wM q n cI cB cZ)) (hd : decode cc pc = .ok (.getfield 34, 3)) (hp : pc + 3 = pc') (kk : G p l e R s m args below meth c kc ks Q nL D A (wM q n cI cB cZ) S pc' lv (.ref (q 9) :: st)) : G p l e R s m args below meth c kc ks Q nL D A (wM q n cI cB cZ) S pc lv (.ref (q 0) :: st) := g_get pc' 0 12 K hin_X7 rfl (by decide) rfl kf_X7_34 rfl rfl hd hp kk
theorem gf_M_0_13 (pc' : Nat) (K : Ok p s m args c cc nL RX7 D (tyL cI cB cZ) A (wM q n cI cB cZ)) (hd : decode cc pc = .ok (.getfield 37, 3)) (hp : pc + 3 = pc') (kk : G p l e R s m args below meth c kc ks Q nL D A (wM q n cI cB cZ) S pc' lv (.ref (q 10) :: st)) : G p l e R s m args below meth c kc ks Q nL D A (wM q n cI cB cZ) S pc lv (.ref (q 0) :: st) := g_get pc' 0 13 K hin_X7 rfl (by decide) rfl kf_X7_37 rfl rfl hd hp kk
theorem gf_M_0_14 (pc' : Nat) (K : Ok p s m args c cc nL RX7 D (tyL cI cB cZ) A (wM q n cI cB cZ)) (hd : decode cc pc = .ok (.getfield 40, 3)) (hp : pc + 3 = pc') (kk : G p l e R s m args below meth c kc ks Q nL D A (wM q n cI cB cZ) S pc' lv (.int (S.1 14) :: st)) : G p l e R s m args below meth c kc ks Q nL D A (wM q n cI cB cZ) S pc lv (.ref (q 0) :: st) := g_get pc' 0 14 K hin_X7 rfl (by decide) rfl kf_X7_40 rfl rfl hd hp kk
theorem pf_M_0_14 (pc' : Nat) (K : Ok p s m args c cc nL RX7 D (tyL cI cB cZ) A (wM q n cI cB cZ)) {v : Int32} {Kf : St → Option α} (hf : lett (pF S 14 v) Kf = some res) (hd : decode cc pc = .ok (.putfield 40, 3)) (hp : pc + 3 = pc') (kk : ∀ S1 : St, Kf S1 = some res → G p l e R s m args below meth c kc ks Q nL D A (wM q n cI cB cZ) S1 pc' lv st) : G p l e R s m args below meth c kc ks Q nL D A (wM q n cI cB cZ) S pc lv (.int v :: .ref (q 0) :: st) := g_put (ty := .int) pc' 0 14 (pF S 14 v) K hin_X7 rfl (by decide) rfl kf_X7_40 tyX7 tyX7_ok nmX7 rfl rfl (by decide +kernel) rfl rfl (Nat.le_of_ble_eq_true rfl) rfl hd hp (kk _ hf)
theorem gf_M_0_15 (pc' : Nat) (K : Ok p s m args c cc nL RX7 D (tyL cI cB cZ) A (wM q n cI cB cZ)) (hd : decode cc pc = .ok (.getfield 44, 3)) (hp : pc + 3 = pc') (kk : G p l e R s m args below meth c kc ks Q nL D A (wM q n cI cB cZ) S pc' lv (.int (S.1 15) :: st)) : G p l e R s m args below meth c kc ks Q nL D A (wM q n cI cB cZ) S pc lv (.ref (q 0) :: st) := g_get pc' 0 15 K hin_X7 rfl (by decide) rfl kf_X7_44 rfl rfl hd hp kk
theorem pf_M_0_15 (pc' : Nat) (K : Ok p s m args c cc nL RX7 D (tyL cI cB cZ) A (wM q n cI cB cZ)) {v : Int32} {Kf : St → Option α} (hf : lett (pF S 15 v) Kf = some res) (hd : decode cc pc = .ok (.putfield 44, 3)) (hp : pc + 3 = pc') (kk : ∀ S1 : St, Kf S1 = some res → G p l e R s m args below meth c kc ks Q nL D A (wM q n cI cB cZ) S1 pc' lv st) : G p l e R s m args below meth c kc ks Q nL D A (wM q n cI cB cZ) S pc lv (.int v :: .ref (q 0) :: st) := g_put (ty := .int) pc' 0 15 (pF S 15 v) K hin_X7 rfl (by decide) rfl kf_X7_44 tyX7 tyX7_ok nmX7 rfl rfl (by decide +kernel) rfl rfl (Nat.le_of_ble_eq_true rfl) rfl hd hp (kk _ hf)
theorem gf_M_0_16 (pc' : Nat) (K : Ok p s m args c cc nL RX7 D (tyL cI cB cZ) A (wM q n cI cB cZ)) (hd : decode cc pc = .ok (.getfield 47, 3)) (hp : pc + 3 = pc') (kk : G p l e R s m args below meth c kc ks Q nL D A (wM q n cI cB cZ) S pc' lv (.ref (q 11) :: st)) : G p l e R s m args below meth c kc ks Q nL D A (wM q n cI cB cZ) S pc lv (.ref (q 0) :: st) := g_get pc' 0 16 K hin_X7 rfl (by decide) rfl kf_X7_47 rfl rfl hd hp kk
theorem gf_M_0_17 (pc' : Nat) (K : Ok p s m args c cc nL RX7 D (tyL cI cB cZ) A (wM q n cI cB cZ)) (hd : decode cc pc = .ok (.getfield 180, 3)) (hp : pc + 3 = pc') (kk : G p l e R s m args below meth c kc ks Q nL D A (wM q n cI cB cZ) S pc' lv (.int (S.1 17) :: st)) : G p l e R s m args below meth c kc ks Q nL D A (wM q n cI cB cZ) S pc lv (.ref (q 0) :: st) := g_get pc' 0 17 K hin_X7 rfl (by decide) rfl kf_X7_180 rfl rfl hd hp kk
theorem pf_M_0_17 (pc' : Nat) (K : Ok p s m args c cc nL RX7 D (tyL cI cB cZ) A (wM q n cI cB cZ)) {v : Int32} {Kf : St → Option α} (hf : lett (pF S 17 v) Kf = some res) (hd : decode cc pc = .ok (.putfield 180, 3)) (hp : pc + 3 = pc') (kk : ∀ S1 : St, Kf S1 = some res → G p l e R s m args below meth c kc ks Q nL D A (wM q n cI cB cZ) S1 pc' lv st) : G p l e R s m args below meth c kc ks Q nL D A (wM q n cI cB cZ) S pc lv (.int v :: .ref (q 0) :: st) := g_put (ty := .int) pc' 0 17 (pF S 17 v) K hin_X7 rfl (by decide) rfl kf_X7_180 tyX7 tyX7_ok nmX7 rfl rfl (by decide +kernel) rfl rfl (Nat.le_of_ble_eq_true rfl) rfl hd hp (kk _ hf)
theorem gf_M_0_18 (pc' : Nat) (K : Ok p s m args c cc nL RX7 D (tyL cI cB cZ) A (wM q n cI cB cZ)) (hd : decode cc pc = .ok (.getfield 198, 3)) (hp : pc + 3 = pc') (kk : G p l e R s m args below meth c kc ks Q nL D A (wM q n cI cB cZ) S pc' lv (.int (S.1 18) :: st)) : G p l e R s m args below meth c kc ks Q nL D A (wM q n cI cB cZ) S pc lv (.ref (q 0) :: st) := g_get pc' 0 18 K hin_X7 rfl (by decide) rfl kf_X7_198 rfl rfl hd hp kk
theorem pf_M_0_18 (pc' : Nat) (K : Ok p s m args c cc nL RX7 D (tyL cI cB cZ) A (wM q n cI cB cZ)) {v : Int32} {Kf : St → Option α} (hf : lett (pF S 18 v) Kf = some res) (hd : decode cc pc = .ok (.putfield 198, 3)) (hp : pc + 3 = pc') (kk : ∀ S1 : St, Kf S1 = some res → G p l e R s m args below meth c kc ks Q nL D A (wM q n cI cB cZ) S1 pc' lv st) : G p l e R s m args below meth c kc ks Q nL D A (wM q n cI cB cZ) S pc lv (.int v :: .ref (q 0) :: st) := g_put (ty := .int) pc' 0 18 (pF S 18 v) K hin_X7 rfl (by decide) rfl kf_X7_198 tyX7 tyX7_ok nmX7 rfl rfl (by decide +kernel) rfl rfl (Nat.le_of_ble_eq_true rfl) rfl hd hp (kk _ hf)
theorem gf_M_0_19 (pc' : Nat) (K : Ok p s m args c cc nL RX7 D (tyL cI cB cZ) A (wM q n cI cB cZ)) (hd : decode cc pc = .ok (.getfield 201, 3)) (hp : pc + 3 = pc') (kk : G p l e R s m args below meth c kc ks Q nL D A (wM q n cI cB cZ) S pc' lv (.int (S.1 19) :: st)) : G p l e R s m args below meth c kc ks Q nL D A (wM q n cI cB cZ) S pc lv (.ref (q 0) :: st) := g_get pc' 0 19 K hin_X7 rfl (by decide) rfl kf_X7_201 rfl rfl hd hp kk
theorem pf_M_0_19 (pc' : Nat) (K : Ok p s m args c cc nL RX7 D (tyL cI cB cZ) A (wM q n cI cB cZ)) {v : Int32} {Kf : St → Option α} (hf : lett (pF S 19 v) Kf = some res) (hd : decode cc pc = .ok (.putfield 201, 3)) (hp : pc + 3 = pc') (kk : ∀ S1 : St, Kf S1 = some res → G p l e R s m args below meth c kc ks Q nL D A (wM q n cI cB cZ) S1 pc' lv st) : G p l e R s m args below meth c kc ks Q nL D A (wM q n cI cB cZ) S pc lv (.int v :: .ref (q 0) :: st) := g_put (ty := .int) pc' 0 19 (pF S 19 v) K hin_X7 rfl (by decide) rfl kf_X7_201 tyX7 tyX7_ok nmX7 rfl rfl (by decide +kernel) rfl rfl (Nat.le_of_ble_eq_true rfl) rfl hd hp (kk _ hf)
theorem gf_M_0_20 (pc' : Nat) (K : Ok p s m args c cc nL RX7 D (tyL cI cB cZ) A (wM q n cI cB cZ)) (hd : decode cc pc = .ok (.getfield 204, 3)) (hp : pc + 3 = pc') (kk : G p l e R s m args below meth c kc ks Q nL D A (wM q n cI cB cZ) S pc' lv (.int (S.1 20) :: st)) : G p l e R s m args below meth c kc ks Q nL D A (wM q n cI cB cZ) S pc lv (.ref (q 0) :: st) := g_get pc' 0 20 K hin_X7 rfl (by decide) rfl kf_X7_204 rfl rfl hd hp kk
theorem pf_M_0_20 (pc' : Nat) (K : Ok p s m args c cc nL RX7 D (tyL cI cB cZ) A (wM q n cI cB cZ)) {v : Int32} {Kf : St → Option α} (hf : lett (pF S 20 v) Kf = some res) (hd : decode cc pc = .ok (.putfield 204, 3)) (hp : pc + 3 = pc') (kk : ∀ S1 : St, Kf S1 = some res → G p l e R s m args below meth c kc ks Q nL D A (wM q n cI cB cZ) S1 pc' lv st) : G p l e R s m args below meth c kc ks Q nL D A (wM q n cI cB cZ) S pc lv (.int v :: .ref (q 0) :: st) := g_put (ty := .int) pc' 0 20 (pF S 20 v) K hin_X7 rfl (by decide) rfl kf_X7_204 tyX7 tyX7_ok nmX7 rfl rfl (by decide +kernel) rfl rfl (Nat.le_of_ble_eq_true rfl) rfl hd hp (kk _ hf)
theorem gf_M_0_21 (pc' : Nat) (K : Ok p s m args c cc nL RX7 D (tyL cI cB cZ) A (wM q n cI cB cZ)) (hd : decode cc pc = .ok (.getfield 216, 3)) (hp : pc + 3 = pc') (kk : G p l e R s m args below meth c kc ks Q nL D A (wM q n cI cB cZ) S pc' lv (.int (S.1 21) :: st)) : G p l e R s m args below meth c kc ks Q nL D A (wM q n cI cB cZ) S pc lv (.ref (q 0) :: st) := g_get pc' 0 21 K hin_X7 rfl (by decide) rfl kf_X7_216 rfl rfl hd hp kk
theorem pf_M_0_21 (pc' : Nat) (K : Ok p s m args c cc nL RX7 D (tyL cI cB cZ) A (wM q n cI cB cZ)) {v : Int32} {Kf : St → Option α} (hf : lett (pF S 21 v) Kf = some res) (hd : decode cc pc = .ok (.putfield 216, 3)) (hp : pc + 3 = pc') (kk : ∀ S1 : St, Kf S1 = some res → G p l e R s m args below meth c kc ks Q nL D A (wM q n cI cB cZ) S1 pc' lv st) : G p l e R s m args below meth c kc ks Q nL D A (wM q n cI cB cZ) S pc lv (.int v :: .ref (q 0) :: st) := g_put (ty := .int) pc' 0 21 (pF S 21 v) K hin_X7 rfl (by decide) rfl kf_X7_216 tyX7 tyX7_ok nmX7 rfl rfl (by decide +kernel) rfl rfl (Nat.le_of_ble_eq_true rfl) rfl hd hp (kk _ hf)
theorem gf_M_0_22 (pc' : Nat) (K : Ok p s m args c cc nL RX7 D (tyL cI cB cZ) A (wM q n cI cB cZ)) (hd : decode cc pc = .ok (.getfield 224, 3)) (hp : pc + 3 = pc') (kk : G p l e R s m args below meth c kc ks Q nL D A (wM q n cI cB cZ) S pc' lv (.int (S.1 22) :: st)) : G p l e R s m args below meth c kc ks Q nL D A (wM q n cI cB cZ) S pc lv (.ref (q 0) :: st) := g_get pc' 0 22 K hin_X7 rfl (by decide) rfl kf_X7_224 rfl rfl hd hp kk
theorem pf_M_0_22 (pc' : Nat) (K : Ok p s m args c cc nL RX7 D (tyL cI cB cZ) A (wM q n cI cB cZ)) {v : Int32} {Kf : St → Option α} (hf : lett (pF S 22 v) Kf = some res) (hd : decode cc pc = .ok (.putfield 224, 3)) (hp : pc + 3 = pc') (kk : ∀ S1 : St, Kf S1 = some res → G p l e R s m args below meth c kc ks Q nL D A (wM q n cI cB cZ) S1 pc' lv st) : G p l e R s m args below meth c kc ks Q nL D A (wM q n cI cB cZ) S pc lv (.int v :: .ref (q 0) :: st) := g_put (ty := .int) pc' 0 22 (pF S 22 v) K hin_X7 rfl (by decide) rfl kf_X7_224 tyX7 tyX7_ok nmX7 rfl rfl (by decide +kernel) rfl rfl (Nat.le_of_ble_eq_true rfl) rfl hd hp (kk _ hf)
theorem gf_M_0_23 (pc' : Nat) (K : Ok p s m args c cc nL RX7 D (tyL cI cB cZ) A (wM q n cI cB cZ)) (hd : decode cc pc = .ok (.getfield 227, 3)) (hp : pc + 3 = pc') (kk : G p l e R s m args below meth c kc ks Q nL D A (wM q n cI cB cZ) S pc' lv (.int (S.1 23) :: st)) : G p l e R s m args below meth c kc ks Q nL D A (wM q n cI cB cZ) S pc lv (.ref (q 0) :: st) := g_get pc' 0 23 K hin_X7 rfl (by decide) rfl kf_X7_227 rfl rfl hd hp kk
theorem pf_M_0_23 (pc' : Nat) (K : Ok p s m args c cc nL RX7 D (tyL cI cB cZ) A (wM q n cI cB cZ)) {v : Int32} {Kf : St → Option α} (hf : lett (pF S 23 v) Kf = some res) (hd : decode cc pc = .ok (.putfield 227, 3)) (hp : pc + 3 = pc') (kk : ∀ S1 : St, Kf S1 = some res → G p l e R s m args below meth c kc ks Q nL D A (wM q n cI cB cZ) S1 pc' lv st) : G p l e R s m args below meth c kc ks Q nL D A (wM q n cI cB cZ) S pc lv (.int v :: .ref (q 0) :: st) := g_put (ty := .int) pc' 0 23 (pF S 23 v) K hin_X7 rfl (by decide) rfl kf_X7_227 tyX7 tyX7_ok nmX7 rfl rfl (by decide +kernel) rfl rfl (Nat.le_of_ble_eq_true rfl) rfl hd hp (kk _ hf)
theorem gf_M_0_24 (pc' : Nat) (K : Ok p s m args c cc nL RX7 D (tyL cI cB cZ) A (wM q n cI cB cZ)) (hd : decode cc pc = .ok (.getfield 51, 3)) (hp : pc + 3 = pc') (kk : G p l e R s m args below meth c kc ks Q nL D A (wM q n cI cB cZ) S pc' lv (.int (S.1 24) :: st)) : G p l e R s m args below meth c kc ks Q nL D A (wM q n cI cB cZ) S pc lv (.ref (q 0) :: st) := g_get pc' 0 24 K hin_X7 rfl (by decide) rfl kf_X7_51 rfl rfl hd hp kk
theorem pf_M_0_24 (pc' : Nat) (K : Ok p s m args c cc nL RX7 D (tyL cI cB cZ) A (wM q n cI cB cZ)) {v : Int32} {Kf : St → Option α} (hf : lett (pF S 24 v) Kf = some res) (hd : decode cc pc = .ok (.putfield 51, 3)) (hp : pc + 3 = pc') (kk : ∀ S1 : St, Kf S1 = some res → G p l e R s m args below meth c kc ks Q nL D A (wM q n cI cB cZ) S1 pc' lv st) : G p l e R s m args below meth c kc ks Q nL D A (wM q n cI cB cZ) S pc lv (.int v :: .ref (q 0) :: st) := g_put (ty := .int) pc' 0 24 (pF S 24 v) K hin_X7 rfl (by decide) rfl kf_X7_51 tyX7 tyX7_ok nmX7 rfl rfl (by decide +kernel) rfl rfl (Nat.le_of_ble_eq_true rfl) rfl hd hp (kk _ hf)
theorem gf_M_0_25 (pc' : Nat) (K : Ok p s m args c cc nL RX7 D (tyL cI cB cZ) A (wM q n cI cB cZ)) (hd : decode cc pc = .ok (.getfield 54, 3)) (hp : pc + 3 = pc') (kk : G p l e R s m args below meth c kc ks Q nL D A (wM q n cI cB cZ) S pc' lv (.int (S.1 25) :: st)) : G p l e R s m args below meth c kc ks Q nL D A (wM q n cI cB cZ) S pc lv (.ref (q 0) :: st) := g_get pc' 0 25 K hin_X7 rfl (by decide) rfl kf_X7_54 rfl rfl hd hp kk
theorem pf_M_0_25 (pc' : Nat) (K : Ok p s m args c cc nL RX7 D (tyL cI cB cZ) A (wM q n cI cB cZ)) {v : Int32} {Kf : St → Option α} (hf : lett (pF S 25 v) Kf = some res) (hd : decode cc pc = .ok (.putfield 54, 3)) (hp : pc + 3 = pc') (kk : ∀ S1 : St, Kf S1 = some res → G p l e R s m args below meth c kc ks Q nL D A (wM q n cI cB cZ) S1 pc' lv st) : G p l e R s m args below meth c kc ks Q nL D A (wM q n cI cB cZ) S pc lv (.int v :: .ref (q 0) :: st) := g_put (ty := .int) pc' 0 25 (pF S 25 v) K hin_X7 rfl (by decide) rfl kf_X7_54 tyX7 tyX7_ok nmX7 rfl rfl (by decide +kernel) rfl rfl (Nat.le_of_ble_eq_true rfl) rfl hd hp (kk _ hf)
theorem gf_M_0_26 (pc' : Nat) (K : Ok p s m args c cc nL RX7 D (tyL cI cB cZ) A (wM q n cI cB cZ)) (hd : decode cc pc = .ok (.getfield 57, 3)) (hp : pc + 3 = pc') (kk : G p l e R s m args below meth c kc ks Q nL D A (wM q n cI cB cZ) S pc' lv (.ref (q 12) :: st)) : G p l e R s m args below meth c kc ks Q nL D A (wM q n cI cB cZ) S pc lv (.ref (q 0) :: st) := g_get pc' 0 26 K hin_X7 rfl (by decide) rfl kf_X7_57 rfl rfl hd hp kk
theorem gf_M_0_27 (pc' : Nat) (K : Ok p s m args c cc nL RX7 D (tyL cI cB cZ) A (wM q n cI cB cZ)) (hd : decode cc pc = .ok (.getfield 60, 3)) (hp : pc + 3 = pc') (kk : G p l e R s m args below meth c kc ks Q nL D A (wM q n cI cB cZ) S pc' lv (.ref (q 13) :: st)) : G p l e R s m args below meth c kc ks Q nL D A (wM q n cI cB cZ) S pc lv (.ref (q 0) :: st) := g_get pc' 0 27 K hin_X7 rfl (by decide) rfl kf_X7_60 rfl rfl hd hp kk
theorem gf_M_0_28 (pc' : Nat) (K : Ok p s m args c cc nL RX7 D (tyL cI cB cZ) A (wM q n cI cB cZ)) (hd : decode cc pc = .ok (.getfield 63, 3)) (hp : pc + 3 = pc') (kk : G p l e R s m args below meth c kc ks Q nL D A (wM q n cI cB cZ) S pc' lv (.ref (q 14) :: st)) : G p l e R s m args below meth c kc ks Q nL D A (wM q n cI cB cZ) S pc lv (.ref (q 0) :: st) := g_get pc' 0 28 K hin_X7 rfl (by decide) rfl kf_X7_63 rfl rfl hd hp kk
theorem gf_M_0_29 (pc' : Nat) (K : Ok p s m args c cc nL RX7 D (tyL cI cB cZ) A (wM q n cI cB cZ)) (hd : decode cc pc = .ok (.getfield 66, 3)) (hp : pc + 3 = pc') (kk : G p l e R s m args below meth c kc ks Q nL D A (wM q n cI cB cZ) S pc' lv (.ref (q 15) :: st)) : G p l e R s m args below meth c kc ks Q nL D A (wM q n cI cB cZ) S pc lv (.ref (q 0) :: st) := g_get pc' 0 29 K hin_X7 rfl (by decide) rfl kf_X7_66 rfl rfl hd hp kk
theorem gf_M_0_30 (pc' : Nat) (K : Ok p s m args c cc nL RX7 D (tyL cI cB cZ) A (wM q n cI cB cZ)) (hd : decode cc pc = .ok (.getfield 245, 3)) (hp : pc + 3 = pc') (kk : G p l e R s m args below meth c kc ks Q nL D A (wM q n cI cB cZ) S pc' lv (.int (S.1 30) :: st)) : G p l e R s m args below meth c kc ks Q nL D A (wM q n cI cB cZ) S pc lv (.ref (q 0) :: st) := g_get pc' 0 30 K hin_X7 rfl (by decide) rfl kf_X7_245 rfl rfl hd hp kk
theorem pf_M_0_30 (pc' : Nat) (K : Ok p s m args c cc nL RX7 D (tyL cI cB cZ) A (wM q n cI cB cZ)) {v : Int32} {Kf : St → Option α} (hf : lett (pF S 30 v) Kf = some res) (hd : decode cc pc = .ok (.putfield 245, 3)) (hp : pc + 3 = pc') (kk : ∀ S1 : St, Kf S1 = some res → G p l e R s m args below meth c kc ks Q nL D A (wM q n cI cB cZ) S1 pc' lv st) : G p l e R s m args below meth c kc ks Q nL D A (wM q n cI cB cZ) S pc lv (.int v :: .ref (q 0) :: st) := g_put (ty := .int) pc' 0 30 (pF S 30 v) K hin_X7 rfl (by decide) rfl kf_X7_245 tyX7 tyX7_ok nmX7 rfl rfl (by decide +kernel) rfl rfl (Nat.le_of_ble_eq_true rfl) rfl hd hp (kk _ hf)
theorem gf_M_0_31 (pc' : Nat) (K : Ok p s m args c cc nL RX7 D (tyL cI cB cZ) A (wM q n cI cB cZ)) (hd : decode cc pc = .ok (.getfield 253, 3)) (hp : pc + 3 = pc') (kk : G p l e R s m args below meth c kc ks Q nL D A (wM q n cI cB cZ) S pc' lv (.int (S.1 31) :: st)) : G p l e R s m args below meth c kc ks Q nL D A (wM q n cI cB cZ) S pc lv (.ref (q 0) :: st) := g_get pc' 0 31 K hin_X7 rfl (by decide) rfl kf_X7_253 rfl rfl hd hp kk
theorem pf_M_0_31 (pc' : Nat) (K : Ok p s m args c cc nL RX7 D (tyL cI cB cZ) A (wM q n cI cB cZ)) {v : Int32} {Kf : St → Option α} (hf : lett (pF S 31 v) Kf = some res) (hd : decode cc pc = .ok (.putfield 253, 3)) (hp : pc + 3 = pc') (kk : ∀ S1 : St, Kf S1 = some res → G p l e R s m args below meth c kc ks Q nL D A (wM q n cI cB cZ) S1 pc' lv st) : G p l e R s m args below meth c kc ks Q nL D A (wM q n cI cB cZ) S pc lv (.int v :: .ref (q 0) :: st) := g_put (ty := .int) pc' 0 31 (pF S 31 v) K hin_X7 rfl (by decide) rfl kf_X7_253 tyX7 tyX7_ok nmX7 rfl rfl (by decide +kernel) rfl rfl (Nat.le_of_ble_eq_true rfl) rfl hd hp (kk _ hf)
theorem gf_M_0_32 (pc' : Nat) (K : Ok p s m args c cc nL RX7 D (tyL cI cB cZ) A (wM q n cI cB cZ)) (hd : decode cc pc = .ok (.getfield 250, 3)) (hp : pc + 3 = pc') (kk : G p l e R s m args below meth c kc ks Q nL D A (wM q n cI cB cZ) S pc' lv (.int (S.1 32) :: st)) : G p l e R s m args below meth c kc ks Q nL D A (wM q n cI cB cZ) S pc lv (.ref (q 0) :: st) := g_get pc' 0 32 K hin_X7 rfl (by decide) rfl kf_X7_250 rfl rfl hd hp kk
theorem pf_M_0_32 (pc' : Nat) (K : Ok p s m args c cc nL RX7 D (tyL cI cB cZ) A (wM q n cI cB cZ)) {v : Int32} {Kf : St → Option α} (hf : lett (pF S 32 v) Kf = some res) (hd : decode cc pc = .ok (.putfield 250, 3)) (hp : pc + 3 = pc') (kk : ∀ S1 : St, Kf S1 = some res → G p l e R s m args below meth c kc ks Q nL D A (wM q n cI cB cZ) S1 pc' lv st) : G p l e R s m args below meth c kc ks Q nL D A (wM q n cI cB cZ) S pc lv (.int v :: .ref (q 0) :: st) := g_put (ty := .int) pc' 0 32 (pF S 32 v) K hin_X7 rfl (by decide) rfl kf_X7_250 tyX7 tyX7_ok nmX7 rfl rfl (by decide +kernel) rfl rfl (Nat.le_of_ble_eq_true rfl) rfl hd hp (kk _ hf)
theorem gf_M_0_33 (pc' : Nat) (K : Ok p s m args c cc nL RX7 D (tyL cI cB cZ) A (wM q n cI cB cZ)) (hd : decode cc pc = .ok (.getfield 69, 3)) (hp : pc + 3 = pc') (kk : G p l e R s m args below meth c kc ks Q nL D A (wM q n cI cB cZ) S pc' lv (.ref (q 16) :: st)) : G p l e R s m args below meth c kc ks Q nL D A (wM q n cI cB cZ) S pc lv (.ref (q 0) :: st) := g_get pc' 0 33 K hin_X7 rfl (by decide) rfl kf_X7_69 rfl rfl hd hp kk
theorem gf_M_0_34 (pc' : Nat) (K : Ok p s m args c cc nL RX7 D (tyL cI cB cZ) A (wM q n cI cB cZ)) (hd : decode cc pc = .ok (.getfield 113, 3)) (hp : pc + 3 = pc') (kk : G p l e R s m args below meth c kc ks Q nL D A (wM q n cI cB cZ) S pc' lv (.int (S.1 34) :: st)) : G p l e R s m args below meth c kc ks Q nL D A (wM q n cI cB cZ) S pc lv (.ref (q 0) :: st) := g_get pc' 0 34 K hin_X7 rfl (by decide) rfl kf_X7_113 rfl rfl hd hp kk
theorem pf_M_0_34 (pc' : Nat) (K : Ok p s m args c cc nL RX7 D (tyL cI cB cZ) A (wM q n cI cB cZ)) {v : Int32} {Kf : St → Option α} (hf : lett (pF S 34 v) Kf = some res) (hd : decode cc pc = .ok (.putfield 113, 3)) (hp : pc + 3 = pc') (kk : ∀ S1 : St, Kf S1 = some res → G p l e R s m args below meth c kc ks Q nL D A (wM q n cI cB cZ) S1 pc' lv st) : G p l e R s m args below meth c kc ks Q nL D A (wM q n cI cB cZ) S pc lv (.int v :: .ref (q 0) :: st) := g_put (ty := .int) pc' 0 34 (pF S 34 v) K hin_X7 rfl (by decide) rfl kf_X7_113 tyX7 tyX7_ok nmX7 rfl rfl (by decide +kernel) rfl rfl (Nat.le_of_ble_eq_true rfl) rfl hd hp (kk _ hf)
theorem gf_M_0_35 (pc' : Nat) (K : Ok p s m args c cc nL RX7 D (tyL cI cB cZ) A (wM q n cI cB cZ)) (hd : decode cc pc = .ok (.getfield 116, 3)) (hp : pc + 3 = pc') (kk : G p l e R s m args below meth c kc ks Q nL D A (wM q n cI cB cZ) S pc' lv (.int (S.1 35) :: st)) : G p l e R s m args below meth c kc ks Q nL D A (wM q n cI cB cZ) S pc lv (.ref (q 0) :: st) := g_get pc' 0 35 K hin_X7 rfl (by decide) rfl kf_X7_116 rfl rfl hd hp kk
theorem pf_M_0_35 (pc' : Nat) (K : Ok p s m args c cc nL RX7 D (tyL cI cB cZ) A (wM q n cI cB cZ)) {v : Int32} {Kf : St → Option α} (hf : lett (pF S 35 v) Kf = some res) (hd : decode cc pc = .ok (.putfield 116, 3)) (hp : pc + 3 = pc') (kk : ∀ S1 : St, Kf S1 = some res → G p l e R s m args below meth c kc ks Q nL D A (wM q n cI cB cZ) S1 pc' lv st) : G p l e R s m args below meth c kc ks Q nL D A (wM q n cI cB cZ) S pc lv (.int v :: .ref (q 0) :: st) := g_put (ty := .int) pc' 0 35 (pF S 35 v) K hin_X7 rfl (by decide) rfl kf_X7_116 tyX7 tyX7_ok nmX7 rfl rfl (by decide +kernel) rfl rfl (Nat.le_of_ble_eq_true rfl) rfl hd hp (kk _ hf)
theorem gf_M_0_36 (pc' : Nat) (K : Ok p s m args c cc nL RX7 D (tyL cI cB cZ) A (wM q n cI cB cZ)) (hd : decode cc pc = .ok (.getfield 119, 3)) (hp : pc + 3 = pc') (kk : G p l e R s m args below meth c kc ks Q nL D A (wM q n cI cB cZ) S pc' lv (.int (S.1 36) :: st)) : G p l e R s m args below meth c kc ks Q nL D A (wM q n cI cB cZ) S pc lv (.ref (q 0) :: st) := g_get pc' 0 36 K hin_X7 rfl (by decide) rfl kf_X7_119 rfl rfl hd hp kk
theorem pf_M_0_36 (pc' : Nat) (K : Ok p s m args c cc nL RX7 D (tyL cI cB cZ) A (wM q n cI cB cZ)) {v : Int32} {Kf : St → Option α} (hf : lett (pF S 36 v) Kf = some res) (hd : decode cc pc = .ok (.putfield 119, 3)) (hp : pc + 3 = pc') (kk : ∀ S1 : St, Kf S1 = some res → G p l e R s m args below meth c kc ks Q nL D A (wM q n cI cB cZ) S1 pc' lv st) : G p l e R s m args below meth c kc ks Q nL D A (wM q n cI cB cZ) S pc lv (.int v :: .ref (q 0) :: st) := g_put (ty := .int) pc' 0 36 (pF S 36 v) K hin_X7 rfl (by decide) rfl kf_X7_119 tyX7 tyX7_ok nmX7 rfl rfl (by decide +kernel) rfl rfl (Nat.le_of_ble_eq_true rfl) rfl hd hp (kk _ hf)
theorem gf_M_0_37 (pc' : Nat) (K : Ok p s m args c cc nL RX7 D (tyL cI cB cZ) A (wM q n cI cB cZ)) (hd : decode cc pc = .ok (.getfield 72, 3)) (hp : pc + 3 = pc') (kk : G p l e R s m args below meth c kc ks Q nL D A (wM q n cI cB cZ) S pc' lv (.ref (q 17) :: st)) : G p l e R s m args below meth c kc ks Q nL D A (wM q n cI cB cZ) S pc lv (.ref (q 0) :: st) := g_get pc' 0 37 K hin_X7 rfl (by decide) rfl kf_X7_72 rfl rfl hd hp kk
theorem gf_M_0_38 (pc' : Nat) (K : Ok p s m args c cc nL RX7 D (tyL cI cB cZ) A (wM q n cI cB cZ)) (hd : decode cc pc = .ok (.getfield 75, 3)) (hp : pc + 3 = pc') (kk : G p l e R s m args below meth c kc ks Q nL D A (wM q n cI cB cZ) S pc' lv (.ref (q 18) :: st)) : G p l e R s m args below meth c kc ks Q nL D A (wM q n cI cB cZ) S pc lv (.ref (q 0) :: st) := g_get pc' 0 38 K hin_X7 rfl (by decide) rfl kf_X7_75 rfl rfl hd hp kk
theorem gf_M_0_39 (pc' : Nat) (K : Ok p s m args c cc nL RX7 D (tyL cI cB cZ) A (wM q n cI cB cZ)) (hd : decode cc pc = .ok (.getfield 78, 3)) (hp : pc + 3 = pc') (kk : G p l e R s m args below meth c kc ks Q nL D A (wM q n cI cB cZ) S pc' lv (.ref (q 19) :: st)) : G p l e R s m args below meth c kc ks Q nL D A (wM q n cI cB cZ) S pc lv (.ref (q 0) :: st) := g_get pc' 0 39 K hin_X7 rfl (by decide) rfl kf_X7_78 rfl rfl hd hp kk
theorem al_M_1 (pc' : Nat) (K : Ok p s m args c cc nL own D (tyL cI cB cZ) A (wM q n cI cB cZ)) {i : Int32} {Kf : Int32 → Option α} (hf : (rd (S.2 1) 12 i).bind Kf = some res) (hd : decode cc pc = .ok (.iaload, 1)) (hp : pc + 1 = pc') (kk : ∀ v : Int32, Kf v = some res → G p l e R s m args below meth c kc ks Q nL D A (wM q n cI cB cZ) S pc' lv (.int v :: st)) : G p l e R s m args below meth c kc ks Q nL D A (wM q n cI cB cZ) S pc lv (.int i :: .ref (q 1) :: st) := g_iald pc' 1 0 K rfl rfl hf hd hp kk
theorem as_M_1 (pc' : Nat) (K : Ok p s m args c cc nL own D (tyL cI cB cZ) A (wM q n cI cB cZ)) {i x : Int32} {Kf : St → Option α} (hf : (wr S 1 12 i x).bind Kf = some res) (hd : decode cc pc = .ok (.iastore, 1)) (hp : pc + 1 = pc') (kk : ∀ S1 : St, Kf S1 = some res → G p l e R s m args below meth c kc ks Q nL D A (wM q n cI cB cZ) S1 pc' lv st) : G p l e R s m args below meth c kc ks Q nL D A (wM q n cI cB cZ) S pc lv (.int x :: .int i :: .ref (q 1) :: st) := g_iast pc' 1 0 1 K rfl rfl (fun _ => rfl) hf hd hp kk
theorem an_M_1 (pc' : Nat) (K : Ok p s m args c cc nL own D (tyL cI cB cZ) A (wM q n cI cB cZ)) (hd : decode cc pc = .ok (.arraylength, 1)) (hp : pc + 1 = pc') (kk : G p l e R s m args below meth c kc ks Q nL D A (wM q n cI cB cZ) S pc' lv (.int (nI 12) :: st)) : G p l e R s m args below meth c kc ks Q nL D A (wM q n cI cB cZ) S pc lv (.ref (q 1) :: st) := g_alen pc' 1 0 (nI 12) K rfl rfl rfl hd hp kk
theorem al_M_2 (pc' : Nat) (K : Ok p s m args c cc nL own D (tyL cI cB cZ) A (wM q n cI cB cZ)) {i : Int32} {Kf : Int32 → Option α} (hf : (rd (S.2 2) 12 i).bind Kf = some res) (hd : decode cc pc = .ok (.iaload, 1)) (hp : pc + 1 = pc') (kk : ∀ v : Int32, Kf v = some res → G p l e R s m args below meth c kc ks Q nL D A (wM q n cI cB cZ) S pc' lv (.int v :: st)) : G p l e R s m args below meth c kc ks Q nL D A (wM q n cI cB cZ) S pc lv (.int i :: .ref (q 2) :: st) := g_iald pc' 2 0 K rfl rfl hf hd hp kk
theorem as_M_2 (pc' : Nat) (K : Ok p s m args c cc nL own D (tyL cI cB cZ) A (wM q n cI cB cZ)) {i x : Int32} {Kf : St → Option α} (hf : (wr S 2 12 i x).bind Kf = some res) (hd : decode cc pc = .ok (.iastore, 1)) (hp : pc + 1 = pc') (kk : ∀ S1 : St, Kf S1 = some res → G p l e R s m args below meth c kc ks Q nL D A (wM q n cI cB cZ) S1 pc' lv st) : G p l e R s m args below meth c kc ks Q nL D A (wM q n cI cB cZ) S pc lv (.int x :: .int i :: .ref (q 2) :: st) := g_iast pc' 2 0 2 K rfl rfl (fun _ => rfl) hf hd hp kk
theorem an_M_2 (pc' : Nat) (K : Ok p s m args c cc nL own D (tyL cI cB cZ) A (wM q n cI cB cZ)) (hd : decode cc pc = .ok (.arraylength, 1)) (hp : pc + 1 = pc') (kk : G p l e R s m args below meth c kc ks Q nL D A (wM q n cI cB cZ) S pc' lv (.int (nI 12) :: st)) : G p l e R s m args below meth c kc ks Q nL D A (wM q n cI cB cZ) S pc lv (.ref (q 2) :: st) := g_alen pc' 2 0 (nI 12) K rfl rfl rfl hd hp kk
theorem al_M_3 (pc' : Nat) (K : Ok p s m args c cc nL own D (tyL cI cB cZ) A (wM q n cI cB cZ)) {i : Int32} {Kf : Int32 → Option α} (hf : (rd (S.2 3) 10 i).bind Kf = some res) (hd : decode cc pc = .ok (.iaload, 1)) (hp : pc + 1 = pc') (kk : ∀ v : Int32, Kf v = some res → G p l e R s m args below meth c kc ks Q nL D A (wM q n cI cB cZ) S pc' lv (.int v :: st)) : G p l e R s m args below meth c kc ks Q nL D A (wM q n cI cB cZ) S pc lv (.int i :: .ref (q 3) :: st) := g_iald pc' 3 0 K rfl rfl hf hd hp kk
theorem as_M_3 (pc' : Nat) (K : Ok p s m args c cc nL own D (tyL cI cB cZ) A (wM q n cI cB cZ)) {i x : Int32} {Kf : St → Option α} (hf : (wr S 3 10 i x).bind Kf = some res) (hd : decode cc pc = .ok (.iastore, 1)) (hp : pc + 1 = pc') (kk : ∀ S1 : St, Kf S1 = some res → G p l e R s m args below meth c kc ks Q nL D A (wM q n cI cB cZ) S1 pc' lv st) : G p l e R s m args below meth c kc ks Q nL D A (wM q n cI cB cZ) S pc lv (.int x :: .int i :: .ref (q 3) :: st) := g_iast pc' 3 0 3 K rfl rfl (fun _ => rfl) hf hd hp kk
theorem an_M_3 (pc' : Nat) (K : Ok p s m args c cc nL own D (tyL cI cB cZ) A (wM q n cI cB cZ)) (hd : decode cc pc = .ok (.arraylength, 1)) (hp : pc + 1 = pc') (kk : G p l e R s m args below meth c kc ks Q nL D A (wM q n cI cB cZ) S pc' lv (.int (nI 10) :: st)) : G p l e R s m args below meth c kc ks Q nL D A (wM q n cI cB cZ) S pc lv (.ref (q 3) :: st) := g_alen pc' 3 0 (nI 10) K rfl rfl rfl hd hp kk
theorem al_M_4 (pc' : Nat) (K : Ok p s m args c cc nL own D (tyL cI cB cZ) A (wM q n cI cB cZ)) {i : Int32} {Kf : Int32 → Option α} (hf : (rd (S.2 4) 6 i).bind Kf = some res) (hd : decode cc pc = .ok (.iaload, 1)) (hp : pc + 1 = pc') (kk : ∀ v : Int32, Kf v = some res → G p l e R s m args below meth c kc ks Q nL D A (wM q n cI cB cZ) S pc' lv (.int v :: st)) : G p l e R s m args below meth c kc ks Q nL D A (wM q n cI cB cZ) S pc lv (.int i :: .ref (q 4) :: st) := g_iald pc' 4 0 K rfl rfl hf hd hp kk
theorem as_M_4 (pc' : Nat) (K : Ok p s m args c cc nL own D (tyL cI cB cZ) A (wM q n cI cB cZ)) {i x : Int32} {Kf : St → Option α} (hf : (wr S 4 6 i x).bind Kf = some res) (hd : decode cc pc = .ok (.iastore, 1)) (hp : pc + 1 = pc') (kk : ∀ S1 : St, Kf S1 = some res → G p l e R s m args below meth c kc ks Q nL D A (wM q n cI cB cZ) S1 pc' lv st) : G p l e R s m args below meth c kc ks Q nL D A (wM q n cI cB cZ) S pc lv (.int x :: .int i :: .ref (q 4) :: st) := g_iast pc' 4 0 4 K rfl rfl (fun _ => rfl) hf hd hp kk
theorem an_M_4 (pc' : Nat) (K : Ok p s m args c cc nL own D (tyL cI cB cZ) A (wM q n cI cB cZ)) (hd : decode cc pc = .ok (.arraylength, 1)) (hp : pc + 1 = pc') (kk : G p l e R s m args below meth c kc ks Q nL D A (wM q n cI cB cZ) S pc' lv (.int (nI 6) :: st)) : G p l e R s m args below meth c kc ks Q nL D A (wM q n cI cB cZ) S pc lv (.ref (q 4) :: st) := g_alen pc' 4 0 (nI 6) K rfl rfl rfl hd hp kk
theorem al_M_5 (pc' : Nat) (K : Ok p s m args c cc nL own D (tyL cI cB cZ) A (wM q n cI cB cZ)) {i : Int32} {Kf : Int32 → Option α} (hf : (rd (S.2 5) 6 i).bind Kf = some res) (hd : decode cc pc = .ok (.iaload, 1)) (hp : pc + 1 = pc') (kk : ∀ v : Int32, Kf v = some res → G p l e R s m args below meth c kc ks Q nL D A (wM q n cI cB cZ) S pc' lv (.int v :: st)) : G p l e R s m args below meth c kc ks Q nL D A (wM q n cI cB cZ) S pc lv (.int i :: .ref (q 5) :: st) := g_iald pc' 5 0 K rfl rfl hf hd hp kk
theorem as_M_5 (pc' : Nat) (K : Ok p s m args c cc nL own D (tyL cI cB cZ) A (wM q n cI cB cZ)) {i x : Int32} {Kf : St → Option α} (hf : (wr S 5 6 i x).bind Kf = some res) (hd : decode cc pc = .ok (.iastore, 1)) (hp : pc + 1 = pc') (kk : ∀ S1 : St, Kf S1 = some res → G p l e R s m args below meth c kc ks Q nL D A (wM q n cI cB cZ) S1 pc' lv st) : G p l e R s m args below meth c kc ks Q nL D A (wM q n cI cB cZ) S pc lv (.int x :: .int i :: .ref (q 5) :: st) := g_iast pc' 5 0 5 K rfl rfl (fun _ => rfl) hf hd hp kk
theorem an_M_5 (pc' : Nat) (K : Ok p s m args c cc nL own D (tyL cI cB cZ) A (wM q n cI cB cZ)) (hd : decode cc pc = .ok (.arraylength, 1)) (hp : pc + 1 = pc') (kk : G p l e R s m args below meth c kc ks Q nL D A (wM q n cI cB cZ) S pc' lv (.int (nI 6) :: st)) : G p l e R s m args below meth c kc ks Q nL D A (wM q n cI cB cZ) S pc lv (.ref (q 5) :: st) := g_alen pc' 5 0 (nI 6) K rfl rfl rfl hd hp kk
theorem al_M_6 (pc' : Nat) (K : Ok p s m args c cc nL own D (tyL cI cB cZ) A (wM q n cI cB cZ)) {i : Int32} {Kf : Int32 → Option α} (hf : (rd (S.2 6) 10 i).bind Kf = some res) (hd : decode cc pc = .ok (.iaload, 1)) (hp : pc + 1 = pc') (kk : ∀ v : Int32, Kf v = some res → G p l e R s m args below meth c kc ks Q nL D A (wM q n cI cB cZ) S pc' lv (.int v :: st)) : G p l e R s m args below meth c kc ks Q nL D A (wM q n cI cB cZ) S pc lv (.int i :: .ref (q 6) :: st) := g_iald pc' 6 0 K rfl rfl hf hd hp kk
theorem as_M_6 (pc' : Nat) (K : Ok p s m args c cc nL own D (tyL cI cB cZ) A (wM q n cI cB cZ)) {i x : Int32} {Kf : St → Option α} (hf : (wr S 6 10 i x).bind Kf = some res) (hd : decode cc pc = .ok (.iastore, 1)) (hp : pc + 1 = pc') (kk : ∀ S1 : St, Kf S1 = some res → G p l e R s m args below meth c kc ks Q nL D A (wM q n cI cB cZ) S1 pc' lv st) : G p l e R s m args below meth c kc ks Q nL D A (wM q n cI cB cZ) S pc lv (.int x :: .int i :: .ref (q 6) :: st) := g_iast pc' 6 0 6 K rfl rfl (fun _ => rfl) hf hd hp kk
theorem an_M_6 (pc' : Nat) (K : Ok p s m args c cc nL own D (tyL cI cB cZ) A (wM q n cI cB cZ)) (hd : decode cc pc = .ok (.arraylength, 1)) (hp : pc + 1 = pc') (kk : G p l e R s m args below meth c kc ks Q nL D A (wM q n cI cB cZ) S pc' lv (.int (nI 10) :: st)) : G p l e R s m args below meth c kc ks Q nL D A (wM q n cI cB cZ) S pc lv (.ref (q 6) :: st) := g_alen pc' 6 0 (nI 10) K rfl rfl rfl hd hp kk
theorem al_M_7 (pc' : Nat) (K : Ok p s m args c cc nL own D (tyL cI cB cZ) A (wM q n cI cB cZ)) {i : Int32} {Kf : Int32 → Option α} (hf : (rd (S.2 7) 30 i).bind Kf = some res) (hd : decode cc pc = .ok (.iaload, 1)) (hp : pc + 1 = pc') (kk : ∀ v : Int32, Kf v = some res → G p l e R s m args below meth c kc ks Q nL D A (wM q n cI cB cZ) S pc' lv (.int v :: st)) : G p l e R s m args below meth c kc ks Q nL D A (wM q n cI cB cZ) S pc lv (.int i :: .ref (q 7) :: st) := g_iald pc' 7 0 K rfl rfl hf hd hp kk
theorem as_M_7 (pc' : Nat) (K : Ok p s m args c cc nL own D (tyL cI cB cZ) A (wM q n cI cB cZ)) {i x : Int32} {Kf : St → Option α} (hf : (wr S 7 30 i x).bind Kf = some res) (hd : decode cc pc = .ok (.iastore, 1)) (hp : pc + 1 = pc') (kk : ∀ S1 : St, Kf S1 = some res → G p l e R s m args below meth c kc ks Q nL D A (wM q n cI cB cZ) S1 pc' lv st) : G p l e R s m args below meth c kc ks Q nL D A (wM q n cI cB cZ) S pc lv (.int x :: .int i :: .ref (q 7) :: st) := g_iast pc' 7 0 7 K rfl rfl (fun _ => rfl) hf hd hp kk
theorem an_M_7 (pc' : Nat) (K : Ok p s m args c cc nL own D (tyL cI cB cZ) A (wM q n cI cB cZ)) (hd : decode cc pc = .ok (.arraylength, 1)) (hp : pc + 1 = pc') (kk : G p l e R s m args below meth c kc ks Q nL D A (wM q n cI cB cZ) S pc' lv (.int (nI 30) :: st)) : G p l e R s m args below meth c kc ks Q nL D A (wM q n cI cB cZ) S pc lv (.ref (q 7) :: st) := g_alen pc' 7 0 (nI 30) K rfl rfl rfl hd hp kk
theorem al_M_8 (pc' : Nat) (K : Ok p s m args c cc nL own D (tyL cI cB cZ) A (wM q n cI cB cZ)) {i : Int32} {Kf : Int32 → Option α} (hf : (rd (S.2 8) 4 i).bind Kf = some res) (hd : decode cc pc = .ok (.iaload, 1)) (hp : pc + 1 = pc') (kk : ∀ v : Int32, Kf v = some res → G p l e R s m args below meth c kc ks Q nL D A (wM q n cI cB cZ) S pc' lv (.int v :: st)) : G p l e R s m args below meth c kc ks Q nL D A (wM q n cI cB cZ) S pc lv (.int i :: .ref (q 8) :: st) := g_iald pc' 8 0 K rfl rfl hf hd hp kk
theorem as_M_8 (pc' : Nat) (K : Ok p s m args c cc nL own D (tyL cI cB cZ) A (wM q n cI cB cZ)) {i x : Int32} {Kf : St → Option α} (hf : (wr S 8 4 i x).bind Kf = some res) (hd : decode cc pc = .ok (.iastore, 1)) (hp : pc + 1 = pc') (kk : ∀ S1 : St, Kf S1 = some res → G p l e R s m args below meth c kc ks Q nL D A (wM q n cI cB cZ) S1 pc' lv st) : G p l e R s m args below meth c kc ks Q nL D A (wM q n cI cB cZ) S pc lv (.int x :: .int i :: .ref (q 8) :: st) := g_iast pc' 8 0 8 K rfl rfl (fun _ => rfl) hf hd hp kk
theorem an_M_8 (pc' : Nat) (K : Ok p s m args c cc nL own D (tyL cI cB cZ) A (wM q n cI cB cZ)) (hd : decode cc pc = .ok (.arraylength, 1)) (hp : pc + 1 = pc') (kk : G p l e R s m args below meth c kc ks Q nL D A (wM q n cI cB cZ) S pc' lv (.int (nI 4) :: st)) : G p l e R s m args below meth c kc ks Q nL D A (wM q n cI cB cZ) S pc lv (.ref (q 8) :: st) := g_alen pc' 8 0 (nI 4) K rfl rfl rfl hd hp kk
theorem al_M_9 (pc' : Nat) (K : Ok p s m args c cc nL own D (tyL cI cB cZ) A (wM q n cI cB cZ)) {i : Int32} {Kf : Int32 → Option α} (hf : (rd (S.2 9) 60 i).bind Kf = some res) (hd : decode cc pc = .ok (.iaload, 1)) (hp : pc + 1 = pc') (kk : ∀ v : Int32, Kf v = some res → G p l e R s m args below meth c kc ks Q nL D A (wM q n cI cB cZ) S pc' lv (.int v :: st)) : G p l e R s m args below meth c kc ks Q nL D A (wM q n cI cB cZ) S pc lv (.int i :: .ref (q 9) :: st) := g_iald pc' 9 0 K rfl rfl hf hd hp kk
theorem as_M_9 (pc' : Nat) (K : Ok p s m args c cc nL own D (tyL cI cB cZ) A (wM q n cI cB cZ)) {i x : Int32} {Kf : St → Option α} (hf : (wr S 9 60 i x).bind Kf = some res) (hd : decode cc pc = .ok (.iastore, 1)) (hp : pc + 1 = pc') (kk : ∀ S1 : St, Kf S1 = some res → G p l e R s m args below meth c kc ks Q nL D A (wM q n cI cB cZ) S1 pc' lv st) : G p l e R s m args below meth c kc ks Q nL D A (wM q n cI cB cZ) S pc lv (.int x :: .int i :: .ref (q 9) :: st) := g_iast pc' 9 0 9 K rfl rfl (fun _ => rfl) hf hd hp kk
theorem an_M_9 (pc' : Nat) (K : Ok p s m args c cc nL own D (tyL cI cB cZ) A (wM q n cI cB cZ)) (hd : decode cc pc = .ok (.arraylength, 1)) (hp : pc + 1 = pc') (kk : G p l e R s m args below meth c kc ks Q nL D A (wM q n cI cB cZ) S pc' lv (.int (nI 60) :: st)) : G p l e R s m args below meth c kc ks Q nL D A (wM q n cI cB cZ) S pc lv (.ref (q 9) :: st) := g_alen pc' 9 0 (nI 60) K rfl rfl rfl hd hp kk
theorem al_M_10 (pc' : Nat) (K : Ok p s m args c cc nL own D (tyL cI cB cZ) A (wM q n cI cB cZ)) {i : Int32} {Kf : Int32 → Option α} (hf : (rd (S.2 10) 60 i).bind Kf = some res) (hd : decode cc pc = .ok (.iaload, 1)) (hp : pc + 1 = pc') (kk : ∀ v : Int32, Kf v = some res → G p l e R s m args below meth c kc ks Q nL D A (wM q n cI cB cZ) S pc' lv (.int v :: st)) : G p l e R s m args below meth c kc ks Q nL D A (wM q n cI cB cZ) S pc lv (.int i :: .ref (q 10) :: st) := g_iald pc' 10 0 K rfl rfl hf hd hp kk
theorem as_M_10 (pc' : Nat) (K : Ok p s m args c cc nL own D (tyL cI cB cZ) A (wM q n cI cB cZ)) {i x : Int32} {Kf : St → Option α} (hf : (wr S 10 60 i x).bind Kf = some res) (hd : decode cc pc = .ok (.iastore, 1)) (hp : pc + 1 = pc') (kk : ∀ S1 : St, Kf S1 = some res → G p l e R s m args below meth c kc ks Q nL D A (wM q n cI cB cZ) S1 pc' lv st) : G p l e R s m args below meth c kc ks Q nL D A (wM q n cI cB cZ) S pc lv (.int x :: .int i :: .ref (q 10) :: st) := g_iast pc' 10 0 10 K rfl rfl (fun _ => rfl) hf hd hp kk
theorem an_M_10 (pc' : Nat) (K : Ok p s m args c cc nL own D (tyL cI cB cZ) A (wM q n cI cB cZ)) (hd : decode cc pc = .ok (.arraylength, 1)) (hp : pc + 1 = pc') (kk : G p l e R s m args below meth c kc ks Q nL D A (wM q n cI cB cZ) S pc' lv (.int (nI 60) :: st)) : G p l e R s m args below meth c kc ks Q nL D A (wM q n cI cB cZ) S pc lv (.ref (q 10) :: st) := g_alen pc' 10 0 (nI 60) K rfl rfl rfl hd hp kk
theorem al_M_11 (pc' : Nat) (K : Ok p s m args c cc nL own D (tyL cI cB cZ) A (wM q n cI cB cZ)) {i : Int32} {Kf : Int32 → Option α} (hf : (rd (S.2 11) 200 i).bind Kf = some res) (hd : decode cc pc = .ok (.baload, 1)) (hp : pc + 1 = pc') (kk : ∀ v : Int32, Kf v = some res → G p l e R s m args below meth c kc ks Q nL D A (wM q n cI cB cZ) S pc' lv (.int v :: st)) : G p l e R s m args below meth c kc ks Q nL D A (wM q n cI cB cZ) S pc lv (.int i :: .ref (q 11) :: st) := g_bald pc' 11 1 K rfl rfl hf hd hp kk
theorem as_M_11 (pc' : Nat) (K : Ok p s m args c cc nL own D (tyL cI cB cZ) A (wM q n cI cB cZ)) {i x : Int32} {Kf : St → Option α} (hf : (wr S 11 200 i (vp_nar .byte x)).bind Kf = some res) (hd : decode cc pc = .ok (.bastore, 1)) (hp : pc + 1 = pc') (kk : ∀ S1 : St, Kf S1 = some res → G p l e R s m args below meth c kc ks Q nL D A (wM q n cI cB cZ) S1 pc' lv st) : G p l e R s m args below meth c kc ks Q nL D A (wM q n cI cB cZ) S pc lv (.int x :: .int i :: .ref (q 11) :: st) := g_bast pc' 11 1 11 K rfl rfl (fun _ => rfl) hf hd hp kk
theorem an_M_11 (pc' : Nat) (K : Ok p s m args c cc nL own D (tyL cI cB cZ) A (wM q n cI cB cZ)) (hd : decode cc pc = .ok (.arraylength, 1)) (hp : pc + 1 = pc') (kk : G p l e R s m args below meth c kc ks Q nL D A (wM q n cI cB cZ) S pc' lv (.int (nI 200) :: st)) : G p l e R s m args below meth c kc ks Q nL D A (wM q n cI cB cZ) S pc lv (.ref (q 11) :: st) := g_alen pc' 11 1 (nI 200) K rfl rfl rfl hd hp kk
theorem al_M_12 (pc' : Nat) (K : Ok p s m args c cc nL own D (tyL cI cB cZ) A (wM q n cI cB cZ)) {i : Int32} {Kf : Int32 → Option α} (hf : (rd (S.2 12) 6 i).bind Kf = some res) (hd : decode cc pc = .ok (.iaload, 1)) (hp : pc + 1 = pc') (kk : ∀ v : Int32, Kf v = some res → G p l e R s m args below meth c kc ks Q nL D A (wM q n cI cB cZ) S pc' lv (.int v :: st)) : G p l e R s m args below meth c kc ks Q nL D A (wM q n cI cB cZ) S pc lv (.int i :: .ref (q 12) :: st) := g_iald pc' 12 0 K rfl rfl hf hd hp kk
theorem as_M_12 (pc' : Nat) (K : Ok p s m args c cc nL own D (tyL cI cB cZ) A (wM q n cI cB cZ)) {i x : Int32} {Kf : St → Option α} (hf : (wr S 12 6 i x).bind Kf = some res) (hd : decode cc pc = .ok (.iastore, 1)) (hp : pc + 1 = pc') (kk : ∀ S1 : St, Kf S1 = some res → G p l e R s m args below meth c kc ks Q nL D A (wM q n cI cB cZ) S1 pc' lv st) : G p l e R s m args below meth c kc ks Q nL D A (wM q n cI cB cZ) S pc lv (.int x :: .int i :: .ref (q 12) :: st) := g_iast pc' 12 0 12 K rfl rfl (fun _ => rfl) hf hd hp kk
theorem an_M_12 (pc' : Nat) (K : Ok p s m args c cc nL own D (tyL cI cB cZ) A (wM q n cI cB cZ)) (hd : decode cc pc = .ok (.arraylength, 1)) (hp : pc + 1 = pc') (kk : G p l e R s m args below meth c kc ks Q nL D A (wM q n cI cB cZ) S pc' lv (.int (nI 6) :: st)) : G p l e R s m args below meth c kc ks Q nL D A (wM q n cI cB cZ) S pc lv (.ref (q 12) :: st) := g_alen pc' 12 0 (nI 6) K rfl rfl rfl hd hp kk
theorem al_M_13 (pc' : Nat) (K : Ok p s m args c cc nL own D (tyL cI cB cZ) A (wM q n cI cB cZ)) {i : Int32} {Kf : Int32 → Option α} (hf : (rd (S.2 13) 6 i).bind Kf = some res) (hd : decode cc pc = .ok (.iaload, 1)) (hp : pc + 1 = pc') (kk : ∀ v : Int32, Kf v = some res → G p l e R s m args below meth c kc ks Q nL D A (wM q n cI cB cZ) S pc' lv (.int v :: st)) : G p l e R s m args below meth c kc ks Q nL D A (wM q n cI cB cZ) S pc lv (.int i :: .ref (q 13) :: st) := g_iald pc' 13 0 K rfl rfl hf hd hp kk
theorem as_M_13 (pc' : Nat) (K : Ok p s m args c cc nL own D (tyL cI cB cZ) A (wM q n cI cB cZ)) {i x : Int32} {Kf : St → Option α} (hf : (wr S 13 6 i x).bind Kf = some res) (hd : decode cc pc = .ok (.iastore, 1)) (hp : pc + 1 = pc') (kk : ∀ S1 : St, Kf S1 = some res → G p l e R s m args below meth c kc ks Q nL D A (wM q n cI cB cZ) S1 pc' lv st) : G p l e R s m args below meth c kc ks Q nL D A (wM q n cI cB cZ) S pc lv (.int x :: .int i :: .ref (q 13) :: st) := g_iast pc' 13 0 13 K rfl rfl (fun _ => rfl) hf hd hp kk
theorem an_M_13 (pc' : Nat) (K : Ok p s m args c cc nL own D (tyL cI cB cZ) A (wM q n cI cB cZ)) (hd : decode cc pc = .ok (.arraylength, 1)) (hp : pc + 1 = pc') (kk : G p l e R s m args below meth c kc ks Q nL D A (wM q n cI cB cZ) S pc' lv (.int (nI 6) :: st)) : G p l e R s m args below meth c kc ks Q nL D A (wM q n cI cB cZ) S pc lv (.ref (q 13) :: st) := g_alen pc' 13 0 (nI 6) K rfl rfl rfl hd hp kk
theorem al_M_14 (pc' : Nat) (K : Ok p s m args c cc nL own D (tyL cI cB cZ) A (wM q n cI cB cZ)) {i : Int32} {Kf : Int32 → Option α} (hf : (rd (S.2 14) 6 i).bind Kf = some res) (hd : decode cc pc = .ok (.iaload, 1)) (hp : pc + 1 = pc') (kk : ∀ v : Int32, Kf v = some res → G p l e R s m args below meth c kc ks Q nL D A (wM q n cI cB cZ) S pc' lv (.int v :: st)) : G p l e R s m args below meth c kc ks Q nL D A (wM q n cI cB cZ) S pc lv (.int i :: .ref (q 14) :: st) := g_iald pc' 14 0 K rfl rfl hf hd hp kk
theorem as_M_14 (pc' : Nat) (K : Ok p s m args c cc nL own D (tyL cI cB cZ) A (wM q n cI cB cZ)) {i x : Int32} {Kf : St → Option α} (hf : (wr S 14 6 i x).bind Kf = some res) (hd : decode cc pc = .ok (.iastore, 1)) (hp : pc + 1 = pc') (kk : ∀ S1 : St, Kf S1 = some res → G p l e R s m args below meth c kc ks Q nL D A (wM q n cI cB cZ) S1 pc' lv st) : G p l e R s m args below meth c kc ks Q nL D A (wM q n cI cB cZ) S pc lv (.int x :: .int i :: .ref (q 14) :: st) := g_iast pc' 14 0 14 K rfl rfl (fun _ => rfl) hf hd hp kk
theorem an_M_14 (pc' : Nat) (K : Ok p s m args c cc nL own D (tyL cI cB cZ) A (wM q n cI cB cZ)) (hd : decode cc pc = .ok (.arraylength, 1)) (hp : pc + 1 = pc') (kk : G p l e R s m args below meth c kc ks Q nL D A (wM q n cI cB cZ) S pc' lv (.int (nI 6) :: st)) : G p l e R s m args below meth c kc ks Q nL D A (wM q n cI cB cZ) S pc lv (.ref (q 14) :: st) := g_alen pc' 14 0 (nI 6) K rfl rfl rfl hd hp kk
theorem al_M_15 (pc' : Nat) (K : Ok p s m args c cc nL own D (tyL cI cB cZ) A (wM q n cI cB cZ)) {i : Int32} {Kf : Int32 → Option α} (hf : (rd (S.2 15) 6 i).bind Kf = some res) (hd : decode cc pc = .ok (.iaload, 1)) (hp : pc + 1 = pc') (kk : ∀ v : Int32, Kf v = some res → G p l e R s m args below meth c kc ks Q nL D A (wM q n cI cB cZ) S pc' lv (.int v :: st)) : G p l e R s m args below meth c kc ks Q nL D A (wM q n cI cB cZ) S pc lv (.int i :: .ref (q 15) :: st) := g_iald pc' 15 0 K rfl rfl hf hd hp kk
theorem as_M_15 (pc' : Nat) (K : Ok p s m args c cc nL own D (tyL cI cB cZ) A (wM q n cI cB cZ)) {i x : Int32} {Kf : St → Option α} (hf : (wr S 15 6 i x).bind Kf = some res) (hd : decode cc pc = .ok (.iastore, 1)) (hp : pc + 1 = pc') (kk : ∀ S1 : St, Kf S1 = some res → G p l e R s m args below meth c kc ks Q nL D A (wM q n cI cB cZ) S1 pc' lv st) : G p l e R s m args below meth c kc ks Q nL D A (wM q n cI cB cZ) S pc lv (.int x :: .int i :: .ref (q 15) :: st) := g_iast pc' 15 0 15 K rfl rfl (fun _ => rfl) hf hd hp kk
theorem an_M_15 (pc' : Nat) (K : Ok p s m args c cc nL own D (tyL cI cB cZ) A (wM q n cI cB cZ)) (hd : decode cc pc = .ok (.arraylength, 1)) (hp : pc + 1 = pc') (kk : G p l e R s m args below meth c kc ks Q nL D A (wM q n cI cB cZ) S pc' lv (.int (nI 6) :: st)) : G p l e R s m args below meth c kc ks Q nL D A (wM q n cI cB cZ) S pc lv (.ref (q 15) :: st) := g_alen pc' 15 0 (nI 6) K rfl rfl rfl hd hp kk
theorem al_M_16 (pc' : Nat) (K : Ok p s m args c cc nL own D (tyL cI cB cZ) A (wM q n cI cB cZ)) {i : Int32} {Kf : Int32 → Option α} (hf : (rd (S.2 16) 120 i).bind Kf = some res) (hd : decode cc pc = .ok (.iaload, 1)) (hp : pc + 1 = pc') (kk : ∀ v : Int32, Kf v = some res → G p l e R s m args below meth c kc ks Q nL D A (wM q n cI cB cZ) S pc' lv (.int v :: st)) : G p l e R s m args below meth c kc ks Q nL D A (wM q n cI cB cZ) S pc lv (.int i :: .ref (q 16) :: st) := g_iald pc' 16 0 K rfl rfl hf hd hp kk
theorem as_M_16 (pc' : Nat) (K : Ok p s m args c cc nL own D (tyL cI cB cZ) A (wM q n cI cB cZ)) {i x : Int32} {Kf : St → Option α} (hf : (wr S 16 120 i x).bind Kf = some res) (hd : decode cc pc = .ok (.iastore, 1)) (hp : pc + 1 = pc') (kk : ∀ S1 : St, Kf S1 = some res → G p l e R s m args below meth c kc ks Q nL D A (wM q n cI cB cZ) S1 pc' lv st) : G p l e R s m args below meth c kc ks Q nL D A (wM q n cI cB cZ) S pc lv (.int x :: .int i :: .ref (q 16) :: st) := g_iast pc' 16 0 16 K rfl rfl (fun _ => rfl) hf hd hp kk
theorem an_M_16 (pc' : Nat) (K : Ok p s m args c cc nL own D (tyL cI cB cZ) A (wM q n cI cB cZ)) (hd : decode cc pc = .ok (.arraylength, 1)) (hp : pc + 1 = pc') (kk : G p l e R s m args below meth c kc ks Q nL D A (wM q n cI cB cZ) S pc' lv (.int (nI 120) :: st)) : G p l e R s m args below meth c kc ks Q nL D A (wM q n cI cB cZ) S pc lv (.ref (q 16) :: st) := g_alen pc' 16 0 (nI 120) K rfl rfl rfl hd hp kk
theorem al_M_17 (pc' : Nat) (K : Ok p s m args c cc nL own D (tyL cI cB cZ) A (wM q n cI cB cZ)) {i : Int32} {Kf : Int32 → Option α} (hf : (rd (S.2 17) 10 i).bind Kf = some res) (hd : decode cc pc = .ok (.iaload, 1)) (hp : pc + 1 = pc') (kk : ∀ v : Int32, Kf v = some res → G p l e R s m args below meth c kc ks Q nL D A (wM q n cI cB cZ) S pc' lv (.int v :: st)) : G p l e R s m args below meth c kc ks Q nL D A (wM q n cI cB cZ) S pc lv (.int i :: .ref (q 17) :: st) := g_iald pc' 17 0 K rfl rfl hf hd hp kk
theorem as_M_17 (pc' : Nat) (K : Ok p s m args c cc nL own D (tyL cI cB cZ) A (wM q n cI cB cZ)) {i x : Int32} {Kf : St → Option α} (hf : (wr S 17 10 i x).bind Kf = some res) (hd : decode cc pc = .ok (.iastore, 1)) (hp : pc + 1 = pc') (kk : ∀ S1 : St, Kf S1 = some res → G p l e R s m args below meth c kc ks Q nL D A (wM q n cI cB cZ) S1 pc' lv st) : G p l e R s m args below meth c kc ks Q nL D A (wM q n cI cB cZ) S pc lv (.int x :: .int i :: .ref (q 17) :: st) := g_iast pc' 17 0 17 K rfl rfl (fun _ => rfl) hf hd hp kk
theorem an_M_17 (pc' : Nat) (K : Ok p s m args c cc nL own D (tyL cI cB cZ) A (wM q n cI cB cZ)) (hd : decode cc pc = .ok (.arraylength, 1)) (hp : pc + 1 = pc') (kk : G p l e R s m args below meth c kc ks Q nL D A (wM q n cI cB cZ) S pc' lv (.int (nI 10) :: st)) : G p l e R s m args below meth c kc ks Q nL D A (wM q n cI cB cZ) S pc lv (.ref (q 17) :: st) := g_alen pc' 17 0 (nI 10) K rfl rfl rfl hd hp kk
theorem al_M_18 (pc' : Nat) (K : Ok p s m args c cc nL own D (tyL cI cB cZ) A (wM q n cI cB cZ)) {i : Int32} {Kf : Int32 → Option α} (hf : (rd (S.2 18) 3311 i).bind Kf = some res) (hd : decode cc pc = .ok (.iaload, 1)) (hp : pc + 1 = pc') (kk : ∀ v : Int32, Kf v = some res → G p l e R s m args below meth c kc ks Q nL D A (wM q n cI cB cZ) S pc' lv (.int v :: st)) : G p l e R s m args below meth c kc ks Q nL D A (wM q n cI cB cZ) S pc lv (.int i :: .ref (q 18) :: st) := g_iald pc' 18 0 K rfl rfl hf hd hp kk
theorem as_M_18 (pc' : Nat) (K : Ok p s m args c cc nL own D (tyL cI cB cZ) A (wM q n cI cB cZ)) {i x : Int32} {Kf : St → Option α} (hf : (wr S 18 3311 i x).bind Kf = some res) (hd : decode cc pc = .ok (.iastore, 1)) (hp : pc + 1 = pc') (kk : ∀ S1 : St, Kf S1 = some res → G p l e R s m args below meth c kc ks Q nL D A (wM q n cI cB cZ) S1 pc' lv st) : G p l e R s m args below meth c kc ks Q nL D A (wM q n cI cB cZ) S pc lv (.int x :: .int i :: .ref (q 18) :: st) := g_iast pc' 18 0 18 K rfl rfl (fun _ => rfl) hf hd hp kk
theorem an_M_18 (pc' : Nat) (K : Ok p s m args c cc nL own D (tyL cI cB cZ) A (wM q n cI cB cZ)) (hd : decode cc pc = .ok (.arraylength, 1)) (hp : pc + 1 = pc') (kk : G p l e R s m args below meth c kc ks Q nL D A (wM q n cI cB cZ) S pc' lv (.int (nI 3311) :: st)) : G p l e R s m args below meth c kc ks Q nL D A (wM q n cI cB cZ) S pc lv (.ref (q 18) :: st) := g_alen pc' 18 0 (nI 3311) K rfl rfl rfl hd hp kk
theorem al_M_19 (pc' : Nat) (K : Ok p s m args c cc nL own D (tyL cI cB cZ) A (wM q n cI cB cZ)) {i : Int32} {Kf : Int32 → Option α} (hf : (rd (S.2 19) 610 i).bind Kf = some res) (hd : decode cc pc = .ok (.iaload, 1)) (hp : pc + 1 = pc') (kk : ∀ v : Int32, Kf v = some res → G p l e R s m args below meth c kc ks Q nL D A (wM q n cI cB cZ) S pc' lv (.int v :: st)) : G p l e R s m args below meth c kc ks Q nL D A (wM q n cI cB cZ) S pc lv (.int i :: .ref (q 19) :: st) := g_iald pc' 19 0 K rfl rfl hf hd hp kk
theorem as_M_19 (pc' : Nat) (K : Ok p s m args c cc nL own D (tyL cI cB cZ) A (wM q n cI cB cZ)) {i x : Int32} {Kf : St → Option α} (hf : (wr S 19 610 i x).bind Kf = some res) (hd : decode cc pc = .ok (.iastore, 1)) (hp : pc + 1 = pc') (kk : ∀ S1 : St, Kf S1 = some res → G p l e R s m args below meth c kc ks Q nL D A (wM q n cI cB cZ) S1 pc' lv st) : G p l e R s m args below meth c kc ks Q nL D A (wM q n cI cB cZ) S pc lv (.int x :: .int i :: .ref (q 19) :: st) := g_iast pc' 19 0 19 K rfl rfl (fun _ => rfl) hf hd hp kk
theorem an_M_19 (pc' : Nat) (K : Ok p s m args c cc nL own D (tyL cI cB cZ) A (wM q n cI cB cZ)) (hd : decode cc pc = .ok (.arraylength, 1)) (hp : pc + 1 = pc') (kk : G p l e R s m args below meth c kc ks Q nL D A (wM q n cI cB cZ) S pc' lv (.int (nI 610) :: st)) : G p l e R s m args below meth c kc ks Q nL D A (wM q n cI cB cZ) S pc lv (.ref (q 19) :: st) := g_alen pc' 19 0 (nI 610) K rfl rfl rfl hd hp kk
end RWM
section CR
variable {p : Program} {l : Launch} {e : Env} {R : Room} {s : State} {m : MethodId} {args : Array Value} {below : List Frame} {meth : Method} {c : Code} {kc ks : Nat} {Q : State → Prop} {nL : Nat} {D : va_G} {A : Nat → Prop} {S : St} {lv : List (Nat × Value)} {st : List Value} {cc : ByteArray} {own : String} {pc : Nat} {α : Type} {res : α} {w : St → va_W} {tys : TY} {F : FT}
theorem g_callVi (pc' c0 : Nat) (rest : List Value) (K : Ok p s m args c cc nL own D tys A w) (hF : Fok F) (hs : F A s) {y : MethodName} {bytes : ByteArray} {maxL fr lo n idx ci b N : Nat} {ret : Option FieldType} {As : List Value} {r : Int32} {S1 : St} {C : String} {T : u_T} {fs : List Value} {st0 : List Value} (hM : Cn l y bytes maxL ret fr lo D tys F w (.ref b :: As) S (some (.int r)) S1) (h1 : Cond.methodLink own idx y ∈ big) (h2 : Cond.instanceMethod y ∈ big) (h3 : Cond.selects C y y ∈ big) (h4 : Cond.initialized C ∈ big) (h5 : Cond.code y bytes maxL ret ∈ big) (h6 : Dsc y C n) (hR : fr + 1 ≤ R.frames ∧ 8 + (maxL + 11) + lo ≤ R.locals ∧ kc ≤ R.cells ∧ ks ≤ R.slots) (hc : vwCl[ci]? = some (C, T, N)) (he : (w S)[c0]? = some (b, .inr (ci, fs))) (hn : As.length = n) (hst : st0 = As.reverse ++ .ref b :: rest) (hW : (rest.map fun v => v.category).sum ≤ 8) (hd : decode cc pc = .ok (.invokevirtual idx, 3)) (hp : pc + 3 = pc') (kk : G p l e R s m args below meth c kc ks Q nL D A w S1 pc' lv (.int r :: rest)) : G p l e R s m args below meth c kc ks Q nL D A w S pc lv st0 := g_callV pc' c0 K hF hs hM h1 h2 h3 h4 h5 h6 hR hc he hn hst hW hd hp kk
theorem g_callVv (pc' c0 : Nat) (rest : List Value) (K : Ok p s m args c cc nL own D tys A w) (hF : Fok F) (hs : F A s) {y : MethodName} {bytes : ByteArray} {maxL fr lo n idx ci b N : Nat} {ret : Option FieldType} {As : List Value} {S1 : St} {C : String} {T : u_T} {fs : List Value} {st0 : List Value} (hM : Cn l y bytes maxL ret fr lo D tys F w (.ref b :: As) S none S1) (h1 : Cond.methodLink own idx y ∈ big) (h2 : Cond.instanceMethod y ∈ big) (h3 : Cond.selects C y y ∈ big) (h4 : Cond.initialized C ∈ big) (h5 : Cond.code y bytes maxL ret ∈ big) (h6 : Dsc y C n) (hR : fr + 1 ≤ R.frames ∧ 8 + (maxL + 11) + lo ≤ R.locals ∧ kc ≤ R.cells ∧ ks ≤ R.slots) (hc : vwCl[ci]? = some (C, T, N)) (he : (w S)[c0]? = some (b, .inr (ci, fs))) (hn : As.length = n) (hst : st0 = As.reverse ++ .ref b :: rest) (hW : (rest.map fun v => v.category).sum ≤ 8) (hd : decode cc pc = .ok (.invokevirtual idx, 3)) (hp : pc + 3 = pc') (kk : G p l e R s m args below meth c kc ks Q nL D A w S1 pc' lv rest) : G p l e R s m args below meth c kc ks Q nL D A w S pc lv st0 := g_callV pc' c0 K hF hs hM h1 h2 h3 h4 h5 h6 hR hc he hn hst hW hd hp kk
theorem g_callSi (pc' : Nat) (rest : List Value) (K : Ok p s m args c cc nL own D tys A w) (hF : Fok F) (hs : F A s) {y : MethodName} {bytes : ByteArray} {maxL fr lo n idx : Nat} {ret : Option FieldType} {As : List Value} {r : Int32} {S1 : St} {C : String} {st0 : List Value} (hM : Cn l y bytes maxL ret fr lo D tys F w As S (some (.int r)) S1) (h1 : Cond.methodLink own idx y ∈ big) (h2 : Cond.static y ∈ big) (h4 : Cond.initialized C ∈ big) (h5 : Cond.code y bytes maxL ret ∈ big) (h6 : Dsc y C n) (hR : fr + 1 ≤ R.frames ∧ 8 + (maxL + 11) + lo ≤ R.locals ∧ kc ≤ R.cells ∧ ks ≤ R.slots) (hn : As.length = n) (hst : st0 = As.reverse ++ rest) (hW : (rest.map fun v => v.category).sum ≤ 8) (hd : decode cc pc = .ok (.invokestatic idx, 3)) (hp : pc + 3 = pc') (kk : G p l e R s m args below meth c kc ks Q nL D A w S1 pc' lv (.int r :: rest)) : G p l e R s m args below meth c kc ks Q nL D A w S pc lv st0 := g_callS pc' K hF hs hM h1 h2 h4 h5 h6 hR hn hst hW hd hp kk
theorem g_callSv (pc' : Nat) (rest : List Value) (K : Ok p s m args c cc nL own D tys A w) (hF : Fok F) (hs : F A s) {y : MethodName} {bytes : ByteArray} {maxL fr lo n idx : Nat} {ret : Option FieldType} {As : List Value} {S1 : St} {C : String} {st0 : List Value} (hM : Cn l y bytes maxL ret fr lo D tys F w As S none S1) (h1 : Cond.methodLink own idx y ∈ big) (h2 : Cond.static y ∈ big) (h4 : Cond.initialized C ∈ big) (h5 : Cond.code y bytes maxL ret ∈ big) (h6 : Dsc y C n) (hR : fr + 1 ≤ R.frames ∧ 8 + (maxL + 11) + lo ≤ R.locals ∧ kc ≤ R.cells ∧ ks ≤ R.slots) (hn : As.length = n) (hst : st0 = As.reverse ++ rest) (hW : (rest.map fun v => v.category).sum ≤ 8) (hd : decode cc pc = .ok (.invokestatic idx, 3)) (hp : pc + 3 = pc') (kk : G p l e R s m args below meth c kc ks Q nL D A w S1 pc' lv rest) : G p l e R s m args below meth c kc ks Q nL D A w S pc lv st0 := g_callS pc' K hF hs hM h1 h2 h4 h5 h6 hR hn hst hW hd hp kk
theorem g_callSNi (pc' : Nat) (rest : List Value) (K : Ok p s m args c cc nL own D tys A w) (hF : Fok F) (hs : F A s) {y : MethodName} {bytes : ByteArray} {maxL fr lo n idx : Nat} {ret : Option FieldType} {As : List Value} {r : Int32} {S1 : St} {C host : String} {st0 : List Value} (hM : Cn l y bytes maxL ret fr lo D tys F w As S (some (.int r)) S1) (h1 : va_Nw (Cond.methodLinkNest own idx y host) s) (h2 : Cond.static y ∈ big) (h4 : Cond.initialized C ∈ big) (h5 : Cond.code y bytes maxL ret ∈ big) (h6 : Dsc y C n) (hR : fr + 1 ≤ R.frames ∧ 8 + (maxL + 11) + lo ≤ R.locals ∧ kc ≤ R.cells ∧ ks ≤ R.slots) (hn : As.length = n) (hst : st0 = As.reverse ++ rest) (hW : (rest.map fun v => v.category).sum ≤ 8) (hd : decode cc pc = .ok (.invokestatic idx, 3)) (hp : pc + 3 = pc') (kk : G p l e R s m args below meth c kc ks Q nL D A w S1 pc' lv (.int r :: rest)) : G p l e R s m args below meth c kc ks Q nL D A w S pc lv st0 := g_callSN pc' K hF hs hM h1 h2 h4 h5 h6 hR hn hst hW hd hp kk
theorem g_callSNv (pc' : Nat) (rest : List Value) (K : Ok p s m args c cc nL own D tys A w) (hF : Fok F) (hs : F A s) {y : MethodName} {bytes : ByteArray} {maxL fr lo n idx : Nat} {ret : Option FieldType} {As : List Value} {S1 : St} {C host : String} {st0 : List Value} (hM : Cn l y bytes maxL ret fr lo D tys F w As S none S1) (h1 : va_Nw (Cond.methodLinkNest own idx y host) s) (h2 : Cond.static y ∈ big) (h4 : Cond.initialized C ∈ big) (h5 : Cond.code y bytes maxL ret ∈ big) (h6 : Dsc y C n) (hR : fr + 1 ≤ R.frames ∧ 8 + (maxL + 11) + lo ≤ R.locals ∧ kc ≤ R.cells ∧ ks ≤ R.slots) (hn : As.length = n) (hst : st0 = As.reverse ++ rest) (hW : (rest.map fun v => v.category).sum ≤ 8) (hd : decode cc pc = .ok (.invokestatic idx, 3)) (hp : pc + 3 = pc') (kk : G p l e R s m args below meth c kc ks Q nL D A w S1 pc' lv rest) : G p l e R s m args below meth c kc ks Q nL D A w S pc lv st0 := g_callSN pc' K hF hs hM h1 h2 h4 h5 h6 hR hn hst hW hd hp kk
end CR
theorem mw_X0_hullCount : Dsc yX0_hullCount RX0 0 := ⟨rfl, by decide +kernel, by decide +kernel, by decide +kernel⟩
theorem mw_X0_cartCount : Dsc yX0_cartCount RX0 0 := ⟨rfl, by decide +kernel, by decide +kernel, by decide +kernel⟩
theorem mw_X0_hasHull : Dsc yX0_hasHull RX0 1 := ⟨rfl, by decide +kernel, by decide +kernel, by decide +kernel⟩
theorem mw_X0_setHull : Dsc yX0_setHull RX0 3 := ⟨rfl, by decide +kernel, by decide +kernel, by decide +kernel⟩
theorem mw_X0_setPull : Dsc yX0_setPull RX0 2 := ⟨rfl, by decide +kernel, by decide +kernel, by decide +kernel⟩
theorem mw_X0_anchorsBelow : Dsc yX0_anchorsBelow RX0 1 := ⟨rfl, by decide +kernel, by decide +kernel, by decide +kernel⟩
theorem mw_X0_addCart : Dsc yX0_addCart RX0 2 := ⟨rfl, by decide +kernel, by decide +kernel, by decide +kernel⟩
theorem mw_X0_dropCarts : Dsc yX0_dropCarts RX0 0 := ⟨rfl, by decide +kernel, by decide +kernel, by decide +kernel⟩
theorem mw_X0_loadOn : Dsc yX0_loadOn RX0 2 := ⟨rfl, by decide +kernel, by decide +kernel, by decide +kernel⟩
theorem mw_X0_leastMargin : Dsc yX0_leastMargin RX0 1 := ⟨rfl, by decide +kernel, by decide +kernel, by decide +kernel⟩
theorem mw_X0_leastEvenGap : Dsc yX0_leastEvenGap RX0 0 := ⟨rfl, by decide +kernel, by decide +kernel, by decide +kernel⟩
theorem mw_X0_findLeastMargin : Dsc yX0_findLeastMargin RX0 1 := ⟨rfl, by decide +kernel, by decide +kernel, by decide +kernel⟩
theorem mw_X0_layLoads : Dsc yX0_layLoads RX0 2 := ⟨rfl, by decide +kernel, by decide +kernel, by decide +kernel⟩
theorem mw_X0_press : Dsc yX0_press RX0 2 := ⟨rfl, by decide +kernel, by decide +kernel, by decide +kernel⟩
theorem mw_X1_shipCount : Dsc yX1_shipCount RX1 0 := ⟨rfl, by decide +kernel, by decide +kernel, by decide +kernel⟩
theorem mw_X1_crosserCount : Dsc yX1_crosserCount RX1 0 := ⟨rfl, by decide +kernel, by decide +kernel, by decide +kernel⟩
theorem mw_X1_addShip : Dsc yX1_addShip RX1 1 := ⟨rfl, by decide +kernel, by decide +kernel, by decide +kernel⟩
theorem mw_X1_addCrosser : Dsc yX1_addCrosser RX1 1 := ⟨rfl, by decide +kernel, by decide +kernel, by decide +kernel⟩
theorem mw_X1_setTimes : Dsc yX1_setTimes RX1 4 := ⟨rfl, by decide +kernel, by decide +kernel, by decide +kernel⟩
theorem mw_X1_leastWaits : Dsc yX1_leastWaits RX1 0 := ⟨rfl, by decide +kernel, by decide +kernel, by decide +kernel⟩
theorem mw_X1_openingOfBest : Dsc yX1_openingOfBest RX1 2 := ⟨rfl, by decide +kernel, by decide +kernel, by decide +kernel⟩
theorem mw_X1_earliestWaits : Dsc yX1_earliestWaits RX1 0 := ⟨rfl, by decide +kernel, by decide +kernel, by decide +kernel⟩
theorem mw_X1_plan : Dsc yX1_plan RX1 0 := ⟨rfl, by decide +kernel, by decide +kernel, by decide +kernel⟩
theorem mw_X1_walkBest : Dsc yX1_walkBest RX1 0 := ⟨rfl, by decide +kernel, by decide +kernel, by decide +kernel⟩
theorem mw_X1_waitsFrom : Dsc yX1_waitsFrom RX1 2 := ⟨rfl, by decide +kernel, by decide +kernel, by decide +kernel⟩
theorem mw_X1_endOfOpening : Dsc yX1_endOfOpening RX1 2 := ⟨rfl, by decide +kernel, by decide +kernel, by decide +kernel⟩
theorem mw_X1_waitsOfOpening : Dsc yX1_waitsOfOpening RX1 2 := ⟨rfl, by decide +kernel, by decide +kernel, by decide +kernel⟩
theorem mw_X1_crosserWaits : Dsc yX1_crosserWaits RX1 2 := ⟨rfl, by decide +kernel, by decide +kernel, by decide +kernel⟩
theorem mw_X2_foretell : Dsc yX2_foretell RX2 2 := ⟨rfl, by decide +kernel, by decide +kernel, by decide +kernel⟩
theorem mw_X2_setLimits : Dsc yX2_setLimits RX2 2 := ⟨rfl, by decide +kernel, by decide +kernel, by decide +kernel⟩
theorem mw_X2_isBad : Dsc yX2_isBad RX2 1 := ⟨rfl, by decide +kernel, by decide +kernel, by decide +kernel⟩
theorem mw_X2_isOut : Dsc yX2_isOut RX2 1 := ⟨rfl, by decide +kernel, by decide +kernel, by decide +kernel⟩
theorem mw_X2_fewest : Dsc yX2_fewest RX2 0 := ⟨rfl, by decide +kernel, by decide +kernel, by decide +kernel⟩
theorem mw_X2_plan : Dsc yX2_plan RX2 0 := ⟨rfl, by decide +kernel, by decide +kernel, by decide +kernel⟩
theorem mw_X2_chooseDays : Dsc yX2_chooseDays RX2 0 := ⟨rfl, by decide +kernel, by decide +kernel, by decide +kernel⟩
theorem mw_X2_mayBeIn : Dsc yX2_mayBeIn RX2 2 := ⟨rfl, by decide +kernel, by decide +kernel, by decide +kernel⟩
theorem mw_X2_needIfIn : Dsc yX2_needIfIn RX2 1 := ⟨rfl, by decide +kernel, by decide +kernel, by decide +kernel⟩
theorem mw_X2_needIfOut : Dsc yX2_needIfOut RX2 2 := ⟨rfl, by decide +kernel, by decide +kernel, by decide +kernel⟩
theorem mw_X3_size : Dsc yX3_size RX3 0 := ⟨rfl, by decide +kernel, by decide +kernel, by decide +kernel⟩
theorem mw_X3_byteAt : Dsc yX3_byteAt RX3 1 := ⟨rfl, by decide +kernel, by decide +kernel, by decide +kernel⟩
theorem mw_X3_addWord : Dsc yX3_addWord RX3 1 := ⟨rfl, by decide +kernel, by decide +kernel, by decide +kernel⟩
theorem mw_X3_cutTo : Dsc yX3_cutTo RX3 1 := ⟨rfl, by decide +kernel, by decide +kernel, by decide +kernel⟩
theorem mw_X4_tollOf : Dsc yX4_tollOf RX4 1 := ⟨rfl, by decide +kernel, by decide +kernel, by decide +kernel⟩
theorem mw_X4_againOf : Dsc yX4_againOf RX4 1 := ⟨rfl, by decide +kernel, by decide +kernel, by decide +kernel⟩
theorem mw_X4_latestMinute : Dsc yX4_latestMinute RX4 0 := ⟨rfl, by decide +kernel, by decide +kernel, by decide +kernel⟩
theorem mw_X4_paidTogether : Dsc yX4_paidTogether RX4 0 := ⟨rfl, by decide +kernel, by decide +kernel, by decide +kernel⟩
theorem mw_X4_wentFree : Dsc yX4_wentFree RX4 0 := ⟨rfl, by decide +kernel, by decide +kernel, by decide +kernel⟩
theorem mw_X4_adopt : Dsc yX4_adopt RX4 1 := ⟨rfl, by decide +kernel, by decide +kernel, by decide +kernel⟩
theorem mw_X4_charge : Dsc yX4_charge RX4 3 := ⟨rfl, by decide +kernel, by decide +kernel, by decide +kernel⟩
theorem mw_X4_goesFree : Dsc yX4_goesFree RX4 3 := ⟨rfl, by decide +kernel, by decide +kernel, by decide +kernel⟩
theorem mw_X5_clauseCount : Dsc yX5_clauseCount RX5 0 := ⟨rfl, by decide +kernel, by decide +kernel, by decide +kernel⟩
theorem mw_X5_faultNumber : Dsc yX5_faultNumber RX5 0 := ⟨rfl, by decide +kernel, by decide +kernel, by decide +kernel⟩
theorem mw_X5_faultAt : Dsc yX5_faultAt RX5 0 := ⟨rfl, by decide +kernel, by decide +kernel, by decide +kernel⟩
theorem mw_X5_readToll : Dsc yX5_readToll RX5 1 := ⟨rfl, by decide +kernel, by decide +kernel, by decide +kernel⟩
theorem mw_X5_readAgain : Dsc yX5_readAgain RX5 1 := ⟨rfl, by decide +kernel, by decide +kernel, by decide +kernel⟩
theorem mw_X5_read : Dsc yX5_read RX5 1 := ⟨rfl, by decide +kernel, by decide +kernel, by decide +kernel⟩
theorem mw_X5_begin : Dsc yX5_begin RX5 0 := ⟨rfl, by decide +kernel, by decide +kernel, by decide +kernel⟩
theorem mw_X5_nextToken : Dsc yX5_nextToken RX5 1 := ⟨rfl, by decide +kernel, by decide +kernel, by decide +kernel⟩
theorem mw_X5_takeDigits : Dsc yX5_takeDigits RX5 1 := ⟨rfl, by decide +kernel, by decide +kernel, by decide +kernel⟩
theorem mw_X5_takeLetters : Dsc yX5_takeLetters RX5 1 := ⟨rfl, by decide +kernel, by decide +kernel, by decide +kernel⟩
theorem mw_X5_tokenIs : Dsc yX5_tokenIs RX5 2 := ⟨rfl, by decide +kernel, by decide +kernel, by decide +kernel⟩
theorem mw_X5_takeToken : Dsc yX5_takeToken RX5 0 := ⟨rfl, by decide +kernel, by decide +kernel, by decide +kernel⟩
theorem mw_X5_takeClauseWord : Dsc yX5_takeClauseWord RX5 0 := ⟨rfl, by decide +kernel, by decide +kernel, by decide +kernel⟩
theorem mw_X5_takeKind : Dsc yX5_takeKind RX5 0 := ⟨rfl, by decide +kernel, by decide +kernel, by decide +kernel⟩
theorem mw_X5_takeAmount : Dsc yX5_takeAmount RX5 0 := ⟨rfl, by decide +kernel, by decide +kernel, by decide +kernel⟩
theorem mw_X5_takeSemicolon : Dsc yX5_takeSemicolon RX5 0 := ⟨rfl, by decide +kernel, by decide +kernel, by decide +kernel⟩
theorem mw_X5_clauseRow : Dsc yX5_clauseRow RX5 0 := ⟨rfl, by decide +kernel, by decide +kernel, by decide +kernel⟩
theorem mw_X5_isDigit : Dsc yX5_isDigit RX5 1 := ⟨rfl, by decide +kernel, by decide +kernel, by decide +kernel⟩
theorem mw_X5_isLetter : Dsc yX5_isLetter RX5 1 := ⟨rfl, by decide +kernel, by decide +kernel, by decide +kernel⟩
theorem mw_X6_hull : Dsc yX6_hull RX6 3 := ⟨rfl, by decide +kernel, by decide +kernel, by decide +kernel⟩
theorem mw_X6_pull : Dsc yX6_pull RX6 2 := ⟨rfl, by decide +kernel, by decide +kernel, by decide +kernel⟩
theorem mw_X6_drags : Dsc yX6_drags RX6 1 := ⟨rfl, by decide +kernel, by decide +kernel, by decide +kernel⟩
theorem mw_X6_cart : Dsc yX6_cart RX6 2 := ⟨rfl, by decide +kernel, by decide +kernel, by decide +kernel⟩
theorem mw_X6_clear : Dsc yX6_clear RX6 0 := ⟨rfl, by decide +kernel, by decide +kernel, by decide +kernel⟩
theorem mw_X6_pressed : Dsc yX6_pressed RX6 2 := ⟨rfl, by decide +kernel, by decide +kernel, by decide +kernel⟩
theorem mw_X6_worst : Dsc yX6_worst RX6 1 := ⟨rfl, by decide +kernel, by decide +kernel, by decide +kernel⟩
theorem mw_X6_gap : Dsc yX6_gap RX6 0 := ⟨rfl, by decide +kernel, by decide +kernel, by decide +kernel⟩
theorem mw_X6_ship : Dsc yX6_ship RX6 1 := ⟨rfl, by decide +kernel, by decide +kernel, by decide +kernel⟩
theorem mw_X6_crosser : Dsc yX6_crosser RX6 1 := ⟨rfl, by decide +kernel, by decide +kernel, by decide +kernel⟩
theorem mw_X6_times : Dsc yX6_times RX6 4 := ⟨rfl, by decide +kernel, by decide +kernel, by decide +kernel⟩
theorem mw_X6_waits : Dsc yX6_waits RX6 0 := ⟨rfl, by decide +kernel, by decide +kernel, by decide +kernel⟩
theorem mw_X6_opening : Dsc yX6_opening RX6 2 := ⟨rfl, by decide +kernel, by decide +kernel, by decide +kernel⟩
theorem mw_X6_atOnce : Dsc yX6_atOnce RX6 0 := ⟨rfl, by decide +kernel, by decide +kernel, by decide +kernel⟩
theorem mw_X6_level : Dsc yX6_level RX6 3 := ⟨rfl, by decide +kernel, by decide +kernel, by decide +kernel⟩
theorem mw_X6_flood : Dsc yX6_flood RX6 2 := ⟨rfl, by decide +kernel, by decide +kernel, by decide +kernel⟩
theorem mw_X6_out : Dsc yX6_out RX6 0 := ⟨rfl, by decide +kernel, by decide +kernel, by decide +kernel⟩
theorem mw_X6_outOn : Dsc yX6_outOn RX6 2 := ⟨rfl, by decide +kernel, by decide +kernel, by decide +kernel⟩
theorem mw_X6_feed : Dsc yX6_feed RX6 5 := ⟨rfl, by decide +kernel, by decide +kernel, by decide +kernel⟩
theorem mw_X6_end : Dsc yX6_end RX6 1 := ⟨rfl, by decide +kernel, by decide +kernel, by decide +kernel⟩
theorem mw_X6_tolls : Dsc yX6_tolls RX6 0 := ⟨rfl, by decide +kernel, by decide +kernel, by decide +kernel⟩
theorem mw_X6_fault : Dsc yX6_fault RX6 1 := ⟨rfl, by decide +kernel, by decide +kernel, by decide +kernel⟩
theorem mw_X6_pass : Dsc yX6_pass RX6 3 := ⟨rfl, by decide +kernel, by decide +kernel, by decide +kernel⟩
theorem mw_X6_about : Dsc yX6_about RX6 1 := ⟨rfl, by decide +kernel, by decide +kernel, by decide +kernel⟩
theorem mw_X6_within : Dsc yX6_within RX6 3 := ⟨rfl, by decide +kernel, by decide +kernel, by decide +kernel⟩
theorem mw_X7_in : Dsc yX7_in RX7 3 := ⟨rfl, by decide +kernel, by decide +kernel, by decide +kernel⟩
theorem mw_X7_isHull : Dsc yX7_isHull RX7 1 := ⟨rfl, by decide +kernel, by decide +kernel, by decide +kernel⟩
theorem mw_X7_hull : Dsc yX7_hull RX7 3 := ⟨rfl, by decide +kernel, by decide +kernel, by decide +kernel⟩
theorem mw_X7_pull : Dsc yX7_pull RX7 2 := ⟨rfl, by decide +kernel, by decide +kernel, by decide +kernel⟩
theorem mw_X7_drags : Dsc yX7_drags RX7 1 := ⟨rfl, by decide +kernel, by decide +kernel, by decide +kernel⟩
theorem mw_X7_cart : Dsc yX7_cart RX7 2 := ⟨rfl, by decide +kernel, by decide +kernel, by decide +kernel⟩
theorem mw_X7_clear : Dsc yX7_clear RX7 0 := ⟨rfl, by decide +kernel, by decide +kernel, by decide +kernel⟩
theorem mw_X7_placeOf : Dsc yX7_placeOf RX7 3 := ⟨rfl, by decide +kernel, by decide +kernel, by decide +kernel⟩
theorem mw_X7_pressOn : Dsc yX7_pressOn RX7 3 := ⟨rfl, by decide +kernel, by decide +kernel, by decide +kernel⟩
theorem mw_X7_pressed : Dsc yX7_pressed RX7 2 := ⟨rfl, by decide +kernel, by decide +kernel, by decide +kernel⟩
theorem mw_X7_looks : Dsc yX7_looks RX7 1 := ⟨rfl, by decide +kernel, by decide +kernel, by decide +kernel⟩
theorem mw_X7_worst : Dsc yX7_worst RX7 1 := ⟨rfl, by decide +kernel, by decide +kernel, by decide +kernel⟩
theorem mw_X7_gap : Dsc yX7_gap RX7 0 := ⟨rfl, by decide +kernel, by decide +kernel, by decide +kernel⟩
theorem mw_X7_ship : Dsc yX7_ship RX7 1 := ⟨rfl, by decide +kernel, by decide +kernel, by decide +kernel⟩
theorem mw_X7_crosser : Dsc yX7_crosser RX7 1 := ⟨rfl, by decide +kernel, by decide +kernel, by decide +kernel⟩
theorem mw_X7_times : Dsc yX7_times RX7 4 := ⟨rfl, by decide +kernel, by decide +kernel, by decide +kernel⟩
theorem mw_X7_sorts : Dsc yX7_sorts RX7 0 := ⟨rfl, by decide +kernel, by decide +kernel, by decide +kernel⟩
theorem mw_X7_cameBy : Dsc yX7_cameBy RX7 1 := ⟨rfl, by decide +kernel, by decide +kernel, by decide +kernel⟩
theorem mw_X7_endOf : Dsc yX7_endOf RX7 2 := ⟨rfl, by decide +kernel, by decide +kernel, by decide +kernel⟩
theorem mw_X7_waitsOf : Dsc yX7_waitsOf RX7 2 := ⟨rfl, by decide +kernel, by decide +kernel, by decide +kernel⟩
theorem mw_X7_rest : Dsc yX7_rest RX7 2 := ⟨rfl, by decide +kernel, by decide +kernel, by decide +kernel⟩
theorem mw_X7_opens : Dsc yX7_opens RX7 2 := ⟨rfl, by decide +kernel, by decide +kernel, by decide +kernel⟩
theorem mw_X7_bestWaits : Dsc yX7_bestWaits RX7 0 := ⟨rfl, by decide +kernel, by decide +kernel, by decide +kernel⟩
theorem mw_X7_waits : Dsc yX7_waits RX7 0 := ⟨rfl, by decide +kernel, by decide +kernel, by decide +kernel⟩
theorem mw_X7_opening : Dsc yX7_opening RX7 2 := ⟨rfl, by decide +kernel, by decide +kernel, by decide +kernel⟩
theorem mw_X7_atOnce : Dsc yX7_atOnce RX7 0 := ⟨rfl, by decide +kernel, by decide +kernel, by decide +kernel⟩
theorem mw_X7_level : Dsc yX7_level RX7 3 := ⟨rfl, by decide +kernel, by decide +kernel, by decide +kernel⟩
theorem mw_X7_flood : Dsc yX7_flood RX7 2 := ⟨rfl, by decide +kernel, by decide +kernel, by decide +kernel⟩
theorem mw_X7_isBad : Dsc yX7_isBad RX7 1 := ⟨rfl, by decide +kernel, by decide +kernel, by decide +kernel⟩
theorem mw_X7_from : Dsc yX7_from RX7 2 := ⟨rfl, by decide +kernel, by decide +kernel, by decide +kernel⟩
theorem mw_X7_goes : Dsc yX7_goes RX7 3 := ⟨rfl, by decide +kernel, by decide +kernel, by decide +kernel⟩
theorem mw_X7_fewestOut : Dsc yX7_fewestOut RX7 0 := ⟨rfl, by decide +kernel, by decide +kernel, by decide +kernel⟩
theorem mw_X7_out : Dsc yX7_out RX7 0 := ⟨rfl, by decide +kernel, by decide +kernel, by decide +kernel⟩
theorem mw_X7_outOn : Dsc yX7_outOn RX7 2 := ⟨rfl, by decide +kernel, by decide +kernel, by decide +kernel⟩
theorem mw_X7_put : Dsc yX7_put RX7 1 := ⟨rfl, by decide +kernel, by decide +kernel, by decide +kernel⟩
theorem mw_X7_feed : Dsc yX7_feed RX7 5 := ⟨rfl, by decide +kernel, by decide +kernel, by decide +kernel⟩
theorem mw_X7_end : Dsc yX7_end RX7 1 := ⟨rfl, by decide +kernel, by decide +kernel, by decide +kernel⟩
theorem mw_X7_isLetter : Dsc yX7_isLetter RX7 1 := ⟨rfl, by decide +kernel, by decide +kernel, by decide +kernel⟩
theorem mw_X7_wordOf : Dsc yX7_wordOf RX7 1 := ⟨rfl, by decide +kernel, by decide +kernel, by decide +kernel⟩
theorem mw_X7_next : Dsc yX7_next RX7 1 := ⟨rfl, by decide +kernel, by decide +kernel, by decide +kernel⟩
theorem mw_X7_fails : Dsc yX7_fails RX7 1 := ⟨rfl, by decide +kernel, by decide +kernel, by decide +kernel⟩
theorem mw_X7_clause : Dsc yX7_clause RX7 1 := ⟨rfl, by decide +kernel, by decide +kernel, by decide +kernel⟩
theorem mw_X7_tolls : Dsc yX7_tolls RX7 0 := ⟨rfl, by decide +kernel, by decide +kernel, by decide +kernel⟩
theorem mw_X7_fault : Dsc yX7_fault RX7 1 := ⟨rfl, by decide +kernel, by decide +kernel, by decide +kernel⟩
theorem mw_X7_pass : Dsc yX7_pass RX7 3 := ⟨rfl, by decide +kernel, by decide +kernel, by decide +kernel⟩
theorem mw_X7_about : Dsc yX7_about RX7 1 := ⟨rfl, by decide +kernel, by decide +kernel, by decide +kernel⟩
theorem mw_J9_max_7cf53 : Dsc yJ9_max_7cf53 RJ9 2 := ⟨rfl, by decide +kernel, by decide +kernel, by decide +kernel⟩
theorem mw_J9_min_7cf53 : Dsc yJ9_min_7cf53 RJ9 2 := ⟨rfl, by decide +kernel, by decide +kernel, by decide +kernel⟩
theorem mw_J0_length_8abf5 : Dsc yJ0_length_8abf5 RJ0 0 := ⟨rfl, by decide +kernel, by decide +kernel, by decide +kernel⟩
theorem mw_J0_charAt_5068e : Dsc yJ0_charAt_5068e RJ0 1 := ⟨rfl, by decide +kernel, by decide +kernel, by decide +kernel⟩
theorem mw_J0_coder_7d493 : Dsc yJ0_coder_7d493 RJ0 0 := ⟨rfl, by decide +kernel, by decide +kernel, by decide +kernel⟩
theorem mw_J0_isLatin1_aae02 : Dsc yJ0_isLatin1_aae02 RJ0 0 := ⟨rfl, by decide +kernel, by decide +kernel, by decide +kernel⟩
theorem mw_J0_checkIndex_df160 : Dsc yJ0_checkIndex_df160 RJ0 2 := ⟨rfl, by decide +kernel, by decide +kernel, by decide +kernel⟩
theorem mw_J1_charAt_3b067 : Dsc yJ1_charAt_3b067 RJ1 2 := ⟨rfl, by decide +kernel, by decide +kernel, by decide +kernel⟩
theorem mw_J2_getChar_3b067 : Dsc yJ2_getChar_3b067 RJ2 2 := ⟨rfl, by decide +kernel, by decide +kernel, by decide +kernel⟩
theorem mw_J2_length_9d52b : Dsc yJ2_length_9d52b RJ2 1 := ⟨rfl, by decide +kernel, by decide +kernel, by decide +kernel⟩
theorem mw_J2_charAt_3b067 : Dsc yJ2_charAt_3b067 RJ2 2 := ⟨rfl, by decide +kernel, by decide +kernel, by decide +kernel⟩
theorem mw_J2_checkIndex_2214a : Dsc yJ2_checkIndex_2214a RJ2 2 := ⟨rfl, by decide +kernel, by decide +kernel, by decide +kernel⟩
theorem mw_J7_fill_53178 : Dsc yJ7_fill_53178 RJ7 2 := ⟨rfl, by decide +kernel, by decide +kernel, by decide +kernel⟩
theorem mw_J3_checkIndex_8e157 : Dsc yJ3_checkIndex_8e157 RJ3 3 := ⟨rfl, by decide +kernel, by decide +kernel, by decide +kernel⟩
end
