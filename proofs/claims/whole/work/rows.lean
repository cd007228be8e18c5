section
-- ===== PART A: goes FIRST, ahead of the names: the tables' words, and 'selects' of the private methods out of them =====
/-- a private method of a class that the tables say can be made, by its rows of tables_1 -/
def lw_okq (q : MethodName × Nat) : Prop := (q.1.cls ≠ "java/lang/invoke/MethodHandle" ∧ q.1.cls ≠ "java/lang/invoke/VarHandle") ∧ Cond.instantiable q.1.cls q.2 ∈ tables_1 ∧ Cond.privateMethod q.1 ∈ tables_1 ∧ Cond.instanceMethod q.1 ∈ tables_1
theorem lw_p0 : lw_okq (⟨"HiddenDrawers", "putFour", "(I)V"⟩, 14) := ⟨⟨by decide +kernel, by decide +kernel⟩, List.mem_of_getElem? (i := 19) (by decide +kernel), List.mem_of_getElem? (i := 378) (by decide +kernel), List.mem_of_getElem? (i := 379) (by decide +kernel)⟩
theorem lw_p1 : lw_okq (⟨"HiddenDrawers$Tokens", "findOne", "(I)V"⟩, 11) := ⟨⟨by decide +kernel, by decide +kernel⟩, List.mem_of_getElem? (i := 153) (by decide +kernel), List.mem_of_getElem? (i := 405) (by decide +kernel), List.mem_of_getElem? (i := 406) (by decide +kernel)⟩
theorem lw_p2 : lw_okq (⟨"HiddenDrawers$Tokens", "kindOfWord", "()I"⟩, 11) := ⟨⟨by decide +kernel, by decide +kernel⟩, List.mem_of_getElem? (i := 153) (by decide +kernel), List.mem_of_getElem? (i := 415) (by decide +kernel), List.mem_of_getElem? (i := 416) (by decide +kernel)⟩
theorem lw_p3 : lw_okq (⟨"HiddenDrawers$Tokens", "isWord", "(Ljava/lang/String;)Z"⟩, 11) := ⟨⟨by decide +kernel, by decide +kernel⟩, List.mem_of_getElem? (i := 153) (by decide +kernel), List.mem_of_getElem? (i := 420) (by decide +kernel), List.mem_of_getElem? (i := 421) (by decide +kernel)⟩
theorem lw_p4 : lw_okq (⟨"HiddenDrawers$Tokens", "add", "(II)V"⟩, 11) := ⟨⟨by decide +kernel, by decide +kernel⟩, List.mem_of_getElem? (i := 153) (by decide +kernel), List.mem_of_getElem? (i := 486) (by decide +kernel), List.mem_of_getElem? (i := 487) (by decide +kernel)⟩
theorem lw_p5 : lw_okq (⟨"HiddenDrawers$Tokens", "findNumber", "(I)V"⟩, 11) := ⟨⟨by decide +kernel, by decide +kernel⟩, List.mem_of_getElem? (i := 153) (by decide +kernel), List.mem_of_getElem? (i := 493) (by decide +kernel), List.mem_of_getElem? (i := 494) (by decide +kernel)⟩
theorem lw_p6 : lw_okq (⟨"HiddenDrawers$Tokens", "findSign", "(I)V"⟩, 11) := ⟨⟨by decide +kernel, by decide +kernel⟩, List.mem_of_getElem? (i := 153) (by decide +kernel), List.mem_of_getElem? (i := 497) (by decide +kernel), List.mem_of_getElem? (i := 498) (by decide +kernel)⟩
theorem lw_p7 : lw_okq (⟨"HiddenDrawers$Reader", "readClause", "(I)V"⟩, 12) := ⟨⟨by decide +kernel, by decide +kernel⟩, List.mem_of_getElem? (i := 147) (by decide +kernel), List.mem_of_getElem? (i := 508) (by decide +kernel), List.mem_of_getElem? (i := 509) (by decide +kernel)⟩
theorem lw_p8 : lw_okq (⟨"HiddenDrawers$Reader", "blame", "(I)V"⟩, 12) := ⟨⟨by decide +kernel, by decide +kernel⟩, List.mem_of_getElem? (i := 147) (by decide +kernel), List.mem_of_getElem? (i := 512) (by decide +kernel), List.mem_of_getElem? (i := 513) (by decide +kernel)⟩
theorem lw_p9 : lw_okq (⟨"HiddenDrawers$Reader", "readRule", "(I)V"⟩, 12) := ⟨⟨by decide +kernel, by decide +kernel⟩, List.mem_of_getElem? (i := 147) (by decide +kernel), List.mem_of_getElem? (i := 520) (by decide +kernel), List.mem_of_getElem? (i := 521) (by decide +kernel)⟩
theorem lw_p10 : lw_okq (⟨"HiddenDrawers$Reader", "takeOne", "(I)V"⟩, 12) := ⟨⟨by decide +kernel, by decide +kernel⟩, List.mem_of_getElem? (i := 147) (by decide +kernel), List.mem_of_getElem? (i := 524) (by decide +kernel), List.mem_of_getElem? (i := 525) (by decide +kernel)⟩
theorem lw_p11 : lw_okq (⟨"HiddenDrawers$Reader", "addOne", "(II)V"⟩, 12) := ⟨⟨by decide +kernel, by decide +kernel⟩, List.mem_of_getElem? (i := 147) (by decide +kernel), List.mem_of_getElem? (i := 528) (by decide +kernel), List.mem_of_getElem? (i := 529) (by decide +kernel)⟩
theorem lw_p12 : lw_okq (⟨"HiddenDrawers$Reader", "nestIn", "(I)V"⟩, 12) := ⟨⟨by decide +kernel, by decide +kernel⟩, List.mem_of_getElem? (i := 147) (by decide +kernel), List.mem_of_getElem? (i := 539) (by decide +kernel), List.mem_of_getElem? (i := 540) (by decide +kernel)⟩
theorem lw_p13 : lw_okq (⟨"HiddenDrawers$Reader", "putToWait", "(I)V"⟩, 12) := ⟨⟨by decide +kernel, by decide +kernel⟩, List.mem_of_getElem? (i := 147) (by decide +kernel), List.mem_of_getElem? (i := 543) (by decide +kernel), List.mem_of_getElem? (i := 544) (by decide +kernel)⟩
theorem lw_p14 : lw_okq (⟨"HiddenDrawers$Reader", "takeOperator", "(I)V"⟩, 12) := ⟨⟨by decide +kernel, by decide +kernel⟩, List.mem_of_getElem? (i := 147) (by decide +kernel), List.mem_of_getElem? (i := 547) (by decide +kernel), List.mem_of_getElem? (i := 548) (by decide +kernel)⟩
theorem lw_p15 : lw_okq (⟨"HiddenDrawers$Reader", "join", "(I)V"⟩, 12) := ⟨⟨by decide +kernel, by decide +kernel⟩, List.mem_of_getElem? (i := 147) (by decide +kernel), List.mem_of_getElem? (i := 551) (by decide +kernel), List.mem_of_getElem? (i := 552) (by decide +kernel)⟩
def lw_privs_1 : List (MethodName × Nat) := [(⟨"HiddenDrawers", "putFour", "(I)V"⟩, 14), (⟨"HiddenDrawers$Tokens", "findOne", "(I)V"⟩, 11), (⟨"HiddenDrawers$Tokens", "kindOfWord", "()I"⟩, 11), (⟨"HiddenDrawers$Tokens", "isWord", "(Ljava/lang/String;)Z"⟩, 11), (⟨"HiddenDrawers$Tokens", "add", "(II)V"⟩, 11), (⟨"HiddenDrawers$Tokens", "findNumber", "(I)V"⟩, 11), (⟨"HiddenDrawers$Tokens", "findSign", "(I)V"⟩, 11), (⟨"HiddenDrawers$Reader", "readClause", "(I)V"⟩, 12), (⟨"HiddenDrawers$Reader", "blame", "(I)V"⟩, 12), (⟨"HiddenDrawers$Reader", "readRule", "(I)V"⟩, 12), (⟨"HiddenDrawers$Reader", "takeOne", "(I)V"⟩, 12), (⟨"HiddenDrawers$Reader", "addOne", "(II)V"⟩, 12), (⟨"HiddenDrawers$Reader", "nestIn", "(I)V"⟩, 12), (⟨"HiddenDrawers$Reader", "putToWait", "(I)V"⟩, 12), (⟨"HiddenDrawers$Reader", "takeOperator", "(I)V"⟩, 12), (⟨"HiddenDrawers$Reader", "join", "(I)V"⟩, 12)]
theorem lw_r1 : ∀ q ∈ lw_privs_1, lw_okq q := List.forall_mem_cons.mpr ⟨lw_p0, List.forall_mem_cons.mpr ⟨lw_p1, List.forall_mem_cons.mpr ⟨lw_p2, List.forall_mem_cons.mpr ⟨lw_p3, List.forall_mem_cons.mpr ⟨lw_p4, List.forall_mem_cons.mpr ⟨lw_p5, List.forall_mem_cons.mpr ⟨lw_p6, List.forall_mem_cons.mpr ⟨lw_p7, List.forall_mem_cons.mpr ⟨lw_p8, List.forall_mem_cons.mpr ⟨lw_p9, List.forall_mem_cons.mpr ⟨lw_p10, List.forall_mem_cons.mpr ⟨lw_p11, List.forall_mem_cons.mpr ⟨lw_p12, List.forall_mem_cons.mpr ⟨lw_p13, List.forall_mem_cons.mpr ⟨lw_p14, List.forall_mem_cons.mpr ⟨lw_p15, fun _ h => absurd h List.not_mem_nil⟩⟩⟩⟩⟩⟩⟩⟩⟩⟩⟩⟩⟩⟩⟩⟩
theorem lw_p16 : lw_okq (⟨"HiddenDrawers$Reader", "release", "(I)V"⟩, 12) := ⟨⟨by decide +kernel, by decide +kernel⟩, List.mem_of_getElem? (i := 147) (by decide +kernel), List.mem_of_getElem? (i := 558) (by decide +kernel), List.mem_of_getElem? (i := 559) (by decide +kernel)⟩
theorem lw_p17 : lw_okq (⟨"HiddenDrawers$Reader", "closeBracket", "()V"⟩, 12) := ⟨⟨by decide +kernel, by decide +kernel⟩, List.mem_of_getElem? (i := 147) (by decide +kernel), List.mem_of_getElem? (i := 562) (by decide +kernel), List.mem_of_getElem? (i := 563) (by decide +kernel)⟩
theorem lw_p18 : lw_okq (⟨"HiddenDrawers$Reader", "takeWhenPart", "()I"⟩, 12) := ⟨⟨by decide +kernel, by decide +kernel⟩, List.mem_of_getElem? (i := 147) (by decide +kernel), List.mem_of_getElem? (i := 569) (by decide +kernel), List.mem_of_getElem? (i := 570) (by decide +kernel)⟩
theorem lw_p19 : lw_okq (⟨"HiddenDrawers$Reader", "takeNumber", "(I)I"⟩, 12) := ⟨⟨by decide +kernel, by decide +kernel⟩, List.mem_of_getElem? (i := 147) (by decide +kernel), List.mem_of_getElem? (i := 573) (by decide +kernel), List.mem_of_getElem? (i := 574) (by decide +kernel)⟩
theorem lw_p20 : lw_okq (⟨"HiddenDrawers$Reader", "takeToken", "(I)V"⟩, 12) := ⟨⟨by decide +kernel, by decide +kernel⟩, List.mem_of_getElem? (i := 147) (by decide +kernel), List.mem_of_getElem? (i := 577) (by decide +kernel), List.mem_of_getElem? (i := 578) (by decide +kernel)⟩
theorem lw_p21 : lw_okq (⟨"HiddenDrawers$Reader", "readSet", "(I)V"⟩, 12) := ⟨⟨by decide +kernel, by decide +kernel⟩, List.mem_of_getElem? (i := 147) (by decide +kernel), List.mem_of_getElem? (i := 585) (by decide +kernel), List.mem_of_getElem? (i := 586) (by decide +kernel)⟩
theorem lw_p22 : lw_okq (⟨"HiddenDrawers", "isText", "(I)Z"⟩, 14) := ⟨⟨by decide +kernel, by decide +kernel⟩, List.mem_of_getElem? (i := 19) (by decide +kernel), List.mem_of_getElem? (i := 607) (by decide +kernel), List.mem_of_getElem? (i := 608) (by decide +kernel)⟩
theorem lw_p23 : lw_okq (⟨"HiddenDrawers", "rulingLaw", "()LHiddenDrawers$Law;"⟩, 14) := ⟨⟨by decide +kernel, by decide +kernel⟩, List.mem_of_getElem? (i := 19) (by decide +kernel), List.mem_of_getElem? (i := 615) (by decide +kernel), List.mem_of_getElem? (i := 616) (by decide +kernel)⟩
theorem lw_p24 : lw_okq (⟨"HiddenDrawers$Rules", "show", "(I)V"⟩, 4) := ⟨⟨by decide +kernel, by decide +kernel⟩, List.mem_of_getElem? (i := 236) (by decide +kernel), List.mem_of_getElem? (i := 623) (by decide +kernel), List.mem_of_getElem? (i := 624) (by decide +kernel)⟩
theorem lw_p25 : lw_okq (⟨"HiddenDrawers$Rules", "tilted", "(LHiddenDrawers$Law;I)I"⟩, 4) := ⟨⟨by decide +kernel, by decide +kernel⟩, List.mem_of_getElem? (i := 236) (by decide +kernel), List.mem_of_getElem? (i := 627) (by decide +kernel), List.mem_of_getElem? (i := 628) (by decide +kernel)⟩
theorem lw_p26 : lw_okq (⟨"HiddenDrawers$Rules", "setBy", "(LHiddenDrawers$Law;I)V"⟩, 4) := ⟨⟨by decide +kernel, by decide +kernel⟩, List.mem_of_getElem? (i := 236) (by decide +kernel), List.mem_of_getElem? (i := 632) (by decide +kernel), List.mem_of_getElem? (i := 633) (by decide +kernel)⟩
theorem lw_p27 : lw_okq (⟨"HiddenDrawers$Rules", "isPlace", "(II)Z"⟩, 4) := ⟨⟨by decide +kernel, by decide +kernel⟩, List.mem_of_getElem? (i := 236) (by decide +kernel), List.mem_of_getElem? (i := 636) (by decide +kernel), List.mem_of_getElem? (i := 637) (by decide +kernel)⟩
theorem lw_p28 : lw_okq (⟨"HiddenDrawers$Rules", "gather", "()I"⟩, 4) := ⟨⟨by decide +kernel, by decide +kernel⟩, List.mem_of_getElem? (i := 236) (by decide +kernel), List.mem_of_getElem? (i := 640) (by decide +kernel), List.mem_of_getElem? (i := 641) (by decide +kernel)⟩
theorem lw_p29 : lw_okq (⟨"HiddenDrawers$Rules", "pushed", "(LHiddenDrawers$Law;II)I"⟩, 4) := ⟨⟨by decide +kernel, by decide +kernel⟩, List.mem_of_getElem? (i := 236) (by decide +kernel), List.mem_of_getElem? (i := 644) (by decide +kernel), List.mem_of_getElem? (i := 645) (by decide +kernel)⟩
theorem lw_p30 : lw_okq (⟨"HiddenDrawers$Rules", "valueOf", "(LHiddenDrawers$Law;I)I"⟩, 4) := ⟨⟨by decide +kernel, by decide +kernel⟩, List.mem_of_getElem? (i := 236) (by decide +kernel), List.mem_of_getElem? (i := 649) (by decide +kernel), List.mem_of_getElem? (i := 650) (by decide +kernel)⟩
theorem lw_p31 : lw_okq (⟨"HiddenDrawers", "move", "(I)I"⟩, 14) := ⟨⟨by decide +kernel, by decide +kernel⟩, List.mem_of_getElem? (i := 19) (by decide +kernel), List.mem_of_getElem? (i := 669) (by decide +kernel), List.mem_of_getElem? (i := 670) (by decide +kernel)⟩
def lw_privs_2 : List (MethodName × Nat) := [(⟨"HiddenDrawers$Reader", "release", "(I)V"⟩, 12), (⟨"HiddenDrawers$Reader", "closeBracket", "()V"⟩, 12), (⟨"HiddenDrawers$Reader", "takeWhenPart", "()I"⟩, 12), (⟨"HiddenDrawers$Reader", "takeNumber", "(I)I"⟩, 12), (⟨"HiddenDrawers$Reader", "takeToken", "(I)V"⟩, 12), (⟨"HiddenDrawers$Reader", "readSet", "(I)V"⟩, 12), (⟨"HiddenDrawers", "isText", "(I)Z"⟩, 14), (⟨"HiddenDrawers", "rulingLaw", "()LHiddenDrawers$Law;"⟩, 14), (⟨"HiddenDrawers$Rules", "show", "(I)V"⟩, 4), (⟨"HiddenDrawers$Rules", "tilted", "(LHiddenDrawers$Law;I)I"⟩, 4), (⟨"HiddenDrawers$Rules", "setBy", "(LHiddenDrawers$Law;I)V"⟩, 4), (⟨"HiddenDrawers$Rules", "isPlace", "(II)Z"⟩, 4), (⟨"HiddenDrawers$Rules", "gather", "()I"⟩, 4), (⟨"HiddenDrawers$Rules", "pushed", "(LHiddenDrawers$Law;II)I"⟩, 4), (⟨"HiddenDrawers$Rules", "valueOf", "(LHiddenDrawers$Law;I)I"⟩, 4), (⟨"HiddenDrawers", "move", "(I)I"⟩, 14)]
theorem lw_r2 : ∀ q ∈ lw_privs_2, lw_okq q := List.forall_mem_cons.mpr ⟨lw_p16, List.forall_mem_cons.mpr ⟨lw_p17, List.forall_mem_cons.mpr ⟨lw_p18, List.forall_mem_cons.mpr ⟨lw_p19, List.forall_mem_cons.mpr ⟨lw_p20, List.forall_mem_cons.mpr ⟨lw_p21, List.forall_mem_cons.mpr ⟨lw_p22, List.forall_mem_cons.mpr ⟨lw_p23, List.forall_mem_cons.mpr ⟨lw_p24, List.forall_mem_cons.mpr ⟨lw_p25, List.forall_mem_cons.mpr ⟨lw_p26, List.forall_mem_cons.mpr ⟨lw_p27, List.forall_mem_cons.mpr ⟨lw_p28, List.forall_mem_cons.mpr ⟨lw_p29, List.forall_mem_cons.mpr ⟨lw_p30, List.forall_mem_cons.mpr ⟨lw_p31, fun _ h => absurd h List.not_mem_nil⟩⟩⟩⟩⟩⟩⟩⟩⟩⟩⟩⟩⟩⟩⟩⟩
theorem lw_p32 : lw_okq (⟨"HiddenDrawers$Search", "reach", "(IIII)V"⟩, 11) := ⟨⟨by decide +kernel, by decide +kernel⟩, List.mem_of_getElem? (i := 255) (by decide +kernel), List.mem_of_getElem? (i := 735) (by decide +kernel), List.mem_of_getElem? (i := 736) (by decide +kernel)⟩
theorem lw_p33 : lw_okq (⟨"HiddenDrawers$Search", "slotOf", "(II)I"⟩, 11) := ⟨⟨by decide +kernel, by decide +kernel⟩, List.mem_of_getElem? (i := 255) (by decide +kernel), List.mem_of_getElem? (i := 739) (by decide +kernel), List.mem_of_getElem? (i := 740) (by decide +kernel)⟩
theorem lw_p34 : lw_okq (⟨"HiddenDrawers$Search", "actsUntil", "(I)I"⟩, 11) := ⟨⟨by decide +kernel, by decide +kernel⟩, List.mem_of_getElem? (i := 255) (by decide +kernel), List.mem_of_getElem? (i := 745) (by decide +kernel), List.mem_of_getElem? (i := 746) (by decide +kernel)⟩
theorem lw_p35 : lw_okq (⟨"HiddenDrawers$DeadEnds", "reach", "(LHiddenDrawers$Law;I)V"⟩, 8) := ⟨⟨by decide +kernel, by decide +kernel⟩, List.mem_of_getElem? (i := 295) (by decide +kernel), List.mem_of_getElem? (i := 767) (by decide +kernel), List.mem_of_getElem? (i := 768) (by decide +kernel)⟩
theorem lw_p36 : lw_okq (⟨"HiddenDrawers$DeadEnds", "hope", "(I)V"⟩, 8) := ⟨⟨by decide +kernel, by decide +kernel⟩, List.mem_of_getElem? (i := 295) (by decide +kernel), List.mem_of_getElem? (i := 772) (by decide +kernel), List.mem_of_getElem? (i := 773) (by decide +kernel)⟩
theorem lw_p37 : lw_okq (⟨"HiddenDrawers$DeadEnds", "follow", "(LHiddenDrawers$Law;II)V"⟩, 8) := ⟨⟨by decide +kernel, by decide +kernel⟩, List.mem_of_getElem? (i := 295) (by decide +kernel), List.mem_of_getElem? (i := 776) (by decide +kernel), List.mem_of_getElem? (i := 777) (by decide +kernel)⟩
theorem lw_p38 : lw_okq (⟨"HiddenDrawers$DeadEnds", "hopeWhereItCameFrom", "(I)V"⟩, 8) := ⟨⟨by decide +kernel, by decide +kernel⟩, List.mem_of_getElem? (i := 295) (by decide +kernel), List.mem_of_getElem? (i := 781) (by decide +kernel), List.mem_of_getElem? (i := 782) (by decide +kernel)⟩
theorem lw_p39 : lw_okq (⟨"HiddenDrawers$DeadEnds", "hopelessActs", "(LHiddenDrawers$Law;I)I"⟩, 8) := ⟨⟨by decide +kernel, by decide +kernel⟩, List.mem_of_getElem? (i := 295) (by decide +kernel), List.mem_of_getElem? (i := 785) (by decide +kernel), List.mem_of_getElem? (i := 786) (by decide +kernel)⟩
theorem lw_p40 : lw_okq (⟨"HiddenDrawers", "standingBehindTrials", "(I)I"⟩, 14) := ⟨⟨by decide +kernel, by decide +kernel⟩, List.mem_of_getElem? (i := 19) (by decide +kernel), List.mem_of_getElem? (i := 801) (by decide +kernel), List.mem_of_getElem? (i := 802) (by decide +kernel)⟩
theorem lw_p41 : lw_okq (⟨"HiddenDrawers", "answerTo", "(LHiddenDrawers$Law;II)I"⟩, 14) := ⟨⟨by decide +kernel, by decide +kernel⟩, List.mem_of_getElem? (i := 19) (by decide +kernel), List.mem_of_getElem? (i := 805) (by decide +kernel), List.mem_of_getElem? (i := 806) (by decide +kernel)⟩
theorem lw_p42 : lw_okq (⟨"HiddenDrawers", "mostAlike", "(I)I"⟩, 14) := ⟨⟨by decide +kernel, by decide +kernel⟩, List.mem_of_getElem? (i := 19) (by decide +kernel), List.mem_of_getElem? (i := 814) (by decide +kernel), List.mem_of_getElem? (i := 815) (by decide +kernel)⟩
theorem lw_p43 : lw_okq (⟨"HiddenDrawersModel", "four", "(I)V"⟩, 41) := ⟨⟨by decide +kernel, by decide +kernel⟩, List.mem_of_getElem? (i := 862) (by decide +kernel), List.mem_of_getElem? (i := 1007) (by decide +kernel), List.mem_of_getElem? (i := 1008) (by decide +kernel)⟩
theorem lw_p44 : lw_okq (⟨"HiddenDrawersModel", "readText", "()I"⟩, 41) := ⟨⟨by decide +kernel, by decide +kernel⟩, List.mem_of_getElem? (i := 862) (by decide +kernel), List.mem_of_getElem? (i := 1019) (by decide +kernel), List.mem_of_getElem? (i := 1020) (by decide +kernel)⟩
theorem lw_p45 : lw_okq (⟨"HiddenDrawersModel", "nextToken", "()V"⟩, 41) := ⟨⟨by decide +kernel, by decide +kernel⟩, List.mem_of_getElem? (i := 862) (by decide +kernel), List.mem_of_getElem? (i := 1023) (by decide +kernel), List.mem_of_getElem? (i := 1024) (by decide +kernel)⟩
theorem lw_p46 : lw_okq (⟨"HiddenDrawersModel", "byteAt", "(I)I"⟩, 41) := ⟨⟨by decide +kernel, by decide +kernel⟩, List.mem_of_getElem? (i := 862) (by decide +kernel), List.mem_of_getElem? (i := 1027) (by decide +kernel), List.mem_of_getElem? (i := 1028) (by decide +kernel)⟩
theorem lw_p47 : lw_okq (⟨"HiddenDrawersModel", "clause", "()I"⟩, 41) := ⟨⟨by decide +kernel, by decide +kernel⟩, List.mem_of_getElem? (i := 862) (by decide +kernel), List.mem_of_getElem? (i := 1038) (by decide +kernel), List.mem_of_getElem? (i := 1039) (by decide +kernel)⟩
def lw_privs_3 : List (MethodName × Nat) := [(⟨"HiddenDrawers$Search", "reach", "(IIII)V"⟩, 11), (⟨"HiddenDrawers$Search", "slotOf", "(II)I"⟩, 11), (⟨"HiddenDrawers$Search", "actsUntil", "(I)I"⟩, 11), (⟨"HiddenDrawers$DeadEnds", "reach", "(LHiddenDrawers$Law;I)V"⟩, 8), (⟨"HiddenDrawers$DeadEnds", "hope", "(I)V"⟩, 8), (⟨"HiddenDrawers$DeadEnds", "follow", "(LHiddenDrawers$Law;II)V"⟩, 8), (⟨"HiddenDrawers$DeadEnds", "hopeWhereItCameFrom", "(I)V"⟩, 8), (⟨"HiddenDrawers$DeadEnds", "hopelessActs", "(LHiddenDrawers$Law;I)I"⟩, 8), (⟨"HiddenDrawers", "standingBehindTrials", "(I)I"⟩, 14), (⟨"HiddenDrawers", "answerTo", "(LHiddenDrawers$Law;II)I"⟩, 14), (⟨"HiddenDrawers", "mostAlike", "(I)I"⟩, 14), (⟨"HiddenDrawersModel", "four", "(I)V"⟩, 41), (⟨"HiddenDrawersModel", "readText", "()I"⟩, 41), (⟨"HiddenDrawersModel", "nextToken", "()V"⟩, 41), (⟨"HiddenDrawersModel", "byteAt", "(I)I"⟩, 41), (⟨"HiddenDrawersModel", "clause", "()I"⟩, 41)]
theorem lw_r3 : ∀ q ∈ lw_privs_3, lw_okq q := List.forall_mem_cons.mpr ⟨lw_p32, List.forall_mem_cons.mpr ⟨lw_p33, List.forall_mem_cons.mpr ⟨lw_p34, List.forall_mem_cons.mpr ⟨lw_p35, List.forall_mem_cons.mpr ⟨lw_p36, List.forall_mem_cons.mpr ⟨lw_p37, List.forall_mem_cons.mpr ⟨lw_p38, List.forall_mem_cons.mpr ⟨lw_p39, List.forall_mem_cons.mpr ⟨lw_p40, List.forall_mem_cons.mpr ⟨lw_p41, List.forall_mem_cons.mpr ⟨lw_p42, List.forall_mem_cons.mpr ⟨lw_p43, List.forall_mem_cons.mpr ⟨lw_p44, List.forall_mem_cons.mpr ⟨lw_p45, List.forall_mem_cons.mpr ⟨lw_p46, List.forall_mem_cons.mpr ⟨lw_p47, fun _ h => absurd h List.not_mem_nil⟩⟩⟩⟩⟩⟩⟩⟩⟩⟩⟩⟩⟩⟩⟩⟩
theorem lw_p48 : lw_okq (⟨"HiddenDrawersModel", "sortOf", "()I"⟩, 41) := ⟨⟨by decide +kernel, by decide +kernel⟩, List.mem_of_getElem? (i := 862) (by decide +kernel), List.mem_of_getElem? (i := 1042) (by decide +kernel), List.mem_of_getElem? (i := 1043) (by decide +kernel)⟩
theorem lw_p49 : lw_okq (⟨"HiddenDrawersModel", "isWord", "(J)Z"⟩, 41) := ⟨⟨by decide +kernel, by decide +kernel⟩, List.mem_of_getElem? (i := 862) (by decide +kernel), List.mem_of_getElem? (i := 1052) (by decide +kernel), List.mem_of_getElem? (i := 1053) (by decide +kernel)⟩
theorem lw_p50 : lw_okq (⟨"HiddenDrawersModel", "asked", "(II)I"⟩, 41) := ⟨⟨by decide +kernel, by decide +kernel⟩, List.mem_of_getElem? (i := 862) (by decide +kernel), List.mem_of_getElem? (i := 1066) (by decide +kernel), List.mem_of_getElem? (i := 1067) (by decide +kernel)⟩
theorem lw_p51 : lw_okq (⟨"HiddenDrawersModel", "hasWhen", "(I)Z"⟩, 41) := ⟨⟨by decide +kernel, by decide +kernel⟩, List.mem_of_getElem? (i := 862) (by decide +kernel), List.mem_of_getElem? (i := 1070) (by decide +kernel), List.mem_of_getElem? (i := 1071) (by decide +kernel)⟩
theorem lw_p52 : lw_okq (⟨"HiddenDrawersModel", "figure", "(II)I"⟩, 41) := ⟨⟨by decide +kernel, by decide +kernel⟩, List.mem_of_getElem? (i := 862) (by decide +kernel), List.mem_of_getElem? (i := 1074) (by decide +kernel), List.mem_of_getElem? (i := 1075) (by decide +kernel)⟩
theorem lw_p53 : lw_okq (⟨"HiddenDrawersModel", "summed", "()I"⟩, 41) := ⟨⟨by decide +kernel, by decide +kernel⟩, List.mem_of_getElem? (i := 862) (by decide +kernel), List.mem_of_getElem? (i := 1078) (by decide +kernel), List.mem_of_getElem? (i := 1079) (by decide +kernel)⟩
theorem lw_p54 : lw_okq (⟨"HiddenDrawersModel", "goesOn", "()Z"⟩, 41) := ⟨⟨by decide +kernel, by decide +kernel⟩, List.mem_of_getElem? (i := 862) (by decide +kernel), List.mem_of_getElem? (i := 1082) (by decide +kernel), List.mem_of_getElem? (i := 1083) (by decide +kernel)⟩
theorem lw_p55 : lw_okq (⟨"HiddenDrawersModel", "hasParen", "()Z"⟩, 41) := ⟨⟨by decide +kernel, by decide +kernel⟩, List.mem_of_getElem? (i := 862) (by decide +kernel), List.mem_of_getElem? (i := 1086) (by decide +kernel), List.mem_of_getElem? (i := 1087) (by decide +kernel)⟩
theorem lw_p56 : lw_okq (⟨"HiddenDrawersModel", "behindOne", "()I"⟩, 41) := ⟨⟨by decide +kernel, by decide +kernel⟩, List.mem_of_getElem? (i := 862) (by decide +kernel), List.mem_of_getElem? (i := 1090) (by decide +kernel), List.mem_of_getElem? (i := 1091) (by decide +kernel)⟩
theorem lw_p57 : lw_okq (⟨"HiddenDrawersModel", "settle", "(I)V"⟩, 41) := ⟨⟨by decide +kernel, by decide +kernel⟩, List.mem_of_getElem? (i := 862) (by decide +kernel), List.mem_of_getElem? (i := 1094) (by decide +kernel), List.mem_of_getElem? (i := 1095) (by decide +kernel)⟩
theorem lw_p58 : lw_okq (⟨"HiddenDrawersModel", "emit", "(II)V"⟩, 41) := ⟨⟨by decide +kernel, by decide +kernel⟩, List.mem_of_getElem? (i := 862) (by decide +kernel), List.mem_of_getElem? (i := 1098) (by decide +kernel), List.mem_of_getElem? (i := 1099) (by decide +kernel)⟩
theorem lw_p59 : lw_okq (⟨"HiddenDrawersModel", "push", "(I)V"⟩, 41) := ⟨⟨by decide +kernel, by decide +kernel⟩, List.mem_of_getElem? (i := 862) (by decide +kernel), List.mem_of_getElem? (i := 1102) (by decide +kernel), List.mem_of_getElem? (i := 1103) (by decide +kernel)⟩
theorem lw_p60 : lw_okq (⟨"HiddenDrawersModel", "whole", "()V"⟩, 41) := ⟨⟨by decide +kernel, by decide +kernel⟩, List.mem_of_getElem? (i := 862) (by decide +kernel), List.mem_of_getElem? (i := 1106) (by decide +kernel), List.mem_of_getElem? (i := 1107) (by decide +kernel)⟩
theorem lw_p61 : lw_okq (⟨"HiddenDrawersModel", "beginOne", "()I"⟩, 41) := ⟨⟨by decide +kernel, by decide +kernel⟩, List.mem_of_getElem? (i := 862) (by decide +kernel), List.mem_of_getElem? (i := 1110) (by decide +kernel), List.mem_of_getElem? (i := 1111) (by decide +kernel)⟩
theorem lw_p62 : lw_okq (⟨"HiddenDrawersModel", "nameOf", "()I"⟩, 41) := ⟨⟨by decide +kernel, by decide +kernel⟩, List.mem_of_getElem? (i := 862) (by decide +kernel), List.mem_of_getElem? (i := 1114) (by decide +kernel), List.mem_of_getElem? (i := 1115) (by decide +kernel)⟩
theorem lw_p63 : lw_okq (⟨"HiddenDrawersModel", "isBarred", "(I)Z"⟩, 41) := ⟨⟨by decide +kernel, by decide +kernel⟩, List.mem_of_getElem? (i := 862) (by decide +kernel), List.mem_of_getElem? (i := 1122) (by decide +kernel), List.mem_of_getElem? (i := 1123) (by decide +kernel)⟩
def lw_privs_4 : List (MethodName × Nat) := [(⟨"HiddenDrawersModel", "sortOf", "()I"⟩, 41), (⟨"HiddenDrawersModel", "isWord", "(J)Z"⟩, 41), (⟨"HiddenDrawersModel", "asked", "(II)I"⟩, 41), (⟨"HiddenDrawersModel", "hasWhen", "(I)Z"⟩, 41), (⟨"HiddenDrawersModel", "figure", "(II)I"⟩, 41), (⟨"HiddenDrawersModel", "summed", "()I"⟩, 41), (⟨"HiddenDrawersModel", "goesOn", "()Z"⟩, 41), (⟨"HiddenDrawersModel", "hasParen", "()Z"⟩, 41), (⟨"HiddenDrawersModel", "behindOne", "()I"⟩, 41), (⟨"HiddenDrawersModel", "settle", "(I)V"⟩, 41), (⟨"HiddenDrawersModel", "emit", "(II)V"⟩, 41), (⟨"HiddenDrawersModel", "push", "(I)V"⟩, 41), (⟨"HiddenDrawersModel", "whole", "()V"⟩, 41), (⟨"HiddenDrawersModel", "beginOne", "()I"⟩, 41), (⟨"HiddenDrawersModel", "nameOf", "()I"⟩, 41), (⟨"HiddenDrawersModel", "isBarred", "(I)Z"⟩, 41)]
theorem lw_r4 : ∀ q ∈ lw_privs_4, lw_okq q := List.forall_mem_cons.mpr ⟨lw_p48, List.forall_mem_cons.mpr ⟨lw_p49, List.forall_mem_cons.mpr ⟨lw_p50, List.forall_mem_cons.mpr ⟨lw_p51, List.forall_mem_cons.mpr ⟨lw_p52, List.forall_mem_cons.mpr ⟨lw_p53, List.forall_mem_cons.mpr ⟨lw_p54, List.forall_mem_cons.mpr ⟨lw_p55, List.forall_mem_cons.mpr ⟨lw_p56, List.forall_mem_cons.mpr ⟨lw_p57, List.forall_mem_cons.mpr ⟨lw_p58, List.forall_mem_cons.mpr ⟨lw_p59, List.forall_mem_cons.mpr ⟨lw_p60, List.forall_mem_cons.mpr ⟨lw_p61, List.forall_mem_cons.mpr ⟨lw_p62, List.forall_mem_cons.mpr ⟨lw_p63, fun _ h => absurd h List.not_mem_nil⟩⟩⟩⟩⟩⟩⟩⟩⟩⟩⟩⟩⟩⟩⟩⟩
theorem lw_p64 : lw_okq (⟨"HiddenDrawersModel", "either", "()I"⟩, 41) := ⟨⟨by decide +kernel, by decide +kernel⟩, List.mem_of_getElem? (i := 862) (by decide +kernel), List.mem_of_getElem? (i := 1126) (by decide +kernel), List.mem_of_getElem? (i := 1127) (by decide +kernel)⟩
theorem lw_p65 : lw_okq (⟨"HiddenDrawersModel", "asks", "()I"⟩, 41) := ⟨⟨by decide +kernel, by decide +kernel⟩, List.mem_of_getElem? (i := 862) (by decide +kernel), List.mem_of_getElem? (i := 1130) (by decide +kernel), List.mem_of_getElem? (i := 1131) (by decide +kernel)⟩
theorem lw_p66 : lw_okq (⟨"HiddenDrawersModel", "compareOf", "()I"⟩, 41) := ⟨⟨by decide +kernel, by decide +kernel⟩, List.mem_of_getElem? (i := 862) (by decide +kernel), List.mem_of_getElem? (i := 1134) (by decide +kernel), List.mem_of_getElem? (i := 1135) (by decide +kernel)⟩
theorem lw_p67 : lw_okq (⟨"HiddenDrawersModel", "line", "(II)I"⟩, 41) := ⟨⟨by decide +kernel, by decide +kernel⟩, List.mem_of_getElem? (i := 862) (by decide +kernel), List.mem_of_getElem? (i := 1139) (by decide +kernel), List.mem_of_getElem? (i := 1140) (by decide +kernel)⟩
theorem lw_p68 : lw_okq (⟨"HiddenDrawersModel", "placed", "(I)I"⟩, 41) := ⟨⟨by decide +kernel, by decide +kernel⟩, List.mem_of_getElem? (i := 862) (by decide +kernel), List.mem_of_getElem? (i := 1143) (by decide +kernel), List.mem_of_getElem? (i := 1144) (by decide +kernel)⟩
theorem lw_p69 : lw_okq (⟨"HiddenDrawersModel", "setting", "(I)I"⟩, 41) := ⟨⟨by decide +kernel, by decide +kernel⟩, List.mem_of_getElem? (i := 862) (by decide +kernel), List.mem_of_getElem? (i := 1148) (by decide +kernel), List.mem_of_getElem? (i := 1149) (by decide +kernel)⟩
theorem lw_p70 : lw_okq (⟨"HiddenDrawersModel", "standNow", "()V"⟩, 41) := ⟨⟨by decide +kernel, by decide +kernel⟩, List.mem_of_getElem? (i := 862) (by decide +kernel), List.mem_of_getElem? (i := 1167) (by decide +kernel), List.mem_of_getElem? (i := 1168) (by decide +kernel)⟩
theorem lw_p71 : lw_okq (⟨"HiddenDrawersModel", "isPart", "(I)Z"⟩, 41) := ⟨⟨by decide +kernel, by decide +kernel⟩, List.mem_of_getElem? (i := 862) (by decide +kernel), List.mem_of_getElem? (i := 1171) (by decide +kernel), List.mem_of_getElem? (i := 1172) (by decide +kernel)⟩
theorem lw_p72 : lw_okq (⟨"HiddenDrawersModel", "canBe", "(II)Z"⟩, 41) := ⟨⟨by decide +kernel, by decide +kernel⟩, List.mem_of_getElem? (i := 862) (by decide +kernel), List.mem_of_getElem? (i := 1175) (by decide +kernel), List.mem_of_getElem? (i := 1176) (by decide +kernel)⟩
theorem lw_p73 : lw_okq (⟨"HiddenDrawersModel", "isPlace", "(II)Z"⟩, 41) := ⟨⟨by decide +kernel, by decide +kernel⟩, List.mem_of_getElem? (i := 862) (by decide +kernel), List.mem_of_getElem? (i := 1179) (by decide +kernel), List.mem_of_getElem? (i := 1180) (by decide +kernel)⟩
theorem lw_p74 : lw_okq (⟨"HiddenDrawersModel", "name", "(III)V"⟩, 41) := ⟨⟨by decide +kernel, by decide +kernel⟩, List.mem_of_getElem? (i := 862) (by decide +kernel), List.mem_of_getElem? (i := 1183) (by decide +kernel), List.mem_of_getElem? (i := 1184) (by decide +kernel)⟩
theorem lw_p75 : lw_okq (⟨"HiddenDrawersModel", "isSo", "(IIIZ)Z"⟩, 41) := ⟨⟨by decide +kernel, by decide +kernel⟩, List.mem_of_getElem? (i := 862) (by decide +kernel), List.mem_of_getElem? (i := 1187) (by decide +kernel), List.mem_of_getElem? (i := 1188) (by decide +kernel)⟩
theorem lw_p76 : lw_okq (⟨"HiddenDrawersModel", "clausesOf", "(I)I"⟩, 41) := ⟨⟨by decide +kernel, by decide +kernel⟩, List.mem_of_getElem? (i := 862) (by decide +kernel), List.mem_of_getElem? (i := 1191) (by decide +kernel), List.mem_of_getElem? (i := 1192) (by decide +kernel)⟩
theorem lw_p77 : lw_okq (⟨"HiddenDrawersModel", "told", "(III)I"⟩, 41) := ⟨⟨by decide +kernel, by decide +kernel⟩, List.mem_of_getElem? (i := 862) (by decide +kernel), List.mem_of_getElem? (i := 1195) (by decide +kernel), List.mem_of_getElem? (i := 1196) (by decide +kernel)⟩
theorem lw_p78 : lw_okq (⟨"HiddenDrawersModel", "work", "(II)V"⟩, 41) := ⟨⟨by decide +kernel, by decide +kernel⟩, List.mem_of_getElem? (i := 862) (by decide +kernel), List.mem_of_getElem? (i := 1199) (by decide +kernel), List.mem_of_getElem? (i := 1200) (by decide +kernel)⟩
theorem lw_p79 : lw_okq (⟨"HiddenDrawersModel", "keep", "()V"⟩, 41) := ⟨⟨by decide +kernel, by decide +kernel⟩, List.mem_of_getElem? (i := 862) (by decide +kernel), List.mem_of_getElem? (i := 1219) (by decide +kernel), List.mem_of_getElem? (i := 1220) (by decide +kernel)⟩
def lw_privs_5 : List (MethodName × Nat) := [(⟨"HiddenDrawersModel", "either", "()I"⟩, 41), (⟨"HiddenDrawersModel", "asks", "()I"⟩, 41), (⟨"HiddenDrawersModel", "compareOf", "()I"⟩, 41), (⟨"HiddenDrawersModel", "line", "(II)I"⟩, 41), (⟨"HiddenDrawersModel", "placed", "(I)I"⟩, 41), (⟨"HiddenDrawersModel", "setting", "(I)I"⟩, 41), (⟨"HiddenDrawersModel", "standNow", "()V"⟩, 41), (⟨"HiddenDrawersModel", "isPart", "(I)Z"⟩, 41), (⟨"HiddenDrawersModel", "canBe", "(II)Z"⟩, 41), (⟨"HiddenDrawersModel", "isPlace", "(II)Z"⟩, 41), (⟨"HiddenDrawersModel", "name", "(III)V"⟩, 41), (⟨"HiddenDrawersModel", "isSo", "(IIIZ)Z"⟩, 41), (⟨"HiddenDrawersModel", "clausesOf", "(I)I"⟩, 41), (⟨"HiddenDrawersModel", "told", "(III)I"⟩, 41), (⟨"HiddenDrawersModel", "work", "(II)V"⟩, 41), (⟨"HiddenDrawersModel", "keep", "()V"⟩, 41)]
theorem lw_r5 : ∀ q ∈ lw_privs_5, lw_okq q := List.forall_mem_cons.mpr ⟨lw_p64, List.forall_mem_cons.mpr ⟨lw_p65, List.forall_mem_cons.mpr ⟨lw_p66, List.forall_mem_cons.mpr ⟨lw_p67, List.forall_mem_cons.mpr ⟨lw_p68, List.forall_mem_cons.mpr ⟨lw_p69, List.forall_mem_cons.mpr ⟨lw_p70, List.forall_mem_cons.mpr ⟨lw_p71, List.forall_mem_cons.mpr ⟨lw_p72, List.forall_mem_cons.mpr ⟨lw_p73, List.forall_mem_cons.mpr ⟨lw_p74, List.forall_mem_cons.mpr ⟨lw_p75, List.forall_mem_cons.mpr ⟨lw_p76, List.forall_mem_cons.mpr ⟨lw_p77, List.forall_mem_cons.mpr ⟨lw_p78, List.forall_mem_cons.mpr ⟨lw_p79, fun _ h => absurd h List.not_mem_nil⟩⟩⟩⟩⟩⟩⟩⟩⟩⟩⟩⟩⟩⟩⟩⟩
theorem lw_p80 : lw_okq (⟨"HiddenDrawersModel", "doNow", "(I)I"⟩, 41) := ⟨⟨by decide +kernel, by decide +kernel⟩, List.mem_of_getElem? (i := 862) (by decide +kernel), List.mem_of_getElem? (i := 1223) (by decide +kernel), List.mem_of_getElem? (i := 1224) (by decide +kernel)⟩
theorem lw_p81 : lw_okq (⟨"HiddenDrawersModel", "does", "(II)I"⟩, 41) := ⟨⟨by decide +kernel, by decide +kernel⟩, List.mem_of_getElem? (i := 862) (by decide +kernel), List.mem_of_getElem? (i := 1227) (by decide +kernel), List.mem_of_getElem? (i := 1228) (by decide +kernel)⟩
theorem lw_p82 : lw_okq (⟨"HiddenDrawersModel", "sets", "(II)V"⟩, 41) := ⟨⟨by decide +kernel, by decide +kernel⟩, List.mem_of_getElem? (i := 862) (by decide +kernel), List.mem_of_getElem? (i := 1231) (by decide +kernel), List.mem_of_getElem? (i := 1232) (by decide +kernel)⟩
theorem lw_p83 : lw_okq (⟨"HiddenDrawersModel", "heard", "(II)I"⟩, 41) := ⟨⟨by decide +kernel, by decide +kernel⟩, List.mem_of_getElem? (i := 862) (by decide +kernel), List.mem_of_getElem? (i := 1235) (by decide +kernel), List.mem_of_getElem? (i := 1236) (by decide +kernel)⟩
theorem lw_p84 : lw_okq (⟨"HiddenDrawersModel", "roll", "()V"⟩, 41) := ⟨⟨by decide +kernel, by decide +kernel⟩, List.mem_of_getElem? (i := 862) (by decide +kernel), List.mem_of_getElem? (i := 1240) (by decide +kernel), List.mem_of_getElem? (i := 1241) (by decide +kernel)⟩
theorem lw_p85 : lw_okq (⟨"HiddenDrawersModel", "isStopped", "(I)Z"⟩, 41) := ⟨⟨by decide +kernel, by decide +kernel⟩, List.mem_of_getElem? (i := 862) (by decide +kernel), List.mem_of_getElem? (i := 1244) (by decide +kernel), List.mem_of_getElem? (i := 1245) (by decide +kernel)⟩
theorem lw_p86 : lw_okq (⟨"HiddenDrawersModel", "isText", "(I)Z"⟩, 41) := ⟨⟨by decide +kernel, by decide +kernel⟩, List.mem_of_getElem? (i := 862) (by decide +kernel), List.mem_of_getElem? (i := 1252) (by decide +kernel), List.mem_of_getElem? (i := 1253) (by decide +kernel)⟩
theorem lw_p87 : lw_okq (⟨"HiddenDrawersModel", "isOpen", "(I)Z"⟩, 41) := ⟨⟨by decide +kernel, by decide +kernel⟩, List.mem_of_getElem? (i := 862) (by decide +kernel), List.mem_of_getElem? (i := 1273) (by decide +kernel), List.mem_of_getElem? (i := 1274) (by decide +kernel)⟩
theorem lw_p88 : lw_okq (⟨"HiddenDrawersModel", "standing", "()I"⟩, 41) := ⟨⟨by decide +kernel, by decide +kernel⟩, List.mem_of_getElem? (i := 862) (by decide +kernel), List.mem_of_getElem? (i := 1281) (by decide +kernel), List.mem_of_getElem? (i := 1282) (by decide +kernel)⟩
theorem lw_p89 : lw_okq (⟨"HiddenDrawersModel", "search", "(IIII)I"⟩, 41) := ⟨⟨by decide +kernel, by decide +kernel⟩, List.mem_of_getElem? (i := 862) (by decide +kernel), List.mem_of_getElem? (i := 1285) (by decide +kernel), List.mem_of_getElem? (i := 1286) (by decide +kernel)⟩
theorem lw_p90 : lw_okq (⟨"HiddenDrawersModel", "isKept", "(IIII)Z"⟩, 41) := ⟨⟨by decide +kernel, by decide +kernel⟩, List.mem_of_getElem? (i := 862) (by decide +kernel), List.mem_of_getElem? (i := 1289) (by decide +kernel), List.mem_of_getElem? (i := 1290) (by decide +kernel)⟩
theorem lw_p91 : lw_okq (⟨"HiddenDrawersModel", "isOpenAt", "(II)Z"⟩, 41) := ⟨⟨by decide +kernel, by decide +kernel⟩, List.mem_of_getElem? (i := 862) (by decide +kernel), List.mem_of_getElem? (i := 1293) (by decide +kernel), List.mem_of_getElem? (i := 1294) (by decide +kernel)⟩
theorem lw_p92 : lw_okq (⟨"HiddenDrawersModel", "stand", "(I)V"⟩, 41) := ⟨⟨by decide +kernel, by decide +kernel⟩, List.mem_of_getElem? (i := 862) (by decide +kernel), List.mem_of_getElem? (i := 1297) (by decide +kernel), List.mem_of_getElem? (i := 1298) (by decide +kernel)⟩
theorem lw_p93 : lw_okq (⟨"HiddenDrawersModel", "made", "(III)I"⟩, 41) := ⟨⟨by decide +kernel, by decide +kernel⟩, List.mem_of_getElem? (i := 862) (by decide +kernel), List.mem_of_getElem? (i := 1301) (by decide +kernel), List.mem_of_getElem? (i := 1302) (by decide +kernel)⟩
theorem lw_p94 : lw_okq (⟨"HiddenDrawersModel", "actsTo", "(II)I"⟩, 41) := ⟨⟨by decide +kernel, by decide +kernel⟩, List.mem_of_getElem? (i := 862) (by decide +kernel), List.mem_of_getElem? (i := 1305) (by decide +kernel), List.mem_of_getElem? (i := 1306) (by decide +kernel)⟩
theorem lw_p95 : lw_okq (⟨"HiddenDrawersModel", "reachAll", "(I)I"⟩, 41) := ⟨⟨by decide +kernel, by decide +kernel⟩, List.mem_of_getElem? (i := 862) (by decide +kernel), List.mem_of_getElem? (i := 1313) (by decide +kernel), List.mem_of_getElem? (i := 1314) (by decide +kernel)⟩
def lw_privs_6 : List (MethodName × Nat) := [(⟨"HiddenDrawersModel", "doNow", "(I)I"⟩, 41), (⟨"HiddenDrawersModel", "does", "(II)I"⟩, 41), (⟨"HiddenDrawersModel", "sets", "(II)V"⟩, 41), (⟨"HiddenDrawersModel", "heard", "(II)I"⟩, 41), (⟨"HiddenDrawersModel", "roll", "()V"⟩, 41), (⟨"HiddenDrawersModel", "isStopped", "(I)Z"⟩, 41), (⟨"HiddenDrawersModel", "isText", "(I)Z"⟩, 41), (⟨"HiddenDrawersModel", "isOpen", "(I)Z"⟩, 41), (⟨"HiddenDrawersModel", "standing", "()I"⟩, 41), (⟨"HiddenDrawersModel", "search", "(IIII)I"⟩, 41), (⟨"HiddenDrawersModel", "isKept", "(IIII)Z"⟩, 41), (⟨"HiddenDrawersModel", "isOpenAt", "(II)Z"⟩, 41), (⟨"HiddenDrawersModel", "stand", "(I)V"⟩, 41), (⟨"HiddenDrawersModel", "made", "(III)I"⟩, 41), (⟨"HiddenDrawersModel", "actsTo", "(II)I"⟩, 41), (⟨"HiddenDrawersModel", "reachAll", "(I)I"⟩, 41)]
theorem lw_r6 : ∀ q ∈ lw_privs_6, lw_okq q := List.forall_mem_cons.mpr ⟨lw_p80, List.forall_mem_cons.mpr ⟨lw_p81, List.forall_mem_cons.mpr ⟨lw_p82, List.forall_mem_cons.mpr ⟨lw_p83, List.forall_mem_cons.mpr ⟨lw_p84, List.forall_mem_cons.mpr ⟨lw_p85, List.forall_mem_cons.mpr ⟨lw_p86, List.forall_mem_cons.mpr ⟨lw_p87, List.forall_mem_cons.mpr ⟨lw_p88, List.forall_mem_cons.mpr ⟨lw_p89, List.forall_mem_cons.mpr ⟨lw_p90, List.forall_mem_cons.mpr ⟨lw_p91, List.forall_mem_cons.mpr ⟨lw_p92, List.forall_mem_cons.mpr ⟨lw_p93, List.forall_mem_cons.mpr ⟨lw_p94, List.forall_mem_cons.mpr ⟨lw_p95, fun _ h => absurd h List.not_mem_nil⟩⟩⟩⟩⟩⟩⟩⟩⟩⟩⟩⟩⟩⟩⟩⟩
theorem lw_p96 : lw_okq (⟨"HiddenDrawersModel", "findFree", "(I)V"⟩, 41) := ⟨⟨by decide +kernel, by decide +kernel⟩, List.mem_of_getElem? (i := 862) (by decide +kernel), List.mem_of_getElem? (i := 1317) (by decide +kernel), List.mem_of_getElem? (i := 1318) (by decide +kernel)⟩
theorem lw_p97 : lw_okq (⟨"HiddenDrawersModel", "isFit", "(I)Z"⟩, 41) := ⟨⟨by decide +kernel, by decide +kernel⟩, List.mem_of_getElem? (i := 862) (by decide +kernel), List.mem_of_getElem? (i := 1333) (by decide +kernel), List.mem_of_getElem? (i := 1334) (by decide +kernel)⟩
theorem lw_p98 : lw_okq (⟨"HiddenDrawersModel", "standFirst", "()V"⟩, 41) := ⟨⟨by decide +kernel, by decide +kernel⟩, List.mem_of_getElem? (i := 862) (by decide +kernel), List.mem_of_getElem? (i := 1337) (by decide +kernel), List.mem_of_getElem? (i := 1338) (by decide +kernel)⟩
theorem lw_p99 : lw_okq (⟨"HiddenDrawersModel", "alike", "(II)I"⟩, 41) := ⟨⟨by decide +kernel, by decide +kernel⟩, List.mem_of_getElem? (i := 862) (by decide +kernel), List.mem_of_getElem? (i := 1346) (by decide +kernel), List.mem_of_getElem? (i := 1347) (by decide +kernel)⟩
def lw_privs_7 : List (MethodName × Nat) := [(⟨"HiddenDrawersModel", "findFree", "(I)V"⟩, 41), (⟨"HiddenDrawersModel", "isFit", "(I)Z"⟩, 41), (⟨"HiddenDrawersModel", "standFirst", "()V"⟩, 41), (⟨"HiddenDrawersModel", "alike", "(II)I"⟩, 41)]
theorem lw_r7 : ∀ q ∈ lw_privs_7, lw_okq q := List.forall_mem_cons.mpr ⟨lw_p96, List.forall_mem_cons.mpr ⟨lw_p97, List.forall_mem_cons.mpr ⟨lw_p98, List.forall_mem_cons.mpr ⟨lw_p99, fun _ h => absurd h List.not_mem_nil⟩⟩⟩⟩
def lw_privs : List (MethodName × Nat) := lw_privs_1 ++ (lw_privs_2 ++ (lw_privs_3 ++ (lw_privs_4 ++ (lw_privs_5 ++ (lw_privs_6 ++ (lw_privs_7))))))
def lw_tbl : List Cond := k2_sels lw_privs ++ tables_1
theorem lw_privs_ok : ∀ q ∈ lw_privs, lw_okq q := by
  show ∀ q ∈ lw_privs_1 ++ (lw_privs_2 ++ (lw_privs_3 ++ (lw_privs_4 ++ (lw_privs_5 ++ (lw_privs_6 ++ (lw_privs_7)))))), lw_okq q
  exact List.forall_mem_append.mpr ⟨lw_r1, List.forall_mem_append.mpr ⟨lw_r2, List.forall_mem_append.mpr ⟨lw_r3, List.forall_mem_append.mpr ⟨lw_r4, List.forall_mem_append.mpr ⟨lw_r5, List.forall_mem_append.mpr ⟨lw_r6, lw_r7⟩⟩⟩⟩⟩⟩
end
section
def RX0 : String := "HiddenDrawers$DeadEnds"
def TX0 : u_T := fun k => match k with
  | 0 => ("HiddenDrawers$DeadEnds", "rules", "LHiddenDrawers$Rules;", true)
  | 1 => ("HiddenDrawers$DeadEnds", "reached", "[I", true)
  | 2 => ("HiddenDrawers$DeadEnds", "reachedCount", "I", false)
  | 3 => ("HiddenDrawers$DeadEnds", "hopeful", "[I", true)
  | 4 => ("HiddenDrawers$DeadEnds", "hopefulCount", "I", false)
  | 5 => ("HiddenDrawers$DeadEnds", "marks", "[I", true)
  | 6 => ("HiddenDrawers$DeadEnds", "lastEdges", "[I", true)
  | _ => ("HiddenDrawers$DeadEnds", "earlierEdges", "[I", true)
def tyX0 : Nat → FieldType := fun k => match k with
  | 0 => .object "HiddenDrawers$Rules"
  | 1 => .array .int
  | 2 => .int
  | 3 => .array .int
  | 4 => .int
  | 5 => .array .int
  | 6 => .array .int
  | _ => .array .int
abbrev wsX00 : List Cond := u_ws RX0 TX0 8
theorem nmX0 : ∀ a, a < 8 → ∀ b, b < 8 → a ≠ b → (TX0 a).2.1 ≠ (TX0 b).2.1 := by decide +kernel
theorem tyX0_ok : ∀ k, k < 8 → parseFieldDescriptor (TX0 k).2.2.1 = some (tyX0 k) := by decide +kernel
abbrev cX0_init : ByteArray := prog_2_method_1_code
def yX0_init : MethodName := ⟨RX0, "<init>", "(LHiddenDrawers$Rules;)V"⟩
abbrev cX0_actsInto : ByteArray := prog_2_method_2_code
def yX0_actsInto : MethodName := ⟨RX0, "actsInto", "(LHiddenDrawers$Law;I)I"⟩
abbrev cX0_reach : ByteArray := prog_2_method_3_code
def yX0_reach : MethodName := ⟨RX0, "reach", "(LHiddenDrawers$Law;I)V"⟩
abbrev cX0_follow : ByteArray := prog_2_method_4_code
def yX0_follow : MethodName := ⟨RX0, "follow", "(LHiddenDrawers$Law;II)V"⟩
abbrev cX0_hope : ByteArray := prog_2_method_5_code
def yX0_hope : MethodName := ⟨RX0, "hope", "(I)V"⟩
abbrev cX0_hopeWhereItCameFrom : ByteArray := prog_2_method_6_code
def yX0_hopeWhereItCameFrom : MethodName := ⟨RX0, "hopeWhereItCameFrom", "(I)V"⟩
abbrev cX0_hopelessActs : ByteArray := prog_2_method_7_code
def yX0_hopelessActs : MethodName := ⟨RX0, "hopelessActs", "(LHiddenDrawers$Law;I)I"⟩
def RX1 : String := "HiddenDrawers$Desk"
def TX1 : u_T := fun k => match k with
  | 0 => ("HiddenDrawers$Desk", "sizes", "[I", true)
  | 1 => ("HiddenDrawers$Desk", "parts", "I", false)
  | 2 => ("HiddenDrawers$Desk", "standing", "I", false)
  | 3 => ("HiddenDrawers$Desk", "ball", "I", false)
  | 4 => ("HiddenDrawers$Desk", "texts", "I", false)
  | 5 => ("HiddenDrawers$Desk", "ruling", "I", false)
  | 6 => ("HiddenDrawers$Desk", "stepStandings", "[I", true)
  | 7 => ("HiddenDrawers$Desk", "stepBalls", "[I", true)
  | 8 => ("HiddenDrawers$Desk", "steps", "I", false)
  | 9 => ("HiddenDrawers$Desk", "triedActs", "[I", true)
  | 10 => ("HiddenDrawers$Desk", "triedHeard", "[I", true)
  | 11 => ("HiddenDrawers$Desk", "trials", "I", false)
  | 12 => ("HiddenDrawers$Desk", "hollowSizes", "[I", true)
  | _ => ("HiddenDrawers$Desk", "hollows", "I", false)
def tyX1 : Nat → FieldType := fun k => match k with
  | 0 => .array .int
  | 1 => .int
  | 2 => .int
  | 3 => .int
  | 4 => .int
  | 5 => .int
  | 6 => .array .int
  | 7 => .array .int
  | 8 => .int
  | 9 => .array .int
  | 10 => .array .int
  | 11 => .int
  | 12 => .array .int
  | _ => .int
abbrev wsX10 : List Cond := u_ws RX1 TX1 14
theorem nmX1 : ∀ a, a < 14 → ∀ b, b < 14 → a ≠ b → (TX1 a).2.1 ≠ (TX1 b).2.1 := by decide +kernel
theorem tyX1_ok : ∀ k, k < 14 → parseFieldDescriptor (TX1 k).2.2.1 = some (tyX1 k) := by decide +kernel
abbrev cX1_init : ByteArray := prog_3_method_1_code
def yX1_init : MethodName := ⟨RX1, "<init>", "()V"⟩
abbrev cX1_copyFrom : ByteArray := prog_3_method_2_code
def yX1_copyFrom : MethodName := ⟨RX1, "copyFrom", "(LHiddenDrawers$Desk;)V"⟩
abbrev cX1_copyRow : ByteArray := prog_3_method_3_code
def yX1_copyRow : MethodName := ⟨RX1, "copyRow", "([I[I)V"⟩
abbrev cX1_addStep : ByteArray := prog_3_method_4_code
def yX1_addStep : MethodName := ⟨RX1, "addStep", "(II)V"⟩
abbrev cX1_takeStepBack : ByteArray := prog_3_method_5_code
def yX1_takeStepBack : MethodName := ⟨RX1, "takeStepBack", "()Z"⟩
abbrev cX1_sizeOfHollows : ByteArray := prog_3_method_6_code
def yX1_sizeOfHollows : MethodName := ⟨RX1, "sizeOfHollows", "(I)I"⟩
def RX2 : String := "HiddenDrawers$Law"
def TX2 : u_T := fun k => match k with
  | 0 => ("HiddenDrawers$Law", "code", "[I", true)
  | 1 => ("HiddenDrawers$Law", "codeLength", "I", false)
  | 2 => ("HiddenDrawers$Law", "ruleStarts", "[I", true)
  | 3 => ("HiddenDrawers$Law", "ruleEnds", "[I", true)
  | 4 => ("HiddenDrawers$Law", "setCauses", "[I", true)
  | 5 => ("HiddenDrawers$Law", "setParts", "[I", true)
  | 6 => ("HiddenDrawers$Law", "setPlaces", "[I", true)
  | 7 => ("HiddenDrawers$Law", "sets", "I", false)
  | 8 => ("HiddenDrawers$Law", "doActs", "[I", true)
  | 9 => ("HiddenDrawers$Law", "doClauses", "[I", true)
  | _ => ("HiddenDrawers$Law", "dos", "I", false)
def tyX2 : Nat → FieldType := fun k => match k with
  | 0 => .array .int
  | 1 => .int
  | 2 => .array .int
  | 3 => .array .int
  | 4 => .array .int
  | 5 => .array .int
  | 6 => .array .int
  | 7 => .int
  | 8 => .array .int
  | 9 => .array .int
  | _ => .int
abbrev wsX20 : List Cond := u_ws RX2 TX2 11
theorem nmX2 : ∀ a, a < 11 → ∀ b, b < 11 → a ≠ b → (TX2 a).2.1 ≠ (TX2 b).2.1 := by decide +kernel
theorem tyX2_ok : ∀ k, k < 11 → parseFieldDescriptor (TX2 k).2.2.1 = some (tyX2 k) := by decide +kernel
abbrev cX2_init : ByteArray := prog_4_method_1_code
def yX2_init : MethodName := ⟨RX2, "<init>", "()V"⟩
abbrev cX2_clear : ByteArray := prog_4_method_2_code
def yX2_clear : MethodName := ⟨RX2, "clear", "()V"⟩
abbrev cX2_has : ByteArray := prog_4_method_3_code
def yX2_has : MethodName := ⟨RX2, "has", "(I)Z"⟩
abbrev cX2_addCode : ByteArray := prog_4_method_4_code
def yX2_addCode : MethodName := ⟨RX2, "addCode", "(I)V"⟩
abbrev cX2_addSet : ByteArray := prog_4_method_5_code
def yX2_addSet : MethodName := ⟨RX2, "addSet", "(III)V"⟩
abbrev cX2_addDo : ByteArray := prog_4_method_6_code
def yX2_addDo : MethodName := ⟨RX2, "addDo", "(II)V"⟩
def RX3 : String := "HiddenDrawers$Reader"
def TX3 : u_T := fun k => match k with
  | 0 => ("HiddenDrawers$Reader", "tokens", "LHiddenDrawers$Tokens;", true)
  | 1 => ("HiddenDrawers$Reader", "law", "LHiddenDrawers$Law;", false)
  | 2 => ("HiddenDrawers$Reader", "fault", "I", false)
  | 3 => ("HiddenDrawers$Reader", "faultPlace", "I", false)
  | 4 => ("HiddenDrawers$Reader", "waiting", "[I", true)
  | 5 => ("HiddenDrawers$Reader", "waitingCount", "I", false)
  | 6 => ("HiddenDrawers$Reader", "nested", "I", false)
  | 7 => ("HiddenDrawers$Reader", "brackets", "I", false)
  | 8 => ("HiddenDrawers$Reader", "wantsOne", "Z", false)
  | 9 => ("HiddenDrawers$Reader", "atAsk", "Z", false)
  | 10 => ("HiddenDrawers$Reader", "compared", "Z", false)
  | _ => ("HiddenDrawers$Reader", "ended", "Z", false)
def tyX3 : Nat → FieldType := fun k => match k with
  | 0 => .object "HiddenDrawers$Tokens"
  | 1 => .object "HiddenDrawers$Law"
  | 2 => .int
  | 3 => .int
  | 4 => .array .int
  | 5 => .int
  | 6 => .int
  | 7 => .int
  | 8 => .boolean
  | 9 => .boolean
  | 10 => .boolean
  | _ => .boolean
abbrev wsX30 : List Cond := u_ws RX3 TX3 12
theorem nmX3 : ∀ a, a < 12 → ∀ b, b < 12 → a ≠ b → (TX3 a).2.1 ≠ (TX3 b).2.1 := by decide +kernel
theorem tyX3_ok : ∀ k, k < 12 → parseFieldDescriptor (TX3 k).2.2.1 = some (tyX3 k) := by decide +kernel
abbrev cX3_init : ByteArray := prog_5_method_1_code
def yX3_init : MethodName := ⟨RX3, "<init>", "()V"⟩
abbrev cX3_read : ByteArray := prog_5_method_2_code
def yX3_read : MethodName := ⟨RX3, "read", "([BILHiddenDrawers$Law;)I"⟩
abbrev cX3_blame : ByteArray := prog_5_method_3_code
def yX3_blame : MethodName := ⟨RX3, "blame", "(I)V"⟩
abbrev cX3_readClause : ByteArray := prog_5_method_4_code
def yX3_readClause : MethodName := ⟨RX3, "readClause", "(I)V"⟩
abbrev cX3_takeWhenPart : ByteArray := prog_5_method_5_code
def yX3_takeWhenPart : MethodName := ⟨RX3, "takeWhenPart", "()I"⟩
abbrev cX3_readSet : ByteArray := prog_5_method_6_code
def yX3_readSet : MethodName := ⟨RX3, "readSet", "(I)V"⟩
abbrev cX3_takeNumber : ByteArray := prog_5_method_7_code
def yX3_takeNumber : MethodName := ⟨RX3, "takeNumber", "(I)I"⟩
abbrev cX3_takeToken : ByteArray := prog_5_method_8_code
def yX3_takeToken : MethodName := ⟨RX3, "takeToken", "(I)V"⟩
abbrev cX3_readRule : ByteArray := prog_5_method_9_code
def yX3_readRule : MethodName := ⟨RX3, "readRule", "(I)V"⟩
abbrev cX3_takeOne : ByteArray := prog_5_method_10_code
def yX3_takeOne : MethodName := ⟨RX3, "takeOne", "(I)V"⟩
abbrev cX3_addOne : ByteArray := prog_5_method_11_code
def yX3_addOne : MethodName := ⟨RX3, "addOne", "(II)V"⟩
abbrev cX3_isNameOf : ByteArray := prog_5_method_12_code
def yX3_isNameOf : MethodName := ⟨RX3, "isNameOf", "(II)Z"⟩
abbrev cX3_nestIn : ByteArray := prog_5_method_13_code
def yX3_nestIn : MethodName := ⟨RX3, "nestIn", "(I)V"⟩
abbrev cX3_putToWait : ByteArray := prog_5_method_14_code
def yX3_putToWait : MethodName := ⟨RX3, "putToWait", "(I)V"⟩
abbrev cX3_takeOperator : ByteArray := prog_5_method_15_code
def yX3_takeOperator : MethodName := ⟨RX3, "takeOperator", "(I)V"⟩
abbrev cX3_join : ByteArray := prog_5_method_16_code
def yX3_join : MethodName := ⟨RX3, "join", "(I)V"⟩
abbrev cX3_closeBracket : ByteArray := prog_5_method_17_code
def yX3_closeBracket : MethodName := ⟨RX3, "closeBracket", "()V"⟩
abbrev cX3_release : ByteArray := prog_5_method_18_code
def yX3_release : MethodName := ⟨RX3, "release", "(I)V"⟩
abbrev cX3_strengthOf : ByteArray := prog_5_method_19_code
def yX3_strengthOf : MethodName := ⟨RX3, "strengthOf", "(I)I"⟩
def RX4 : String := "HiddenDrawers$Rules"
def TX4 : u_T := fun k => match k with
  | 0 => ("HiddenDrawers$Rules", "sizes", "[I", true)
  | 1 => ("HiddenDrawers$Rules", "names", "[I", true)
  | 2 => ("HiddenDrawers$Rules", "shown", "I", false)
  | _ => ("HiddenDrawers$Rules", "stack", "[I", true)
def tyX4 : Nat → FieldType := fun k => match k with
  | 0 => .array .int
  | 1 => .array .int
  | 2 => .int
  | _ => .array .int
abbrev wsX40 : List Cond := u_ws RX4 TX4 4
theorem nmX4 : ∀ a, a < 4 → ∀ b, b < 4 → a ≠ b → (TX4 a).2.1 ≠ (TX4 b).2.1 := by decide +kernel
theorem tyX4_ok : ∀ k, k < 4 → parseFieldDescriptor (TX4 k).2.2.1 = some (tyX4 k) := by decide +kernel
abbrev cX4_init : ByteArray := prog_6_method_1_code
def yX4_init : MethodName := ⟨RX4, "<init>", "([I)V"⟩
abbrev cX4_show : ByteArray := prog_6_method_2_code
def yX4_show : MethodName := ⟨RX4, "show", "(I)V"⟩
abbrev cX4_gather : ByteArray := prog_6_method_3_code
def yX4_gather : MethodName := ⟨RX4, "gather", "()I"⟩
abbrev cX4_standingAfter : ByteArray := prog_6_method_4_code
def yX4_standingAfter : MethodName := ⟨RX4, "standingAfter", "(LHiddenDrawers$Law;II)I"⟩
abbrev cX4_standingOrSame : ByteArray := prog_6_method_5_code
def yX4_standingOrSame : MethodName := ⟨RX4, "standingOrSame", "(LHiddenDrawers$Law;II)I"⟩
abbrev cX4_tilted : ByteArray := prog_6_method_6_code
def yX4_tilted : MethodName := ⟨RX4, "tilted", "(LHiddenDrawers$Law;I)I"⟩
abbrev cX4_pushed : ByteArray := prog_6_method_7_code
def yX4_pushed : MethodName := ⟨RX4, "pushed", "(LHiddenDrawers$Law;II)I"⟩
abbrev cX4_isPlace : ByteArray := prog_6_method_8_code
def yX4_isPlace : MethodName := ⟨RX4, "isPlace", "(II)Z"⟩
abbrev cX4_setBy : ByteArray := prog_6_method_9_code
def yX4_setBy : MethodName := ⟨RX4, "setBy", "(LHiddenDrawers$Law;I)V"⟩
abbrev cX4_heardOf : ByteArray := prog_6_method_10_code
def yX4_heardOf : MethodName := ⟨RX4, "heardOf", "(LHiddenDrawers$Law;III)I"⟩
abbrev cX4_partsMoved : ByteArray := prog_6_method_11_code
def yX4_partsMoved : MethodName := ⟨RX4, "partsMoved", "(II)I"⟩
abbrev cX4_ballAfter : ByteArray := prog_6_method_12_code
def yX4_ballAfter : MethodName := ⟨RX4, "ballAfter", "(LHiddenDrawers$Law;II)I"⟩
abbrev cX4_isOpen : ByteArray := prog_6_method_13_code
def yX4_isOpen : MethodName := ⟨RX4, "isOpen", "(LHiddenDrawers$Law;I)Z"⟩
abbrev cX4_valueOf : ByteArray := prog_6_method_14_code
def yX4_valueOf : MethodName := ⟨RX4, "valueOf", "(LHiddenDrawers$Law;I)I"⟩
abbrev cX4_joined : ByteArray := prog_6_method_15_code
def yX4_joined : MethodName := ⟨RX4, "joined", "(III)I"⟩
def RX5 : String := "HiddenDrawers$Search"
def TX5 : u_T := fun k => match k with
  | 0 => ("HiddenDrawers$Search", "rules", "LHiddenDrawers$Rules;", true)
  | 1 => ("HiddenDrawers$Search", "firsts", "[I", true)
  | 2 => ("HiddenDrawers$Search", "seconds", "[I", true)
  | 3 => ("HiddenDrawers$Search", "cameFrom", "[I", true)
  | 4 => ("HiddenDrawers$Search", "cameBy", "[I", true)
  | 5 => ("HiddenDrawers$Search", "slots", "[I", true)
  | 6 => ("HiddenDrawers$Search", "found", "I", false)
  | 7 => ("HiddenDrawers$Search", "first", "LHiddenDrawers$Law;", false)
  | 8 => ("HiddenDrawers$Search", "second", "LHiddenDrawers$Law;", false)
  | 9 => ("HiddenDrawers$Search", "most", "I", false)
  | _ => ("HiddenDrawers$Search", "outcome", "I", false)
def tyX5 : Nat → FieldType := fun k => match k with
  | 0 => .object "HiddenDrawers$Rules"
  | 1 => .array .int
  | 2 => .array .int
  | 3 => .array .int
  | 4 => .array .int
  | 5 => .array .int
  | 6 => .int
  | 7 => .object "HiddenDrawers$Law"
  | 8 => .object "HiddenDrawers$Law"
  | 9 => .int
  | _ => .int
abbrev wsX50 : List Cond := u_ws RX5 TX5 11
theorem nmX5 : ∀ a, a < 11 → ∀ b, b < 11 → a ≠ b → (TX5 a).2.1 ≠ (TX5 b).2.1 := by decide +kernel
theorem tyX5_ok : ∀ k, k < 11 → parseFieldDescriptor (TX5 k).2.2.1 = some (tyX5 k) := by decide +kernel
abbrev cX5_init : ByteArray := prog_7_method_1_code
def yX5_init : MethodName := ⟨RX5, "<init>", "(LHiddenDrawers$Rules;LHiddenDrawers$Law;)V"⟩
abbrev cX5_seek : ByteArray := prog_7_method_2_code
def yX5_seek : MethodName := ⟨RX5, "seek", "(LHiddenDrawers$Law;LHiddenDrawers$Law;II)V"⟩
abbrev cX5_reach : ByteArray := prog_7_method_3_code
def yX5_reach : MethodName := ⟨RX5, "reach", "(IIII)V"⟩
abbrev cX5_slotOf : ByteArray := prog_7_method_4_code
def yX5_slotOf : MethodName := ⟨RX5, "slotOf", "(II)I"⟩
abbrev cX5_actsUntil : ByteArray := prog_7_method_5_code
def yX5_actsUntil : MethodName := ⟨RX5, "actsUntil", "(I)I"⟩
abbrev cX5_answerOf : ByteArray := prog_7_method_6_code
def yX5_answerOf : MethodName := ⟨RX5, "answerOf", "(I)I"⟩
def RX6 : String := "HiddenDrawers$Tokens"
def TX6 : u_T := fun k => match k with
  | 0 => ("HiddenDrawers$Tokens", "kinds", "[I", true)
  | 1 => ("HiddenDrawers$Tokens", "values", "[I", true)
  | 2 => ("HiddenDrawers$Tokens", "starts", "[I", true)
  | 3 => ("HiddenDrawers$Tokens", "count", "I", false)
  | 4 => ("HiddenDrawers$Tokens", "come", "I", false)
  | 5 => ("HiddenDrawers$Tokens", "bytes", "[B", false)
  | 6 => ("HiddenDrawers$Tokens", "length", "I", false)
  | 7 => ("HiddenDrawers$Tokens", "at", "I", false)
  | 8 => ("HiddenDrawers$Tokens", "kind", "I", false)
  | 9 => ("HiddenDrawers$Tokens", "value", "I", false)
  | _ => ("HiddenDrawers$Tokens", "start", "I", false)
def tyX6 : Nat → FieldType := fun k => match k with
  | 0 => .array .int
  | 1 => .array .int
  | 2 => .array .int
  | 3 => .int
  | 4 => .int
  | 5 => .array .byte
  | 6 => .int
  | 7 => .int
  | 8 => .int
  | 9 => .int
  | _ => .int
abbrev wsX60 : List Cond := u_ws RX6 TX6 11
theorem nmX6 : ∀ a, a < 11 → ∀ b, b < 11 → a ≠ b → (TX6 a).2.1 ≠ (TX6 b).2.1 := by decide +kernel
theorem tyX6_ok : ∀ k, k < 11 → parseFieldDescriptor (TX6 k).2.2.1 = some (tyX6 k) := by decide +kernel
abbrev cX6_init : ByteArray := prog_8_method_1_code
def yX6_init : MethodName := ⟨RX6, "<init>", "()V"⟩
abbrev cX6_find : ByteArray := prog_8_method_2_code
def yX6_find : MethodName := ⟨RX6, "find", "([BI)V"⟩
abbrev cX6_advance : ByteArray := prog_8_method_3_code
def yX6_advance : MethodName := ⟨RX6, "advance", "()V"⟩
abbrev cX6_add : ByteArray := prog_8_method_4_code
def yX6_add : MethodName := ⟨RX6, "add", "(II)V"⟩
abbrev cX6_findOne : ByteArray := prog_8_method_5_code
def yX6_findOne : MethodName := ⟨RX6, "findOne", "(I)V"⟩
abbrev cX6_isLetter : ByteArray := prog_8_method_6_code
def yX6_isLetter : MethodName := ⟨RX6, "isLetter", "(I)Z"⟩
abbrev cX6_isDigit : ByteArray := prog_8_method_7_code
def yX6_isDigit : MethodName := ⟨RX6, "isDigit", "(I)Z"⟩
abbrev cX6_findNumber : ByteArray := prog_8_method_8_code
def yX6_findNumber : MethodName := ⟨RX6, "findNumber", "(I)V"⟩
abbrev cX6_findSign : ByteArray := prog_8_method_9_code
def yX6_findSign : MethodName := ⟨RX6, "findSign", "(I)V"⟩
abbrev cX6_kindOfLetter : ByteArray := prog_8_method_10_code
def yX6_kindOfLetter : MethodName := ⟨RX6, "kindOfLetter", "(I)I"⟩
abbrev cX6_kindOfWord : ByteArray := prog_8_method_11_code
def yX6_kindOfWord : MethodName := ⟨RX6, "kindOfWord", "()I"⟩
abbrev cX6_isWord : ByteArray := prog_8_method_12_code
def yX6_isWord : MethodName := ⟨RX6, "isWord", "(Ljava/lang/String;)Z"⟩
abbrev cX6_kindOfSign : ByteArray := prog_8_method_13_code
def yX6_kindOfSign : MethodName := ⟨RX6, "kindOfSign", "(I)I"⟩
def RX7 : String := "HiddenDrawers"
def TX7 : u_T := fun k => match k with
  | 0 => ("HiddenDrawers", "tape", "[B", true)
  | 1 => ("HiddenDrawers", "tapeLength", "I", false)
  | 2 => ("HiddenDrawers", "faultKind", "I", false)
  | 3 => ("HiddenDrawers", "faultPlace", "I", false)
  | 4 => ("HiddenDrawers", "desk", "LHiddenDrawers$Desk;", true)
  | 5 => ("HiddenDrawers", "kept", "LHiddenDrawers$Desk;", true)
  | 6 => ("HiddenDrawers", "laws", "[LHiddenDrawers$Law;", true)
  | 7 => ("HiddenDrawers", "lawless", "LHiddenDrawers$Law;", true)
  | 8 => ("HiddenDrawers", "reader", "LHiddenDrawers$Reader;", true)
  | 9 => ("HiddenDrawers", "rules", "LHiddenDrawers$Rules;", true)
  | 10 => ("HiddenDrawers", "search", "LHiddenDrawers$Search;", true)
  | 11 => ("HiddenDrawers", "deadEnds", "LHiddenDrawers$DeadEnds;", true)
  | 12 => ("HiddenDrawers", "triedEnds", "[I", true)
  | _ => ("HiddenDrawers", "searched", "I", false)
def tyX7 : Nat → FieldType := fun k => match k with
  | 0 => .array .byte
  | 1 => .int
  | 2 => .int
  | 3 => .int
  | 4 => .object "HiddenDrawers$Desk"
  | 5 => .object "HiddenDrawers$Desk"
  | 6 => .array (.object "HiddenDrawers$Law")
  | 7 => .object "HiddenDrawers$Law"
  | 8 => .object "HiddenDrawers$Reader"
  | 9 => .object "HiddenDrawers$Rules"
  | 10 => .object "HiddenDrawers$Search"
  | 11 => .object "HiddenDrawers$DeadEnds"
  | 12 => .array .int
  | _ => .int
abbrev wsX70 : List Cond := u_ws RX7 TX7 14
theorem nmX7 : ∀ a, a < 14 → ∀ b, b < 14 → a ≠ b → (TX7 a).2.1 ≠ (TX7 b).2.1 := by decide +kernel
theorem tyX7_ok : ∀ k, k < 14 → parseFieldDescriptor (TX7 k).2.2.1 = some (tyX7 k) := by decide +kernel
abbrev cX7_init : ByteArray := prog_1_method_1_code
def yX7_init : MethodName := ⟨RX7, "<init>", "()V"⟩
abbrev cX7_part : ByteArray := prog_1_method_2_code
def yX7_part : MethodName := ⟨RX7, "part", "(I)I"⟩
abbrev cX7_feed : ByteArray := prog_1_method_3_code
def yX7_feed : MethodName := ⟨RX7, "feed", "(IIIII)I"⟩
abbrev cX7_putFour : ByteArray := prog_1_method_4_code
def yX7_putFour : MethodName := ⟨RX7, "putFour", "(I)V"⟩
abbrev cX7_end : ByteArray := prog_1_method_5_code
def yX7_end : MethodName := ⟨RX7, "end", "(I)I"⟩
abbrev cX7_text : ByteArray := prog_1_method_6_code
def yX7_text : MethodName := ⟨RX7, "text", "()I"⟩
abbrev cX7_fault : ByteArray := prog_1_method_7_code
def yX7_fault : MethodName := ⟨RX7, "fault", "(I)I"⟩
abbrev cX7_by : ByteArray := prog_1_method_8_code
def yX7_by : MethodName := ⟨RX7, "by", "(I)Z"⟩
abbrev cX7_isText : ByteArray := prog_1_method_9_code
def yX7_isText : MethodName := ⟨RX7, "isText", "(I)Z"⟩
abbrev cX7_rulingLaw : ByteArray := prog_1_method_10_code
def yX7_rulingLaw : MethodName := ⟨RX7, "rulingLaw", "()LHiddenDrawers$Law;"⟩
abbrev cX7_can : ByteArray := prog_1_method_11_code
def yX7_can : MethodName := ⟨RX7, "can", "(I)Z"⟩
abbrev cX7_act : ByteArray := prog_1_method_12_code
def yX7_act : MethodName := ⟨RX7, "act", "(I)I"⟩
abbrev cX7_move : ByteArray := prog_1_method_13_code
def yX7_move : MethodName := ⟨RX7, "move", "(I)I"⟩
abbrev cX7_played : ByteArray := prog_1_method_14_code
def yX7_played : MethodName := ⟨RX7, "played", "(I)I"⟩
abbrev cX7_carts : ByteArray := prog_1_method_15_code
def yX7_carts : MethodName := ⟨RX7, "carts", "(II)I"⟩
abbrev cX7_undo : ByteArray := prog_1_method_16_code
def yX7_undo : MethodName := ⟨RX7, "undo", "()I"⟩
abbrev cX7_place : ByteArray := prog_1_method_17_code
def yX7_place : MethodName := ⟨RX7, "place", "(I)I"⟩
abbrev cX7_now : ByteArray := prog_1_method_18_code
def yX7_now : MethodName := ⟨RX7, "now", "(I)I"⟩
abbrev cX7_fewest : ByteArray := prog_1_method_19_code
def yX7_fewest : MethodName := ⟨RX7, "fewest", "(I)I"⟩
abbrev cX7_forever : ByteArray := prog_1_method_20_code
def yX7_forever : MethodName := ⟨RX7, "forever", "()I"⟩
abbrev cX7_tried : ByteArray := prog_1_method_21_code
def yX7_tried : MethodName := ⟨RX7, "tried", "(II)I"⟩
abbrev cX7_forget : ByteArray := prog_1_method_22_code
def yX7_forget : MethodName := ⟨RX7, "forget", "()I"⟩
abbrev cX7_fits : ByteArray := prog_1_method_23_code
def yX7_fits : MethodName := ⟨RX7, "fits", "()I"⟩
abbrev cX7_standingBehindTrials : ByteArray := prog_1_method_24_code
def yX7_standingBehindTrials : MethodName := ⟨RX7, "standingBehindTrials", "(I)I"⟩
abbrev cX7_answerTo : ByteArray := prog_1_method_25_code
def yX7_answerTo : MethodName := ⟨RX7, "answerTo", "(LHiddenDrawers$Law;II)I"⟩
abbrev cX7_next : ByteArray := prog_1_method_26_code
def yX7_next : MethodName := ⟨RX7, "next", "()I"⟩
abbrev cX7_mostAlike : ByteArray := prog_1_method_27_code
def yX7_mostAlike : MethodName := ⟨RX7, "mostAlike", "(I)I"⟩
abbrev cX7_whatever : ByteArray := prog_1_method_28_code
def yX7_whatever : MethodName := ⟨RX7, "whatever", "(II)I"⟩
abbrev cX7_hollow : ByteArray := prog_1_method_29_code
def yX7_hollow : MethodName := ⟨RX7, "hollow", "(I)I"⟩
abbrev cX7_measure : ByteArray := prog_1_method_30_code
def yX7_measure : MethodName := ⟨RX7, "measure", "(II)I"⟩
abbrev cX7_image : ByteArray := prog_1_method_31_code
def yX7_image : MethodName := ⟨RX7, "image", "()I"⟩
abbrev cX7_back : ByteArray := prog_1_method_32_code
def yX7_back : MethodName := ⟨RX7, "back", "()I"⟩
abbrev cX7_about : ByteArray := prog_1_method_33_code
def yX7_about : MethodName := ⟨RX7, "about", "(I)I"⟩
abbrev cX7_placeIn : ByteArray := prog_1_method_34_code
def yX7_placeIn : MethodName := ⟨RX7, "placeIn", "(II)I"⟩
abbrev cX7_causeOfPush : ByteArray := prog_1_method_35_code
def yX7_causeOfPush : MethodName := ⟨RX7, "causeOfPush", "(II)I"⟩
abbrev cX7_causeOfTilt : ByteArray := prog_1_method_36_code
def yX7_causeOfTilt : MethodName := ⟨RX7, "causeOfTilt", "(I)I"⟩
def RX8 : String := "HiddenDrawersModel"
def TX8 : u_T := fun k => match k with
  | 0 => ("HiddenDrawersModel", "a", "[I", true)
  | 1 => ("HiddenDrawersModel", "image", "[I", true)
  | 2 => ("HiddenDrawersModel", "texts", "[I", true)
  | 3 => ("HiddenDrawersModel", "tape", "[I", true)
  | 4 => ("HiddenDrawersModel", "taped", "I", false)
  | 5 => ("HiddenDrawersModel", "fault", "I", false)
  | 6 => ("HiddenDrawersModel", "faultPlace", "I", false)
  | 7 => ("HiddenDrawersModel", "at", "I", false)
  | 8 => ("HiddenDrawersModel", "place", "I", false)
  | 9 => ("HiddenDrawersModel", "token", "I", false)
  | 10 => ("HiddenDrawersModel", "number", "I", false)
  | 11 => ("HiddenDrawersModel", "word", "J", false)
  | 12 => ("HiddenDrawersModel", "text0", "I", false)
  | 13 => ("HiddenDrawersModel", "clauses", "I", false)
  | 14 => ("HiddenDrawersModel", "written", "I", false)
  | 15 => ("HiddenDrawersModel", "came", "I", false)
  | 16 => ("HiddenDrawersModel", "pile", "[I", true)
  | 17 => ("HiddenDrawersModel", "piled", "I", false)
  | 18 => ("HiddenDrawersModel", "opens", "I", false)
  | 19 => ("HiddenDrawersModel", "isWhole", "Z", false)
  | 20 => ("HiddenDrawersModel", "sort0", "I", false)
  | 21 => ("HiddenDrawersModel", "once", "I", false)
  | 22 => ("HiddenDrawersModel", "named", "[I", true)
  | 23 => ("HiddenDrawersModel", "values", "[J", true)
  | 24 => ("HiddenDrawersModel", "truth", "[Z", true)
  | 25 => ("HiddenDrawersModel", "spot", "[I", true)
  | 26 => ("HiddenDrawersModel", "ahead", "[I", true)
  | 27 => ("HiddenDrawersModel", "tilted", "I", false)
  | 28 => ("HiddenDrawersModel", "one", "[I", true)
  | 29 => ("HiddenDrawersModel", "other", "[I", true)
  | 30 => ("HiddenDrawersModel", "cameFrom", "[I", true)
  | 31 => ("HiddenDrawersModel", "cameBy", "[I", true)
  | 32 => ("HiddenDrawersModel", "chain", "[I", true)
  | 33 => ("HiddenDrawersModel", "chains", "[I", true)
  | 34 => ("HiddenDrawersModel", "found", "I", false)
  | 35 => ("HiddenDrawersModel", "most", "I", false)
  | 36 => ("HiddenDrawersModel", "reached", "[Z", true)
  | 37 => ("HiddenDrawersModel", "free", "[Z", true)
  | 38 => ("HiddenDrawersModel", "behind", "[I", true)
  | 39 => ("HiddenDrawersModel", "queue", "[I", true)
  | _ => ("HiddenDrawersModel", "answers", "[I", true)
def tyX8 : Nat → FieldType := fun k => match k with
  | 0 => .array .int
  | 1 => .array .int
  | 2 => .array .int
  | 3 => .array .int
  | 4 => .int
  | 5 => .int
  | 6 => .int
  | 7 => .int
  | 8 => .int
  | 9 => .int
  | 10 => .int
  | 11 => .long
  | 12 => .int
  | 13 => .int
  | 14 => .int
  | 15 => .int
  | 16 => .array .int
  | 17 => .int
  | 18 => .int
  | 19 => .boolean
  | 20 => .int
  | 21 => .int
  | 22 => .array .int
  | 23 => .array .long
  | 24 => .array .boolean
  | 25 => .array .int
  | 26 => .array .int
  | 27 => .int
  | 28 => .array .int
  | 29 => .array .int
  | 30 => .array .int
  | 31 => .array .int
  | 32 => .array .int
  | 33 => .array .int
  | 34 => .int
  | 35 => .int
  | 36 => .array .boolean
  | 37 => .array .boolean
  | 38 => .array .int
  | 39 => .array .int
  | _ => .array .int
abbrev wsX80 : List Cond := u_ws RX8 TX8 41
theorem nmX8 : ∀ a, a < 41 → ∀ b, b < 41 → a ≠ b → (TX8 a).2.1 ≠ (TX8 b).2.1 := by decide +kernel
theorem tyX8_ok : ∀ k, k < 41 → parseFieldDescriptor (TX8 k).2.2.1 = some (tyX8 k) := by decide +kernel
abbrev cX8_init : ByteArray := prog_10_method_1_code
def yX8_init : MethodName := ⟨RX8, "<init>", "()V"⟩
abbrev cX8_copy : ByteArray := prog_10_method_2_code
def yX8_copy : MethodName := ⟨RX8, "copy", "([I[I)V"⟩
abbrev cX8_isIn : ByteArray := prog_10_method_3_code
def yX8_isIn : MethodName := ⟨RX8, "isIn", "(III)Z"⟩
abbrev cX8_has : ByteArray := prog_10_method_4_code
def yX8_has : MethodName := ⟨RX8, "has", "(II)Z"⟩
abbrev cX8_isPart : ByteArray := prog_10_method_5_code
def yX8_isPart : MethodName := ⟨RX8, "isPart", "(I)Z"⟩
abbrev cX8_isText : ByteArray := prog_10_method_6_code
def yX8_isText : MethodName := ⟨RX8, "isText", "(I)Z"⟩
abbrev cX8_isPlace : ByteArray := prog_10_method_7_code
def yX8_isPlace : MethodName := ⟨RX8, "isPlace", "(II)Z"⟩
abbrev cX8_part : ByteArray := prog_10_method_8_code
def yX8_part : MethodName := ⟨RX8, "part", "(I)I"⟩
abbrev cX8_four : ByteArray := prog_10_method_9_code
def yX8_four : MethodName := ⟨RX8, "four", "(I)V"⟩
abbrev cX8_feed : ByteArray := prog_10_method_10_code
def yX8_feed : MethodName := ⟨RX8, "feed", "(IIIII)I"⟩
abbrev cX8_end : ByteArray := prog_10_method_11_code
def yX8_end : MethodName := ⟨RX8, "end", "(I)I"⟩
abbrev cX8_byteAt : ByteArray := prog_10_method_12_code
def yX8_byteAt : MethodName := ⟨RX8, "byteAt", "(I)I"⟩
abbrev cX8_isLetter : ByteArray := prog_10_method_13_code
def yX8_isLetter : MethodName := ⟨RX8, "isLetter", "(I)Z"⟩
abbrev cX8_isDigit : ByteArray := prog_10_method_14_code
def yX8_isDigit : MethodName := ⟨RX8, "isDigit", "(I)Z"⟩
abbrev cX8_nextToken : ByteArray := prog_10_method_15_code
def yX8_nextToken : MethodName := ⟨RX8, "nextToken", "()V"⟩
abbrev cX8_w3 : ByteArray := prog_10_method_16_code
def yX8_w3 : MethodName := ⟨RX8, "w3", "(III)J"⟩
abbrev cX8_w5 : ByteArray := prog_10_method_17_code
def yX8_w5 : MethodName := ⟨RX8, "w5", "(IIIII)J"⟩
abbrev cX8_w4 : ByteArray := prog_10_method_18_code
def yX8_w4 : MethodName := ⟨RX8, "w4", "(IIII)J"⟩
abbrev cX8_isWord : ByteArray := prog_10_method_20_code
def yX8_isWord : MethodName := ⟨RX8, "isWord", "(J)Z"⟩
abbrev cX8_emit : ByteArray := prog_10_method_21_code
def yX8_emit : MethodName := ⟨RX8, "emit", "(II)V"⟩
abbrev cX8_push : ByteArray := prog_10_method_22_code
def yX8_push : MethodName := ⟨RX8, "push", "(I)V"⟩
abbrev cX8_whole : ByteArray := prog_10_method_23_code
def yX8_whole : MethodName := ⟨RX8, "whole", "()V"⟩
abbrev cX8_settle : ByteArray := prog_10_method_24_code
def yX8_settle : MethodName := ⟨RX8, "settle", "(I)V"⟩
abbrev cX8_nameOf : ByteArray := prog_10_method_25_code
def yX8_nameOf : MethodName := ⟨RX8, "nameOf", "()I"⟩
abbrev cX8_isBarred : ByteArray := prog_10_method_26_code
def yX8_isBarred : MethodName := ⟨RX8, "isBarred", "(I)Z"⟩
abbrev cX8_beginOne : ByteArray := prog_10_method_27_code
def yX8_beginOne : MethodName := ⟨RX8, "beginOne", "()I"⟩
abbrev cX8_hasParen : ByteArray := prog_10_method_28_code
def yX8_hasParen : MethodName := ⟨RX8, "hasParen", "()Z"⟩
abbrev cX8_goesOn : ByteArray := prog_10_method_29_code
def yX8_goesOn : MethodName := ⟨RX8, "goesOn", "()Z"⟩
abbrev cX8_behindOne : ByteArray := prog_10_method_30_code
def yX8_behindOne : MethodName := ⟨RX8, "behindOne", "()I"⟩
abbrev cX8_summed : ByteArray := prog_10_method_31_code
def yX8_summed : MethodName := ⟨RX8, "summed", "()I"⟩
abbrev cX8_compareOf : ByteArray := prog_10_method_32_code
def yX8_compareOf : MethodName := ⟨RX8, "compareOf", "()I"⟩
abbrev cX8_asks : ByteArray := prog_10_method_33_code
def yX8_asks : MethodName := ⟨RX8, "asks", "()I"⟩
abbrev cX8_either : ByteArray := prog_10_method_34_code
def yX8_either : MethodName := ⟨RX8, "either", "()I"⟩
abbrev cX8_sortOf : ByteArray := prog_10_method_35_code
def yX8_sortOf : MethodName := ⟨RX8, "sortOf", "()I"⟩
abbrev cX8_figure : ByteArray := prog_10_method_36_code
def yX8_figure : MethodName := ⟨RX8, "figure", "(II)I"⟩
abbrev cX8_placed : ByteArray := prog_10_method_37_code
def yX8_placed : MethodName := ⟨RX8, "placed", "(I)I"⟩
abbrev cX8_setting : ByteArray := prog_10_method_38_code
def yX8_setting : MethodName := ⟨RX8, "setting", "(I)I"⟩
abbrev cX8_hasWhen : ByteArray := prog_10_method_39_code
def yX8_hasWhen : MethodName := ⟨RX8, "hasWhen", "(I)Z"⟩
abbrev cX8_asked : ByteArray := prog_10_method_40_code
def yX8_asked : MethodName := ⟨RX8, "asked", "(II)I"⟩
abbrev cX8_line : ByteArray := prog_10_method_41_code
def yX8_line : MethodName := ⟨RX8, "line", "(II)I"⟩
abbrev cX8_isAsking : ByteArray := prog_10_method_42_code
def yX8_isAsking : MethodName := ⟨RX8, "isAsking", "(I)Z"⟩
abbrev cX8_isOnce : ByteArray := prog_10_method_43_code
def yX8_isOnce : MethodName := ⟨RX8, "isOnce", "(I)Z"⟩
abbrev cX8_clause : ByteArray := prog_10_method_44_code
def yX8_clause : MethodName := ⟨RX8, "clause", "()I"⟩
abbrev cX8_readText : ByteArray := prog_10_method_45_code
def yX8_readText : MethodName := ⟨RX8, "readText", "()I"⟩
abbrev cX8_text : ByteArray := prog_10_method_46_code
def yX8_text : MethodName := ⟨RX8, "text", "()I"⟩
abbrev cX8_fault : ByteArray := prog_10_method_47_code
def yX8_fault : MethodName := ⟨RX8, "fault", "(I)I"⟩
abbrev cX8_by : ByteArray := prog_10_method_48_code
def yX8_by : MethodName := ⟨RX8, "by", "(I)Z"⟩
abbrev cX8_clip : ByteArray := prog_10_method_49_code
def yX8_clip : MethodName := ⟨RX8, "clip", "(J)J"⟩
abbrev cX8_two : ByteArray := prog_10_method_50_code
def yX8_two : MethodName := ⟨RX8, "two", "(IJJ)J"⟩
abbrev cX8_isAsked : ByteArray := prog_10_method_51_code
def yX8_isAsked : MethodName := ⟨RX8, "isAsked", "(IJJ)Z"⟩
abbrev cX8_work : ByteArray := prog_10_method_52_code
def yX8_work : MethodName := ⟨RX8, "work", "(II)V"⟩
abbrev cX8_clausesOf : ByteArray := prog_10_method_53_code
def yX8_clausesOf : MethodName := ⟨RX8, "clausesOf", "(I)I"⟩
abbrev cX8_told : ByteArray := prog_10_method_54_code
def yX8_told : MethodName := ⟨RX8, "told", "(III)I"⟩
abbrev cX8_standNow : ByteArray := prog_10_method_55_code
def yX8_standNow : MethodName := ⟨RX8, "standNow", "()V"⟩
abbrev cX8_standFirst : ByteArray := prog_10_method_56_code
def yX8_standFirst : MethodName := ⟨RX8, "standFirst", "()V"⟩
abbrev cX8_standing : ByteArray := prog_10_method_57_code
def yX8_standing : MethodName := ⟨RX8, "standing", "()I"⟩
abbrev cX8_stand : ByteArray := prog_10_method_58_code
def yX8_stand : MethodName := ⟨RX8, "stand", "(I)V"⟩
abbrev cX8_name : ByteArray := prog_10_method_59_code
def yX8_name : MethodName := ⟨RX8, "name", "(III)V"⟩
abbrev cX8_isSo : ByteArray := prog_10_method_60_code
def yX8_isSo : MethodName := ⟨RX8, "isSo", "(IIIZ)Z"⟩
abbrev cX8_canBe : ByteArray := prog_10_method_61_code
def yX8_canBe : MethodName := ⟨RX8, "canBe", "(II)Z"⟩
abbrev cX8_sets : ByteArray := prog_10_method_62_code
def yX8_sets : MethodName := ⟨RX8, "sets", "(II)V"⟩
abbrev cX8_does : ByteArray := prog_10_method_63_code
def yX8_does : MethodName := ⟨RX8, "does", "(II)I"⟩
abbrev cX8_heard : ByteArray := prog_10_method_64_code
def yX8_heard : MethodName := ⟨RX8, "heard", "(II)I"⟩
abbrev cX8_isOpen : ByteArray := prog_10_method_65_code
def yX8_isOpen : MethodName := ⟨RX8, "isOpen", "(I)Z"⟩
abbrev cX8_isAct : ByteArray := prog_10_method_66_code
def yX8_isAct : MethodName := ⟨RX8, "isAct", "(I)Z"⟩
abbrev cX8_can : ByteArray := prog_10_method_67_code
def yX8_can : MethodName := ⟨RX8, "can", "(I)Z"⟩
abbrev cX8_keep : ByteArray := prog_10_method_68_code
def yX8_keep : MethodName := ⟨RX8, "keep", "()V"⟩
abbrev cX8_isStopped : ByteArray := prog_10_method_69_code
def yX8_isStopped : MethodName := ⟨RX8, "isStopped", "(I)Z"⟩
abbrev cX8_roll : ByteArray := prog_10_method_70_code
def yX8_roll : MethodName := ⟨RX8, "roll", "()V"⟩
abbrev cX8_doNow : ByteArray := prog_10_method_71_code
def yX8_doNow : MethodName := ⟨RX8, "doNow", "(I)I"⟩
abbrev cX8_act : ByteArray := prog_10_method_72_code
def yX8_act : MethodName := ⟨RX8, "act", "(I)I"⟩
abbrev cX8_played : ByteArray := prog_10_method_73_code
def yX8_played : MethodName := ⟨RX8, "played", "(I)I"⟩
abbrev cX8_carts : ByteArray := prog_10_method_74_code
def yX8_carts : MethodName := ⟨RX8, "carts", "(II)I"⟩
abbrev cX8_undo : ByteArray := prog_10_method_75_code
def yX8_undo : MethodName := ⟨RX8, "undo", "()I"⟩
abbrev cX8_place : ByteArray := prog_10_method_76_code
def yX8_place : MethodName := ⟨RX8, "place", "(I)I"⟩
abbrev cX8_now : ByteArray := prog_10_method_77_code
def yX8_now : MethodName := ⟨RX8, "now", "(I)I"⟩
abbrev cX8_isKept : ByteArray := prog_10_method_78_code
def yX8_isKept : MethodName := ⟨RX8, "isKept", "(IIII)Z"⟩
abbrev cX8_isOpenAt : ByteArray := prog_10_method_79_code
def yX8_isOpenAt : MethodName := ⟨RX8, "isOpenAt", "(II)Z"⟩
abbrev cX8_made : ByteArray := prog_10_method_80_code
def yX8_made : MethodName := ⟨RX8, "made", "(III)I"⟩
abbrev cX8_search : ByteArray := prog_10_method_81_code
def yX8_search : MethodName := ⟨RX8, "search", "(IIII)I"⟩
abbrev cX8_actsTo : ByteArray := prog_10_method_82_code
def yX8_actsTo : MethodName := ⟨RX8, "actsTo", "(II)I"⟩
abbrev cX8_fewest : ByteArray := prog_10_method_83_code
def yX8_fewest : MethodName := ⟨RX8, "fewest", "(I)I"⟩
abbrev cX8_reachAll : ByteArray := prog_10_method_84_code
def yX8_reachAll : MethodName := ⟨RX8, "reachAll", "(I)I"⟩
abbrev cX8_findFree : ByteArray := prog_10_method_85_code
def yX8_findFree : MethodName := ⟨RX8, "findFree", "(I)V"⟩
abbrev cX8_forever : ByteArray := prog_10_method_86_code
def yX8_forever : MethodName := ⟨RX8, "forever", "()I"⟩
abbrev cX8_tried : ByteArray := prog_10_method_87_code
def yX8_tried : MethodName := ⟨RX8, "tried", "(II)I"⟩
abbrev cX8_forget : ByteArray := prog_10_method_88_code
def yX8_forget : MethodName := ⟨RX8, "forget", "()I"⟩
abbrev cX8_isFit : ByteArray := prog_10_method_89_code
def yX8_isFit : MethodName := ⟨RX8, "isFit", "(I)Z"⟩
abbrev cX8_fits : ByteArray := prog_10_method_90_code
def yX8_fits : MethodName := ⟨RX8, "fits", "()I"⟩
abbrev cX8_alike : ByteArray := prog_10_method_91_code
def yX8_alike : MethodName := ⟨RX8, "alike", "(II)I"⟩
abbrev cX8_next : ByteArray := prog_10_method_92_code
def yX8_next : MethodName := ⟨RX8, "next", "()I"⟩
abbrev cX8_whatever : ByteArray := prog_10_method_93_code
def yX8_whatever : MethodName := ⟨RX8, "whatever", "(II)I"⟩
abbrev cX8_hollow : ByteArray := prog_10_method_94_code
def yX8_hollow : MethodName := ⟨RX8, "hollow", "(I)I"⟩
abbrev cX8_measure : ByteArray := prog_10_method_95_code
def yX8_measure : MethodName := ⟨RX8, "measure", "(II)I"⟩
abbrev cX8_image : ByteArray := prog_10_method_96_code
def yX8_image : MethodName := ⟨RX8, "image", "()I"⟩
abbrev cX8_back : ByteArray := prog_10_method_97_code
def yX8_back : MethodName := ⟨RX8, "back", "()I"⟩
abbrev cX8_about : ByteArray := prog_10_method_98_code
def yX8_about : MethodName := ⟨RX8, "about", "(I)I"⟩
def RJx145de : String := "java/io/Serializable"
def RJx9f9b0 : String := "java/lang/CharSequence"
def RJxb160c : String := "java/lang/Comparable"
def RJ6 : String := "java/lang/Integer"
abbrev cJ6_bitCount_0f7a4 : ByteArray := prog_11_method_49_code
def yJ6_bitCount_0f7a4 : MethodName := ⟨RJ6, "bitCount", "(I)I"⟩
def RJ9 : String := "java/lang/Math"
abbrev cJ9_max_7cf53 : ByteArray := prog_12_method_65_code
def yJ9_max_7cf53 : MethodName := ⟨RJ9, "max", "(II)I"⟩
abbrev cJ9_max_f86c9 : ByteArray := prog_12_method_66_code
def yJ9_max_f86c9 : MethodName := ⟨RJ9, "max", "(JJ)J"⟩
abbrev cJ9_min_7cf53 : ByteArray := prog_12_method_69_code
def yJ9_min_7cf53 : MethodName := ⟨RJ9, "min", "(II)I"⟩
abbrev cJ9_min_f86c9 : ByteArray := prog_12_method_70_code
def yJ9_min_f86c9 : MethodName := ⟨RJ9, "min", "(JJ)J"⟩
def RJ0 : String := "java/lang/String"
abbrev cJ0_length_8abf5 : ByteArray := prog_13_method_54_code
def yJ0_length_8abf5 : MethodName := ⟨RJ0, "length", "()I"⟩
abbrev cJ0_charAt_5068e : ByteArray := prog_13_method_56_code
def yJ0_charAt_5068e : MethodName := ⟨RJ0, "charAt", "(I)C"⟩
abbrev cJ0_coder_7d493 : ByteArray := prog_13_method_152_code
def yJ0_coder_7d493 : MethodName := ⟨RJ0, "coder", "()B"⟩
abbrev cJ0_isLatin1_aae02 : ByteArray := prog_13_method_154_code
def yJ0_isLatin1_aae02 : MethodName := ⟨RJ0, "isLatin1", "()Z"⟩
abbrev cJ0_checkIndex_df160 : ByteArray := prog_13_method_155_code
def yJ0_checkIndex_df160 : MethodName := ⟨RJ0, "checkIndex", "(II)V"⟩
def RJ1 : String := "java/lang/StringLatin1"
abbrev cJ1_charAt_3b067 : ByteArray := prog_14_method_2_code
def yJ1_charAt_3b067 : MethodName := ⟨RJ1, "charAt", "([BI)C"⟩
def RJ2 : String := "java/lang/StringUTF16"
abbrev cJ2_getChar_3b067 : ByteArray := prog_15_method_5_code
def yJ2_getChar_3b067 : MethodName := ⟨RJ2, "getChar", "([BI)C"⟩
abbrev cJ2_length_9d52b : ByteArray := prog_15_method_6_code
def yJ2_length_9d52b : MethodName := ⟨RJ2, "length", "([B)I"⟩
abbrev cJ2_charAt_3b067 : ByteArray := prog_15_method_83_code
def yJ2_charAt_3b067 : MethodName := ⟨RJ2, "charAt", "([BI)C"⟩
abbrev cJ2_checkIndex_2214a : ByteArray := prog_15_method_91_code
def yJ2_checkIndex_2214a : MethodName := ⟨RJ2, "checkIndex", "(I[B)V"⟩
def RJ10 : String := "java/lang/System"
def RJxfd54e : String := "java/lang/constant/Constable"
def RJx3cf43 : String := "java/lang/constant/ConstantDesc"
def RJ7 : String := "java/util/Arrays"
abbrev cJ7_fill_53178 : ByteArray := prog_17_method_103_code
def yJ7_fill_53178 : MethodName := ⟨RJ7, "fill", "([II)V"⟩
def RJ3 : String := "jdk/internal/util/Preconditions"
abbrev cJ3_checkIndex_8e157 : ByteArray := prog_18_method_11_code
def yJ3_checkIndex_8e157 : MethodName := ⟨RJ3, "checkIndex", "(IILjava/util/function/BiFunction;)I"⟩
def RL : String := "HiddenDrawersLaw"
abbrev cL_law : ByteArray := code
def yL_law : MethodName := ⟨RL, "law", "([I)Z"⟩
abbrev vwCl : List vw_C := [(RX0, TX0, 8), (RX1, TX1, 14), (RX2, TX2, 11), (RX3, TX3, 12), (RX4, TX4, 4), (RX5, TX5, 11), (RX6, TX6, 11), (RX7, TX7, 14), (RX8, TX8, 41)]
end
section
/-! The abstract machine: a world of numbered cells (a shape, and what the cells hold as functions), values with cell numbers in the place of addresses. -/
abbrev hd_Ins : Type := Jvm.ClassFile.Instr
/-- launch, classes, array classes, the state at the law's entry, the addresses -/
abbrev hd_G : Type := Launch × va_G × (Nat → ClassId) × State × (Nat → Nat)
/-- what the cells hold: ints (also the four references that change: the cell's number, 0 for null), longs -/
abbrev hd_M : Type := (Nat → Nat → Int32) × (Nat → Nat → Int64)
/-- a cell's kind (0 int[], 1 byte[], 2 boolean[], 3 long[], 4 Law[], 10 + c an object of class c), its length, its references that stay (0: null) -/
abbrev hd_S : Type := List (Nat × Nat × List Nat)
/-- a method: name, code, locals, return type, frames, locals' room, cells and slots that it makes -/
abbrev hd_I : Type := MethodName × ByteArray × Nat × Option FieldType × Nat × Nat × Nat × Nat
/-- where a method's walk stands -/
abbrev hd_X : Type := Program × Env × Room × State × MethodId × Array Value × List Frame × Method × Code × (State → Prop)
/-- an instruction: pc, instruction, length, two numbers, an int, a long, a switch's table, a callee -/
abbrev hd_R : Type := Nat × hd_Ins × Nat × Nat × Nat × Int32 × Int64 × List (Int32 × Nat) × hd_I
abbrev hd_L : Type := List (Nat × Value)
def hd_b (G : hd_G) : Nat := G.2.2.2.1.heap.size
def hd_ad (G : hd_G) : Nat → Nat := G.2.2.2.2
def hd_A (G : hd_G) : Nat → Prop := fun q => hd_b G ≤ q
def hd_tys (G : hd_G) : List (ClassId × FieldType) := [(G.2.2.1 0, .int), (G.2.2.1 1, .byte), (G.2.2.1 2, .boolean), (G.2.2.1 3, .long), (G.2.2.1 4, .object "HiddenDrawers$Law")]
def hd_v (ad : Nat → Nat) : Value → Value
  | .ref k => .ref (ad k)
  | v => v
def hd_lm (f : Nat → Nat) (lv : hd_L) : hd_L := lv.map (fun q => (q.1, hd_v f q.2))
def hd_ft (ci k : Nat) : FieldType := match ci with
  | 0 => tyX0 k
  | 1 => tyX1 k
  | 2 => tyX2 k
  | 3 => tyX3 k
  | 4 => tyX4 k
  | 5 => tyX5 k
  | 6 => tyX6 k
  | 7 => tyX7 k
  | _ => tyX8 k
/-- the reference fields that change -/
def hd_mut (ci k : Nat) : Bool := (Nat.beq ci 3 && Nat.beq k 1) || (Nat.beq ci 5 && (Nat.beq k 7 || Nat.beq k 8)) || (Nat.beq ci 6 && Nat.beq k 5)
/-- a field's kind: 0 int, 1 long, 2 a reference that stays, 3 one that changes, 4 boolean -/
def hd_fk (ci k : Nat) : Nat := match hd_ft ci k with
  | .long => 1
  | .boolean => 4
  | .object _ => bif hd_mut ci k then 3 else 2
  | .array _ => bif hd_mut ci k then 3 else 2
  | .int => 0
  | _ => 9
def hd_rv (f : Nat → Nat) (n : Nat) : Value := bif Nat.beq n 0 then .null else .ref (f n)
def hd_ro (f : Nat → Nat) (n : Nat) : Option Nat := bif Nat.beq n 0 then none else some (f n)
/-- a field's value, references by f -/
def hd_fv (f : Nat → Nat) (σ : hd_M) (q : Nat) (rs : List Nat) (ci k : Nat) : Value := match hd_fk ci k with
  | 1 => .long (σ.2 q k)
  | 2 => hd_rv f (rs.getD k 0)
  | 3 => hd_rv f (σ.1 q k).toNatClampNeg
  | _ => .int (σ.1 q k)
def hd_N (ci : Nat) : Nat := match vwCl[ci]? with
  | some r => r.2.2
  | none => 0
def hd_E (G : hd_G) (σ : hd_M) (q : Nat) (s : Nat × Nat × List Nat) : va_E := match s.1 with
  | 0 => .inl (G.2.2.1 0, s.2.1, .inl (σ.1 q))
  | 1 => .inl (G.2.2.1 1, s.2.1, .inl (σ.1 q))
  | 2 => .inl (G.2.2.1 2, s.2.1, .inl (σ.1 q))
  | 3 => .inl (G.2.2.1 3, s.2.1, .inr (.inl (σ.2 q)))
  | 4 => .inl (G.2.2.1 4, s.2.1, .inr (.inr (.inr (.inr (fun i => hd_ro (hd_ad G) (s.2.2.getD i 0))))))
  | k => .inr (k - 10, (List.range (hd_N (k - 10))).map (fun j => hd_fv (hd_ad G) σ q s.2.2 (k - 10) j))
def hd_ws (G : hd_G) (sh : hd_S) (σ : hd_M) : va_W := (List.range sh.length).map (fun k => (hd_b G + k, hd_E G σ k (sh.getD k (0, 0, []))))
def hd_P (G : hd_G) (sh : hd_S) (σ : hd_M) (H : Heap) : Prop := sh.length ≤ 5000 ∧ va_P G.2.1 vwCl (hd_ws G sh σ) H
def hd_nest : List Cond := [.methodLinkNest "HiddenDrawers" 22 ⟨"HiddenDrawers$Desk", "<init>", "()V"⟩ "HiddenDrawers", .methodLinkNest "HiddenDrawers" 43 ⟨"HiddenDrawers$Reader", "<init>", "()V"⟩ "HiddenDrawers", .methodLinkNest "HiddenDrawers$Reader" 11 ⟨"HiddenDrawers$Tokens", "<init>", "()V"⟩ "HiddenDrawers", .methodLinkNest "HiddenDrawers$Reader" 84 ⟨"HiddenDrawers", "causeOfPush", "(II)I"⟩ "HiddenDrawers", .methodLinkNest "HiddenDrawers$Reader" 88 ⟨"HiddenDrawers", "causeOfTilt", "(I)I"⟩ "HiddenDrawers", .methodLinkNest "HiddenDrawers$Rules" 40 ⟨"HiddenDrawers", "causeOfTilt", "(I)I"⟩ "HiddenDrawers", .methodLinkNest "HiddenDrawers$Rules" 65 ⟨"HiddenDrawers", "causeOfPush", "(II)I"⟩ "HiddenDrawers"]
def hd_sk : List Nat := [85, 91, 93, 95, 96, 98, 100, 102, 104, 106, 108, 110, 112, 114, 116]
def hd_stx : List String := ["tilt", "on", "part", "at", "or", "and", "not", "when", "with", "to", "set", "sound", "open", "stops", "do"]
def hd_sl : List Nat := [4, 2, 4, 2, 2, 3, 3, 4, 4, 2, 3, 5, 4, 5, 2]
def hd_sb : List (List Int32) := [[116, 105, 108, 116], [111, 110], [112, 97, 114, 116], [97, 116], [111, 114], [97, 110, 100], [110, 111, 116], [119, 104, 101, 110], [119, 105, 116, 104], [116, 111], [115, 101, 116], [115, 111, 117, 110, 100], [111, 112, 101, 110], [115, 116, 111, 112, 115], [100, 111]]
def hd_str (G : hd_G) (U : State) : Prop := (∀ j, j < 15 → vk_R RX6 (hd_sk.getD j 0) (hd_stx.getD j "") (hd_ad G (5000 + j)) U) ∧ vk_S 15 hd_sl hd_sb (fun j => hd_ad G (5000 + j)) (fun j => hd_ad G (5100 + j)) (hd_A G) U U.heap ∧ va_Z "java/lang/String" "COMPACT_STRINGS" "Z" (.int 1) (hd_A G) U U.heap ∧ (va_Z "jdk/internal/util/Preconditions" "SIOOBE_FORMATTER" "Ljava/util/function/BiFunction;" .null (hd_A G) U U.heap ∨ va_Z "jdk/internal/util/Preconditions" "SIOOBE_FORMATTER" "Ljava/util/function/BiFunction;" (.ref (hd_ad G 5300)) (hd_A G) U U.heap)
/-- what every state under the law keeps of the tables and of what lies below -/
def hd_K (G : hd_G) (U : State) : Prop := va_K G.2.1 vwCl (hd_tys G) U ∧ (∀ w ∈ hd_nest, va_Nw w U) ∧ va_AO "HiddenDrawers$Law" U ∧ hd_str G U ∧ hd_b G ≤ U.heap.size ∧ ∀ k, k < 5000 → hd_ad G k = hd_b G + k
def lw_g : List Cond := lw_tbl.filter goodWord
def hd_wm (mi : hd_I) : List Cond := .code mi.1 mi.2.1 mi.2.2.1 mi.2.2.2.1 :: lw_g
def hd_rm (mi : hd_I) : Room := { frames := mi.2.2.2.2.1, cells := mi.2.2.2.2.2.2.1, slots := mi.2.2.2.2.2.2.2, locals := mi.2.2.2.2.2.1 }
def hd_Qc (G : hd_G) (n : Nat) (P : Option Value → hd_S → hd_M → Prop) : Array Value → State → Outcome → State → Prop := fun _ st o t => (∃ (r : Option Value) (sh : hd_S) (σ : hd_M), o = .returned (r.map (hd_v (hd_ad G))) ∧ P r sh σ ∧ hd_P G sh σ t.heap ∧ sh.length = n) ∧ va_F (hd_A G) st t
/-- a call of a method: it returns, with P -/
def hd_EV (G : hd_G) (mi : hd_I) (sh : hd_S) (as : List Value) (σ : hd_M) (P : Option Value → hd_S → hd_M → Prop) : Prop :=
  Met G.1 mi.1 (hd_wm mi) (hd_rm mi) (va_Pc (as.map (hd_v (hd_ad G))) (fun U => hd_K G U ∧ hd_P G sh σ U.heap ∧ U.heap.size = hd_b G + sh.length)) (hd_Qc G (sh.length + mi.2.2.2.2.2.2.1) P) mi.2.2.2.2.2.2.1 mi.2.2.2.2.2.2.2 (hd_A G)
def EVi (G : hd_G) (mi : hd_I) (sh : hd_S) (as : List Value) (σ : hd_M) (P : Int32 → hd_M → Prop) : Prop := hd_EV G mi sh as σ (fun r sh' σ' => sh' = sh ∧ ∃ x, r = some (.int x) ∧ P x σ')
def EVl (G : hd_G) (mi : hd_I) (sh : hd_S) (as : List Value) (σ : hd_M) (P : Int64 → hd_M → Prop) : Prop := hd_EV G mi sh as σ (fun r sh' σ' => sh' = sh ∧ ∃ x, r = some (.long x) ∧ P x σ')
def EVr (G : hd_G) (mi : hd_I) (sh : hd_S) (as : List Value) (σ : hd_M) (P : Nat → hd_M → Prop) : Prop := hd_EV G mi sh as σ (fun r sh' σ' => sh' = sh ∧ ∃ x, r = some (.ref x) ∧ P x σ')
def EVv (G : hd_G) (mi : hd_I) (sh : hd_S) (as : List Value) (σ : hd_M) (P : hd_M → Prop) : Prop := hd_EV G mi sh as σ (fun r sh' σ' => sh' = sh ∧ r = none ∧ P σ')
/-- a constructor: the world may grow -/
def EVc (G : hd_G) (mi : hd_I) (sh : hd_S) (as : List Value) (σ : hd_M) (P : hd_S → hd_M → Prop) : Prop := hd_EV G mi sh as σ (fun r sh' σ' => r = none ∧ P sh' σ')
/-- what holds where a method's walk stands -/
def hd_C (G : hd_G) (mi : hd_I) (X : hd_X) : Prop :=
  X.1.tables.exec = Jvm.exec ∧ X.2.2.2.2.2.2.2.2.1.code = mi.2.1 ∧ X.2.2.2.2.2.2.2.1.sig.returnType = mi.2.2.2.1 ∧ X.2.2.2.2.2.2.2.2.1.maxLocals = mi.2.2.1 ∧ X.2.2.2.1.vm.findClass mi.1.cls = some X.2.2.2.2.1.cls ∧
  (∀ w ∈ lw_g, w.before X.2.2.2.2.2.1 X.2.2.2.1 = true) ∧ X.2.2.2.2.2.2.2.1.locks = false ∧ hd_K G X.2.2.2.1 ∧ X.2.2.2.2.2.2.2.1.name = mi.1.name ∧ mi.2.2.2.2.1 ≤ X.2.2.1.frames ∧ mi.2.2.2.2.2.1 ≤ X.2.2.1.locals ∧ X.2.2.1.cells = mi.2.2.2.2.2.2.1 ∧ X.2.2.1.slots = mi.2.2.2.2.2.2.2
/-- the walk goes on from here to its end -/
def hd_J (G : hd_G) (mi : hd_I) (X : hd_X) (sh : hd_S) (ks : Nat × Nat) (pc : Nat) (lv : hd_L) (st : List Value) (σ : hd_M) : Prop := X.2.2.2.1.heap.size + ks.1 = hd_b G + sh.length →
  ∀ (H : Heap) (locs : List Loc) (ls : Array Slot), hd_P G sh σ H → va_S (hd_A G) X.2.2.2.1.heap H locs → lv_has ls mi.2.2.1 (hd_lm (hd_ad G) lv) →
    W X.1 G.1 X.2.1 X.2.2.1 X.2.2.2.1 X.2.2.2.2.1 X.2.2.2.2.2.1 X.2.2.2.2.2.2.1 X.2.2.2.2.2.2.2.1 X.2.2.2.2.2.2.2.2.1 H locs ks.1 ks.2 X.2.2.2.2.2.2.2.2.2 (F0 X.2.2.2.2.1 pc ls (st.map (hd_v (hd_ad G))))

/-! lookups -/
theorem hd_ws_at {G : hd_G} {sh : hd_S} {σ : hd_M} {k : Nat} {s : Nat × Nat × List Nat} (h : sh[k]? = some s) : (hd_ws G sh σ)[k]? = some (hd_b G + k, hd_E G σ k s) := by
  have hl : k < sh.length := (List.getElem?_eq_some_iff.mp h).1
  have hk : sh[k] = s := (List.getElem?_eq_some_iff.mp h).2
  simp [hd_ws, hl, hk]
theorem hd_ws_len {G : hd_G} {sh : hd_S} {σ : hd_M} : (hd_ws G sh σ).length = sh.length := by simp [hd_ws]
theorem hd_ws_inv {G : hd_G} {sh : hd_S} {σ : hd_M} {k : Nat} {x : Nat × va_E} (h : (hd_ws G sh σ)[k]? = some x) : k < sh.length ∧ x.1 = hd_b G + k := by
  have hl : k < (hd_ws G sh σ).length := (List.getElem?_eq_some_iff.mp h).1
  rw [hd_ws_len] at hl
  refine ⟨hl, ?_⟩
  rw [hd_ws_at (List.getElem?_eq_getElem hl)] at h
  cases h
  rfl
theorem hd_D (G : hd_G) (sh : hd_S) (σ : hd_M) : va_D (hd_A G) (hd_ws G sh σ) := by
  refine ⟨fun i j p q hp hq e => ?_, fun k q hq => ?_⟩
  · have h1 := (hd_ws_inv hp).2
    have h2 := (hd_ws_inv hq).2
    omega
  · have h1 := (hd_ws_inv hq).2
    show hd_b G ≤ q.1
    omega
theorem hd_set {G : hd_G} {sh : hd_S} {σ σ' : hd_M} {q : Nat} {s : Nat × Nat × List Nat} {e : va_E} (hs : sh[q]? = some s) (he : e = hd_E G σ' q s) (ho : ∀ k s', k ≠ q → hd_E G σ' k s' = hd_E G σ k s') : (hd_ws G sh σ).set q (hd_b G + q, e) = hd_ws G sh σ' := by
  apply List.ext_getElem?
  intro i
  rw [List.getElem?_set]
  by_cases hi : q = i
  · subst hi
    rw [if_pos rfl, if_pos (by rw [hd_ws_len]; exact (List.getElem?_eq_some_iff.mp hs).1), hd_ws_at hs, he]
  · rw [if_neg hi]
    by_cases hl : i < sh.length
    · rw [hd_ws_at (List.getElem?_eq_getElem hl), hd_ws_at (List.getElem?_eq_getElem hl), ho i _ (fun z => hi z.symm)]
    · rw [List.getElem?_eq_none (by rw [hd_ws_len]; omega), List.getElem?_eq_none (by rw [hd_ws_len]; omega)]
def hd_wI (σ : hd_M) (q i : Nat) (x : Int32) : hd_M := (va_up σ.1 q (va_up (σ.1 q) i x), σ.2)
def hd_wL (σ : hd_M) (q i : Nat) (x : Int64) : hd_M := (σ.1, va_up σ.2 q (va_up (σ.2 q) i x))
theorem hd_up_ne {α : Type} {f : Nat → α} {q k : Nat} {x : α} (h : k ≠ q) : va_up f q x k = f k := by simp [va_up, h]
theorem hd_up_eq {α : Type} {f : Nat → α} {q : Nat} {x : α} : va_up f q x q = x := by simp [va_up]
theorem hd_E_I {G : hd_G} {σ : hd_M} {q : Nat} {f : Nat → Int32} (k : Nat) (s : Nat × Nat × List Nat) (h : k ≠ q) : hd_E G (va_up σ.1 q f, σ.2) k s = hd_E G σ k s := by
  unfold hd_E hd_fv
  simp only [hd_up_ne h]
theorem hd_E_L {G : hd_G} {σ : hd_M} {q : Nat} {f : Nat → Int64} (k : Nat) (s : Nat × Nat × List Nat) (h : k ≠ q) : hd_E G (σ.1, va_up σ.2 q f) k s = hd_E G σ k s := by
  unfold hd_E hd_fv
  simp only [hd_up_ne h]
/-! locals -/
def hd_lk (i : Nat) : hd_L → Option Value
  | [] => none
  | (j, v) :: r => bif Nat.beq i j then some v else hd_lk i r
def hd_ins (i : Nat) (v : Value) : hd_L → hd_L
  | [] => [(i, v)]
  | (j, w) :: r => bif Nat.blt i j then (i, v) :: (j, w) :: r else bif Nat.beq i j then (i, v) :: r else (j, w) :: hd_ins i v r
def hd_del (i : Nat) : hd_L → hd_L
  | [] => []
  | (j, w) :: r => bif Nat.beq (j + 1) i && Nat.beq w.category 2 then hd_del i r else (j, w) :: hd_del i r
def hd_del1 (i : Nat) : hd_L → hd_L
  | [] => []
  | (j, w) :: r => bif Nat.beq i j then hd_del1 i r else (j, w) :: hd_del1 i r
def hd_sto (i : Nat) (v : Value) (lv : hd_L) : hd_L := hd_ins i v (hd_del i (hd_del1 i lv))
def hd_stoL (i : Nat) (v : Value) (lv : hd_L) : hd_L := hd_ins i v (hd_del1 (i + 1) (hd_del i (hd_del1 i lv)))
def hd_pick (is : List Nat) (lv : hd_L) : hd_L := lv.filter (fun q => is.contains q.1)
theorem hd_lk_mem {i : Nat} {v : Value} : ∀ {lv : hd_L}, hd_lk i lv = some v → (i, v) ∈ lv
  | (j, w) :: r, h => by
    unfold hd_lk at h
    cases hb : Nat.beq i j with
    | true =>
      rw [hb] at h
      cases Nat.eq_of_beq_eq_true hb
      cases h
      exact List.mem_cons_self
    | false =>
      rw [hb] at h
      exact List.mem_cons_of_mem _ (hd_lk_mem h)
theorem hd_ins_sub {i : Nat} {v : Value} {q : Nat × Value} : ∀ {lv : hd_L}, q ∈ hd_ins i v lv → q = (i, v) ∨ q ∈ lv
  | [], h => Or.inl (List.mem_singleton.mp h)
  | (j, w) :: r, h => by
    unfold hd_ins at h
    cases hb : Nat.blt i j with
    | true =>
      rw [hb] at h
      rcases List.mem_cons.mp h with h | h
      · exact Or.inl h
      · exact Or.inr h
    | false =>
      rw [hb] at h
      cases hc : Nat.beq i j with
      | true =>
        rw [hc] at h
        rcases List.mem_cons.mp h with h | h
        · exact Or.inl h
        · exact Or.inr (List.mem_cons_of_mem _ h)
      | false =>
        rw [hc] at h
        rcases List.mem_cons.mp h with h | h
        · exact Or.inr (h ▸ List.mem_cons_self)
        · rcases hd_ins_sub h with h | h
          · exact Or.inl h
          · exact Or.inr (List.mem_cons_of_mem _ h)
theorem hd_del1_sub {i : Nat} {q : Nat × Value} : ∀ {lv : hd_L}, q ∈ hd_del1 i lv → q ∈ lv ∧ q.1 ≠ i
  | (j, w) :: r, h => by
    unfold hd_del1 at h
    cases hb : Nat.beq i j with
    | true =>
      rw [hb] at h
      exact ⟨List.mem_cons_of_mem _ (hd_del1_sub h).1, (hd_del1_sub h).2⟩
    | false =>
      rw [hb] at h
      rcases List.mem_cons.mp h with h | h
      · subst h
        exact ⟨List.mem_cons_self, fun z => by subst z; rw [Nat.beq_refl] at hb; cases hb⟩
      · exact ⟨List.mem_cons_of_mem _ (hd_del1_sub h).1, (hd_del1_sub h).2⟩
theorem hd_del_sub {i : Nat} {q : Nat × Value} : ∀ {lv : hd_L}, q ∈ hd_del i lv → q ∈ lv ∧ ¬ (q.1 + 1 = i ∧ q.2.category = 2)
  | (j, w) :: r, h => by
    unfold hd_del at h
    cases hb : (Nat.beq (j + 1) i && Nat.beq w.category 2) with
    | true =>
      rw [hb] at h
      exact ⟨List.mem_cons_of_mem _ (hd_del_sub h).1, (hd_del_sub h).2⟩
    | false =>
      rw [hb] at h
      rcases List.mem_cons.mp h with h | h
      · subst h
        refine ⟨List.mem_cons_self, fun z => ?_⟩
        simp only at z
        rw [z.1, z.2, Nat.beq_refl, Nat.beq_refl] at hb
        cases hb
      · exact ⟨List.mem_cons_of_mem _ (hd_del_sub h).1, (hd_del_sub h).2⟩
theorem hd_cat (f : Nat → Nat) (v : Value) : (hd_v f v).category = v.category := by cases v <;> rfl
theorem hd_has_sub {ls : Array Slot} {n : Nat} {l l' : hd_L} (h : lv_has ls n l) (hs : ∀ q ∈ l', q ∈ l) : lv_has ls n l' := ⟨h.1, h.2.1, fun q hq => h.2.2 q (hs q hq)⟩
theorem hd_has_pick {f : Nat → Nat} {ls : Array Slot} {n : Nat} {lv : hd_L} {is : List Nat} (h : lv_has ls n (hd_lm f lv)) : lv_has ls n (hd_lm f (hd_pick is lv)) := by
  refine hd_has_sub h fun q hq => ?_
  obtain ⟨r, hr, e⟩ := List.mem_map.mp hq
  exact List.mem_map.mpr ⟨r, (List.mem_filter.mp hr).1, e⟩
theorem hd_has_at {f : Nat → Nat} {ls : Array Slot} {n i : Nat} {v : Value} {lv : hd_L} (h : lv_has ls n (hd_lm f lv)) (hl : hd_lk i lv = some v) : ls[i]? = some (.val (hd_v f v)) := h.2.2 (i, hd_v f v) (List.mem_map.mpr ⟨(i, v), hd_lk_mem hl, rfl⟩)
theorem hd_has_sto {f : Nat → Nat} {ls : Array Slot} {n i : Nat} {v : Value} {lv : hd_L} (h : lv_has ls n ((i, hd_v f v) :: (hd_lm f lv).filter (fun q => !(q.1 == i) && !(q.1 + 1 == i && q.2.category == 2)))) : lv_has ls n (hd_lm f (hd_sto i v lv)) := by
  refine hd_has_sub h fun q hq => ?_
  obtain ⟨r, hr, e⟩ := List.mem_map.mp hq
  subst e
  rcases hd_ins_sub hr with rfl | hr
  · exact List.mem_cons_self
  · refine List.mem_cons_of_mem _ (List.mem_filter.mpr ⟨List.mem_map.mpr ⟨r, (hd_del1_sub (hd_del_sub hr).1).1, rfl⟩, ?_⟩)
    have h1 := (hd_del1_sub (hd_del_sub hr).1).2
    have h2 := (hd_del_sub hr).2
    simp only [hd_cat, Bool.and_eq_true, Bool.not_eq_true', beq_eq_false_iff_ne, Bool.and_eq_false_iff, ne_eq]
    refine ⟨h1, ?_⟩
    by_cases h3 : r.1 + 1 = i
    · exact Or.inr fun z => h2 ⟨h3, z⟩
    · exact Or.inl h3
theorem hd_has_stoL {f : Nat → Nat} {ls : Array Slot} {n i : Nat} {v : Value} {lv : hd_L} (h : lv_has ls n ((i, hd_v f v) :: (hd_lm f lv).filter (fun q => !(q.1 == i) && (!(q.1 == i + 1) && !(q.1 + 1 == i && q.2.category == 2))))) : lv_has ls n (hd_lm f (hd_stoL i v lv)) := by
  refine hd_has_sub h fun q hq => ?_
  obtain ⟨r, hr, e⟩ := List.mem_map.mp hq
  subst e
  rcases hd_ins_sub hr with rfl | hr
  · exact List.mem_cons_self
  · have h0 := (hd_del1_sub hr).2
    have hr := (hd_del1_sub hr).1
    refine List.mem_cons_of_mem _ (List.mem_filter.mpr ⟨List.mem_map.mpr ⟨r, (hd_del1_sub (hd_del_sub hr).1).1, rfl⟩, ?_⟩)
    have h1 := (hd_del1_sub (hd_del_sub hr).1).2
    have h2 := (hd_del_sub hr).2
    simp only [hd_cat, Bool.and_eq_true, Bool.not_eq_true', beq_eq_false_iff_ne, Bool.and_eq_false_iff, ne_eq]
    refine ⟨h1, h0, ?_⟩
    by_cases h3 : r.1 + 1 = i
    · exact Or.inr fun z => h2 ⟨h3, z⟩
    · exact Or.inl h3
end
section
def hd_take : Nat → List Value → List Value → Option (List Value × List Value)
  | 0, acc, st => some (acc, st)
  | n + 1, acc, v :: st => hd_take n (v :: acc) st
  | _ + 1, _, [] => none
def hd_sum : List Value → Nat
  | [] => 0
  | v :: r => v.category + hd_sum r
/-- a switch: the first place whose number it is, or the last -/
def hd_sw (x : Int32) (dft : Nat) (k : Nat → Prop) : List (Int32 × Nat) → Prop
  | [] => k dft
  | (v, t) :: r => (x = v → k t) ∧ (¬ x = v → hd_sw x dft k r)
def hd_if0 (c : Jvm.ClassFile.Cond) (x : Int32) (T F : Prop) : Prop := match c with
  | .eq => (x = 0 → T) ∧ (¬ x = 0 → F)
  | .ne => (¬ x = 0 → T) ∧ (x = 0 → F)
  | .lt => (x < 0 → T) ∧ (0 ≤ x → F)
  | .ge => (0 ≤ x → T) ∧ (x < 0 → F)
  | .gt => (0 < x → T) ∧ (x ≤ 0 → F)
  | .le => (x ≤ 0 → T) ∧ (0 < x → F)
def hd_if2 (c : Jvm.ClassFile.Cond) (x y : Int32) (T F : Prop) : Prop := match c with
  | .eq => (x = y → T) ∧ (¬ x = y → F)
  | .ne => (¬ x = y → T) ∧ (x = y → F)
  | .lt => (x < y → T) ∧ (y ≤ x → F)
  | .ge => (y ≤ x → T) ∧ (x < y → F)
  | .gt => (y < x → T) ∧ (x ≤ y → F)
  | .le => (x ≤ y → T) ∧ (y < x → F)
def hd_ret (t : Option FieldType) (v : Int32) (P : Prop) : Prop := match t with
  | some .int => P
  | some .boolean => (v = 0 ∨ v = 1) ∧ P
  | _ => False
def hd_retl (t : Option FieldType) (P : Prop) : Prop := match t with
  | some .long => P
  | _ => False
def hd_reta (t : Option FieldType) (P : Prop) : Prop := match t with
  | some (.object _) => P
  | some (.array _) => P
  | _ => False
def hd_retv (t : Option FieldType) (P : Prop) : Prop := match t with
  | none => P
  | _ => False
/-- a call, by the kind of its answer -/
def hd_call (G : hd_G) (ce : hd_I) (kind : Nat) (sh : hd_S) (as rest : List Value) (σ : hd_M) (k : List Value → hd_M → Prop) : Prop := match kind with
  | 0 => EVi G ce sh as σ (fun x σ' => k (.int x :: rest) σ')
  | 1 => EVl G ce sh as σ (fun x σ' => k (.long x :: rest) σ')
  | 2 => EVv G ce sh as σ (fun σ' => k rest σ')
  | 3 => EVr G ce sh as σ (fun x σ' => k (.ref x :: rest) σ')
  | _ => False
def hd_i1 (st : List Value) (f : Int32 → List Value → Prop) : Prop := match st with
  | .int x :: st => f x st
  | _ => False
def hd_l1 (st : List Value) (f : Int64 → List Value → Prop) : Prop := match st with
  | .long x :: st => f x st
  | _ => False
def hd_r1 (st : List Value) (f : Nat → List Value → Prop) : Prop := match st with
  | .ref x :: st => f x st
  | _ => False
def hd_i2 (st : List Value) (f : Int32 → Int32 → List Value → Prop) : Prop := match st with
  | .int y :: .int x :: st => f y x st
  | _ => False
def hd_l2 (st : List Value) (f : Int64 → Int64 → List Value → Prop) : Prop := match st with
  | .long y :: .long x :: st => f y x st
  | _ => False
def hd_il (st : List Value) (f : Int32 → Int64 → List Value → Prop) : Prop := match st with
  | .int y :: .long x :: st => f y x st
  | _ => False
def hd_ir (st : List Value) (f : Int32 → Nat → List Value → Prop) : Prop := match st with
  | .int y :: .ref x :: st => f y x st
  | _ => False
def hd_r2 (st : List Value) (f : Nat → Nat → List Value → Prop) : Prop := match st with
  | .ref y :: .ref x :: st => f y x st
  | _ => False
def hd_iir (st : List Value) (f : Int32 → Int32 → Nat → List Value → Prop) : Prop := match st with
  | .int z :: .int y :: .ref x :: st => f z y x st
  | _ => False
def hd_lir (st : List Value) (f : Int64 → Int32 → Nat → List Value → Prop) : Prop := match st with
  | .long z :: .int y :: .ref x :: st => f z y x st
  | _ => False
def hd_vr (st : List Value) (f : Value → Nat → List Value → Prop) : Prop := match st with
  | v :: .ref x :: st => f v x st
  | _ => False
def hd_lki (a : Nat) (lv : hd_L) (f : Int32 → Prop) : Prop := match hd_lk a lv with
  | some (.int x) => f x
  | _ => False
def hd_lkl (a : Nat) (lv : hd_L) (f : Int64 → Prop) : Prop := match hd_lk a lv with
  | some (.long x) => f x
  | _ => False
def hd_lkr (a : Nat) (lv : hd_L) (f : Nat → Prop) : Prop := match hd_lk a lv with
  | some (.ref x) => f x
  | _ => False
/-- the cell q is of the kind t: f of its length -/
def hd_k (sh : hd_S) (q t : Nat) (f : Nat → Prop) : Prop := match sh[q]? with
  | some (t', n, _) => bif Nat.beq t' t then f n else False
  | none => False
/-- the cell q is an array: f of its length -/
def hd_al (sh : hd_S) (q : Nat) (f : Nat → Prop) : Prop := match sh[q]? with
  | some (t, n, _) => bif Nat.blt t 5 then f n else False
  | none => False
/-- the same, with its references -/
def hd_kr (sh : hd_S) (q t : Nat) (f : Nat → List Nat → Prop) : Prop := match sh[q]? with
  | some (t', n, rs) => bif Nat.beq t' t then f n rs else False
  | none => False
theorem hd_i1_inv {st : List Value} {f : Int32 → List Value → Prop} (h : hd_i1 st f) : ∃ x r, st = .int x :: r ∧ f x r := by
  unfold hd_i1 at h; split at h
  · exact ⟨_, _, rfl, h⟩
  · exact h.elim
theorem hd_l1_inv {st : List Value} {f : Int64 → List Value → Prop} (h : hd_l1 st f) : ∃ x r, st = .long x :: r ∧ f x r := by
  unfold hd_l1 at h; split at h
  · exact ⟨_, _, rfl, h⟩
  · exact h.elim
theorem hd_r1_inv {st : List Value} {f : Nat → List Value → Prop} (h : hd_r1 st f) : ∃ x r, st = .ref x :: r ∧ f x r := by
  unfold hd_r1 at h; split at h
  · exact ⟨_, _, rfl, h⟩
  · exact h.elim
theorem hd_i2_inv {st : List Value} {f : Int32 → Int32 → List Value → Prop} (h : hd_i2 st f) : ∃ y x r, st = .int y :: .int x :: r ∧ f y x r := by
  unfold hd_i2 at h; split at h
  · exact ⟨_, _, _, rfl, h⟩
  · exact h.elim
theorem hd_l2_inv {st : List Value} {f : Int64 → Int64 → List Value → Prop} (h : hd_l2 st f) : ∃ y x r, st = .long y :: .long x :: r ∧ f y x r := by
  unfold hd_l2 at h; split at h
  · exact ⟨_, _, _, rfl, h⟩
  · exact h.elim
theorem hd_il_inv {st : List Value} {f : Int32 → Int64 → List Value → Prop} (h : hd_il st f) : ∃ y x r, st = .int y :: .long x :: r ∧ f y x r := by
  unfold hd_il at h; split at h
  · exact ⟨_, _, _, rfl, h⟩
  · exact h.elim
theorem hd_ir_inv {st : List Value} {f : Int32 → Nat → List Value → Prop} (h : hd_ir st f) : ∃ y x r, st = .int y :: .ref x :: r ∧ f y x r := by
  unfold hd_ir at h; split at h
  · exact ⟨_, _, _, rfl, h⟩
  · exact h.elim
theorem hd_r2_inv {st : List Value} {f : Nat → Nat → List Value → Prop} (h : hd_r2 st f) : ∃ y x r, st = .ref y :: .ref x :: r ∧ f y x r := by
  unfold hd_r2 at h; split at h
  · exact ⟨_, _, _, rfl, h⟩
  · exact h.elim
theorem hd_iir_inv {st : List Value} {f : Int32 → Int32 → Nat → List Value → Prop} (h : hd_iir st f) : ∃ z y x r, st = .int z :: .int y :: .ref x :: r ∧ f z y x r := by
  unfold hd_iir at h; split at h
  · exact ⟨_, _, _, _, rfl, h⟩
  · exact h.elim
theorem hd_lir_inv {st : List Value} {f : Int64 → Int32 → Nat → List Value → Prop} (h : hd_lir st f) : ∃ z y x r, st = .long z :: .int y :: .ref x :: r ∧ f z y x r := by
  unfold hd_lir at h; split at h
  · exact ⟨_, _, _, _, rfl, h⟩
  · exact h.elim
theorem hd_vr_inv {st : List Value} {f : Value → Nat → List Value → Prop} (h : hd_vr st f) : ∃ v x r, st = v :: .ref x :: r ∧ f v x r := by
  unfold hd_vr at h; split at h
  · exact ⟨_, _, _, rfl, h⟩
  · exact h.elim
theorem hd_lki_inv {a : Nat} {lv : hd_L} {f : Int32 → Prop} (h : hd_lki a lv f) : ∃ x, hd_lk a lv = some (.int x) ∧ f x := by
  unfold hd_lki at h; split at h
  · rename_i x e; exact ⟨_, e, h⟩
  · exact h.elim
theorem hd_lkl_inv {a : Nat} {lv : hd_L} {f : Int64 → Prop} (h : hd_lkl a lv f) : ∃ x, hd_lk a lv = some (.long x) ∧ f x := by
  unfold hd_lkl at h; split at h
  · rename_i x e; exact ⟨_, e, h⟩
  · exact h.elim
theorem hd_lkr_inv {a : Nat} {lv : hd_L} {f : Nat → Prop} (h : hd_lkr a lv f) : ∃ x, hd_lk a lv = some (.ref x) ∧ f x := by
  unfold hd_lkr at h; split at h
  · rename_i x e; exact ⟨_, e, h⟩
  · exact h.elim
theorem hd_bif {b : Bool} {P : Prop} (h : bif b then P else False) : b = true ∧ P := by cases b <;> first | exact h.elim | exact ⟨rfl, h⟩
theorem hd_k_inv {sh : hd_S} {q t : Nat} {f : Nat → Prop} (h : hd_k sh q t f) : ∃ n rs, sh[q]? = some (t, n, rs) ∧ f n := by
  unfold hd_k at h; split at h
  · rename_i t' n rs e
    obtain ⟨h1, h2⟩ := hd_bif h
    cases Nat.eq_of_beq_eq_true h1
    exact ⟨_, _, e, h2⟩
  · exact h.elim
theorem hd_al_inv {sh : hd_S} {q : Nat} {f : Nat → Prop} (h : hd_al sh q f) : ∃ t n rs, sh[q]? = some (t, n, rs) ∧ t < 5 ∧ f n := by
  unfold hd_al at h; split at h
  · rename_i t n rs e
    obtain ⟨h1, h2⟩ := hd_bif h
    exact ⟨t, n, rs, e, Nat.le_of_ble_eq_true h1, h2⟩
  · exact h.elim
theorem hd_kr_inv {sh : hd_S} {q t : Nat} {f : Nat → List Nat → Prop} (h : hd_kr sh q t f) : ∃ n rs, sh[q]? = some (t, n, rs) ∧ f n rs := by
  unfold hd_kr at h; split at h
  · rename_i t' n rs e
    obtain ⟨h1, h2⟩ := hd_bif h
    cases Nat.eq_of_beq_eq_true h1
    exact ⟨_, _, e, h2⟩
  · exact h.elim
/-- Math.max and Math.min, of ints and of longs -/
def hd_inM (a : Nat) (st : List Value) (σ : hd_M) (k : List Value → hd_M → Prop) : Prop := match a with
  | 7 => hd_i2 st (fun y x st => bif Nat.ble (hd_sum st) 8 then k (.int (if x < y then y else x) :: st) σ else False)
  | 8 => hd_i2 st (fun y x st => bif Nat.ble (hd_sum st) 8 then k (.int (if y < x then y else x) :: st) σ else False)
  | 9 => hd_l2 st (fun y x st => bif Nat.ble (hd_sum st) 8 then k (.long (if y < x then x else y) :: st) σ else False)
  | 10 => hd_l2 st (fun y x st => bif Nat.ble (hd_sum st) 8 then k (.long (if y < x then y else x) :: st) σ else False)
  | _ => False
/-- System.arraycopy of ints -/
def hd_inC (sh : hd_S) (b : Nat) (st : List Value) (σ : hd_M) (k : List Value → hd_M → Prop) : Prop := match st with
  | .int n :: .int dp :: .ref q' :: .int sp :: .ref q :: rest => bif Nat.ble (hd_sum rest) 8 && Nat.beq b 5 then hd_k sh q 0 (fun n0 => hd_k sh q' 0 (fun n1 => (0 ≤ sp ∧ 0 ≤ dp ∧ 0 ≤ n ∧ sp.toNatClampNeg + n.toNatClampNeg ≤ n0 ∧ dp.toNatClampNeg + n.toNatClampNeg ≤ n1) ∧ ∀ σ', σ' = (va_up σ.1 q' (va_cpy (σ.1 q) (σ.1 q') sp.toNatClampNeg dp.toNatClampNeg n.toNatClampNeg), σ.2) → k rest σ')) else False
  | _ => False
def hd_inS (G : hd_G) (ce : hd_I) (a b : Nat) (sh : hd_S) (st : List Value) (σ : hd_M) (k : List Value → hd_M → Prop) : Prop := match hd_take b [] st with
  | some (as, rest) => bif Nat.ble (hd_sum rest) 8 then hd_call G ce a sh as rest σ k else False
  | none => False
def hd_inV (G : hd_G) (ce : hd_I) (a b : Nat) (sh : hd_S) (st : List Value) (σ : hd_M) (k : List Value → hd_M → Prop) : Prop := match hd_take (b % 100 + 1) [] st with
  | some (.ref q :: as, rest) => bif Nat.ble (hd_sum rest) 8 then hd_k sh q (10 + b / 100) (fun _ => hd_call G ce a sh (.ref q :: as) rest σ k) else False
  | _ => False
/-- a call on a text constant -/
def hd_inT (G : hd_G) (ce : hd_I) (a b : Nat) (sh : hd_S) (st : List Value) (σ : hd_M) (k : List Value → hd_M → Prop) : Prop := match hd_take (b % 100 + 1) [] st with
  | some (.ref q :: as, rest) => bif Nat.ble (hd_sum rest) 8 then (5000 ≤ q ∧ q < 5015) ∧ hd_call G ce a sh (.ref q :: as) rest σ k else False
  | _ => False
theorem hd_inT_inv {G : hd_G} {ce : hd_I} {a b : Nat} {sh : hd_S} {st : List Value} {σ : hd_M} {k : List Value → hd_M → Prop} (h : hd_inT G ce a b sh st σ k) : ∃ q as rest, hd_take (b % 100 + 1) [] st = some (.ref q :: as, rest) ∧ hd_sum rest ≤ 8 ∧ (5000 ≤ q ∧ q < 5015) ∧ hd_call G ce a sh (.ref q :: as) rest σ k := by
  unfold hd_inT at h
  split at h
  · rename_i q as rest e
    obtain ⟨h1, h2⟩ := hd_bif h
    exact ⟨q, as, rest, e, Nat.le_of_ble_eq_true h1, h2.1, h2.2⟩
  · exact h.elim
theorem hd_inC_inv {sh : hd_S} {b : Nat} {st : List Value} {σ : hd_M} {k : List Value → hd_M → Prop} (h : hd_inC sh b st σ k) : ∃ n dp q' sp q rest n0 n1 rs0 rs1, st = .int n :: .int dp :: .ref q' :: .int sp :: .ref q :: rest ∧ hd_sum rest ≤ 8 ∧ sh[q]? = some (0, n0, rs0) ∧ sh[q']? = some (0, n1, rs1) ∧ (0 ≤ sp ∧ 0 ≤ dp ∧ 0 ≤ n ∧ sp.toNatClampNeg + n.toNatClampNeg ≤ n0 ∧ dp.toNatClampNeg + n.toNatClampNeg ≤ n1) ∧ k rest (va_up σ.1 q' (va_cpy (σ.1 q) (σ.1 q') sp.toNatClampNeg dp.toNatClampNeg n.toNatClampNeg), σ.2) := by
  unfold hd_inC at h
  split at h
  · rename_i n dp q' sp q rest
    obtain ⟨h1, h2⟩ := hd_bif h
    rw [Bool.and_eq_true] at h1
    obtain ⟨n0, rs0, h3, h4⟩ := hd_k_inv h2
    obtain ⟨n1, rs1, h5, h6, h7⟩ := hd_k_inv h4
    exact ⟨n, dp, q', sp, q, rest, n0, n1, rs0, rs1, rfl, Nat.le_of_ble_eq_true h1.1, h3, h5, h6, h7 _ rfl⟩
  · exact h.elim
theorem hd_inS_inv {G : hd_G} {ce : hd_I} {a b : Nat} {sh : hd_S} {st : List Value} {σ : hd_M} {k : List Value → hd_M → Prop} (h : hd_inS G ce a b sh st σ k) : ∃ as rest, hd_take b [] st = some (as, rest) ∧ hd_sum rest ≤ 8 ∧ hd_call G ce a sh as rest σ k := by
  unfold hd_inS at h
  split at h
  · rename_i as rest e
    obtain ⟨h1, h2⟩ := hd_bif h
    exact ⟨as, rest, e, Nat.le_of_ble_eq_true h1, h2⟩
  · exact h.elim
theorem hd_inV_inv {G : hd_G} {ce : hd_I} {a b : Nat} {sh : hd_S} {st : List Value} {σ : hd_M} {k : List Value → hd_M → Prop} (h : hd_inV G ce a b sh st σ k) : ∃ q as rest n rs, hd_take (b % 100 + 1) [] st = some (.ref q :: as, rest) ∧ hd_sum rest ≤ 8 ∧ sh[q]? = some (10 + b / 100, n, rs) ∧ hd_call G ce a sh (.ref q :: as) rest σ k := by
  unfold hd_inV at h
  split at h
  · rename_i q as rest e
    obtain ⟨h1, h2⟩ := hd_bif h
    obtain ⟨n, rs, h3, h4⟩ := hd_k_inv h2
    exact ⟨q, as, rest, n, rs, e, Nat.le_of_ble_eq_true h1, h3, h4⟩
  · exact h.elim
/-- one instruction that makes no cell -/
def hd_step (G : hd_G) (mi : hd_I) (Z : Option Value → hd_M → Prop) (sh : hd_S) (i : hd_Ins) (pc len a b : Nat) (c : Int32) (d : Int64) (sw : List (Int32 × Nat)) (ce : hd_I) (lv : hd_L) (st : List Value) (σ : hd_M) (k : Nat → hd_L → List Value → hd_M → Prop) : Prop := match i with
  | .iconst _ => k (pc + len) lv (.int c :: st) σ
  | .bipush _ => k (pc + len) lv (.int c :: st) σ
  | .sipush _ => k (pc + len) lv (.int c :: st) σ
  | .ldc_w _ => k (pc + len) lv (.int c :: st) σ
  | .ldc _ => bif Nat.beq b 0 then k (pc + len) lv (.int c :: st) σ else k (pc + len) lv (.ref (5000 + a) :: st) σ
  | .lconst _ => k (pc + len) lv (.long d :: st) σ
  | .ldc2_w _ => k (pc + len) lv (.long d :: st) σ
  | .iload _ => hd_lki a lv (fun x => k (pc + len) lv (.int x :: st) σ)
  | .iload_n _ => hd_lki a lv (fun x => k (pc + len) lv (.int x :: st) σ)
  | .lload _ => hd_lkl a lv (fun x => k (pc + len) lv (.long x :: st) σ)
  | .lload_n _ => hd_lkl a lv (fun x => k (pc + len) lv (.long x :: st) σ)
  | .aload _ => hd_lkr a lv (fun x => k (pc + len) lv (.ref x :: st) σ)
  | .aload_n _ => hd_lkr a lv (fun x => k (pc + len) lv (.ref x :: st) σ)
  | .istore _ => hd_i1 st (fun x st => ∀ y, y = x → k (pc + len) (hd_sto a (.int y) lv) st σ)
  | .istore_n _ => hd_i1 st (fun x st => ∀ y, y = x → k (pc + len) (hd_sto a (.int y) lv) st σ)
  | .lstore _ => hd_l1 st (fun x st => ∀ y, y = x → k (pc + len) (hd_stoL a (.long y) lv) st σ)
  | .lstore_n _ => hd_l1 st (fun x st => ∀ y, y = x → k (pc + len) (hd_stoL a (.long y) lv) st σ)
  | .astore _ => hd_r1 st (fun x st => k (pc + len) (hd_sto a (.ref x) lv) st σ)
  | .astore_n _ => hd_r1 st (fun x st => k (pc + len) (hd_sto a (.ref x) lv) st σ)
  | .iinc _ _ => hd_lki a lv (fun x => ∀ y, y = x + c → k (pc + len) (hd_sto a (.int y) lv) st σ)
  | .dup => match st with
    | v :: st => bif Nat.beq v.category 1 then k (pc + len) lv (v :: v :: st) σ else False
    | _ => False
  | .pop => match st with
    | v :: st => bif Nat.beq v.category 1 then k (pc + len) lv st σ else False
    | _ => False
  | .dup_x1 => match st with
    | v :: w :: st => bif Nat.beq v.category 1 && Nat.beq w.category 1 then k (pc + len) lv (v :: w :: v :: st) σ else False
    | _ => False
  | .dup2 => match st with
    | v :: w :: st => bif Nat.beq v.category 1 && Nat.beq w.category 1 then k (pc + len) lv (v :: w :: v :: w :: st) σ else False
    | _ => False
  | .iadd => hd_i2 st (fun y x st => k (pc + len) lv (.int (x + y) :: st) σ)
  | .isub => hd_i2 st (fun y x st => k (pc + len) lv (.int (x - y) :: st) σ)
  | .imul => hd_i2 st (fun y x st => k (pc + len) lv (.int (x * y) :: st) σ)
  | .idiv => hd_i2 st (fun y x st => ¬ y = 0 ∧ k (pc + len) lv (.int (x / y) :: st) σ)
  | .irem => hd_i2 st (fun y x st => ¬ y = 0 ∧ k (pc + len) lv (.int (x - x / y * y) :: st) σ)
  | .ineg => hd_i1 st (fun x st => k (pc + len) lv (.int (-x) :: st) σ)
  | .ishl => hd_i2 st (fun y x st => k (pc + len) lv (.int (x <<< (y &&& 31)) :: st) σ)
  | .ishr => hd_i2 st (fun y x st => k (pc + len) lv (.int (x >>> (y &&& 31)) :: st) σ)
  | .iushr => hd_i2 st (fun y x st => k (pc + len) lv (.int (x.toUInt32 >>> (y.toUInt32 &&& Int32.toUInt32 31)).toInt32 :: st) σ)
  | .iand => hd_i2 st (fun y x st => k (pc + len) lv (.int (x &&& y) :: st) σ)
  | .ior => hd_i2 st (fun y x st => k (pc + len) lv (.int (x ||| y) :: st) σ)
  | .ixor => hd_i2 st (fun y x st => k (pc + len) lv (.int (x ^^^ y) :: st) σ)
  | .i2l => hd_i1 st (fun x st => k (pc + len) lv (.long x.toInt64 :: st) σ)
  | .l2i => hd_l1 st (fun x st => k (pc + len) lv (.int x.toInt32 :: st) σ)
  | .i2b => hd_i1 st (fun x st => k (pc + len) lv (.int x.toInt8.toInt32 :: st) σ)
  | .ladd => hd_l2 st (fun y x st => k (pc + len) lv (.long (x + y) :: st) σ)
  | .lsub => hd_l2 st (fun y x st => k (pc + len) lv (.long (x - y) :: st) σ)
  | .lmul => hd_l2 st (fun y x st => k (pc + len) lv (.long (x * y) :: st) σ)
  | .ldiv => hd_l2 st (fun y x st => ¬ y = 0 ∧ k (pc + len) lv (.long (x / y) :: st) σ)
  | .lneg => hd_l1 st (fun x st => k (pc + len) lv (.long (-x) :: st) σ)
  | .lor => hd_l2 st (fun y x st => k (pc + len) lv (.long (x ||| y) :: st) σ)
  | .lshl => hd_il st (fun y x st => k (pc + len) lv (.long (x <<< (y.toInt64 &&& 63)) :: st) σ)
  | .lcmp => hd_l2 st (fun y x st => k (pc + len) lv (.int (lg_cmp x y) :: st) σ)
  | .goto _ => k a lv st σ
  | .ifCond cd _ => hd_i1 st (fun x st => hd_if0 cd x (k a lv st σ) (k (pc + len) lv st σ))
  | .if_icmp cd _ => hd_i2 st (fun y x st => hd_if2 cd x y (k a lv st σ) (k (pc + len) lv st σ))
  | .if_acmp cd _ => hd_r2 st (fun y x st => (x < 5000 ∧ y < 5000) ∧ (match cd with
      | .eq => (x = y → k a lv st σ) ∧ (¬ x = y → k (pc + len) lv st σ)
      | .ne => (¬ x = y → k a lv st σ) ∧ (x = y → k (pc + len) lv st σ)))
  | .tableswitch _ _ _ _ => hd_i1 st (fun x st => hd_sw x a (fun t => k t lv st σ) sw)
  | .iaload => hd_ir st (fun j q st => hd_k sh q 0 (fun n => vp_in j n ∧ k (pc + len) lv (.int (σ.1 q j.toNatClampNeg) :: st) σ))
  | .baload => hd_ir st (fun j q st => hd_k sh q a (fun n => bif Nat.beq a 1 || Nat.beq a 2 then (vp_in j n ∧ k (pc + len) lv (.int (σ.1 q j.toNatClampNeg) :: st) σ) else False))
  | .laload => hd_ir st (fun j q st => hd_k sh q 3 (fun n => vp_in j n ∧ k (pc + len) lv (.long (σ.2 q j.toNatClampNeg) :: st) σ))
  | .aaload => hd_ir st (fun j q st => hd_kr sh q 4 (fun n rs => vp_in j n ∧ ¬ rs.getD j.toNatClampNeg 0 = 0 ∧ k (pc + len) lv (.ref (rs.getD j.toNatClampNeg 0) :: st) σ))
  | .iastore => hd_iir st (fun x j q st => hd_k sh q 0 (fun n => vp_in j n ∧ ∀ σ', σ' = hd_wI σ q j.toNatClampNeg x → k (pc + len) lv st σ'))
  | .bastore => hd_iir st (fun x j q st => match a with
    | 1 => hd_k sh q 1 (fun n => vp_in j n ∧ ∀ σ', σ' = hd_wI σ q j.toNatClampNeg x.toInt8.toInt32 → k (pc + len) lv st σ')
    | 2 => hd_k sh q 2 (fun n => vp_in j n ∧ (x = 0 ∨ x = 1) ∧ ∀ σ', σ' = hd_wI σ q j.toNatClampNeg x → k (pc + len) lv st σ')
    | _ => False)
  | .lastore => hd_lir st (fun x j q st => hd_k sh q 3 (fun n => vp_in j n ∧ ∀ σ', σ' = hd_wL σ q j.toNatClampNeg x → k (pc + len) lv st σ'))
  | .arraylength => hd_r1 st (fun q st => hd_al sh q (fun n => k (pc + len) lv (.int (Int32.ofNat n) :: st) σ))
  | .getfield _ => hd_r1 st (fun q st => hd_kr sh q (10 + a) (fun _ rs => match b / 100 with
    | 0 => k (pc + len) lv (.int (σ.1 q (b % 100)) :: st) σ
    | 1 => k (pc + len) lv (.long (σ.2 q (b % 100)) :: st) σ
    | 2 => match hd_rv id (rs.getD (b % 100) 0) with
      | .ref r => k (pc + len) lv (.ref r :: st) σ
      | _ => False
    | 3 => ¬ (σ.1 q (b % 100)).toNatClampNeg = 0 ∧ k (pc + len) lv (.ref (σ.1 q (b % 100)).toNatClampNeg :: st) σ
    | 5 => ¬ rs.getD (b % 100) 0 = 0 ∧ k (pc + len) lv (.ref (rs.getD (b % 100) 0) :: st) σ
    | _ => k (pc + len) lv (.int (σ.1 q (b % 100)) :: st) σ))
  | .putfield _ => match b / 100 with
    | 0 => hd_i1 st (fun x st => hd_r1 st (fun q st => hd_k sh q (10 + a) (fun _ => ∀ σ', σ' = hd_wI σ q (b % 100) x → k (pc + len) lv st σ')))
    | 1 => hd_l1 st (fun x st => hd_r1 st (fun q st => hd_k sh q (10 + a) (fun _ => ∀ σ', σ' = hd_wL σ q (b % 100) x → k (pc + len) lv st σ')))
    | 3 => hd_r1 st (fun r st => hd_r1 st (fun q st => hd_k sh q (10 + a) (fun _ => (0 < r ∧ r < 5000) ∧ ∀ σ', σ' = hd_wI σ q (b % 100) (Int32.ofNat r) → k (pc + len) lv st σ')))
    | 4 => hd_i1 st (fun x st => hd_r1 st (fun q st => hd_k sh q (10 + a) (fun _ => (x = 0 ∨ x = 1) ∧ ∀ σ', σ' = hd_wI σ q (b % 100) x → k (pc + len) lv st σ')))
    | _ => False
  | .invokestatic _ => bif Nat.beq a 6 then hd_inC sh b st σ (fun st σ => k (pc + len) lv st σ) else bif Nat.blt 6 a then hd_inM a st σ (fun st σ => k (pc + len) lv st σ) else hd_inS G ce a b sh st σ (fun st σ => k (pc + len) lv st σ)
  | .invokevirtual _ => bif Nat.beq (b / 100) 99 then hd_inT G ce a b sh st σ (fun st σ => k (pc + len) lv st σ) else hd_inV G ce a b sh st σ (fun st σ => k (pc + len) lv st σ)
  | .invokespecial _ => hd_r1 st (fun _ st => bif Nat.ble (hd_sum st) 8 && Nat.beq a 5 then k (pc + len) lv st σ else False)
  | .ireturn => match st with
    | [.int v] => hd_ret mi.2.2.2.1 v (Z (some (.int v)) σ)
    | _ => False
  | .lreturn => match st with
    | [.long v] => hd_retl mi.2.2.2.1 (Z (some (.long v)) σ)
    | _ => False
  | .areturn => match st with
    | [.ref v] => hd_reta mi.2.2.2.1 (Z (some (.ref v)) σ)
    | _ => False
  | .return_ => match st with
    | [] => hd_retv mi.2.2.2.1 (Z none σ)
    | _ => False
  | _ => False
end
section
def hd_find (pc : Nat) : List hd_R → Option hd_R
  | [] => none
  | r :: rs => bif Nat.beq pc r.1 then some r else hd_find pc rs
def hd_cut (pc : Nat) : List (Nat × List Nat) → Option (List Nat)
  | [] => none
  | r :: rs => bif Nat.beq pc r.1 then some r.2 else hd_cut pc rs
/-- the walk from a place on to the cuts -/
def hd_wps (G : hd_G) (mi : hd_I) (X : hd_X) (Z : Option Value → hd_M → Prop) (rows : List hd_R) (cuts : List (Nat × List Nat)) (sh : hd_S) (ks : Nat × Nat) : Nat → Nat → hd_L → List Value → hd_M → Prop
  | 0, pc, lv, st, σ => hd_J G mi X sh ks pc lv st σ
  | n + 1, pc, lv, st, σ => match hd_find pc rows with
    | none => False
    | some (pc, i, len, a, b, c, d, sw, ce) => hd_step G mi Z sh i pc len a b c d sw ce lv st σ (fun pc lv st σ => match hd_cut pc cuts with
      | some live => hd_J G mi X sh ks pc (hd_pick live lv) st σ
      | none => hd_wps G mi X Z rows cuts sh ks n pc lv st σ)
def hd_Zi (P : Int32 → hd_M → Prop) : Option Value → hd_M → Prop := fun r σ => match r with
  | some (.int x) => P x σ
  | _ => False
def hd_Zl (P : Int64 → hd_M → Prop) : Option Value → hd_M → Prop := fun r σ => match r with
  | some (.long x) => P x σ
  | _ => False
def hd_Zr (P : Nat → hd_M → Prop) : Option Value → hd_M → Prop := fun r σ => match r with
  | some (.ref x) => P x σ
  | _ => False
def hd_Zv (P : hd_M → Prop) : Option Value → hd_M → Prop := fun r σ => match r with
  | none => P σ
  | _ => False
end
section
/-! a row holds: its instruction is the code's, its links are the tables' -/
def hd_tb : Nat → List Cond
  | 0 => k2_sels lw_privs
  | 1 => tables_1_1
  | 2 => tables_1_2
  | 3 => tables_1_3
  | 4 => tables_1_4
  | 5 => tables_1_5
  | 6 => tables_1_6
  | _ => []
theorem hd_tb_sub {c : Nat} {w : Cond} (h : w ∈ hd_tb c) : w ∈ lw_tbl := by
  unfold lw_tbl tables_1
  simp only [List.mem_append]
  match c, h with
  | 0, h => exact Or.inl h
  | 1, h => exact Or.inr (Or.inl h)
  | 2, h => exact Or.inr (Or.inr (Or.inl h))
  | 3, h => exact Or.inr (Or.inr (Or.inr (Or.inl h)))
  | 4, h => exact Or.inr (Or.inr (Or.inr (Or.inr (Or.inl h))))
  | 5, h => exact Or.inr (Or.inr (Or.inr (Or.inr (Or.inr (Or.inl h)))))
  | 6, h => exact Or.inr (Or.inr (Or.inr (Or.inr (Or.inr (Or.inr h)))))
  | n + 7, h => exact absurd h List.not_mem_nil
def hd_at (sw : List (Int32 × Nat)) (j : Nat) (w : Cond) : Bool := (match sw[j]? with
  | some q => decide ((hd_tb (q.2 / 1000))[q.2 % 1000]? = some w)
  | none => false) && goodWord w
theorem hd_at_mem {sw : List (Int32 × Nat)} {j : Nat} {w : Cond} (h : hd_at sw j w = true) : w ∈ lw_g := by
  unfold hd_at at h
  rw [Bool.and_eq_true] at h
  refine List.mem_filter.mpr ⟨?_, h.2⟩
  have h1 := h.1
  split at h1
  · exact hd_tb_sub (List.mem_of_getElem? (of_decide_eq_true h1))
  · cases h1
def hd_lnk (mi : hd_I) (idx : Nat) (sw : List (Int32 × Nat)) (y : MethodName) : Bool := hd_at sw 0 (.methodLink mi.1.cls idx y)
def hd_lnkN (mi : hd_I) (idx : Nat) (sw : List (Int32 × Nat)) (y : MethodName) : Bool := match sw[0]? with
  | some q => decide (hd_nest[q.2]? = some (.methodLinkNest mi.1.cls idx y "HiddenDrawers"))
  | none => false
def hd_isN (sw : List (Int32 × Nat)) : Bool := match sw[0]? with
  | some q => decide (q.1 = 1)
  | none => false
def hd_okm (mi : hd_I) (idx a : Nat) (sw : List (Int32 × Nat)) : Bool := Nat.ble 1 mi.2.2.2.2.1 && Nat.ble 24 mi.2.2.2.2.2.1 && hd_at sw 2 (.initialized "java/lang/Math") && (match a with
  | 7 => hd_lnk mi idx sw Lib.Math.max.name && hd_at sw 1 (.code Lib.Math.max.name Lib.Math.max.code 2 (some .int)) && hd_at sw 3 (.static Lib.Math.max.name)
  | 8 => hd_lnk mi idx sw Lib.Math.min.name && hd_at sw 1 (.code Lib.Math.min.name Lib.Math.min.code 2 (some .int)) && hd_at sw 3 (.static Lib.Math.min.name)
  | 9 => hd_lnk mi idx sw Lib.MathLoose.max_long.x && hd_at sw 1 (.code Lib.MathLoose.max_long.x Lib.MathLoose.max_long.code 4 (some .long)) && hd_at sw 3 (.static Lib.MathLoose.max_long.x)
  | 10 => hd_lnk mi idx sw Lib.MathLoose.min_long.x && hd_at sw 1 (.code Lib.MathLoose.min_long.x Lib.MathLoose.min_long.code 4 (some .long)) && hd_at sw 3 (.static Lib.MathLoose.min_long.x)
  | _ => false)
/-- what a call asks of the callee -/
def hd_cal (mi : hd_I) (n : Nat) (sw : List (Int32 × Nat)) (ce : hd_I) : Bool := Nat.ble (ce.2.2.2.2.1 + 1) mi.2.2.2.2.1 && Nat.ble (8 + (ce.2.2.1 + 11) + ce.2.2.2.2.2.1) mi.2.2.2.2.2.1 && hd_at sw 2 (.initialized ce.1.cls) && decide (ce.1.cls ≠ "java/lang/invoke/MethodHandle" ∧ ce.1.cls ≠ "java/lang/invoke/VarHandle" ∧ (parseMethodDescriptor ce.1.desc).map (fun d => d.parameters.length) = some n)
def hd_fok (mi : hd_I) (idx a b : Nat) (sw : List (Int32 × Nat)) : Bool := match vwCl[a]? with
  | some q => Nat.blt (b % 100) q.2.2 && hd_at sw 0 (.fieldLink mi.1.cls idx (q.2.1 (b % 100)).1 (q.2.1 (b % 100)).2.1 (q.2.1 (b % 100)).2.2.1) && (Nat.beq (hd_fk a (b % 100)) (b / 100) || (Nat.beq (b / 100) 5 && Nat.beq (hd_fk a (b % 100)) 2))
  | none => false
def hd_fin (mi : hd_I) (a b : Nat) : Bool := match vwCl[a]? with
  | some q => !(q.2.1 (b % 100)).2.2.2
  | none => false
def hd_okb (mi : hd_I) (r : hd_R) : Bool := decide (decode mi.2.1 r.1 = .ok (r.2.1, r.2.2.1)) && (match r with
  | (pc, i, len, a, b, c, d, sw, ce) => match i with
    | .iconst n => Nat.beq len 1 && decide (Int32.ofInt n = c)
    | .bipush n => Nat.beq len 2 && decide ((Int8.ofInt n).toInt32 = c)
    | .sipush n => Nat.beq len 3 && decide ((Int16.ofInt n).toInt32 = c)
    | .ldc_w idx => Nat.beq len 3 && hd_at sw 0 (.constant mi.1.cls idx c)
    | .ldc idx => Nat.beq len 2 && (bif Nat.beq b 0 then hd_at sw 0 (.constant mi.1.cls idx c) else (decide (mi.1.cls = RX6) && Nat.blt a 15 && decide (hd_sk.getD a 0 = idx)))
    | .lconst n => Nat.beq len 1 && decide (Int64.ofNat n.val = d)
    | .ldc2_w idx => Nat.beq len 3 && hd_at sw 0 (.constantLong mi.1.cls idx d)
    | .iload j => Nat.beq len 2 && Nat.beq j a
    | .iload_n j => Nat.beq len 1 && Nat.beq j.val a
    | .lload j => Nat.beq len 2 && Nat.beq j a
    | .lload_n j => Nat.beq len 1 && Nat.beq j.val a
    | .aload j => Nat.beq len 2 && Nat.beq j a
    | .aload_n j => Nat.beq len 1 && Nat.beq j.val a
    | .istore j => Nat.beq len 2 && Nat.beq j a && Nat.blt a mi.2.2.1
    | .istore_n j => Nat.beq len 1 && Nat.beq j.val a && Nat.blt a mi.2.2.1
    | .lstore j => Nat.beq len 2 && Nat.beq j a && Nat.blt (a + 1) mi.2.2.1
    | .lstore_n j => Nat.beq len 1 && Nat.beq j.val a && Nat.blt (a + 1) mi.2.2.1
    | .astore j => Nat.beq len 2 && Nat.beq j a && Nat.blt a mi.2.2.1
    | .astore_n j => Nat.beq len 1 && Nat.beq j.val a && Nat.blt a mi.2.2.1
    | .iinc j n => Nat.beq len 3 && Nat.beq j a && Nat.blt a mi.2.2.1 && decide (Int32.ofInt n = c)
    | .goto off => Nat.beq len 3 && decide ((pc : Int) + off = (a : Int))
    | .ifCond _ off => Nat.beq len 3 && decide ((pc : Int) + off = (a : Int))
    | .if_icmp _ off => Nat.beq len 3 && decide ((pc : Int) + off = (a : Int))
    | .if_acmp _ off => Nat.beq len 3 && decide ((pc : Int) + off = (a : Int))
    | .tableswitch dflt lo hi offs => decide ((pc : Int) + dflt = (a : Int)) && decide (-2147483648 ≤ lo) && decide (hi ≤ 2147483647) && decide (hi - lo + 1 = (offs.size : Int)) && decide (sw.map (fun q => (q.1, (q.2 : Int))) = (List.range offs.size).map (fun (j : Nat) => (Int32.ofInt (lo + (j : Int)), (pc : Int) + offs.getD j 0)))
    | .getfield idx => Nat.beq len 3 && hd_fok mi idx a b sw
    | .putfield idx => Nat.beq len 3 && hd_fok mi idx a b sw && hd_fin mi a b
    | .invokestatic idx => Nat.beq len 3 && (bif Nat.beq a 6 then (Nat.beq b 5 && hd_lnk mi idx sw arraycopyName && hd_at sw 1 (.native arraycopyName) && hd_at sw 2 (.static arraycopyName) && hd_at sw 3 (.initialized "java/lang/System") && Nat.ble 1 mi.2.2.2.2.1 && Nat.ble (8 + (nativeFrameWords "java/lang/System" "arraycopy" 5 + 11)) mi.2.2.2.2.2.1) else bif Nat.blt 6 a then hd_okm mi idx a sw else ((bif hd_isN sw then hd_lnkN mi idx sw ce.1 else hd_lnk mi idx sw ce.1) && hd_cal mi b sw ce && hd_at sw 3 (.static ce.1) && Nat.beq ce.2.2.2.2.2.2.1 0 && Nat.beq ce.2.2.2.2.2.2.2 0))
    | .invokevirtual idx => Nat.beq len 3 && hd_lnk mi idx sw ce.1 && hd_cal mi (b % 100) sw ce && hd_at sw 3 (.instanceMethod ce.1) && hd_at sw 4 (.selects ce.1.cls ce.1 ce.1) && Nat.beq ce.2.2.2.2.2.2.1 0 && Nat.beq ce.2.2.2.2.2.2.2 0 && (bif Nat.beq (b / 100) 99 then decide (ce.1.cls = "java/lang/String") else (match vwCl[b / 100]? with
      | some q => decide (q.1 = ce.1.cls)
      | none => false))
    | .invokespecial idx => Nat.beq len 3 && Nat.beq a 5 && hd_lnk mi idx sw objectInit && hd_at sw 1 (.instanceMethod objectInit) && hd_at sw 2 (.code objectInit ⟨#[0xb1]⟩ 1 none) && Nat.ble 1 mi.2.2.2.2.1 && Nat.ble 20 mi.2.2.2.2.2.1
    | _ => Nat.beq len 1)
/-- the callee's code is the tables' -/
def hd_cdc (ce : hd_I) : Prop := Cond.code ce.1 ce.2.1 ce.2.2.1 ce.2.2.2.1 ∈ lw_g
def hd_cd (r : hd_R) : Prop := match r with
  | (_, i, _, a, _, _, _, _, ce) => match i with
    | .invokestatic _ => bif Nat.blt 5 a then True else hd_cdc ce
    | .invokevirtual _ => hd_cdc ce
    | .invokespecial _ => bif Nat.beq a 4 then hd_cdc ce else True
    | _ => True
def hd_cdl : List hd_R → Prop
  | [] => True
  | r :: rs => hd_cd r ∧ hd_cdl rs
theorem hd_cdl_mem : ∀ {rows : List hd_R}, hd_cdl rows → ∀ r ∈ rows, hd_cd r
  | r0 :: rs, h, r, hr => by
    rcases List.mem_cons.mp hr with rfl | hr
    · exact h.1
    · exact hd_cdl_mem h.2 r hr
end
section
theorem hd_and {a b : Bool} (h : (a && b) = true) : a = true ∧ b = true := by cases a <;> cases b <;> first | exact ⟨rfl, rfl⟩ | cases h
theorem hd_in0 : ∀ w ∈ u_ws RX0 TX0 8, w ∈ lw_g := by decide +kernel
theorem hd_in1 : ∀ w ∈ u_ws RX1 TX1 14, w ∈ lw_g := by decide +kernel
theorem hd_in2 : ∀ w ∈ u_ws RX2 TX2 11, w ∈ lw_g := by decide +kernel
theorem hd_in3 : ∀ w ∈ u_ws RX3 TX3 12, w ∈ lw_g := by decide +kernel
theorem hd_in4 : ∀ w ∈ u_ws RX4 TX4 4, w ∈ lw_g := by decide +kernel
theorem hd_in5 : ∀ w ∈ u_ws RX5 TX5 11, w ∈ lw_g := by decide +kernel
theorem hd_in6 : ∀ w ∈ u_ws RX6 TX6 11, w ∈ lw_g := by decide +kernel
theorem hd_in7 : ∀ w ∈ u_ws RX7 TX7 14, w ∈ lw_g := by decide +kernel
theorem hd_in8 : ∀ w ∈ u_ws RX8 TX8 41, w ∈ lw_g := by decide +kernel
/-- the classes' tables -/
theorem hd_clok {a : Nat} {q : vw_C} (h : vwCl[a]? = some q) : (∀ w ∈ u_ws q.1 q.2.1 q.2.2, w ∈ lw_g) ∧ (∀ k, k < q.2.2 → parseFieldDescriptor (q.2.1 k).2.2.1 = some (hd_ft a k)) ∧ (∀ a, a < q.2.2 → ∀ b, b < q.2.2 → a ≠ b → (q.2.1 a).2.1 ≠ (q.2.1 b).2.1) ∧ hd_N a = q.2.2 := by
  match a, h with
  | 0, h => cases h; exact ⟨hd_in0, tyX0_ok, nmX0, rfl⟩
  | 1, h => cases h; exact ⟨hd_in1, tyX1_ok, nmX1, rfl⟩
  | 2, h => cases h; exact ⟨hd_in2, tyX2_ok, nmX2, rfl⟩
  | 3, h => cases h; exact ⟨hd_in3, tyX3_ok, nmX3, rfl⟩
  | 4, h => cases h; exact ⟨hd_in4, tyX4_ok, nmX4, rfl⟩
  | 5, h => cases h; exact ⟨hd_in5, tyX5_ok, nmX5, rfl⟩
  | 6, h => cases h; exact ⟨hd_in6, tyX6_ok, nmX6, rfl⟩
  | 7, h => cases h; exact ⟨hd_in7, tyX7_ok, nmX7, rfl⟩
  | 8, h => cases h; exact ⟨hd_in8, tyX8_ok, nmX8, rfl⟩
  | k + 9, h => simp [vwCl] at h
theorem hd_E_obj {G : hd_G} {σ : hd_M} {q a n : Nat} {rs : List Nat} : hd_E G σ q (10 + a, n, rs) = .inr (a, (List.range (hd_N a)).map (fun j => hd_fv (hd_ad G) σ q rs a j)) := by
  have h : 10 + a = (a + 9) + 1 := by omega
  have h2 : 10 + a - 10 = a := by omega
  unfold hd_E
  simp only
  split
  all_goals first | omega | rw [h2]
theorem hd_E_arr {G : hd_G} {σ : hd_M} {q t n : Nat} {rs : List Nat} (ht : t < 3) : hd_E G σ q (t, n, rs) = .inl (G.2.2.1 t, n, .inl (σ.1 q)) := by
  match t, ht with
  | 0, _ => rfl
  | 1, _ => rfl
  | 2, _ => rfl
theorem hd_fs_at {G : hd_G} {σ : hd_M} {q a k : Nat} {rs : List Nat} (h : k < hd_N a) : ((List.range (hd_N a)).map (fun j => hd_fv (hd_ad G) σ q rs a j))[k]? = some (hd_fv (hd_ad G) σ q rs a k) := by simp [h]
theorem hd_fs_set {f : Nat → Nat} {σ σ' : hd_M} {q a k N : Nat} {rs : List Nat} {v : Value} (hk : k < N) (hv : hd_fv f σ' q rs a k = v) (ho : ∀ j, j ≠ k → hd_fv f σ' q rs a j = hd_fv f σ q rs a j) : ((List.range N).map (fun j => hd_fv f σ q rs a j)).set k v = (List.range N).map (fun j => hd_fv f σ' q rs a j) := by
  apply List.ext_getElem?
  intro i
  rw [List.getElem?_set]
  by_cases hi : k = i
  · subst hi
    simp [hk, hv]
  · rw [if_neg hi]
    by_cases hl : i < N
    · simp [hl, ho i (fun z => hi z.symm)]
    · simp [hl]
theorem hd_fv_I {f : Nat → Nat} {σ : hd_M} {q a k j : Nat} {rs : List Nat} {x : Int32} (h : j ≠ k) : hd_fv f (hd_wI σ q k x) q rs a j = hd_fv f σ q rs a j := by
  unfold hd_fv hd_wI
  simp only [hd_up_eq, hd_up_ne h]
theorem hd_fv_L {f : Nat → Nat} {σ : hd_M} {q a k j : Nat} {rs : List Nat} {x : Int64} (h : j ≠ k) : hd_fv f (hd_wL σ q k x) q rs a j = hd_fv f σ q rs a j := by
  unfold hd_fv hd_wL
  simp only [hd_up_eq, hd_up_ne h]
theorem hd_len {sh : hd_S} {q : Nat} {s : Nat × Nat × List Nat} (h : sh[q]? = some s) : q < sh.length := (List.getElem?_eq_some_iff.mp h).1
theorem hd_adq {G : hd_G} {s : State} {sh : hd_S} {σ : hd_M} {H : Heap} {q : Nat} {x : Nat × Nat × List Nat} (hK : hd_K G s) (hP : hd_P G sh σ H) (h : sh[q]? = some x) : hd_ad G q = hd_b G + q := hK.2.2.2.2.2 q (Nat.lt_of_lt_of_le (hd_len h) hP.1)
/-- the world behind a write -/
theorem hd_P_set {G : hd_G} {sh : hd_S} {σ σ' : hd_M} {H H1 : Heap} {q : Nat} {s : Nat × Nat × List Nat} {e : va_E} (hP : hd_P G sh σ H) (hs : sh[q]? = some s) (he : e = hd_E G σ' q s) (ho : ∀ k s', k ≠ q → hd_E G σ' k s' = hd_E G σ k s') (h1 : va_P G.2.1 vwCl ((hd_ws G sh σ).set q (hd_b G + q, e)) H1) : hd_P G sh σ' H1 := by
  refine ⟨hP.1, ?_⟩
  rw [hd_set hs he ho] at h1
  exact h1
end
section
/-- where a walk ends: what its last instruction asks -/
def hd_Zok (G : hd_G) (mi : hd_I) (X : hd_X) (Z : Option Value → hd_M → Prop) (sh : hd_S) (ks : Nat × Nat) : Prop :=
  (∀ (v : Int32) (σ : hd_M) (H : Heap) (locs : List Loc) (ls : Array Slot) (pc : Nat), hd_ret mi.2.2.2.1 v (Z (some (.int v)) σ) → hd_P G sh σ H → va_S (hd_A G) X.2.2.2.1.heap H locs → decode mi.2.1 pc = .ok (.ireturn, 1) → W X.1 G.1 X.2.1 X.2.2.1 X.2.2.2.1 X.2.2.2.2.1 X.2.2.2.2.2.1 X.2.2.2.2.2.2.1 X.2.2.2.2.2.2.2.1 X.2.2.2.2.2.2.2.2.1 H locs ks.1 ks.2 X.2.2.2.2.2.2.2.2.2 (F0 X.2.2.2.2.1 pc ls [.int v])) ∧
  (∀ (v : Int64) (σ : hd_M) (H : Heap) (locs : List Loc) (ls : Array Slot) (pc : Nat), hd_retl mi.2.2.2.1 (Z (some (.long v)) σ) → hd_P G sh σ H → va_S (hd_A G) X.2.2.2.1.heap H locs → decode mi.2.1 pc = .ok (.lreturn, 1) → W X.1 G.1 X.2.1 X.2.2.1 X.2.2.2.1 X.2.2.2.2.1 X.2.2.2.2.2.1 X.2.2.2.2.2.2.1 X.2.2.2.2.2.2.2.1 X.2.2.2.2.2.2.2.2.1 H locs ks.1 ks.2 X.2.2.2.2.2.2.2.2.2 (F0 X.2.2.2.2.1 pc ls [.long v])) ∧
  (∀ (v : Nat) (σ : hd_M) (H : Heap) (locs : List Loc) (ls : Array Slot) (pc : Nat), hd_reta mi.2.2.2.1 (Z (some (.ref v)) σ) → hd_P G sh σ H → va_S (hd_A G) X.2.2.2.1.heap H locs → decode mi.2.1 pc = .ok (.areturn, 1) → W X.1 G.1 X.2.1 X.2.2.1 X.2.2.2.1 X.2.2.2.2.1 X.2.2.2.2.2.1 X.2.2.2.2.2.2.1 X.2.2.2.2.2.2.2.1 X.2.2.2.2.2.2.2.2.1 H locs ks.1 ks.2 X.2.2.2.2.2.2.2.2.2 (F0 X.2.2.2.2.1 pc ls [.ref (hd_ad G v)])) ∧
  (∀ (σ : hd_M) (H : Heap) (locs : List Loc) (ls : Array Slot) (pc : Nat), hd_retv mi.2.2.2.1 (Z none σ) → hd_P G sh σ H → va_S (hd_A G) X.2.2.2.1.heap H locs → decode mi.2.1 pc = .ok (.return_, 1) → W X.1 G.1 X.2.1 X.2.2.1 X.2.2.2.1 X.2.2.2.2.1 X.2.2.2.2.2.1 X.2.2.2.2.2.2.1 X.2.2.2.2.2.2.2.1 X.2.2.2.2.2.2.2.2.1 H locs ks.1 ks.2 X.2.2.2.2.2.2.2.2.2 (F0 X.2.2.2.2.1 pc ls []))
theorem hd_sized {p : Program} {l : Launch} {e : Env} {R : Room} {s : State} {m : MethodId} {args : Array Value} {below : List Frame} {meth : Method} {c : Code} {H : Heap} {locs : List Loc} {cells slots : Nat} {Q : State → Prop} {g : JFrame} (k : H.size ≤ s.heap.size + cells → W p l e R s m args below meth c H locs cells slots Q g) : W p l e R s m args below meth c H locs cells slots Q g := by
  intro T hT X
  have h := X.same.2.2.1
  refine k ?_ T hT X
  rw [← hT]
  exact h
theorem hd_low {G : hd_G} {sh : hd_S} {σ : hd_M} {H : Heap} (hb : hd_b G ≤ H.size) (h : hd_P G sh σ H) : hd_b G + sh.length ≤ H.size := by
  by_cases hz : sh.length = 0
  · omega
  · have hl : sh.length - 1 < sh.length := by omega
    have h1 := (h.2 _ _ (hd_ws_at (G := G) (σ := σ) (List.getElem?_eq_getElem hl))).lt
    dsimp only at h1
    omega
section HDC
variable {p : Program} {l : Launch} {e : Env} {R : Room} {s : State} {m : MethodId} {args : Array Value} {below : List Frame} {meth : Method} {c : Code} {H : Heap} {locs : List Loc} {cells slots : Nat} {Q : State → Prop}
variable {pc : Nat} {ls : Array Slot} {rest st0 : List Value} {a : Array Value} {H0 : Heap} {mc ms : Nat}
/-- a call goes on -/
theorem hd_goes {G : hd_G} {n : Nat} {P : Option Value → hd_S → hd_M → Prop} (hr : va_Run p l e R s m args below meth c H locs cells slots mc ms (F0 m pc ls st0) rest (hd_Qc G n P a) (hd_A G)) (hS : va_S (hd_A G) H0 H locs)
    (kk : ∀ (r : Option Value) (sh : hd_S) (σ : hd_M) (H1 : Heap) (locs1 : List Loc), P r sh σ → hd_P G sh σ H1 → sh.length = n → va_S (hd_A G) H0 H1 locs1 → W p l e R s m args below meth c H1 locs1 (cells + mc) (slots + ms) Q (F0 m (pc + 3) ls ((r.map (hd_v (hd_ad G))).toList ++ rest))) : W p l e R s m args below meth c H locs cells slots Q (F0 m pc ls st0) := by
  intro T hT X
  obtain ⟨v, st₀, t, T', L, h0, X', hL, e1, e2, ⟨⟨r, sh, σ, hv, hp, hb, hn⟩, hz, hk⟩, st⟩ := hr T hT X
  cases hv
  rw [h0] at hz hk
  obtain ⟨t2, a1, b1⟩ := kk r sh σ T'.heap (locs ++ L) hp (by rw [e1]; exact hb) hn
    ⟨Nat.le_trans hS.1 (by rw [e1]; exact hz), fun q h1 h2 => by rw [e1, hk q (Nat.lt_of_lt_of_le h1 hS.1) h2]; exact hS.2.1 q h1 h2, fun q hq => by
      rcases List.mem_append.mp hq with h | h
      · exact hS.2.2 q h
      · exact hL q h⟩ T' rfl X'
  exact ⟨t2, st t2 a1, b1⟩
end HDC
theorem hd_K.warm {G : hd_G} {s U : State} (hW : s.WarmedH U.vm) (hl : ∀ q, q < s.heap.size → ¬ hd_A G q → U.heap[q]? = s.heap[q]?) (hz : hd_b G ≤ U.heap.size) (h : hd_K G s) : hd_K G U := by
  obtain ⟨h1, h2, h3, ⟨h4, h5, h6, h6q⟩, h7, h8⟩ := h
  refine ⟨va_K.moved hW.alike h1, fun w hw => ?_, va_AO.moved hW.alike h3, ⟨fun j hj => (h4 j hj).warm hW, ?_, ?_, ?_⟩, hz, h8⟩
  · have h9 := h2 w hw
    simp only [hd_nest, List.mem_cons, List.not_mem_nil, or_false] at hw
    rcases hw with rfl | rfl | rfl | rfl | rfl | rfl | rfl <;> exact va_Nw.warmM hW h9
  · exact (vk_S.moved hW.alike h5).kept hl
  · exact (va_Z.moved hW.alike h6).kept hl
  · rcases h6q with q | q
    · exact Or.inl ((va_Z.moved hW.alike q).kept hl)
    · exact Or.inr ((va_Z.moved hW.alike q).kept hl)
theorem hd_K.same {G : hd_G} {s U : State} (hv : U.vm = s.vm) (hh : U.heap = s.heap) (h : hd_K G s) : hd_K G U := by
  obtain ⟨h1, h2, h3, ⟨h4, h5, h6, h6q⟩, h7, h8⟩ := h
  have ha : s.vm.Alike U.vm := by rw [hv]; exact Vm.Alike.refl _
  refine ⟨va_K.moved ha h1, fun w hw => ?_, va_AO.moved ha h3, ⟨fun j hj => (h4 j hj).same hv, ?_, ?_, ?_⟩, by rw [hh]; exact h7, h8⟩
  · have h9 := h2 w hw
    simp only [hd_nest, List.mem_cons, List.not_mem_nil, or_false] at hw
    rcases hw with rfl | rfl | rfl | rfl | rfl | rfl | rfl <;> exact va_Nw.same rfl hv.symm h9
  · rw [hh]; exact vk_S.moved ha h5
  · rw [hh]; exact va_Z.moved ha h6
  · rw [hh]
    rcases h6q with q | q
    · exact Or.inl (va_Z.moved ha q)
    · exact Or.inr (va_Z.moved ha q)
theorem hd_good (mi : hd_I) (h : Cond.code mi.1 mi.2.1 mi.2.2.1 mi.2.2.2.1 ∈ lw_g) : GoodIn lw_g (hd_wm mi) := by
  intro w hw
  rcases List.mem_cons.mp hw with rfl | hw
  · exact ⟨h, good_of_word (List.mem_filter.mp h).2⟩
  · exact ⟨hw, good_of_word (List.mem_filter.mp hw).2⟩
/-- what a call asks, out of its row -/
theorem hd_cal_ok {mi : hd_I} {n : Nat} {sw : List (Int32 × Nat)} {ce : hd_I} (h : hd_cal mi n sw ce = true) : (ce.2.2.2.2.1 + 1 ≤ mi.2.2.2.2.1 ∧ 8 + (ce.2.2.1 + 11) + ce.2.2.2.2.2.1 ≤ mi.2.2.2.2.2.1) ∧ Cond.initialized ce.1.cls ∈ lw_g ∧ (ce.1.cls ≠ "java/lang/invoke/MethodHandle" ∧ ce.1.cls ≠ "java/lang/invoke/VarHandle" ∧ (parseMethodDescriptor ce.1.desc).map (fun d => d.parameters.length) = some n) := by
  obtain ⟨h, h5⟩ := hd_and h
  obtain ⟨h, h4⟩ := hd_and h
  obtain ⟨h1, h2⟩ := hd_and h
  exact ⟨⟨Nat.le_of_ble_eq_true h1, Nat.le_of_ble_eq_true h2⟩, hd_at_mem h4, of_decide_eq_true h5⟩
theorem hd_blind {G : hd_G} {sh : hd_S} {σ : hd_M} {as : List Value} : FrameBlind (va_Pc as (fun U => hd_K G U ∧ hd_P G sh σ U.heap ∧ U.heap.size = hd_b G + sh.length)) := fun a U g mk h => ⟨h.1, hd_K.same (s := U) (U := U.calling g mk a) rfl rfl h.2.1, h.2.2.1, h.2.2.2⟩
theorem hd_take_ok : ∀ {n : Nat} {acc st as rest : List Value}, hd_take n acc st = some (as, rest) → as.reverse ++ rest = acc.reverse ++ st ∧ as.length = n + acc.length
  | 0, acc, st, as, rest, h => by cases h; exact ⟨rfl, by omega⟩
  | n + 1, acc, v :: st, as, rest, h => by
    obtain ⟨h1, h2⟩ := hd_take_ok (n := n) h
    refine ⟨?_, by rw [h2, List.length_cons]; omega⟩
    rw [h1]
    simp
theorem hd_sum_eq (f : Nat → Nat) : ∀ st : List Value, ((st.map (hd_v f)).map fun v => v.category).sum = hd_sum st
  | [] => rfl
  | v :: st => by simp only [List.map_cons, List.sum_cons, hd_sum, hd_cat, hd_sum_eq f st]
theorem hd_ret_st (f : Nat → Nat) (r : Option Value) (rest : List Value) : (r.map (hd_v f)).toList ++ rest.map (hd_v f) = (r.toList ++ rest).map (hd_v f) := by cases r <;> simp
theorem hd_callS {G : hd_G} {mi ce : hd_I} {X : hd_X} {sh : hd_S} {ks : Nat × Nat} {idx pc n : Nat} {sw : List (Int32 × Nat)} {lv : hd_L} {as rest : List Value} {σ : hd_M} {P : Option Value → hd_S → hd_M → Prop} (hC : hd_C G mi X) (hd : decode mi.2.1 pc = .ok (.invokestatic idx, 3)) (hlk : Cond.methodLink mi.1.cls idx ce.1 ∈ lw_g ∨ Cond.methodLinkNest mi.1.cls idx ce.1 "HiddenDrawers" ∈ hd_nest) (hst : Cond.static ce.1 ∈ lw_g) (hc : hd_cal mi n sw ce = true) (hcode : hd_cdc ce) (hcm : ks.1 + ce.2.2.2.2.2.2.1 ≤ mi.2.2.2.2.2.2.1 ∧ ks.2 + ce.2.2.2.2.2.2.2 ≤ mi.2.2.2.2.2.2.2) (hn : as.length = n) (hsum : hd_sum rest ≤ 8) (hE : hd_EV G ce sh as σ P)
    (kk : ∀ r sh' σ', P r sh' σ' → hd_J G mi X sh' (ks.1 + ce.2.2.2.2.2.2.1, ks.2 + ce.2.2.2.2.2.2.2) (pc + 3) lv (r.toList ++ rest) σ') : hd_J G mi X sh ks pc lv (as.reverse ++ rest) σ := by
  obtain ⟨p, e, R, s, m, args, below, meth, cd, Q⟩ := X
  obtain ⟨hx, hb, hr, hml, hown, hts, hlocks, hK, hname, hfr, hlo, hrc, hrs⟩ := hC
  dsimp only at hx hb hr hml hown hts hlocks hK hname hfr hlo hrc hrs
  obtain ⟨hR, hini, hcd⟩ := hd_cal_ok hc
  intro hsz H locs ls hP hS hl
  dsimp only at hsz hS
  refine hd_sized fun hz => ?_
  have hlow := hd_low (Nat.le_trans hK.2.2.2.2.1 hS.1) hP
  have hsize : H.size = hd_b G + sh.length := by dsimp only at hz; omega
  have hpre : PreS s H (va_Pc (as.map (hd_v (hd_ad G))) (fun U => hd_K G U ∧ hd_P G sh σ U.heap ∧ U.heap.size = hd_b G + sh.length)) (as.map (hd_v (hd_ad G))) :=
    ⟨hd_blind, fun U hU hW => ⟨rfl, hd_K.warm hW (fun q h1 h2 => by rw [hU]; exact hS.2.1 q h1 h2) (by rw [hU]; omega) hK, by rw [hU]; exact hP, by rw [hU]; exact hsize⟩⟩
  have hrooms : (hd_rm ce).frames + 1 ≤ R.frames ∧ 8 + (ce.2.2.1 + 11) + (hd_rm ce).locals ≤ R.locals := ⟨Nat.le_trans hR.1 hfr, Nat.le_trans hR.2 hlo⟩
  have hst' : (as.reverse ++ rest).map (hd_v (hd_ad G)) = (as.map (hd_v (hd_ad G))).reverse ++ rest.map (hd_v (hd_ad G)) := by simp
  rw [hst']
  have hfit : ks.1 + ce.2.2.2.2.2.2.1 ≤ R.cells ∧ ks.2 + ce.2.2.2.2.2.2.2 ≤ R.slots := by rw [hrc, hrs]; exact hcm
  have hroom8 : 2 * (F0 m pc ls ((as.map (hd_v (hd_ad G))).reverse ++ rest.map (hd_v (hd_ad G)))).monitorRoom + ((rest.map (hd_v (hd_ad G))).map fun v => v.category).sum ≤ 8 := lv_room (by rw [hd_sum_eq]; exact hsum)
  have hlen : (as.map (hd_v (hd_ad G))).length = n := by rw [List.length_map]; exact hn
  have fin : ∀ (r : Option Value) (sh' : hd_S) (σ' : hd_M) (H1 : Heap) (locs1 : List Loc), P r sh' σ' → hd_P G sh' σ' H1 → sh'.length = sh.length + ce.2.2.2.2.2.2.1 → va_S (hd_A G) s.heap H1 locs1 → W p G.1 e R s m args below meth cd H1 locs1 (ks.1 + ce.2.2.2.2.2.2.1) (ks.2 + ce.2.2.2.2.2.2.2) Q (F0 m (pc + 3) ls ((r.map (hd_v (hd_ad G))).toList ++ rest.map (hd_v (hd_ad G)))) := by
    intro r sh' σ' H1 locs1 hp hP1 hln hS1
    rw [hd_ret_st]
    exact kk r sh' σ' hp (by dsimp only; omega) H1 locs1 ls hP1 hS1 hl
  rcases hlk with hlk | hlk
  · exact hd_goes (va_runS (own := mi.1.cls) (index := idx) (y := ce.1) (bytes := ce.2.1) (maxL := ce.2.2.1) (ret := ce.2.2.2.1) (ws := hd_wm ce) (rm := hd_rm ce) (n := n) (Ts := lw_g) (nL := mi.2.2.1) ⟨hx, hb, hml, hown, hts⟩ hE ⟨callB_of n hts (hd_good ce hcode) rfl rfl rfl (hts _ hini) (hts _ hlk) hcd hrooms, hts _ hst⟩ hpre rfl hlen hl.1 rfl hroom8 hd hfit) hS fin
  · exact hd_goes (va_runSN (own := mi.1.cls) (host := "HiddenDrawers") (index := idx) (y := ce.1) (bytes := ce.2.1) (maxL := ce.2.2.1) (ret := ce.2.2.2.1) (ws := hd_wm ce) (rm := hd_rm ce) (n := n) (Ts := lw_g) (nL := mi.2.2.1) ⟨hx, hb, hml, hown, hts⟩ hE ⟨va_cnB n hts (hd_good ce hcode) rfl rfl rfl (hK.2.1 _ hlk) (hts _ hini) hcd hrooms, hts _ hst, trivial⟩ hpre rfl hlen hl.1 rfl hroom8 hd hfit) hS fin
theorem hd_callV {G : hd_G} {mi ce : hd_I} {X : hd_X} {sh : hd_S} {ks : Nat × Nat} {idx pc n q ci n0 : Nat} {rs : List Nat} {sw : List (Int32 × Nat)} {lv : hd_L} {as rest : List Value} {σ : hd_M} {P : Option Value → hd_S → hd_M → Prop} {cq : vw_C} (hC : hd_C G mi X) (hd : decode mi.2.1 pc = .ok (.invokevirtual idx, 3)) (hlk : Cond.methodLink mi.1.cls idx ce.1 ∈ lw_g) (hin : Cond.instanceMethod ce.1 ∈ lw_g) (hsel : Cond.selects ce.1.cls ce.1 ce.1 ∈ lw_g) (hcq : vwCl[ci]? = some cq) (hcn : cq.1 = ce.1.cls) (hq : sh[q]? = some (10 + ci, n0, rs)) (hc : hd_cal mi n sw ce = true) (hcode : hd_cdc ce) (hcm : ks.1 + ce.2.2.2.2.2.2.1 ≤ mi.2.2.2.2.2.2.1 ∧ ks.2 + ce.2.2.2.2.2.2.2 ≤ mi.2.2.2.2.2.2.2) (hn : as.length = n) (hsum : hd_sum rest ≤ 8) (hE : hd_EV G ce sh (.ref q :: as) σ P)
    (kk : ∀ r sh' σ', P r sh' σ' → hd_J G mi X sh' (ks.1 + ce.2.2.2.2.2.2.1, ks.2 + ce.2.2.2.2.2.2.2) (pc + 3) lv (r.toList ++ rest) σ') : hd_J G mi X sh ks pc lv (as.reverse ++ .ref q :: rest) σ := by
  obtain ⟨p, e, R, s, m, args, below, meth, cd, Q⟩ := X
  obtain ⟨hx, hb, hr, hml, hown, hts, hlocks, hK, hname, hfr, hlo, hrc, hrs⟩ := hC
  dsimp only at hx hb hr hml hown hts hlocks hK hname hfr hlo hrc hrs
  obtain ⟨hR, hini, hcd⟩ := hd_cal_ok hc
  intro hsz H locs ls hP hS hl
  dsimp only at hsz hS
  refine hd_sized fun hz => ?_
  have hlow := hd_low (Nat.le_trans hK.2.2.2.2.1 hS.1) hP
  have hsize : H.size = hd_b G + sh.length := by dsimp only at hz; omega
  have hrecv := va_recv hK.1 hP.2 hcq (by rw [hd_ws_at hq, hd_E_obj])
  rw [hcn, ← hd_adq hK hP hq] at hrecv
  have hpre : PreV s H ce.1.cls (hd_ad G q) (va_Pc ((Value.ref q :: as).map (hd_v (hd_ad G))) (fun U => hd_K G U ∧ hd_P G sh σ U.heap ∧ U.heap.size = hd_b G + sh.length)) (as.map (hd_v (hd_ad G))) :=
    ⟨hd_blind, hrecv, fun U hU hW => ⟨rfl, hd_K.warm hW (fun q h1 h2 => by rw [hU]; exact hS.2.1 q h1 h2) (by rw [hU]; omega) hK, by rw [hU]; exact hP, by rw [hU]; exact hsize⟩⟩
  have hrooms : (hd_rm ce).frames + 1 ≤ R.frames ∧ 8 + (ce.2.2.1 + 11) + (hd_rm ce).locals ≤ R.locals := ⟨Nat.le_trans hR.1 hfr, Nat.le_trans hR.2 hlo⟩
  have hst' : (as.reverse ++ Value.ref q :: rest).map (hd_v (hd_ad G)) = (as.map (hd_v (hd_ad G))).reverse ++ .ref (hd_ad G q) :: rest.map (hd_v (hd_ad G)) := by simp [hd_v]
  rw [hst']
  have hfit : ks.1 + ce.2.2.2.2.2.2.1 ≤ R.cells ∧ ks.2 + ce.2.2.2.2.2.2.2 ≤ R.slots := by rw [hrc, hrs]; exact hcm
  have hlen : (as.map (hd_v (hd_ad G))).length = n := by rw [List.length_map]; exact hn
  have fin : ∀ (r : Option Value) (sh' : hd_S) (σ' : hd_M) (H1 : Heap) (locs1 : List Loc), P r sh' σ' → hd_P G sh' σ' H1 → sh'.length = sh.length + ce.2.2.2.2.2.2.1 → va_S (hd_A G) s.heap H1 locs1 → W p G.1 e R s m args below meth cd H1 locs1 (ks.1 + ce.2.2.2.2.2.2.1) (ks.2 + ce.2.2.2.2.2.2.2) Q (F0 m (pc + 3) ls ((r.map (hd_v (hd_ad G))).toList ++ rest.map (hd_v (hd_ad G)))) := by
    intro r sh' σ' H1 locs1 hp hP1 hln hS1
    rw [hd_ret_st]
    exact kk r sh' σ' hp (by dsimp only; omega) H1 locs1 ls hP1 hS1 hl
  exact hd_goes (va_runV (own := mi.1.cls) (C := ce.1.cls) (index := idx) (y := ce.1) (bytes := ce.2.1) (maxL := ce.2.2.1) (ret := ce.2.2.2.1) (ws := hd_wm ce) (rm := hd_rm ce) (n := n) (Ts := lw_g) (nL := mi.2.2.1) ⟨hx, hb, hml, hown, hts⟩ hE ⟨callB_of n hts (hd_good ce hcode) rfl rfl rfl (hts _ hini) (hts _ hlk) hcd hrooms, hts _ hin, hts _ hsel⟩ hpre rfl hlen hl.1 rfl (lv_room (by rw [hd_sum_eq]; exact hsum)) hd hfit) hS fin
theorem hd_callT {G : hd_G} {mi ce : hd_I} {X : hd_X} {sh : hd_S} {ks : Nat × Nat} {idx pc n q : Nat} {sw : List (Int32 × Nat)} {lv : hd_L} {as rest : List Value} {σ : hd_M} {P : Option Value → hd_S → hd_M → Prop} (hC : hd_C G mi X) (hd : decode mi.2.1 pc = .ok (.invokevirtual idx, 3)) (hlk : Cond.methodLink mi.1.cls idx ce.1 ∈ lw_g) (hin : Cond.instanceMethod ce.1 ∈ lw_g) (hsel : Cond.selects ce.1.cls ce.1 ce.1 ∈ lw_g) (hcn : ce.1.cls = "java/lang/String") (hq : 5000 ≤ q ∧ q < 5015) (hc : hd_cal mi n sw ce = true) (hcode : hd_cdc ce) (hcm : ks.1 + ce.2.2.2.2.2.2.1 ≤ mi.2.2.2.2.2.2.1 ∧ ks.2 + ce.2.2.2.2.2.2.2 ≤ mi.2.2.2.2.2.2.2) (hn : as.length = n) (hsum : hd_sum rest ≤ 8) (hE : hd_EV G ce sh (.ref q :: as) σ P)
    (kk : ∀ r sh' σ', P r sh' σ' → hd_J G mi X sh' (ks.1 + ce.2.2.2.2.2.2.1, ks.2 + ce.2.2.2.2.2.2.2) (pc + 3) lv (r.toList ++ rest) σ') : hd_J G mi X sh ks pc lv (as.reverse ++ .ref q :: rest) σ := by
  obtain ⟨p, e, R, s, m, args, below, meth, cd, Q⟩ := X
  obtain ⟨hx, hb, hr, hml, hown, hts, hlocks, hK, hname, hfr, hlo, hrc, hrs⟩ := hC
  dsimp only at hx hb hr hml hown hts hlocks hK hname hfr hlo hrc hrs
  obtain ⟨hR, hini, hcd⟩ := hd_cal_ok hc
  intro hsz H locs ls hP hS hl
  dsimp only at hsz hS
  refine hd_sized fun hz => ?_
  have hlow := hd_low (Nat.le_trans hK.2.2.2.2.1 hS.1) hP
  have hsize : H.size = hd_b G + sh.length := by dsimp only at hz; omega
  have hrecv := vk_recv (i := q - 5000) hK.2.2.2.1.2.1 (by omega) hS
  have hq5 : 5000 + (q - 5000) = q := by omega
  rw [hq5, ← hcn] at hrecv
  have hpre : PreV s H ce.1.cls (hd_ad G q) (va_Pc ((Value.ref q :: as).map (hd_v (hd_ad G))) (fun U => hd_K G U ∧ hd_P G sh σ U.heap ∧ U.heap.size = hd_b G + sh.length)) (as.map (hd_v (hd_ad G))) :=
    ⟨hd_blind, hrecv, fun U hU hW => ⟨rfl, hd_K.warm hW (fun q h1 h2 => by rw [hU]; exact hS.2.1 q h1 h2) (by rw [hU]; omega) hK, by rw [hU]; exact hP, by rw [hU]; exact hsize⟩⟩
  have hrooms : (hd_rm ce).frames + 1 ≤ R.frames ∧ 8 + (ce.2.2.1 + 11) + (hd_rm ce).locals ≤ R.locals := ⟨Nat.le_trans hR.1 hfr, Nat.le_trans hR.2 hlo⟩
  have hst' : (as.reverse ++ Value.ref q :: rest).map (hd_v (hd_ad G)) = (as.map (hd_v (hd_ad G))).reverse ++ .ref (hd_ad G q) :: rest.map (hd_v (hd_ad G)) := by simp [hd_v]
  rw [hst']
  have hfit : ks.1 + ce.2.2.2.2.2.2.1 ≤ R.cells ∧ ks.2 + ce.2.2.2.2.2.2.2 ≤ R.slots := by rw [hrc, hrs]; exact hcm
  have hlen : (as.map (hd_v (hd_ad G))).length = n := by rw [List.length_map]; exact hn
  have fin : ∀ (r : Option Value) (sh' : hd_S) (σ' : hd_M) (H1 : Heap) (locs1 : List Loc), P r sh' σ' → hd_P G sh' σ' H1 → sh'.length = sh.length + ce.2.2.2.2.2.2.1 → va_S (hd_A G) s.heap H1 locs1 → W p G.1 e R s m args below meth cd H1 locs1 (ks.1 + ce.2.2.2.2.2.2.1) (ks.2 + ce.2.2.2.2.2.2.2) Q (F0 m (pc + 3) ls ((r.map (hd_v (hd_ad G))).toList ++ rest.map (hd_v (hd_ad G)))) := by
    intro r sh' σ' H1 locs1 hp hP1 hln hS1
    rw [hd_ret_st]
    exact kk r sh' σ' hp (by dsimp only; omega) H1 locs1 ls hP1 hS1 hl
  exact hd_goes (va_runV (own := mi.1.cls) (C := ce.1.cls) (index := idx) (y := ce.1) (bytes := ce.2.1) (maxL := ce.2.2.1) (ret := ce.2.2.2.1) (ws := hd_wm ce) (rm := hd_rm ce) (n := n) (Ts := lw_g) (nL := mi.2.2.1) ⟨hx, hb, hml, hown, hts⟩ hE ⟨callB_of n hts (hd_good ce hcode) rfl rfl rfl (hts _ hini) (hts _ hlk) hcd hrooms, hts _ hin, hts _ hsel⟩ hpre rfl hlen hl.1 rfl (lv_room (by rw [hd_sum_eq]; exact hsum)) hd hfit) hS fin
end
section
theorem hd_len1 {len : Nat} {n : Nat} (h : Nat.beq len n = true) : len = n := Nat.eq_of_beq_eq_true h
theorem hd_ge {x y : Int32} (h : ¬ x < y) : y ≤ x := Int32.not_lt.mp h
theorem hd_gt {x y : Int32} (h : ¬ x ≤ y) : y < x := Int32.not_le.mp h
theorem hd_getF {G : hd_G} {mi : hd_I} {X : hd_X} {sh : hd_S} {ks : Nat × Nat} {idx pc q a b n0 : Nat} {rs : List Nat} {sw : List (Int32 × Nat)} {lv : hd_L} {st : List Value} {σ : hd_M} {v : Value} (hC : hd_C G mi X) (hd : decode mi.2.1 pc = .ok (.getfield idx, 3)) (hf : hd_fok mi idx a b sw = true) (hq : sh[q]? = some (10 + a, n0, rs)) (hv : hd_fv (hd_ad G) σ q rs a (b % 100) = hd_v (hd_ad G) v) (kk : hd_J G mi X sh ks (pc + 3) lv (v :: st) σ) : hd_J G mi X sh ks pc lv (.ref q :: st) σ := by
  obtain ⟨p, e, R, s, m, args, below, meth, cd, Q⟩ := X
  obtain ⟨hx, hb, hr, hml, hown, hts, hlocks, hK, hname, hfr, hlo, hrc, hrs⟩ := hC
  dsimp only at hx hb hr hml hown hts hlocks hK hname hfr hlo hrc hrs
  intro hsz H locs ls hP hS hl
  unfold hd_fok at hf
  split at hf
  · rename_i cq hcq
    obtain ⟨hf, -⟩ := hd_and hf
    obtain ⟨h1, h2⟩ := hd_and hf
    have h1 : b % 100 < cq.2.2 := Nat.le_of_ble_eq_true h1
    obtain ⟨g1, g2, g3, g4⟩ := hd_clok hcq
    show W _ _ _ _ _ _ _ _ _ _ _ _ _ _ _ (F0 m pc ls (.ref (hd_ad G q) :: st.map (hd_v (hd_ad G))))
    rw [hd_adq hK hP hq]
    refine va_get (C := cq.1) (T := cq.2.1) (N := cq.2.2) (ci := a) hx hb hts g1 hown hK.1 hP.2 q (by rw [hd_ws_at hq, hd_E_obj]) (by rw [hcq]) (b % 100) h1 (hts _ (hd_at_mem h2)) (fun _ z => z) (v := hd_v (hd_ad G) v) (by rw [hd_fs_at (by rw [g4]; exact h1), hv]) hd ?_
    exact kk hsz H locs ls hP hS hl
  · cases hf
theorem hd_putF {G : hd_G} {mi : hd_I} {X : hd_X} {sh : hd_S} {ks : Nat × Nat} {idx pc q a b n0 : Nat} {rs : List Nat} {sw : List (Int32 × Nat)} {lv : hd_L} {st : List Value} {σ σ' : hd_M} {v : Value} (hC : hd_C G mi X) (hd : decode mi.2.1 pc = .ok (.putfield idx, 3)) (hf : hd_fok mi idx a b sw = true) (hfin : hd_fin mi a b = true) (hq : sh[q]? = some (10 + a, n0, rs)) (hnar : narrow (hd_ft a (b % 100)) (hd_v (hd_ad G) v) = hd_v (hd_ad G) v) (hfits : fits (hd_ft a (b % 100)) (hd_v (hd_ad G) v) = true) (hv : hd_fv (hd_ad G) σ' q rs a (b % 100) = hd_v (hd_ad G) v) (ho : ∀ j, j ≠ b % 100 → hd_fv (hd_ad G) σ' q rs a j = hd_fv (hd_ad G) σ q rs a j) (ho2 : ∀ k s', k ≠ q → hd_E G σ' k s' = hd_E G σ k s') (kk : hd_J G mi X sh ks (pc + 3) lv st σ') : hd_J G mi X sh ks pc lv (v :: .ref q :: st) σ := by
  obtain ⟨p, e, R, s, m, args, below, meth, cd, Q⟩ := X
  obtain ⟨hx, hb, hr, hml, hown, hts, hlocks, hK, hname, hfr, hlo, hrc, hrs⟩ := hC
  dsimp only at hx hb hr hml hown hts hlocks hK hname hfr hlo hrc hrs
  intro hsz H locs ls hP hS hl
  unfold hd_fok at hf
  split at hf
  · rename_i cq hcq
    obtain ⟨hf, -⟩ := hd_and hf
    obtain ⟨h1, h2⟩ := hd_and hf
    have h1 : b % 100 < cq.2.2 := Nat.le_of_ble_eq_true h1
    obtain ⟨g1, g2, g3, g4⟩ := hd_clok hcq
    have hfn : (cq.2.1 (b % 100)).2.2.2 = false := by
      unfold hd_fin at hfin
      rw [hcq] at hfin
      simpa using hfin
    show W _ _ _ _ _ _ _ _ _ _ _ _ _ _ _ (F0 m pc ls (hd_v (hd_ad G) v :: .ref (hd_ad G q) :: st.map (hd_v (hd_ad G))))
    rw [hd_adq hK hP hq]
    refine va_put (C := cq.1) (T := cq.2.1) (N := cq.2.2) (ci := a) hx hb hts g1 (hd_ft a) g2 g3 hown hK.1 hP.2 (hd_D G sh σ) hS q (by rw [hd_ws_at hq, hd_E_obj]) (by rw [hcq]) (b % 100) h1 (hts _ (hd_at_mem h2)) (fun _ z => z) hfn (g2 _ h1) hnar hfits (by simp [g4, h1]) hd ?_
    intro H1 locs1 hP1 hD1 hS1
    refine kk hsz H1 locs1 ls (hd_P_set hP hq ?_ ho2 hP1) hS1 hl
    rw [hd_E_obj, hd_fs_set (by rw [g4]; exact h1) hv ho]
  · cases hf
theorem hd_fok_k {mi : hd_I} {idx a b : Nat} {sw : List (Int32 × Nat)} (hf : hd_fok mi idx a b sw = true) : hd_fk a (b % 100) = b / 100 ∨ (b / 100 = 5 ∧ hd_fk a (b % 100) = 2) := by
  unfold hd_fok at hf
  split at hf
  · obtain ⟨-, h⟩ := hd_and hf
    rw [Bool.or_eq_true] at h
    rcases h with h | h
    · exact Or.inl (Nat.eq_of_beq_eq_true h)
    · obtain ⟨h1, h2⟩ := hd_and h
      exact Or.inr ⟨Nat.eq_of_beq_eq_true h1, Nat.eq_of_beq_eq_true h2⟩
  · cases hf
theorem hd_fk_ty {a k n : Nat} (h : hd_fk a k = n) : (n = 0 → hd_ft a k = .int) ∧ (n = 1 → hd_ft a k = .long) ∧ (n = 4 → hd_ft a k = .boolean) ∧ (n = 3 → (∃ c, hd_ft a k = .object c) ∨ ∃ t, hd_ft a k = .array t) := by
  unfold hd_fk at h
  split at h
  · rename_i e; subst h; exact ⟨fun z => absurd z (by decide), fun _ => e, fun z => absurd z (by decide), fun z => absurd z (by decide)⟩
  · rename_i e; subst h; exact ⟨fun z => absurd z (by decide), fun z => absurd z (by decide), fun _ => e, fun z => absurd z (by decide)⟩
  · rename_i c e
    refine ⟨fun z => ?_, fun z => ?_, fun z => ?_, fun z => Or.inl ⟨c, e⟩⟩ <;> (subst z; cases hm : hd_mut a k <;> rw [hm] at h <;> exact absurd h (by decide))
  · rename_i c e
    refine ⟨fun z => ?_, fun z => ?_, fun z => ?_, fun z => Or.inr ⟨c, e⟩⟩ <;> (subst z; cases hm : hd_mut a k <;> rw [hm] at h <;> exact absurd h (by decide))
  · rename_i e; subst h; exact ⟨fun _ => e, fun z => absurd z (by decide), fun z => absurd z (by decide), fun z => absurd z (by decide)⟩
  · subst h; exact ⟨fun z => absurd z (by decide), fun z => absurd z (by decide), fun z => absurd z (by decide), fun z => absurd z (by decide)⟩
theorem hd_fv0 {f : Nat → Nat} {σ : hd_M} {q a k n : Nat} {rs : List Nat} (h : hd_fk a k = n) (hn : n = 0 ∨ n = 4) : hd_fv f σ q rs a k = .int (σ.1 q k) := by
  unfold hd_fv
  rw [h]
  rcases hn with rfl | rfl <;> rfl
theorem hd_fvx {f : Nat → Nat} {σ : hd_M} {q a k n : Nat} {rs : List Nat} (h : hd_fk a k = n) (hn : 4 ≤ n) : hd_fv f σ q rs a k = .int (σ.1 q k) := by
  unfold hd_fv
  rw [h]
  match n, hn with
  | n + 4, _ => rfl
theorem hd_fk_le (a k : Nat) : hd_fk a k ≠ 5 := by
  unfold hd_fk
  split <;> first | decide | (cases hd_mut a k <;> decide)
theorem hd_fv1 {f : Nat → Nat} {σ : hd_M} {q a k : Nat} {rs : List Nat} (h : hd_fk a k = 1) : hd_fv f σ q rs a k = .long (σ.2 q k) := by
  unfold hd_fv
  rw [h]
  rfl
theorem hd_fv2 {f : Nat → Nat} {σ : hd_M} {q a k : Nat} {rs : List Nat} (h : hd_fk a k = 2) : hd_fv f σ q rs a k = hd_rv f (rs.getD k 0) := by
  unfold hd_fv
  rw [h]
  rfl
theorem hd_fv3 {f : Nat → Nat} {σ : hd_M} {q a k : Nat} {rs : List Nat} (h : hd_fk a k = 3) : hd_fv f σ q rs a k = hd_rv f (σ.1 q k).toNatClampNeg := by
  unfold hd_fv
  rw [h]
  rfl
theorem hd_rv_ne {f : Nat → Nat} {n : Nat} (h : ¬ n = 0) : hd_rv f n = .ref (f n) := by
  unfold hd_rv
  cases hb : Nat.beq n 0 with
  | true => exact absurd (Nat.eq_of_beq_eq_true hb) h
  | false => rfl
theorem hd_arr_upd {G : hd_G} {σ : hd_M} {q t n : Nat} {rs : List Nat} {f : Nat → Int32} (ht : t < 3) : hd_E G (va_up σ.1 q f, σ.2) q (t, n, rs) = .inl (G.2.2.1 t, n, .inl f) := by
  rw [hd_E_arr ht]
  show Sum.inl (_, _, Sum.inl (va_up σ.1 q f q)) = _
  rw [hd_up_eq]
theorem hd_arr_updL {G : hd_G} {σ : hd_M} {q n : Nat} {rs : List Nat} {f : Nat → Int64} : hd_E G (σ.1, va_up σ.2 q f) q (3, n, rs) = .inl (G.2.2.1 3, n, .inr (.inl f)) := by
  show Sum.inl (_, _, Sum.inr (Sum.inl (va_up σ.2 q f q))) = _
  rw [hd_up_eq]
theorem hd_sw_ok {x : Int32} {dft : Nat} {k : Nat → Prop} : ∀ {sw : List (Int32 × Nat)}, hd_sw x dft k sw → (∃ (j : Nat) (v : Int32) (t : Nat), sw[j]? = some (v, t) ∧ x = v ∧ k t) ∨ ((∀ (j : Nat) (v : Int32) (t : Nat), sw[j]? = some (v, t) → ¬ x = v) ∧ k dft)
  | [], h => Or.inr ⟨fun j v t z => by simp at z, h⟩
  | (v, t) :: r, h => by
    by_cases hx : x = v
    · exact Or.inl ⟨0, v, t, rfl, hx, h.1 hx⟩
    · rcases hd_sw_ok (h.2 hx) with ⟨j, v', t', h1, h2, h3⟩ | ⟨h1, h2⟩
      · exact Or.inl ⟨j + 1, v', t', h1, h2, h3⟩
      · refine Or.inr ⟨fun j v' t' hj => ?_, h2⟩
        match j, hj with
        | 0, hj => cases hj; exact hx
        | j + 1, hj => exact h1 j v' t' hj
theorem hd_call_EV {G : hd_G} {ce : hd_I} {kind : Nat} {sh : hd_S} {as rest : List Value} {σ : hd_M} {k : List Value → hd_M → Prop} (h : hd_call G ce kind sh as rest σ k) : ∃ P, hd_EV G ce sh as σ P ∧ ∀ r sh' σ', P r sh' σ' → sh' = sh ∧ k (r.toList ++ rest) σ' := by
  match kind, h with
  | 0, h => exact ⟨_, h, fun r sh' σ' ⟨h1, x, h2, h3⟩ => ⟨h1, by rw [h2]; exact h3⟩⟩
  | 1, h => exact ⟨_, h, fun r sh' σ' ⟨h1, x, h2, h3⟩ => ⟨h1, by rw [h2]; exact h3⟩⟩
  | 2, h => exact ⟨_, h, fun r sh' σ' ⟨h1, h2, h3⟩ => ⟨h1, by rw [h2]; exact h3⟩⟩
  | 3, h => exact ⟨_, h, fun r sh' σ' ⟨h1, x, h2, h3⟩ => ⟨h1, by rw [h2]; exact h3⟩⟩
  | n + 4, h => exact h.elim
set_option maxHeartbeats 4000000 in
set_option maxRecDepth 20000 in
theorem hd_step_ok {G : hd_G} {mi : hd_I} {X : hd_X} {Z : Option Value → hd_M → Prop} {sh : hd_S} {ks : Nat × Nat} (hC : hd_C G mi X) (hks : ks.1 + 0 ≤ mi.2.2.2.2.2.2.1 ∧ ks.2 + 0 ≤ mi.2.2.2.2.2.2.2) (hZ : hd_Zok G mi X Z sh ks) {i : hd_Ins} {pc len a b : Nat} {c : Int32} {d : Int64} {sw : List (Int32 × Nat)} {ce : hd_I} (hok : hd_okb mi (pc, i, len, a, b, c, d, sw, ce) = true) (hcd : hd_cd (pc, i, len, a, b, c, d, sw, ce)) {lv : hd_L} {st : List Value} {σ : hd_M} {k : Nat → hd_L → List Value → hd_M → Prop} (hk : ∀ pc lv st σ, k pc lv st σ → hd_J G mi X sh ks pc lv st σ) (h : hd_step G mi Z sh i pc len a b c d sw ce lv st σ k) : hd_J G mi X sh ks pc lv st σ := by
  have hC0 := hC
  obtain ⟨hdd, ho⟩ := hd_and hok
  have hd := of_decide_eq_true hdd
  clear hok hdd
  obtain ⟨p, e, R, s, m, args, below, meth, cd, Q⟩ := X
  obtain ⟨hx, hb, hr, hml, hown, hts, hlocks, hK, hname, hfr, hlo, hrc, hrs⟩ := hC
  dsimp only at hx hb hr hml hown hts hlocks hK hname hfr hlo hrc hrs hd
  intro hsz H locs ls hP hS hl
  dsimp only at hsz hS
  cases i
  case iadd =>
    replace h := hd_i2_inv h
    obtain ⟨y, x, st, rfl, h⟩ := h
    have e0 := hd_len1 ho; subst e0
    exact lv_iadd hx hb hd (hk _ _ _ _ h hsz H locs ls hP hS hl)
  case isub =>
    replace h := hd_i2_inv h
    obtain ⟨y, x, st, rfl, h⟩ := h
    have e0 := hd_len1 ho; subst e0
    exact lv_isub hx hb hd (hk _ _ _ _ h hsz H locs ls hP hS hl)
  case imul =>
    replace h := hd_i2_inv h
    obtain ⟨y, x, st, rfl, h⟩ := h
    have e0 := hd_len1 ho; subst e0
    exact lv_imul hx hb hd (hk _ _ _ _ h hsz H locs ls hP hS hl)
  case ishl =>
    replace h := hd_i2_inv h
    obtain ⟨y, x, st, rfl, h⟩ := h
    have e0 := hd_len1 ho; subst e0
    exact lv_ishl hx hb hd (hk _ _ _ _ h hsz H locs ls hP hS hl)
  case ishr =>
    replace h := hd_i2_inv h
    obtain ⟨y, x, st, rfl, h⟩ := h
    have e0 := hd_len1 ho; subst e0
    exact lv_ishr hx hb hd (hk _ _ _ _ h hsz H locs ls hP hS hl)
  case iand =>
    replace h := hd_i2_inv h
    obtain ⟨y, x, st, rfl, h⟩ := h
    have e0 := hd_len1 ho; subst e0
    exact lv_iand hx hb hd (hk _ _ _ _ h hsz H locs ls hP hS hl)
  case ior =>
    replace h := hd_i2_inv h
    obtain ⟨y, x, st, rfl, h⟩ := h
    have e0 := hd_len1 ho; subst e0
    exact lv_ior hx hb hd (hk _ _ _ _ h hsz H locs ls hP hS hl)
  case ixor =>
    replace h := hd_i2_inv h
    obtain ⟨y, x, st, rfl, h⟩ := h
    have e0 := hd_len1 ho; subst e0
    exact lv_ixor hx hb hd (hk _ _ _ _ h hsz H locs ls hP hS hl)
  case ladd =>
    replace h := hd_l2_inv h
    obtain ⟨y, x, st, rfl, h⟩ := h
    have e0 := hd_len1 ho; subst e0
    exact lv_ladd hx hb hd (hk _ _ _ _ h hsz H locs ls hP hS hl)
  case lsub =>
    replace h := hd_l2_inv h
    obtain ⟨y, x, st, rfl, h⟩ := h
    have e0 := hd_len1 ho; subst e0
    exact lv_lsub hx hb hd (hk _ _ _ _ h hsz H locs ls hP hS hl)
  case lmul =>
    replace h := hd_l2_inv h
    obtain ⟨y, x, st, rfl, h⟩ := h
    have e0 := hd_len1 ho; subst e0
    exact lv_lmul hx hb hd (hk _ _ _ _ h hsz H locs ls hP hS hl)
  case lor =>
    replace h := hd_l2_inv h
    obtain ⟨y, x, st, rfl, h⟩ := h
    have e0 := hd_len1 ho; subst e0
    exact lv_lor hx hb hd (hk _ _ _ _ h hsz H locs ls hP hS hl)
  case idiv =>
    replace h := hd_i2_inv h
    obtain ⟨y, x, st, rfl, hn, h⟩ := h
    have e0 := hd_len1 ho; subst e0
    exact lv_idiv hx hb hd hn (hk _ _ _ _ h hsz H locs ls hP hS hl)
  case irem =>
    replace h := hd_i2_inv h
    obtain ⟨y, x, st, rfl, hn, h⟩ := h
    have e0 := hd_len1 ho; subst e0
    exact lv_irem hx hb hd hn (hk _ _ _ _ h hsz H locs ls hP hS hl)
  case ldiv =>
    replace h := hd_l2_inv h
    obtain ⟨y, x, st, rfl, hn, h⟩ := h
    have e0 := hd_len1 ho; subst e0
    exact lv_ldiv hx hb hd hn (hk _ _ _ _ h hsz H locs ls hP hS hl)
  case iushr =>
    replace h := hd_i2_inv h
    obtain ⟨y, x, st, rfl, h⟩ := h
    have e0 := hd_len1 ho; subst e0
    exact lv_iushr hx hb hd rfl (hk _ _ _ _ h hsz H locs ls hP hS hl)
  case lshl =>
    replace h := hd_il_inv h
    obtain ⟨y, x, st, rfl, h⟩ := h
    have e0 := hd_len1 ho; subst e0
    exact lv_lshl hx hb hd rfl (hk _ _ _ _ h hsz H locs ls hP hS hl)
  case lcmp =>
    replace h := hd_l2_inv h
    obtain ⟨y, x, st, rfl, h⟩ := h
    have e0 := hd_len1 ho; subst e0
    exact W.lcmp hx hb hd (hk _ _ _ _ h hsz H locs ls hP hS hl)
  case ineg =>
    replace h := hd_i1_inv h
    obtain ⟨x, st, rfl, h⟩ := h
    have e0 := hd_len1 ho; subst e0
    exact lv_ineg hx hb hd (hk _ _ _ _ h hsz H locs ls hP hS hl)
  case lneg =>
    replace h := hd_l1_inv h
    obtain ⟨x, st, rfl, h⟩ := h
    have e0 := hd_len1 ho; subst e0
    exact lv_lneg hx hb hd (hk _ _ _ _ h hsz H locs ls hP hS hl)
  case i2l =>
    replace h := hd_i1_inv h
    obtain ⟨x, st, rfl, h⟩ := h
    have e0 := hd_len1 ho; subst e0
    exact lv_i2l hx hb hd rfl (hk _ _ _ _ h hsz H locs ls hP hS hl)
  case l2i =>
    replace h := hd_l1_inv h
    obtain ⟨x, st, rfl, h⟩ := h
    have e0 := hd_len1 ho; subst e0
    exact lv_l2i hx hb hd rfl (hk _ _ _ _ h hsz H locs ls hP hS hl)
  case i2b =>
    replace h := hd_i1_inv h
    obtain ⟨x, st, rfl, h⟩ := h
    have e0 := hd_len1 ho; subst e0
    exact lv_i2b hx hb hd rfl (hk _ _ _ _ h hsz H locs ls hP hS hl)
  case iconst =>
    replace ho := hd_and ho
    obtain ⟨h1, h2⟩ := ho
    have e0 := hd_len1 h1; subst e0
    exact lv_iconst hx hb hd (of_decide_eq_true h2) (hk _ _ _ _ h hsz H locs ls hP hS hl)
  case bipush =>
    replace ho := hd_and ho
    obtain ⟨h1, h2⟩ := ho
    have e0 := hd_len1 h1; subst e0
    exact lv_bipush hx hb hd (of_decide_eq_true h2) (hk _ _ _ _ h hsz H locs ls hP hS hl)
  case sipush =>
    replace ho := hd_and ho
    obtain ⟨h1, h2⟩ := ho
    have e0 := hd_len1 h1; subst e0
    exact lv_sipush hx hb hd (of_decide_eq_true h2) (hk _ _ _ _ h hsz H locs ls hP hS hl)
  case lconst =>
    replace ho := hd_and ho
    obtain ⟨h1, h2⟩ := ho
    have e0 := hd_len1 h1; subst e0
    exact lv_lconst hx hb hd (of_decide_eq_true h2) (hk _ _ _ _ h hsz H locs ls hP hS hl)
  case ldc_w =>
    replace ho := hd_and ho
    obtain ⟨h1, h2⟩ := ho
    have e0 := hd_len1 h1; subst e0
    exact lv_ldcw hx hb hown (hts _ (hd_at_mem h2)) hd (hk _ _ _ _ h hsz H locs ls hP hS hl)
  case ldc2_w =>
    replace ho := hd_and ho
    obtain ⟨h1, h2⟩ := ho
    have e0 := hd_len1 h1; subst e0
    exact lv_ldc2 hx hb hown (hts _ (hd_at_mem h2)) hd (hk _ _ _ _ h hsz H locs ls hP hS hl)
  case iload =>
    replace h := hd_lki_inv h
    obtain ⟨x, hx1, h⟩ := h
    replace ho := hd_and ho
    obtain ⟨h1, h2⟩ := ho
    have e0 := hd_len1 h1; subst e0
    have e0 := hd_len1 h2; subst e0
    exact lv_iload hx hb hd (hd_has_at hl hx1) (hk _ _ _ _ h hsz H locs ls hP hS hl)
  case iload_n =>
    replace h := hd_lki_inv h
    obtain ⟨x, hx1, h⟩ := h
    replace ho := hd_and ho
    obtain ⟨h1, h2⟩ := ho
    have e0 := hd_len1 h1; subst e0
    exact lv_iload_n hx hb hd (hd_len1 h2) (hd_has_at hl hx1) (hk _ _ _ _ h hsz H locs ls hP hS hl)
  case lload =>
    replace h := hd_lkl_inv h
    obtain ⟨x, hx1, h⟩ := h
    replace ho := hd_and ho
    obtain ⟨h1, h2⟩ := ho
    have e0 := hd_len1 h1; subst e0
    have e0 := hd_len1 h2; subst e0
    exact lv_lload hx hb hd (hd_has_at hl hx1) (hk _ _ _ _ h hsz H locs ls hP hS hl)
  case lload_n =>
    replace h := hd_lkl_inv h
    obtain ⟨x, hx1, h⟩ := h
    replace ho := hd_and ho
    obtain ⟨h1, h2⟩ := ho
    have e0 := hd_len1 h1; subst e0
    exact lv_lload_n hx hb hd (hd_len1 h2) (hd_has_at hl hx1) (hk _ _ _ _ h hsz H locs ls hP hS hl)
  case aload =>
    replace h := hd_lkr_inv h
    obtain ⟨x, hx1, h⟩ := h
    replace ho := hd_and ho
    obtain ⟨h1, h2⟩ := ho
    have e0 := hd_len1 h1; subst e0
    have e0 := hd_len1 h2; subst e0
    exact lv_aload hx hb hd (hd_has_at hl hx1) (hk _ _ _ _ h hsz H locs ls hP hS hl)
  case aload_n =>
    replace h := hd_lkr_inv h
    obtain ⟨x, hx1, h⟩ := h
    replace ho := hd_and ho
    obtain ⟨h1, h2⟩ := ho
    have e0 := hd_len1 h1; subst e0
    exact lv_aload_n hx hb hd (hd_len1 h2) (hd_has_at hl hx1) (hk _ _ _ _ h hsz H locs ls hP hS hl)
  case istore =>
    replace h := hd_i1_inv h
    obtain ⟨x, st, rfl, h⟩ := h
    replace ho := hd_and ho
    obtain ⟨h1, h3⟩ := ho
    replace h1 := hd_and h1
    obtain ⟨h1, h2⟩ := h1
    have e0 := hd_len1 h1; subst e0
    have e0 := hd_len1 h2; subst e0
    exact lv_istore hx hb hd hl (Nat.le_of_ble_eq_true h3) rfl (fun ls' hl' => (hk _ _ _ _ (h _ rfl) hsz H locs ls' hP hS (hd_has_sto hl')))
  case istore_n =>
    replace h := hd_i1_inv h
    obtain ⟨x, st, rfl, h⟩ := h
    replace ho := hd_and ho
    obtain ⟨h1, h3⟩ := ho
    replace h1 := hd_and h1
    obtain ⟨h1, h2⟩ := h1
    have e0 := hd_len1 h1; subst e0
    exact lv_istore_n hx hb hd (hd_len1 h2) hl (Nat.le_of_ble_eq_true h3) rfl (fun ls' hl' => (hk _ _ _ _ (h _ rfl) hsz H locs ls' hP hS (hd_has_sto hl')))
  case lstore =>
    replace h := hd_l1_inv h
    obtain ⟨x, st, rfl, h⟩ := h
    replace ho := hd_and ho
    obtain ⟨h1, h3⟩ := ho
    replace h1 := hd_and h1
    obtain ⟨h1, h2⟩ := h1
    have e0 := hd_len1 h1; subst e0
    have e0 := hd_len1 h2; subst e0
    exact lv_lstore hx hb hd hl (Nat.le_of_ble_eq_true h3) rfl (fun ls' hl' => (hk _ _ _ _ (h _ rfl) hsz H locs ls' hP hS (hd_has_stoL hl')))
  case lstore_n =>
    replace h := hd_l1_inv h
    obtain ⟨x, st, rfl, h⟩ := h
    replace ho := hd_and ho
    obtain ⟨h1, h3⟩ := ho
    replace h1 := hd_and h1
    obtain ⟨h1, h2⟩ := h1
    have e0 := hd_len1 h1; subst e0
    exact lv_lstore_n hx hb hd (hd_len1 h2) hl (Nat.le_of_ble_eq_true h3) rfl (fun ls' hl' => (hk _ _ _ _ (h _ rfl) hsz H locs ls' hP hS (hd_has_stoL hl')))
  case astore =>
    replace h := hd_r1_inv h
    obtain ⟨x, st, rfl, h⟩ := h
    replace ho := hd_and ho
    obtain ⟨h1, h3⟩ := ho
    replace h1 := hd_and h1
    obtain ⟨h1, h2⟩ := h1
    have e0 := hd_len1 h1; subst e0
    have e0 := hd_len1 h2; subst e0
    exact lv_astore hx hb hd hl (Nat.le_of_ble_eq_true h3) rfl (fun ls' hl' => (hk _ _ _ _ h hsz H locs ls' hP hS (hd_has_sto hl')))
  case astore_n =>
    replace h := hd_r1_inv h
    obtain ⟨x, st, rfl, h⟩ := h
    replace ho := hd_and ho
    obtain ⟨h1, h3⟩ := ho
    replace h1 := hd_and h1
    obtain ⟨h1, h2⟩ := h1
    have e0 := hd_len1 h1; subst e0
    exact lv_astore_n hx hb hd (hd_len1 h2) hl (Nat.le_of_ble_eq_true h3) rfl (fun ls' hl' => (hk _ _ _ _ h hsz H locs ls' hP hS (hd_has_sto hl')))
  case iinc =>
    replace h := hd_lki_inv h
    obtain ⟨x, hx1, h⟩ := h
    replace ho := hd_and ho
    obtain ⟨h1, h4⟩ := ho
    replace h1 := hd_and h1
    obtain ⟨h1, h3⟩ := h1
    replace h1 := hd_and h1
    obtain ⟨h1, h2⟩ := h1
    have e0 := hd_len1 h1; subst e0
    have e0 := hd_len1 h2; subst e0
    obtain ⟨j, hj⟩ := List.mem_iff_getElem?.mp (show (_, hd_v (hd_ad G) (.int x)) ∈ hd_lm (hd_ad G) lv from List.mem_map.mpr ⟨_, hd_lk_mem hx1, rfl⟩)
    exact lv_iinc hx hb hd hl hj (by rw [of_decide_eq_true h4]) (Nat.le_of_ble_eq_true h3) rfl (fun ls' hl' => hk _ _ _ _ (h _ rfl) hsz H locs ls' hP hS (hd_has_sto hl'))
  case goto =>
    replace ho := hd_and ho
    obtain ⟨h1, h2⟩ := ho
    have e0 := hd_len1 h1; subst e0
    exact lv_goto hx hb hd (of_decide_eq_true h2) (hk _ _ _ _ h hsz H locs ls hP hS hl)
  case ifCond cnd off =>
    replace h := hd_i1_inv h
    obtain ⟨x, st, rfl, h⟩ := h
    replace ho := hd_and ho
    obtain ⟨h1, h2⟩ := ho
    have e0 := hd_len1 h1; subst e0
    have ht := of_decide_eq_true h2
    cases cnd
    · exact lv_if_eq hx hb hd ht (fun z => (hk _ _ _ _ (h.1 z) hsz H locs ls hP hS hl)) (fun z => (hk _ _ _ _ (h.2 z) hsz H locs ls hP hS hl))
    · exact lv_if_ne hx hb hd ht (fun z => (hk _ _ _ _ (h.1 z) hsz H locs ls hP hS hl)) (fun z => (hk _ _ _ _ (h.2 z) hsz H locs ls hP hS hl))
    · exact lv_if_lt hx hb hd ht (fun z => (hk _ _ _ _ (h.1 z) hsz H locs ls hP hS hl)) (fun z => (hk _ _ _ _ (h.2 (hd_ge z)) hsz H locs ls hP hS hl))
    · exact lv_if_ge hx hb hd ht (fun z => (hk _ _ _ _ (h.1 z) hsz H locs ls hP hS hl)) (fun z => (hk _ _ _ _ (h.2 (hd_gt z)) hsz H locs ls hP hS hl))
    · exact lv_if_gt hx hb hd ht (fun z => (hk _ _ _ _ (h.1 z) hsz H locs ls hP hS hl)) (fun z => (hk _ _ _ _ (h.2 (hd_ge z)) hsz H locs ls hP hS hl))
    · exact lv_if_le hx hb hd ht (fun z => (hk _ _ _ _ (h.1 z) hsz H locs ls hP hS hl)) (fun z => (hk _ _ _ _ (h.2 (hd_gt z)) hsz H locs ls hP hS hl))
  case if_icmp cnd off =>
    replace h := hd_i2_inv h
    obtain ⟨y, x, st, rfl, h⟩ := h
    replace ho := hd_and ho
    obtain ⟨h1, h2⟩ := ho
    have e0 := hd_len1 h1; subst e0
    have ht := of_decide_eq_true h2
    cases cnd
    · exact lv_icmp_eq hx hb hd ht (fun z => (hk _ _ _ _ (h.1 z) hsz H locs ls hP hS hl)) (fun z => (hk _ _ _ _ (h.2 z) hsz H locs ls hP hS hl))
    · exact lv_icmp_ne hx hb hd ht (fun z => (hk _ _ _ _ (h.1 z) hsz H locs ls hP hS hl)) (fun z => (hk _ _ _ _ (h.2 z) hsz H locs ls hP hS hl))
    · exact lv_icmp_lt hx hb hd ht (fun z => (hk _ _ _ _ (h.1 z) hsz H locs ls hP hS hl)) (fun z => (hk _ _ _ _ (h.2 (hd_ge z)) hsz H locs ls hP hS hl))
    · exact lv_icmp_ge hx hb hd ht (fun z => (hk _ _ _ _ (h.1 z) hsz H locs ls hP hS hl)) (fun z => (hk _ _ _ _ (h.2 (hd_gt z)) hsz H locs ls hP hS hl))
    · exact lv_icmp_gt hx hb hd ht (fun z => (hk _ _ _ _ (h.1 z) hsz H locs ls hP hS hl)) (fun z => (hk _ _ _ _ (h.2 (hd_ge z)) hsz H locs ls hP hS hl))
    · exact lv_icmp_le hx hb hd ht (fun z => (hk _ _ _ _ (h.1 z) hsz H locs ls hP hS hl)) (fun z => (hk _ _ _ _ (h.2 (hd_gt z)) hsz H locs ls hP hS hl))
  case if_acmp cnd off =>
    replace h := hd_r2_inv h
    obtain ⟨y, x, st, rfl, ⟨q1, q2⟩, h⟩ := h
    replace ho := hd_and ho
    obtain ⟨h1, h2⟩ := ho
    have e0 := hd_len1 h1; subst e0
    have ht := of_decide_eq_true h2
    have hinj : some (hd_ad G x) = some (hd_ad G y) → x = y := fun z => by have z := Option.some.inj z; rw [hK.2.2.2.2.2 x q1, hK.2.2.2.2.2 y q2] at z; exact Nat.add_left_cancel z
    have hinj2 : x = y → some (hd_ad G x) = some (hd_ad G y) := fun z => by rw [z]
    cases cnd
    · exact lv_acmp_eq (rx := some (hd_ad G x)) (ry := some (hd_ad G y)) hx hb hd ht (fun z => (hk _ _ _ _ (h.1 (hinj z)) hsz H locs ls hP hS hl)) (fun z => (hk _ _ _ _ (h.2 (fun z2 => z (hinj2 z2))) hsz H locs ls hP hS hl))
    · exact lv_acmp_ne (rx := some (hd_ad G x)) (ry := some (hd_ad G y)) hx hb hd ht (fun z => (hk _ _ _ _ (h.1 (fun z2 => z (hinj2 z2))) hsz H locs ls hP hS hl)) (fun z => (hk _ _ _ _ (h.2 (hinj z)) hsz H locs ls hP hS hl))
  case iaload =>
    replace h := hd_ir_inv h
    obtain ⟨j, q, st, rfl, h⟩ := h
    have e0 := hd_len1 ho; subst e0
    replace h := hd_k_inv h
    obtain ⟨n, rs, hq, hin, h⟩ := h
    show W _ _ _ _ _ _ _ _ _ _ _ _ _ _ _ (F0 m pc ls (.int j :: .ref (hd_ad G q) :: st.map (hd_v (hd_ad G))))
    rw [hd_adq hK hP hq]
    exact va_iald hx hb hK.1 hP.2 q 0 (hd_ws_at hq) rfl hin hd (hk _ _ _ _ h hsz H locs ls hP hS hl)
  case laload =>
    replace h := hd_ir_inv h
    obtain ⟨j, q, st, rfl, h⟩ := h
    have e0 := hd_len1 ho; subst e0
    replace h := hd_k_inv h
    obtain ⟨n, rs, hq, hin, h⟩ := h
    show W _ _ _ _ _ _ _ _ _ _ _ _ _ _ _ (F0 m pc ls (.int j :: .ref (hd_ad G q) :: st.map (hd_v (hd_ad G))))
    rw [hd_adq hK hP hq]
    exact va_lald hx hb hK.1 hP.2 q 3 (hd_ws_at hq) rfl hin hd (hk _ _ _ _ h hsz H locs ls hP hS hl)
  case baload =>
    replace h := hd_ir_inv h
    obtain ⟨j, q, st, rfl, h⟩ := h
    have e0 := hd_len1 ho; subst e0
    replace h := hd_k_inv h
    obtain ⟨n, rs, hq, h⟩ := h
    replace h := hd_bif h
    obtain ⟨hab, hin, h⟩ := h
    show W _ _ _ _ _ _ _ _ _ _ _ _ _ _ _ (F0 m pc ls (.int j :: .ref (hd_ad G q) :: st.map (hd_v (hd_ad G))))
    rw [hd_adq hK hP hq]
    rw [Bool.or_eq_true] at hab
    rcases hab with hab | hab
    · have e0 := hd_len1 hab; subst e0
      exact va_bald hx hb hK.1 hP.2 q 1 (hd_ws_at hq) rfl hin hd (hk _ _ _ _ h hsz H locs ls hP hS hl)
    · have e0 := hd_len1 hab; subst e0
      exact va_zald hx hb hK.1 hP.2 q 2 (hd_ws_at hq) rfl hin hd (hk _ _ _ _ h hsz H locs ls hP hS hl)
  case aaload =>
    replace h := hd_ir_inv h
    obtain ⟨j, q, st, rfl, h⟩ := h
    have e0 := hd_len1 ho; subst e0
    replace h := hd_kr_inv h
    obtain ⟨n, rs, hq, hin, hnz, h⟩ := h
    show W _ _ _ _ _ _ _ _ _ _ _ _ _ _ _ (F0 m pc ls (.int j :: .ref (hd_ad G q) :: st.map (hd_v (hd_ad G))))
    rw [hd_adq hK hP hq]
    refine va_aldq (C := "HiddenDrawers$Law") hx hb hK.1 hP.2 q 4 (hd_ws_at hq) rfl hin hd ?_
    have hz : hd_ro (hd_ad G) (rs.getD j.toNatClampNeg 0) = some (hd_ad G (rs.getD j.toNatClampNeg 0)) := by
      unfold hd_ro
      cases hb0 : Nat.beq (rs.getD j.toNatClampNeg 0) 0 with
      | true => exact absurd (Nat.eq_of_beq_eq_true hb0) hnz
      | false => rfl
    show W _ _ _ _ _ _ _ _ _ _ _ _ _ _ _ (F0 m (pc + 1) ls (va_rf (hd_ro (hd_ad G) (rs.getD j.toNatClampNeg 0)) :: st.map (hd_v (hd_ad G))))
    rw [hz]
    exact hk _ _ _ _ h hsz H locs ls hP hS hl
  case iastore =>
    replace h := hd_iir_inv h
    obtain ⟨x, j, q, st, rfl, h⟩ := h
    have e0 := hd_len1 ho; subst e0
    replace h := hd_k_inv h
    obtain ⟨n, rs, hq, hin, h⟩ := h
    show W _ _ _ _ _ _ _ _ _ _ _ _ _ _ _ (F0 m pc ls (.int x :: .int j :: .ref (hd_ad G q) :: st.map (hd_v (hd_ad G))))
    rw [hd_adq hK hP hq]
    refine va_iast hx hb hK.1 hP.2 (hd_D G sh σ) hS q 0 (hd_ws_at hq) rfl hin hd (fun H1 locs1 hP1 hD1 hS1 => ?_)
    exact hk _ _ _ _ (h _ rfl) hsz H1 locs1 ls (hd_P_set hP hq (hd_arr_upd (by decide)).symm (fun k s' hk' => hd_E_I k s' hk') hP1) hS1 hl
  case lastore =>
    replace h := hd_lir_inv h
    obtain ⟨x, j, q, st, rfl, h⟩ := h
    have e0 := hd_len1 ho; subst e0
    replace h := hd_k_inv h
    obtain ⟨n, rs, hq, hin, h⟩ := h
    show W _ _ _ _ _ _ _ _ _ _ _ _ _ _ _ (F0 m pc ls (.long x :: .int j :: .ref (hd_ad G q) :: st.map (hd_v (hd_ad G))))
    rw [hd_adq hK hP hq]
    refine va_last hx hb hK.1 hP.2 (hd_D G sh σ) hS q 3 (hd_ws_at hq) rfl hin hd (fun H1 locs1 hP1 hD1 hS1 => ?_)
    exact hk _ _ _ _ (h _ rfl) hsz H1 locs1 ls (hd_P_set hP hq hd_arr_updL.symm (fun k s' hk' => hd_E_L k s' hk') hP1) hS1 hl
  case bastore =>
    replace h := hd_iir_inv h
    obtain ⟨x, j, q, st, rfl, h⟩ := h
    have e0 := hd_len1 ho; subst e0
    match a, h with
    | 0, h => exact h.elim
    | 1, h =>
      replace h := hd_k_inv h
      obtain ⟨n, rs, hq, hin, h⟩ := h
      show W _ _ _ _ _ _ _ _ _ _ _ _ _ _ _ (F0 m pc ls (.int x :: .int j :: .ref (hd_ad G q) :: st.map (hd_v (hd_ad G))))
      rw [hd_adq hK hP hq]
      refine va_bast hx hb hK.1 hP.2 (hd_D G sh σ) hS q 1 (hd_ws_at hq) rfl hin hd (fun H1 locs1 hP1 hD1 hS1 => ?_)
      rw [vp_nar_byte] at hP1
      exact hk _ _ _ _ (h _ rfl) hsz H1 locs1 ls (hd_P_set hP hq (hd_arr_upd (by decide)).symm (fun k s' hk' => hd_E_I k s' hk') hP1) hS1 hl
    | 2, h =>
      replace h := hd_k_inv h
      obtain ⟨n, rs, hq, hin, hx01, h⟩ := h
      show W _ _ _ _ _ _ _ _ _ _ _ _ _ _ _ (F0 m pc ls (.int x :: .int j :: .ref (hd_ad G q) :: st.map (hd_v (hd_ad G))))
      rw [hd_adq hK hP hq]
      refine va_zast hx hb hK.1 hP.2 (hd_D G sh σ) hS q 2 (hd_ws_at hq) rfl hin hd (fun H1 locs1 hP1 hD1 hS1 => ?_)
      have hnz : vp_nar .boolean x = x := by rcases hx01 with rfl | rfl <;> rfl
      rw [hnz] at hP1
      exact hk _ _ _ _ (h _ rfl) hsz H1 locs1 ls (hd_P_set hP hq (hd_arr_upd (by decide)).symm (fun k s' hk' => hd_E_I k s' hk') hP1) hS1 hl
    | n + 3, h => exact h.elim
  case arraylength =>
    replace h := hd_r1_inv h
    obtain ⟨q, st, rfl, h⟩ := h
    have e0 := hd_len1 ho; subst e0
    replace h := hd_al_inv h
    obtain ⟨t, n, rs, hq, ht, h⟩ := h
    show W _ _ _ _ _ _ _ _ _ _ _ _ _ _ _ (F0 m pc ls (.ref (hd_ad G q) :: st.map (hd_v (hd_ad G))))
    rw [hd_adq hK hP hq]
    match t, ht, hq with
    | 0, _, hq => exact va_alen hx hb hK.1 hP.2 q 0 (hd_ws_at hq) rfl rfl hd (hk _ _ _ _ h hsz H locs ls hP hS hl)
    | 1, _, hq => exact va_alen hx hb hK.1 hP.2 q 1 (hd_ws_at hq) rfl rfl hd (hk _ _ _ _ h hsz H locs ls hP hS hl)
    | 2, _, hq => exact va_alen hx hb hK.1 hP.2 q 2 (hd_ws_at hq) rfl rfl hd (hk _ _ _ _ h hsz H locs ls hP hS hl)
    | 3, _, hq => exact va_alen hx hb hK.1 hP.2 q 3 (hd_ws_at hq) rfl rfl hd (hk _ _ _ _ h hsz H locs ls hP hS hl)
    | 4, _, hq => exact va_alen hx hb hK.1 hP.2 q 4 (hd_ws_at hq) rfl rfl hd (hk _ _ _ _ h hsz H locs ls hP hS hl)
  case dup =>
    rcases st with _ | ⟨v, st⟩
    · exact h.elim
    replace h := hd_bif h
    obtain ⟨h1, h⟩ := h
    have e0 := hd_len1 ho; subst e0
    exact lv_dup hx hb hd (by rw [hd_cat]; exact Nat.eq_of_beq_eq_true h1) (hk _ _ _ _ h hsz H locs ls hP hS hl)
  case pop =>
    rcases st with _ | ⟨v, st⟩
    · exact h.elim
    replace h := hd_bif h
    obtain ⟨h1, h⟩ := h
    have e0 := hd_len1 ho; subst e0
    exact lv_pop hx hb hd (by rw [hd_cat]; exact Nat.eq_of_beq_eq_true h1) (hk _ _ _ _ h hsz H locs ls hP hS hl)
  case dup_x1 =>
    rcases st with _ | ⟨v, _ | ⟨w, st⟩⟩
    · exact h.elim
    · exact h.elim
    replace h := hd_bif h
    obtain ⟨h1, h⟩ := h
    replace h1 := hd_and h1
    obtain ⟨h1, h2⟩ := h1
    have e0 := hd_len1 ho; subst e0
    exact lv_dup_x1 hx hb hd (by rw [hd_cat]; exact Nat.eq_of_beq_eq_true h1) (by rw [hd_cat]; exact Nat.eq_of_beq_eq_true h2) (hk _ _ _ _ h hsz H locs ls hP hS hl)
  case dup2 =>
    rcases st with _ | ⟨v, _ | ⟨w, st⟩⟩
    · exact h.elim
    · exact h.elim
    replace h := hd_bif h
    obtain ⟨h1, h⟩ := h
    replace h1 := hd_and h1
    obtain ⟨h1, h2⟩ := h1
    have e0 := hd_len1 ho; subst e0
    exact lv_dup2_11 hx hb hd (by rw [hd_cat]; exact Nat.eq_of_beq_eq_true h1) (by rw [hd_cat]; exact Nat.eq_of_beq_eq_true h2) (hk _ _ _ _ h hsz H locs ls hP hS hl)
  case ireturn =>
    have e0 := hd_len1 ho; subst e0
    match st, h with
    | [.int v], h => exact hZ.1 v σ H locs ls pc h hP hS hd
  case lreturn =>
    have e0 := hd_len1 ho; subst e0
    match st, h with
    | [.long v], h => exact hZ.2.1 v σ H locs ls pc h hP hS hd
  case areturn =>
    have e0 := hd_len1 ho; subst e0
    match st, h with
    | [.ref v], h => exact hZ.2.2.1 v σ H locs ls pc h hP hS hd
  case return_ =>
    have e0 := hd_len1 ho; subst e0
    match st, h with
    | [], h => exact hZ.2.2.2 σ H locs ls pc h hP hS hd
  case ldc =>
    replace ho := hd_and ho
    obtain ⟨h1, h2⟩ := ho
    have e0 := hd_len1 h1; subst e0
    cases hb0 : Nat.beq b 0 with
    | true =>
      rw [hb0] at h2
      replace h : bif Nat.beq b 0 then k (pc + 2) lv (.int c :: st) σ else k (pc + 2) lv (.ref (5000 + a) :: st) σ := h
      rw [hb0] at h
      exact lv_ldc hx hb hown (hts _ (hd_at_mem h2)) hd (hk _ _ _ _ h hsz H locs ls hP hS hl)
    | false =>
      rw [hb0] at h2
      replace h : bif Nat.beq b 0 then k (pc + 2) lv (.int c :: st) σ else k (pc + 2) lv (.ref (5000 + a) :: st) σ := h
      rw [hb0] at h
      replace h2 := hd_and h2
      obtain ⟨h2, h3⟩ := h2
      replace h2 := hd_and h2
      obtain ⟨h2, h4⟩ := h2
      have e2 := of_decide_eq_true h2
      have e3 := of_decide_eq_true h3
      have e4 : a < 15 := Nat.le_of_ble_eq_true h4
      have hR := hK.2.2.2.1.1 a e4
      rw [e3, ← e2] at hR
      exact va_ldcS hx hb hown hR hd (hk _ _ _ _ h hsz H locs ls hP hS hl)
  case getfield idx =>
    replace h := hd_r1_inv h
    obtain ⟨q, st, rfl, h⟩ := h
    replace ho := hd_and ho
    obtain ⟨h1, hf⟩ := ho
    have e0 := hd_len1 h1; subst e0
    replace h := hd_kr_inv h
    obtain ⟨n, rs, hq, h⟩ := h
    have hkind := hd_fok_k hf
    generalize hbk : b / 100 = kd at h hkind
    have hkd : ∀ n, kd = n → n ≠ 5 → hd_fk a (b % 100) = n := fun n e0 e1 => hkind.elim (fun z => z.trans e0) (fun z => absurd (e0.symm.trans z.1) e1)
    match kd, h, hkd with
    | 0, h, hkd => exact hd_getF hC0 hd hf hq (v := .int (σ.1 q (b % 100))) (hd_fv0 (hkd 0 rfl (by decide)) (Or.inl rfl)) (hk _ _ _ _ h) hsz H locs ls hP hS hl
    | 1, h, hkd => exact hd_getF hC0 hd hf hq (v := .long (σ.2 q (b % 100))) (hd_fv1 (hkd 1 rfl (by decide))) (hk _ _ _ _ h) hsz H locs ls hP hS hl
    | 2, h, hkd =>
      have hz : ¬ rs.getD (b % 100) 0 = 0 := by
        intro z
        rw [z] at h
        exact h
      rw [hd_rv_ne hz] at h
      exact hd_getF hC0 hd hf hq (v := .ref (rs.getD (b % 100) 0)) ((hd_fv2 (hkd 2 rfl (by decide))).trans (hd_rv_ne hz)) (hk _ _ _ _ h) hsz H locs ls hP hS hl
    | 3, h, hkd => exact hd_getF hC0 hd hf hq (v := .ref (σ.1 q (b % 100)).toNatClampNeg) ((hd_fv3 (hkd 3 rfl (by decide))).trans (hd_rv_ne h.1)) (hk _ _ _ _ h.2) hsz H locs ls hP hS hl
    | 4, h, hkd => exact hd_getF hC0 hd hf hq (v := .int (σ.1 q (b % 100))) (hd_fv0 (hkd 4 rfl (by decide)) (Or.inr rfl)) (hk _ _ _ _ h) hsz H locs ls hP hS hl
    | 5, h, _ =>
      have h2 : hd_fk a (b % 100) = 2 := by
        rcases hkind with z | z
        · exact absurd z (hd_fk_le a (b % 100))
        · exact z.2
      exact hd_getF hC0 hd hf hq (v := .ref (rs.getD (b % 100) 0)) ((hd_fv2 h2).trans (hd_rv_ne h.1)) (hk _ _ _ _ h.2) hsz H locs ls hP hS hl
    | n + 6, h, hkd => exact hd_getF hC0 hd hf hq (v := .int (σ.1 q (b % 100))) (hd_fvx (hkd _ rfl (by omega)) (by omega)) (hk _ _ _ _ h) hsz H locs ls hP hS hl
  case putfield idx =>
    replace ho := hd_and ho
    obtain ⟨h1, hfin⟩ := ho
    replace h1 := hd_and h1
    obtain ⟨h1, hf⟩ := h1
    have e0 := hd_len1 h1; subst e0
    have hkind := hd_fok_k hf
    change (match b / 100 with
      | 0 => hd_i1 st (fun x st => hd_r1 st (fun q st => hd_k sh q (10 + a) (fun _ => ∀ σ', σ' = hd_wI σ q (b % 100) x → k (pc + 3) lv st σ')))
      | 1 => hd_l1 st (fun x st => hd_r1 st (fun q st => hd_k sh q (10 + a) (fun _ => ∀ σ', σ' = hd_wL σ q (b % 100) x → k (pc + 3) lv st σ')))
      | 3 => hd_r1 st (fun r st => hd_r1 st (fun q st => hd_k sh q (10 + a) (fun _ => (0 < r ∧ r < 5000) ∧ ∀ σ', σ' = hd_wI σ q (b % 100) (Int32.ofNat r) → k (pc + 3) lv st σ')))
      | 4 => hd_i1 st (fun x st => hd_r1 st (fun q st => hd_k sh q (10 + a) (fun _ => (x = 0 ∨ x = 1) ∧ ∀ σ', σ' = hd_wI σ q (b % 100) x → k (pc + 3) lv st σ')))
      | _ => False) at h
    generalize hbk : b / 100 = kd at h hkind
    have hkd : ∀ n, kd = n → n ≠ 5 → hd_fk a (b % 100) = n := fun n e0 e1 => hkind.elim (fun z => z.trans e0) (fun z => absurd (e0.symm.trans z.1) e1)
    match kd, h, hkd with
    | 0, h, hkd =>
      obtain ⟨x, st1, rfl, h⟩ := hd_i1_inv h
      obtain ⟨q, st2, rfl, h⟩ := hd_r1_inv h
      obtain ⟨n, rs, hq, h⟩ := hd_k_inv h
      have hk0 := hkd 0 rfl (by decide)
      have hty := (hd_fk_ty hk0).1 rfl
      refine hd_putF (v := .int x) (σ' := hd_wI σ q (b % 100) x) hC0 hd hf hfin hq (by rw [hty]; rfl) (by rw [hty]; rfl) ?_ (fun j hj => hd_fv_I hj) (fun k s' hk' => hd_E_I k s' hk') (hk _ _ _ _ (h _ rfl)) hsz H locs ls hP hS hl
      rw [hd_fv0 hk0 (Or.inl rfl)]
      show Value.int (va_up σ.1 q (va_up (σ.1 q) (b % 100) x) q (b % 100)) = _
      rw [hd_up_eq, hd_up_eq]
      rfl
    | 1, h, hkd =>
      obtain ⟨x, st1, rfl, h⟩ := hd_l1_inv h
      obtain ⟨q, st2, rfl, h⟩ := hd_r1_inv h
      obtain ⟨n, rs, hq, h⟩ := hd_k_inv h
      have hk0 := hkd 1 rfl (by decide)
      have hty := (hd_fk_ty hk0).2.1 rfl
      refine hd_putF (v := .long x) (σ' := hd_wL σ q (b % 100) x) hC0 hd hf hfin hq (by rw [hty]; rfl) (by rw [hty]; rfl) ?_ (fun j hj => hd_fv_L hj) (fun k s' hk' => hd_E_L k s' hk') (hk _ _ _ _ (h _ rfl)) hsz H locs ls hP hS hl
      rw [hd_fv1 hk0]
      show Value.long (va_up σ.2 q (va_up (σ.2 q) (b % 100) x) q (b % 100)) = _
      rw [hd_up_eq, hd_up_eq]
      rfl
    | 2, h, _ => exact h.elim
    | 3, h, hkd =>
      obtain ⟨r, st1, rfl, h'⟩ := hd_r1_inv h
      obtain ⟨q, st2, rfl, h2'⟩ := hd_r1_inv h'
      obtain ⟨n, rs, hq, ⟨hr1, hr2⟩, h⟩ := hd_k_inv h2'
      have hk0 := hkd 3 rfl (by decide)
      have hty := (hd_fk_ty hk0).2.2.2 rfl
      refine hd_putF (v := .ref r) (σ' := hd_wI σ q (b % 100) (Int32.ofNat r)) hC0 hd hf hfin hq (by rcases hty with ⟨c, hty⟩ | ⟨c, hty⟩ <;> rw [hty] <;> rfl) (by rcases hty with ⟨c, hty⟩ | ⟨c, hty⟩ <;> rw [hty] <;> rfl) ?_ (fun j hj => hd_fv_I hj) (fun k s' hk' => hd_E_I k s' hk') (hk _ _ _ _ (h _ rfl)) hsz H locs ls hP hS hl
      rw [hd_fv3 hk0]
      show hd_rv _ (va_up σ.1 q (va_up (σ.1 q) (b % 100) (Int32.ofNat r)) q (b % 100)).toNatClampNeg = _
      rw [hd_up_eq, hd_up_eq, show (Int32.ofNat r).toNatClampNeg = r from nI_clamp (by omega), hd_rv_ne (by omega)]
      rfl
    | 4, h, hkd =>
      obtain ⟨x, st1, rfl, h⟩ := hd_i1_inv h
      obtain ⟨q, st2, rfl, h⟩ := hd_r1_inv h
      obtain ⟨n, rs, hq, hx01, h⟩ := hd_k_inv h
      have hk0 := hkd 4 rfl (by decide)
      have hty := (hd_fk_ty hk0).2.2.1 rfl
      refine hd_putF (v := .int x) (σ' := hd_wI σ q (b % 100) x) hC0 hd hf hfin hq (by rw [hty]; rcases hx01 with rfl | rfl <;> rfl) (by rw [hty]; rcases hx01 with rfl | rfl <;> rfl) ?_ (fun j hj => hd_fv_I hj) (fun k s' hk' => hd_E_I k s' hk') (hk _ _ _ _ (h _ rfl)) hsz H locs ls hP hS hl
      rw [hd_fv0 hk0 (Or.inr rfl)]
      show Value.int (va_up σ.1 q (va_up (σ.1 q) (b % 100) x) q (b % 100)) = _
      rw [hd_up_eq, hd_up_eq]
      rfl
    | n + 5, h, _ => exact h.elim
  case invokestatic idx =>
    replace ho := hd_and ho
    obtain ⟨h1, ho⟩ := ho
    have e0 := hd_len1 h1; subst e0
    replace h : bif Nat.beq a 6 then hd_inC sh b st σ (fun st σ => k (pc + 3) lv st σ) else bif Nat.blt 6 a then hd_inM a st σ (fun st σ => k (pc + 3) lv st σ) else hd_inS G ce a b sh st σ (fun st σ => k (pc + 3) lv st σ) := h
    cases ha6 : Nat.beq a 6 with
    | false =>
      rw [ha6] at ho h
      cases ha7 : Nat.blt 6 a with
      | true =>
        rw [ha7] at ho h
        have ho : hd_okm mi idx a sw = true := ho
        have h : hd_inM a st σ (fun st σ => k (pc + 3) lv st σ) := h
        obtain ⟨ho, o4⟩ := hd_and ho
        obtain ⟨ho, o3⟩ := hd_and ho
        obtain ⟨o1, o2⟩ := hd_and ho
        have hf1 := Nat.le_trans (Nat.le_of_ble_eq_true o1) hfr
        have hl1 := Nat.le_trans (Nat.le_of_ble_eq_true o2) hlo
        have hkc : ks.1 ≤ R.cells := by rw [hrc]; exact hks.1
        have hkd : ks.2 ≤ R.slots := by rw [hrs]; exact hks.2
        have hm' : cd.maxLocals = ls.size := by rw [hml]; exact hl.1.symm
        match a, o4, h with
        | 7, o4, h =>
          obtain ⟨o4, o6⟩ := hd_and o4
          obtain ⟨o4, o5⟩ := hd_and o4
          obtain ⟨y, x, st', rfl, h⟩ := hd_i2_inv h
          obtain ⟨h8, h⟩ := hd_bif h
          refine va_mmax hx hb hm' hown (hts _ (hd_at_mem o4)) (hts _ (hd_at_mem o6)) (hts _ (hd_at_mem o3)) (hts _ (hd_at_mem o5)) hf1 ?_ hkc hkd hd (hk _ _ _ _ h hsz H locs ls hP hS hl)
          rw [hd_sum_eq]
          have := Nat.le_of_ble_eq_true h8
          show _ ≤ R.locals
          omega
        | 8, o4, h =>
          obtain ⟨o4, o6⟩ := hd_and o4
          obtain ⟨o4, o5⟩ := hd_and o4
          obtain ⟨y, x, st', rfl, h⟩ := hd_i2_inv h
          obtain ⟨h8, h⟩ := hd_bif h
          refine va_mmin hx hb hm' hown (hts _ (hd_at_mem o4)) (hts _ (hd_at_mem o6)) (hts _ (hd_at_mem o3)) (hts _ (hd_at_mem o5)) hf1 ?_ hkc hkd hd (hk _ _ _ _ h hsz H locs ls hP hS hl)
          rw [hd_sum_eq]
          have := Nat.le_of_ble_eq_true h8
          show _ ≤ R.locals
          omega
        | 9, o4, h =>
          obtain ⟨o4, o6⟩ := hd_and o4
          obtain ⟨o4, o5⟩ := hd_and o4
          obtain ⟨y, x, st', rfl, h⟩ := hd_l2_inv h
          obtain ⟨h8, h⟩ := hd_bif h
          refine va_mmax_long hx hb hm' hown (hts _ (hd_at_mem o4)) (hts _ (hd_at_mem o6)) (hts _ (hd_at_mem o3)) (hts _ (hd_at_mem o5)) hf1 ?_ hkc hkd hd (hk _ _ _ _ h hsz H locs ls hP hS hl)
          rw [hd_sum_eq]
          have := Nat.le_of_ble_eq_true h8
          show _ ≤ R.locals
          omega
        | 10, o4, h =>
          obtain ⟨o4, o6⟩ := hd_and o4
          obtain ⟨o4, o5⟩ := hd_and o4
          obtain ⟨y, x, st', rfl, h⟩ := hd_l2_inv h
          obtain ⟨h8, h⟩ := hd_bif h
          refine va_mmin_long hx hb hm' hown (hts _ (hd_at_mem o4)) (hts _ (hd_at_mem o6)) (hts _ (hd_at_mem o3)) (hts _ (hd_at_mem o5)) hf1 ?_ hkc hkd hd (hk _ _ _ _ h hsz H locs ls hP hS hl)
          rw [hd_sum_eq]
          have := Nat.le_of_ble_eq_true h8
          show _ ≤ R.locals
          omega
        | 0, _, h => exact h.elim
        | 1, _, h => exact h.elim
        | 2, _, h => exact h.elim
        | 3, _, h => exact h.elim
        | 4, _, h => exact h.elim
        | 5, _, h => exact h.elim
        | 6, _, h => exact h.elim
        | n + 11, _, h => exact h.elim
      | false =>
        rw [ha7] at ho h
        have ho : ((bif hd_isN sw then hd_lnkN mi idx sw ce.1 else hd_lnk mi idx sw ce.1) && hd_cal mi b sw ce && hd_at sw 3 (.static ce.1) && Nat.beq ce.2.2.2.2.2.2.1 0 && Nat.beq ce.2.2.2.2.2.2.2 0) = true := ho
        obtain ⟨ho, o5⟩ := hd_and ho
        obtain ⟨ho, o4⟩ := hd_and ho
        obtain ⟨ho, o3⟩ := hd_and ho
        obtain ⟨o1, o2⟩ := hd_and ho
        have hcode : hd_cdc ce := by
          have h5 : Nat.blt 5 a = false := by
            cases h5 : Nat.blt 5 a with
            | false => rfl
            | true =>
              have h5 : 5 < a := Nat.le_of_ble_eq_true h5
              have h6 : ¬ a = 6 := fun z => by rw [z] at ha6; cases ha6
              have h7 : 6 < a := by omega
              rw [show Nat.blt 6 a = true from Nat.ble_eq_true_of_le h7] at ha7
              cases ha7
          have hcd' : bif Nat.blt 5 a then True else hd_cdc ce := hcd
          rw [h5] at hcd'
          exact hcd'
        obtain ⟨as, rest, htk, hs8, hcall⟩ := hd_inS_inv h
        obtain ⟨hst, hln⟩ := hd_take_ok htk
        have hst : as.reverse ++ rest = st := by simpa using hst
        have hln : as.length = b := by simpa using hln
        have hlk : Cond.methodLink mi.1.cls idx ce.1 ∈ lw_g ∨ Cond.methodLinkNest mi.1.cls idx ce.1 "HiddenDrawers" ∈ hd_nest := by
          cases hn : hd_isN sw with
          | true =>
            rw [hn] at o1
            have o1 : hd_lnkN mi idx sw ce.1 = true := o1
            unfold hd_lnkN at o1
            split at o1
            · exact Or.inr (List.mem_of_getElem? (of_decide_eq_true o1))
            · cases o1
          | false =>
            rw [hn] at o1
            exact Or.inl (hd_at_mem o1)
        rw [← hst]
        obtain ⟨P, hE, hPk⟩ := hd_call_EV hcall
        have z1 := Nat.eq_of_beq_eq_true o4
        have z2 := Nat.eq_of_beq_eq_true o5
        refine hd_callS hC0 hd hlk (hd_at_mem o3) o2 hcode (by rw [z1, z2]; exact hks) hln hs8 hE (fun r sh' σ' hp => ?_) hsz H locs ls hP hS hl
        obtain ⟨rfl, hp⟩ := hPk r sh' σ' hp
        rw [z1, z2]
        exact hk _ _ _ _ hp
    | true =>
      rw [ha6] at ho h
      have ho : (Nat.beq b 5 && hd_lnk mi idx sw arraycopyName && hd_at sw 1 (.native arraycopyName) && hd_at sw 2 (.static arraycopyName) && hd_at sw 3 (.initialized "java/lang/System") && Nat.ble 1 mi.2.2.2.2.1 && Nat.ble (8 + (nativeFrameWords "java/lang/System" "arraycopy" 5 + 11)) mi.2.2.2.2.2.1) = true := ho
      obtain ⟨ho, o7⟩ := hd_and ho
      obtain ⟨ho, o6⟩ := hd_and ho
      obtain ⟨ho, o5⟩ := hd_and ho
      obtain ⟨ho, o4⟩ := hd_and ho
      obtain ⟨ho, o3⟩ := hd_and ho
      obtain ⟨o1, o2⟩ := hd_and ho
      obtain ⟨n, dp, q', sp, q, rest, n0, n1, rs0, rs1, hst, hs8, hq0, hq1, ⟨c1, c2, c3, c4, c5⟩, hkk⟩ := hd_inC_inv h
      subst hst
      show W _ _ _ _ _ _ _ _ _ _ _ _ _ _ _ (F0 m pc ls (.int n :: .int dp :: .ref (hd_ad G q') :: .int sp :: .ref (hd_ad G q) :: rest.map (hd_v (hd_ad G))))
      rw [hd_adq hK hP hq0, hd_adq hK hP hq1]
      refine va_copyi hx hb (by rw [hml]; exact hl.1.symm) hown (hts _ (hd_at_mem o2)) (hts _ (hd_at_mem o3)) (hts _ (hd_at_mem o4)) (hts _ (hd_at_mem o5)) hK.1 hP.2 (hd_D G sh σ) hS q q' 0 0 (hd_ws_at hq0) (hd_ws_at hq1) rfl rfl rfl (Int32.not_lt.mpr c1) (Int32.not_lt.mpr c2) (Int32.not_lt.mpr c3) c4 c5 (fun _ _ => rfl) (Nat.le_trans (Nat.le_of_ble_eq_true o6) hfr) ?_ hd (fun H1 locs1 hP1 hD1 hS1 => ?_)
      · rw [hd_sum_eq]
        have := Nat.le_of_ble_eq_true o7
        show _ ≤ R.locals
        omega
      · exact hk _ _ _ _ hkk hsz H1 locs1 ls (hd_P_set hP hq1 (hd_arr_upd (by decide)).symm (fun k s' hk' => hd_E_I k s' hk') hP1) hS1 hl
  case invokevirtual idx =>
    replace ho := hd_and ho
    obtain ⟨ho, o8⟩ := ho
    obtain ⟨ho, o7⟩ := hd_and ho
    obtain ⟨ho, o6⟩ := hd_and ho
    obtain ⟨ho, o5⟩ := hd_and ho
    obtain ⟨ho, o4⟩ := hd_and ho
    obtain ⟨ho, o3⟩ := hd_and ho
    obtain ⟨h1, o2⟩ := hd_and ho
    have e0 := hd_len1 h1; subst e0
    replace h : bif Nat.beq (b / 100) 99 then hd_inT G ce a b sh st σ (fun st σ => k (pc + 3) lv st σ) else hd_inV G ce a b sh st σ (fun st σ => k (pc + 3) lv st σ) := h
    cases h99 : Nat.beq (b / 100) 99 with
    | true =>
      rw [h99] at h o8
      obtain ⟨q, as, rest, htk, hs8, hq, hcall⟩ := hd_inT_inv h
      obtain ⟨hst, hln⟩ := hd_take_ok htk
      have hst : as.reverse ++ Value.ref q :: rest = st := by simpa using hst
      have hln : as.length = b % 100 := by simpa using hln
      obtain ⟨P, hE, hPk⟩ := hd_call_EV hcall
      have z1 := Nat.eq_of_beq_eq_true o6
      have z2 := Nat.eq_of_beq_eq_true o7
      rw [← hst]
      refine hd_callT hC0 hd (hd_at_mem o2) (hd_at_mem o4) (hd_at_mem o5) (of_decide_eq_true o8) hq o3 hcd (by rw [z1, z2]; exact hks) hln hs8 hE (fun r sh' σ' hp => ?_) hsz H locs ls hP hS hl
      obtain ⟨rfl, hp⟩ := hPk r sh' σ' hp
      rw [z1, z2]
      exact hk _ _ _ _ hp
    | false =>
      rw [h99] at h o8
      replace o8 : (match vwCl[b / 100]? with
        | some q => decide (q.1 = ce.1.cls)
        | none => false) = true := o8
      obtain ⟨q, as, rest, n, rs, htk, hs8, hq, hcall⟩ := hd_inV_inv h
      obtain ⟨hst, hln⟩ := hd_take_ok htk
      have hst : as.reverse ++ Value.ref q :: rest = st := by simpa using hst
      have hln : as.length = b % 100 := by simpa using hln
      obtain ⟨P, hE, hPk⟩ := hd_call_EV hcall
      have z1 := Nat.eq_of_beq_eq_true o6
      have z2 := Nat.eq_of_beq_eq_true o7
      split at o8
      · rename_i cq hcq
        rw [← hst]
        refine hd_callV hC0 hd (hd_at_mem o2) (hd_at_mem o4) (hd_at_mem o5) hcq (of_decide_eq_true o8) hq o3 hcd (by rw [z1, z2]; exact hks) hln hs8 hE (fun r sh' σ' hp => ?_) hsz H locs ls hP hS hl
        obtain ⟨rfl, hp⟩ := hPk r sh' σ' hp
        rw [z1, z2]
        exact hk _ _ _ _ hp
      · cases o8
  case invokespecial idx =>
    replace ho := hd_and ho
    obtain ⟨ho, o7⟩ := ho
    obtain ⟨ho, o6⟩ := hd_and ho
    obtain ⟨ho, o5⟩ := hd_and ho
    obtain ⟨ho, o4⟩ := hd_and ho
    obtain ⟨ho, o3⟩ := hd_and ho
    obtain ⟨h1, o2⟩ := hd_and ho
    have e0 := hd_len1 h1; subst e0
    obtain ⟨q, st', rfl, h'⟩ := hd_r1_inv h
    obtain ⟨h2, h3⟩ := hd_bif h'
    obtain ⟨h2, -⟩ := hd_and h2
    refine W.objInit hx hb hown (hts _ (hd_at_mem o3)) (hts _ (hd_at_mem o4)) (hts _ (hd_at_mem o5)) rfl (by rw [hml]; exact hl.1) rfl hd (Nat.le_trans (Nat.le_of_ble_eq_true o6) hfr) ?_ (hk _ _ _ _ h3 hsz H locs ls hP hS hl)
    have h8 := lv_room (m := m) (pc := pc) (ls := ls) (rest := st'.map (hd_v (hd_ad G))) (st := st'.map (hd_v (hd_ad G))) (by rw [hd_sum_eq]; exact Nat.le_of_ble_eq_true h2)
    have h9 := Nat.le_of_ble_eq_true o7
    have h10 : 2 * (F0 m pc ls (st'.map (hd_v (hd_ad G)))).monitorRoom = 0 := rfl
    show 2 * (F0 m pc ls (st'.map (hd_v (hd_ad G)))).monitorRoom + _ + 12 ≤ R.locals
    dsimp only at h8 h10 ⊢
    omega
  case tableswitch dflt lo hi offs =>
    replace ho := hd_and ho
    obtain ⟨ho, o5⟩ := ho
    obtain ⟨ho, o4⟩ := hd_and ho
    obtain ⟨ho, o3⟩ := hd_and ho
    obtain ⟨o1, o2⟩ := hd_and ho
    obtain ⟨x, st', rfl, h'⟩ := hd_i1_inv h
    have o1 := of_decide_eq_true o1
    have o2 := of_decide_eq_true o2
    have o3 := of_decide_eq_true o3
    have o4 := of_decide_eq_true o4
    have o5 := of_decide_eq_true o5
    have hat : ∀ (j : Nat), j < offs.size → ∃ t : Nat, sw[j]? = some (Int32.ofInt (lo + (j : Int)), t) ∧ (t : Int) = (pc : Int) + offs.getD j 0 := by
      intro j hj
      have h1 : (sw.map (fun q => (q.1, (q.2 : Int))))[j]? = some (Int32.ofInt (lo + (j : Int)), (pc : Int) + offs.getD j 0) := by
        rw [o5]
        simp [hj]
      rw [List.getElem?_map] at h1
      cases hs : sw[j]? with
      | none => rw [hs] at h1; cases h1
      | some q =>
        rw [hs] at h1
        have h2 := Option.some.inj h1
        have h3 := congrArg Prod.fst h2
        have h4 := congrArg Prod.snd h2
        dsimp only at h3 h4
        exact ⟨q.2, by rw [← h3], h4⟩
    have hlen : sw.length = offs.size := by
      have := congrArg List.length o5
      simpa using this
    rcases hd_sw_ok h' with ⟨j, v, t, h1, h2, h3⟩ | ⟨h1, h2⟩
    · have hj : j < offs.size := by rw [← hlen]; exact (List.getElem?_eq_some_iff.mp h1).1
      obtain ⟨t', g1, g2⟩ := hat j hj
      rw [h1] at g1
      cases g1
      have hxi : x.toInt = lo + (j : Int) := by
        rw [h2]
        exact Int32.toInt_ofInt_of_le (by omega) (by omega)
      refine lv_tableIn (off := offs.getD j 0) hx hb hd (by omega) (by omega) ?_ g2.symm (hk _ _ _ _ h3 hsz H locs ls hP hS hl)
      have hjj : (x.toInt - lo).toNat = j := by omega
      rw [hjj, Array.getD_eq_getD_getElem?, Array.getElem?_eq_getElem hj]
      rfl
    · refine lv_tableOut hx hb hd ?_ o1 (hk _ _ _ _ h2 hsz H locs ls hP hS hl)
      by_cases hlo1 : x.toInt < lo
      · exact Or.inl hlo1
      · refine Or.inr (Int.not_le.mp fun hh => ?_)
        have hj : (x.toInt - lo).toNat < offs.size := by omega
        obtain ⟨t', g1, g2⟩ := hat _ hj
        refine h1 _ _ _ g1 ?_
        have : lo + (((x.toInt - lo).toNat : Nat) : Int) = x.toInt := by omega
        rw [this, Int32.ofInt_toInt]
  all_goals exact h.elim
end
section
theorem hd_find_ok {pc : Nat} : ∀ {rows : List hd_R} {r : hd_R}, hd_find pc rows = some r → r ∈ rows ∧ r.1 = pc
  | r0 :: rs, r, h => by
    unfold hd_find at h
    cases hb : Nat.beq pc r0.1 with
    | true =>
      rw [hb] at h
      cases h
      exact ⟨List.mem_cons_self, (Nat.eq_of_beq_eq_true hb).symm⟩
    | false =>
      rw [hb] at h
      obtain ⟨h1, h2⟩ := hd_find_ok (rows := rs) h
      exact ⟨List.mem_cons_of_mem _ h1, h2⟩
/-- a walk over rows that hold is a walk of the machine -/
theorem hd_wps_ok {G : hd_G} {mi : hd_I} {X : hd_X} {Z : Option Value → hd_M → Prop} {rows : List hd_R} {cuts : List (Nat × List Nat)} {sh : hd_S} {ks : Nat × Nat} (hC : hd_C G mi X) (hks : ks.1 + 0 ≤ mi.2.2.2.2.2.2.1 ∧ ks.2 + 0 ≤ mi.2.2.2.2.2.2.2) (hZ : hd_Zok G mi X Z sh ks) (hrows : rows.all (hd_okb mi) = true) (hcs : hd_cdl rows) : ∀ (n pc : Nat) (lv : hd_L) (st : List Value) (σ : hd_M), hd_wps G mi X Z rows cuts sh ks n pc lv st σ → hd_J G mi X sh ks pc lv st σ
  | 0, _, _, _, _, h => h
  | n + 1, pc, lv, st, σ, h => by
    unfold hd_wps at h
    split at h
    · exact h.elim
    · rename_i pc' i len a b c d sw ce hf
      obtain ⟨h1, h2⟩ := hd_find_ok hf
      have h2 : pc' = pc := h2
      subst h2
      refine hd_step_ok hC hks hZ (List.all_eq_true.mp hrows _ h1) (hd_cdl_mem hcs _ h1) (fun pc lv st σ hk => ?_) h
      split at hk
      · rename_i live hc
        intro hsz H locs ls hP hS hl
        exact hk hsz H locs ls hP hS (hd_has_pick hl)
      · exact hd_wps_ok hC hks hZ hrows hcs n pc lv st σ hk
/-- a method's walk: its context -/
def hd_CX (G : hd_G) (mi : hd_I) (X : hd_X) (Z : Option Value → hd_M → Prop) (sh : hd_S) (ks : Nat × Nat) : Prop := hd_C G mi X ∧ hd_Zok G mi X Z sh ks
theorem hd_walk {G : hd_G} {mi : hd_I} {X : hd_X} {Z : Option Value → hd_M → Prop} {rows : List hd_R} (cuts : List (Nat × List Nat)) {sh : hd_S} {ks : Nat × Nat} (n : Nat) {pc : Nat} {lv : hd_L} {st : List Value} {σ : hd_M} (hX : hd_CX G mi X Z sh ks) (hks : ks.1 + 0 ≤ mi.2.2.2.2.2.2.1 ∧ ks.2 + 0 ≤ mi.2.2.2.2.2.2.2) (hrows : rows.all (hd_okb mi) = true ∧ hd_cdl rows) (h : hd_wps G mi X Z rows cuts sh ks n pc lv st σ) : hd_J G mi X sh ks pc lv st σ := hd_wps_ok hX.1 hks hX.2 hrows.1 hrows.2 n pc lv st σ h
def hd_ar : Nat → List Value → hd_L
  | _, [] => []
  | n, v :: r => (n, v) :: hd_ar (bif Nat.beq v.category 2 then n + 2 else n + 1) r
theorem hd_ar_eq (f : Nat → Nat) : ∀ (as : List Value) (n : Nat), lv_args n (as.map (hd_v f)) = hd_lm f (hd_ar n as)
  | [], _ => rfl
  | v :: r, n => by
    show (n, hd_v f v) :: lv_args (if (hd_v f v).category = 2 then n + 2 else n + 1) (r.map (hd_v f)) = (n, hd_v f v) :: hd_lm f (hd_ar (bif Nat.beq v.category 2 then n + 2 else n + 1) r)
    rw [← hd_ar_eq f r, hd_cat]
    cases hb : Nat.beq v.category 2 with
    | true => rw [if_pos (Nat.eq_of_beq_eq_true hb)]; rfl
    | false => rw [if_neg (fun z => by rw [z] at hb; cases hb)]; rfl
def hd_al2 : List Value → Nat
  | [] => 0
  | v :: r => (bif Nat.beq v.category 2 then 2 else 1) + hd_al2 r
theorem hd_al2_eq (f : Nat → Nat) : ∀ (as : List Value), (lg_sl (as.map (hd_v f))).length = hd_al2 as
  | [] => rfl
  | v :: r => by
    show (lg_sl (hd_v f v :: r.map (hd_v f))).length = _
    unfold lg_sl
    rw [List.flatMap_cons, List.length_append]
    have h := hd_al2_eq f r
    unfold lg_sl at h
    rw [h, hd_cat]
    show _ = (bif Nat.beq v.category 2 then 2 else 1) + hd_al2 r
    cases hb : Nat.beq v.category 2 with
    | true => rw [if_pos (Nat.eq_of_beq_eq_true hb)]; rfl
    | false => rw [if_neg (fun z => by rw [z] at hb; cases hb)]; rfl
/-- the end of a method that makes no cell -/
theorem hd_Zok_of {G : hd_G} {mi : hd_I} {p : Program} {e : Env} {R : Room} {s : State} {m : MethodId} {args : Array Value} {below : List Frame} {meth : Method} {c : Code} {Z : Option Value → hd_M → Prop} {sh : hd_S} {P : Option Value → hd_S → hd_M → Prop} (hx : p.tables.exec = Jvm.exec) (hb : c.code = mi.2.1) (hr : meth.sig.returnType = mi.2.2.2.1) (hlocks : meth.locks = false) (hZP : ∀ r σ, Z r σ → P r sh σ) : hd_Zok G mi (p, e, R, s, m, args, below, meth, c, MQ below (hd_Qc G sh.length P) args s 0 0 (hd_A G)) Z sh (0, 0) := by
  refine ⟨fun v σ H locs ls pc h hP hS hd => ?_, fun v σ H locs ls pc h hP hS hd => ?_, fun v σ H locs ls pc h hP hS hd => ?_, fun σ H locs ls pc h hP hS hd => ?_⟩
  · have hq : Z (some (.int v)) σ → ∀ t : State, t.heap = H → s.WarmedH t.vm → hd_Qc G sh.length P args s (.returned (some (.int v))) t := fun hz t ht _ => ⟨⟨some (.int v), sh, σ, rfl, hZP _ _ hz, by rw [ht]; exact hP, rfl⟩, hS.F ht⟩
    generalize hrt : mi.2.2.2.1 = rt at h hr
    unfold hd_ret at h
    split at h
    · exact W.iret hx hb hr (hq h) hS.2.2 hd hlocks
    · exact W.zret hx hb hr (by rcases h.1 with rfl | rfl <;> rfl) (hq h.2) hS.2.2 hd hlocks
    · exact h.elim
  · generalize hrt : mi.2.2.2.1 = rt at h hr
    unfold hd_retl at h
    split at h
    · exact W.lret hx hb hr (fun t ht _ => ⟨⟨some (.long v), sh, σ, rfl, hZP _ _ h, by rw [ht]; exact hP, rfl⟩, hS.F ht⟩) hS.2.2 hd hlocks
    · exact h.elim
  · generalize hrt : mi.2.2.2.1 = rt at h hr
    unfold hd_reta at h
    split at h
    · exact W.aret hx hb hr (Or.inl ⟨_, rfl⟩) (Or.inr ⟨_, rfl⟩) (fun t ht _ => ⟨⟨some (.ref v), sh, σ, rfl, hZP _ _ h, by rw [ht]; exact hP, rfl⟩, hS.F ht⟩) hS.2.2 hd hlocks
    · exact W.aret hx hb hr (Or.inr ⟨_, rfl⟩) (Or.inr ⟨_, rfl⟩) (fun t ht _ => ⟨⟨some (.ref v), sh, σ, rfl, hZP _ _ h, by rw [ht]; exact hP, rfl⟩, hS.F ht⟩) hS.2.2 hd hlocks
    · exact h.elim
  · generalize hrt : mi.2.2.2.1 = rt at h hr
    unfold hd_retv at h
    split at h
    · exact W.vret hx hb hr (fun t ht _ => ⟨⟨none, sh, σ, rfl, hZP _ _ h, by rw [ht]; exact hP, rfl⟩, hS.F ht⟩) hS.2.2 hd hlocks
    · exact h.elim
/-- a method that makes no cell, from its entry -/
theorem hd_enter {G : hd_G} {mi : hd_I} {sh : hd_S} {as : List Value} {σ : hd_M} {P : Option Value → hd_S → hd_M → Prop} (Z : Option Value → hd_M → Prop) (hy : plainName mi.1.cls = true) (hal : Nat.ble (hd_al2 as) mi.2.2.1 = true) (h0 : mi.2.2.2.2.2.2.1 = 0) (h1 : mi.2.2.2.2.2.2.2 = 0) (hZP : ∀ r σ, Z r σ → P r sh σ) (h : ∀ X, hd_CX G mi X Z sh (0, 0) → hd_J G mi X sh (0, 0) 0 (hd_ar 0 as) [] σ) : hd_EV G mi sh as σ P := by
  unfold hd_EV
  rw [h0, h1]
  refine Met.ofW (cc := mi.2.1) (maxL := mi.2.2.1) (ret := mi.2.2.2.1) hy rfl ?_
  intro p e s m args below meth c s₁ B hml hv
  obtain ⟨rfl, hK, hP, hsz⟩ := hv
  have hts := atoms_spec (ws := hd_wm mi) B.pre
  have hC : hd_C G mi (p, e, (headSpec (hd_wm mi) (hd_rm mi)).room, s, m, (as.map (hd_v (hd_ad G))).toArray, below, meth, c, MQ below (hd_Qc G (sh.length + 0) P) (as.map (hd_v (hd_ad G))).toArray s 0 0 (hd_A G)) :=
    ⟨B.exec, B.bytes, B.returns, hml, findClass_of_methodNamed B.named, fun w hw => hts w (List.mem_cons_of_mem _ hw), B.notSynchronized, hK, (name_of_methodNamed B.named B.method).1, Nat.le_refl _, Nat.le_refl _, rfl, rfl⟩
  have hl := lv_entry (as.map (hd_v (hd_ad G))) (n := mi.2.2.1) (by rw [hd_al2_eq]; exact Nat.le_of_ble_eq_true hal)
  rw [lg_entry_eq]
  rw [hd_ar_eq] at hl
  exact h _ ⟨hC, hd_Zok_of B.exec B.bytes B.returns B.notSynchronized hZP⟩ (by show s.heap.size + 0 = _; rw [hsz]; rfl) s.heap [] _ hP va_S.rf hl
theorem EVi_of {G : hd_G} {mi : hd_I} {sh : hd_S} {as : List Value} {σ : hd_M} {P : Int32 → hd_M → Prop} (hy : plainName mi.1.cls = true) (hal : Nat.ble (hd_al2 as) mi.2.2.1 = true) (h0 : mi.2.2.2.2.2.2.1 = 0) (h1 : mi.2.2.2.2.2.2.2 = 0) (h : ∀ X, hd_CX G mi X (hd_Zi P) sh (0, 0) → hd_J G mi X sh (0, 0) 0 (hd_ar 0 as) [] σ) : EVi G mi sh as σ P := by
  refine hd_enter (hd_Zi P) hy hal h0 h1 (fun r σ hz => ?_) h
  unfold hd_Zi at hz
  split at hz
  · exact ⟨rfl, _, rfl, hz⟩
  · exact hz.elim
theorem EVl_of {G : hd_G} {mi : hd_I} {sh : hd_S} {as : List Value} {σ : hd_M} {P : Int64 → hd_M → Prop} (hy : plainName mi.1.cls = true) (hal : Nat.ble (hd_al2 as) mi.2.2.1 = true) (h0 : mi.2.2.2.2.2.2.1 = 0) (h1 : mi.2.2.2.2.2.2.2 = 0) (h : ∀ X, hd_CX G mi X (hd_Zl P) sh (0, 0) → hd_J G mi X sh (0, 0) 0 (hd_ar 0 as) [] σ) : EVl G mi sh as σ P := by
  refine hd_enter (hd_Zl P) hy hal h0 h1 (fun r σ hz => ?_) h
  unfold hd_Zl at hz
  split at hz
  · exact ⟨rfl, _, rfl, hz⟩
  · exact hz.elim
theorem EVr_of {G : hd_G} {mi : hd_I} {sh : hd_S} {as : List Value} {σ : hd_M} {P : Nat → hd_M → Prop} (hy : plainName mi.1.cls = true) (hal : Nat.ble (hd_al2 as) mi.2.2.1 = true) (h0 : mi.2.2.2.2.2.2.1 = 0) (h1 : mi.2.2.2.2.2.2.2 = 0) (h : ∀ X, hd_CX G mi X (hd_Zr P) sh (0, 0) → hd_J G mi X sh (0, 0) 0 (hd_ar 0 as) [] σ) : EVr G mi sh as σ P := by
  refine hd_enter (hd_Zr P) hy hal h0 h1 (fun r σ hz => ?_) h
  unfold hd_Zr at hz
  split at hz
  · exact ⟨rfl, _, rfl, hz⟩
  · exact hz.elim
theorem EVv_of {G : hd_G} {mi : hd_I} {sh : hd_S} {as : List Value} {σ : hd_M} {P : hd_M → Prop} (hy : plainName mi.1.cls = true) (hal : Nat.ble (hd_al2 as) mi.2.2.1 = true) (h0 : mi.2.2.2.2.2.2.1 = 0) (h1 : mi.2.2.2.2.2.2.2 = 0) (h : ∀ X, hd_CX G mi X (hd_Zv P) sh (0, 0) → hd_J G mi X sh (0, 0) 0 (hd_ar 0 as) [] σ) : EVv G mi sh as σ P := by
  refine hd_enter (hd_Zv P) hy hal h0 h1 (fun r σ hz => ?_) h
  unfold hd_Zv at hz
  split at hz
  · exact ⟨rfl, rfl, hz⟩
  · exact hz.elim
end
section
/-! constructors: instructions that make cells -/
def hd_zer (σ : hd_M) (n : Nat) : hd_M := (va_up σ.1 n (fun _ => 0), va_up σ.2 n (fun _ => 0))
theorem hd_E_zer {G : hd_G} {σ : hd_M} {n : Nat} (k : Nat) (s : Nat × Nat × List Nat) (h : k ≠ n) : hd_E G (hd_zer σ n) k s = hd_E G σ k s := by
  unfold hd_E hd_fv hd_zer
  simp only [hd_up_ne h]
theorem hd_ws_app {G : hd_G} {sh : hd_S} {σ : hd_M} {x : Nat × Nat × List Nat} : hd_ws G (sh ++ [x]) (hd_zer σ sh.length) = hd_ws G sh σ ++ [(hd_b G + sh.length, hd_E G (hd_zer σ sh.length) sh.length x)] := by
  apply List.ext_getElem?
  intro i
  by_cases h : i < sh.length
  · rw [List.getElem?_append_left (by rw [hd_ws_len]; exact h), hd_ws_at (s := sh[i]) (by rw [List.getElem?_append_left h]; exact List.getElem?_eq_getElem h), hd_ws_at (List.getElem?_eq_getElem h), hd_E_zer _ _ (by omega)]
  · by_cases h2 : i = sh.length
    · subst h2
      rw [hd_ws_at (s := x) (by simp), List.getElem?_append_right (by rw [hd_ws_len]; exact Nat.le_refl _), hd_ws_len]
      simp
    · rw [List.getElem?_eq_none (by rw [hd_ws_len]; simp; omega), List.getElem?_eq_none (by rw [List.length_append, hd_ws_len]; simp; omega)]
theorem hd_rep (n j : Nat) : (List.replicate n 0).getD j 0 = 0 := by
  rw [List.getD_eq_getElem?_getD, List.getElem?_replicate]
  split <;> rfl
theorem hd_fk9 : ∀ a, a < 9 → ∀ k, k < hd_N a → hd_fk a k ≠ 9 := by decide +kernel
theorem hd_born {G : hd_G} {σ : hd_M} {n a j : Nat} (ha : a < 9) (hj : j < hd_N a) : hd_fv (hd_ad G) (hd_zer σ n) n (List.replicate (hd_N a) 0) a j = defaultValue (hd_ft a j) := by
  have hk := hd_fk9 a ha j hj
  have h1 : (hd_zer σ n).1 n j = 0 := by show va_up σ.1 n (fun _ => 0) n j = 0; rw [hd_up_eq]
  have h2 : (hd_zer σ n).2 n j = 0 := by show va_up σ.2 n (fun _ => 0) n j = 0; rw [hd_up_eq]
  have h3 : (List.replicate (hd_N a) 0).getD j 0 = 0 := hd_rep _ _
  unfold hd_fv
  rw [h1, h2, h3]
  unfold hd_fk at hk ⊢
  split at hk
  · rename_i e; rw [e]; rfl
  · rename_i e; rw [e]; rfl
  · rename_i c e; rw [e]; cases hd_mut a j <;> rfl
  · rename_i c e; rw [e]; cases hd_mut a j <;> rfl
  · rename_i e; rw [e]; rfl
  · exact absurd rfl hk
/-- a cell that was made: it lies right behind the others -/
theorem hd_newq {G : hd_G} {sh : hd_S} {σ : hd_M} {H1 : Heap} {q : Nat} {e : va_E} {x : Nat × Nat × List Nat} {n : Nat} (hl : sh.length < 5000) (hP1 : va_P G.2.1 vwCl (hd_ws G sh σ ++ [(q, e)]) H1) (hD1 : va_D (hd_A G) (hd_ws G sh σ ++ [(q, e)])) (hz : H1.size ≤ n) (hn : n = hd_b G + sh.length + 1) (he : hd_E G (hd_zer σ sh.length) sh.length x = e) : q = hd_b G + sh.length ∧ hd_P G (sh ++ [x]) (hd_zer σ sh.length) H1 := by
  have hat : (hd_ws G sh σ ++ [(q, e)])[sh.length]? = some (q, e) := by
    rw [List.getElem?_append_right (by rw [hd_ws_len]; exact Nat.le_refl _), hd_ws_len]
    simp
  have h1 : q < H1.size := (hP1 _ _ hat).lt
  have h2 : hd_b G ≤ q := hD1.2 _ _ hat
  have hq : q = hd_b G + sh.length := by
    by_cases h3 : q < hd_b G + sh.length
    · have h4 : q - hd_b G < sh.length := by omega
      have h5 : (hd_ws G sh σ ++ [(q, e)])[q - hd_b G]? = some (hd_b G + (q - hd_b G), hd_E G σ (q - hd_b G) sh[q - hd_b G]) := by
        rw [List.getElem?_append_left (by rw [hd_ws_len]; exact h4)]
        exact hd_ws_at (List.getElem?_eq_getElem h4)
      have h6 := hD1.1 _ _ _ _ h5 hat (by show hd_b G + (q - hd_b G) = q; omega)
      omega
    · omega
  refine ⟨hq, by rw [List.length_append]; show sh.length + 1 ≤ 5000; omega, ?_⟩
  rw [hd_ws_app, he, ← hq]
  exact hP1
/-- a constructor's call -/
def hd_inI (G : hd_G) (mi ce : hd_I) (b : Nat) (sh : hd_S) (ks : Nat × Nat) (st : List Value) (σ : hd_M) (k : hd_S → Nat × Nat → List Value → hd_M → Prop) : Prop := match hd_take (b + 1) [] st with
  | some (.ref q :: as, rest) => bif Nat.ble (hd_sum rest) 8 && Nat.ble (ks.1 + ce.2.2.2.2.2.2.1) mi.2.2.2.2.2.2.1 && Nat.ble (ks.2 + ce.2.2.2.2.2.2.2) mi.2.2.2.2.2.2.2 then EVc G ce sh (.ref q :: as) σ (fun sh' σ' => k sh' (ks.1 + ce.2.2.2.2.2.2.1, ks.2 + ce.2.2.2.2.2.2.2) rest σ') else False
  | _ => False
theorem hd_inI_inv {G : hd_G} {mi ce : hd_I} {b : Nat} {sh : hd_S} {ks : Nat × Nat} {st : List Value} {σ : hd_M} {k : hd_S → Nat × Nat → List Value → hd_M → Prop} (h : hd_inI G mi ce b sh ks st σ k) : ∃ q as rest, hd_take (b + 1) [] st = some (.ref q :: as, rest) ∧ hd_sum rest ≤ 8 ∧ ks.1 + ce.2.2.2.2.2.2.1 ≤ mi.2.2.2.2.2.2.1 ∧ ks.2 + ce.2.2.2.2.2.2.2 ≤ mi.2.2.2.2.2.2.2 ∧ EVc G ce sh (.ref q :: as) σ (fun sh' σ' => k sh' (ks.1 + ce.2.2.2.2.2.2.1, ks.2 + ce.2.2.2.2.2.2.2) rest σ') := by
  unfold hd_inI at h
  split at h
  · rename_i q as rest e
    obtain ⟨h1, h2⟩ := hd_bif h
    obtain ⟨h1, h3⟩ := hd_and h1
    obtain ⟨h1, h4⟩ := hd_and h1
    exact ⟨q, as, rest, e, Nat.le_of_ble_eq_true h1, Nat.le_of_ble_eq_true h4, Nat.le_of_ble_eq_true h3, h2⟩
  · exact h.elim
/-- a reference field that stays is set -/
def hd_puR (sh : hd_S) (a b : Nat) (st : List Value) (k : hd_S → List Value → Prop) : Prop := hd_r1 st (fun r st => hd_r1 st (fun q st => hd_kr sh q (10 + a) (fun n rs => bif Nat.blt 0 r && Nat.blt r sh.length && Nat.beq rs.length (hd_N a) then k (sh.set q (10 + a, n, rs.set (b % 100) r)) st else False)))
theorem hd_puR_inv {sh : hd_S} {a b : Nat} {st : List Value} {k : hd_S → List Value → Prop} (h : hd_puR sh a b st k) : ∃ r q rest n rs, st = .ref r :: .ref q :: rest ∧ sh[q]? = some (10 + a, n, rs) ∧ 0 < r ∧ r < sh.length ∧ rs.length = hd_N a ∧ k (sh.set q (10 + a, n, rs.set (b % 100) r)) rest := by
  obtain ⟨r, st1, e1, h1⟩ := hd_r1_inv h
  obtain ⟨q, rest, e2, h2⟩ := hd_r1_inv h1
  obtain ⟨n, rs, h3, h4⟩ := hd_kr_inv h2
  obtain ⟨h5, h6⟩ := hd_bif h4
  obtain ⟨h5, h7⟩ := hd_and h5
  obtain ⟨h5, h8⟩ := hd_and h5
  exact ⟨r, q, rest, n, rs, by rw [e1, e2], h3, Nat.le_of_ble_eq_true h5, Nat.le_of_ble_eq_true h8, Nat.eq_of_beq_eq_true h7, h6⟩
theorem hd_ws_set {G : hd_G} {sh : hd_S} {σ : hd_M} {q : Nat} {x : Nat × Nat × List Nat} (hq : q < sh.length) : (hd_ws G sh σ).set q (hd_b G + q, hd_E G σ q x) = hd_ws G (sh.set q x) σ := by
  apply List.ext_getElem?
  intro i
  rw [List.getElem?_set]
  by_cases hi : q = i
  · subst hi
    rw [if_pos rfl, if_pos (by rw [hd_ws_len]; exact hq), hd_ws_at (s := x) (by simp [hq])]
  · rw [if_neg hi]
    by_cases hl : i < sh.length
    · rw [hd_ws_at (List.getElem?_eq_getElem hl), hd_ws_at (s := sh[i]) (by rw [List.getElem?_set, if_neg hi]; exact List.getElem?_eq_getElem hl)]
    · rw [List.getElem?_eq_none (by rw [hd_ws_len]; omega), List.getElem?_eq_none (by rw [hd_ws_len, List.length_set]; omega)]
def hd_stepA (G : hd_G) (mi : hd_I) (Z : hd_S → Nat × Nat → Option Value → hd_M → Prop) (sh : hd_S) (ks : Nat × Nat) (i : hd_Ins) (pc len a b : Nat) (c : Int32) (d : Int64) (sw : List (Int32 × Nat)) (ce : hd_I) (lv : hd_L) (st : List Value) (σ : hd_M) (k : hd_S → Nat × Nat → Nat → hd_L → List Value → hd_M → Prop) : Prop := match i with
  | .new _ => bif Nat.blt sh.length 5000 && Nat.blt ks.1 mi.2.2.2.2.2.2.1 && Nat.ble (ks.2 + hd_N a) mi.2.2.2.2.2.2.2 then k (sh ++ [(10 + a, 0, List.replicate (hd_N a) 0)]) (ks.1 + 1, ks.2 + hd_N a) (pc + len) lv (.ref sh.length :: st) (hd_zer σ sh.length) else False
  | .newarray _ => hd_i1 st (fun n st => n = Int32.ofNat b ∧ bif Nat.blt sh.length 5000 && Nat.blt ks.1 mi.2.2.2.2.2.2.1 && Nat.ble (ks.2 + b) mi.2.2.2.2.2.2.2 && Nat.blt b 100000 then k (sh ++ [(a, b, [])]) (ks.1 + 1, ks.2 + b) (pc + len) lv (.ref sh.length :: st) (hd_zer σ sh.length) else False)
  | .anewarray _ => hd_i1 st (fun n st => n = Int32.ofNat b ∧ bif Nat.blt sh.length 5000 && Nat.blt ks.1 mi.2.2.2.2.2.2.1 && Nat.ble (ks.2 + b) mi.2.2.2.2.2.2.2 && Nat.blt b 100000 then k (sh ++ [(4, b, List.replicate b 0)]) (ks.1 + 1, ks.2 + b) (pc + len) lv (.ref sh.length :: st) (hd_zer σ sh.length) else False)
  | .aastore => hd_r1 st (fun r st => hd_ir st (fun j q st => hd_kr sh q 4 (fun n rs => vp_in j n ∧ hd_k sh r 12 (fun _ => bif Nat.blt 0 r && Nat.beq n rs.length then k (sh.set q (4, n, rs.set j.toNatClampNeg r)) ks (pc + len) lv st σ else False))))
  | .putfield _ => bif Nat.beq (b / 100) 2 then hd_puR sh a b st (fun sh st => k sh ks (pc + len) lv st σ) else hd_step G mi (Z sh ks) sh i pc len a b c d sw ce lv st σ (k sh ks)
  | .invokespecial _ => bif Nat.beq a 4 then hd_inI G mi ce b sh ks st σ (fun sh ks st σ => k sh ks (pc + len) lv st σ) else hd_step G mi (Z sh ks) sh i pc len a b c d sw ce lv st σ (k sh ks)
  | _ => hd_step G mi (Z sh ks) sh i pc len a b c d sw ce lv st σ (k sh ks)
def hd_okA (mi : hd_I) (r : hd_R) : Bool := match r with
  | (pc, i, len, a, b, c, d, sw, ce) => match i with
    | .new idx => decide (decode mi.2.1 pc = .ok (i, len)) && Nat.beq len 3 && (match vwCl[a]? with
      | some q => hd_at sw 0 (.classLink mi.1.cls idx q.1) && hd_at sw 1 (.instantiable q.1 q.2.2) && hd_at sw 2 (.initialized q.1)
      | none => false)
    | .newarray aty => decide (decode mi.2.1 pc = .ok (i, len)) && Nat.beq len 2 && hd_at sw 0 (.arrayClass (newarray.typeOf aty)) && decide ((aty = .int ∧ a = 0) ∨ (aty = .byte ∧ a = 1) ∨ (aty = .boolean ∧ a = 2) ∨ (aty = .long ∧ a = 3))
    | .anewarray idx => decide (decode mi.2.1 pc = .ok (i, len)) && Nat.beq len 3 && hd_at sw 0 (.classLink mi.1.cls idx "HiddenDrawers$Law")
    | .aastore => decide (decode mi.2.1 pc = .ok (i, len)) && Nat.beq len 1
    | .putfield idx => bif Nat.beq (b / 100) 2 then decide (decode mi.2.1 pc = .ok (i, len)) && Nat.beq len 3 && hd_fok mi idx a b sw && (match vwCl[a]? with
      | some q => (q.2.1 (b % 100)).2.2.2 && decide (mi.1.name = "<init>") && decide ((q.2.1 (b % 100)).1 = mi.1.cls)
      | none => false) else hd_okb mi r
    | .invokespecial idx => bif Nat.beq a 4 then decide (decode mi.2.1 pc = .ok (i, len)) && Nat.beq len 3 && (bif hd_isN sw then hd_lnkN mi idx sw ce.1 else hd_lnk mi idx sw ce.1) && hd_cal mi b sw ce && hd_at sw 3 (.instanceMethod ce.1) && decide (ce.1.name = "<init>") && decide (ce.2.2.2.1 = none) else hd_okb mi r
    | _ => hd_okb mi r
theorem hd_callI {G : hd_G} {mi ce : hd_I} {X : hd_X} {sh : hd_S} {ks : Nat × Nat} {idx pc n q : Nat} {sw : List (Int32 × Nat)} {lv : hd_L} {as rest : List Value} {σ : hd_M} {P : Option Value → hd_S → hd_M → Prop} (hC : hd_C G mi X) (hd : decode mi.2.1 pc = .ok (.invokespecial idx, 3)) (hlk : Cond.methodLink mi.1.cls idx ce.1 ∈ lw_g ∨ Cond.methodLinkNest mi.1.cls idx ce.1 "HiddenDrawers" ∈ hd_nest) (hin : Cond.instanceMethod ce.1 ∈ lw_g) (hnm : ce.1.name = "<init>") (hrt : ce.2.2.2.1 = none) (hc : hd_cal mi n sw ce = true) (hcode : hd_cdc ce) (hcm : ks.1 + ce.2.2.2.2.2.2.1 ≤ mi.2.2.2.2.2.2.1 ∧ ks.2 + ce.2.2.2.2.2.2.2 ≤ mi.2.2.2.2.2.2.2) (hn : as.length = n) (hsum : hd_sum rest ≤ 8) (hE : hd_EV G ce sh (.ref q :: as) σ P)
    (kk : ∀ r sh' σ', P r sh' σ' → hd_J G mi X sh' (ks.1 + ce.2.2.2.2.2.2.1, ks.2 + ce.2.2.2.2.2.2.2) (pc + 3) lv (r.toList ++ rest) σ') : hd_J G mi X sh ks pc lv (as.reverse ++ .ref q :: rest) σ := by
  obtain ⟨p, e, R, s, m, args, below, meth, cd, Q⟩ := X
  obtain ⟨hx, hb, hr, hml, hown, hts, hlocks, hK, hname, hfr, hlo, hrc, hrs⟩ := hC
  dsimp only at hx hb hr hml hown hts hlocks hK hname hfr hlo hrc hrs
  obtain ⟨hR, hini, hcd⟩ := hd_cal_ok hc
  intro hsz H locs ls hP hS hl
  dsimp only at hsz hS
  refine hd_sized fun hz => ?_
  have hlow := hd_low (Nat.le_trans hK.2.2.2.2.1 hS.1) hP
  have hsize : H.size = hd_b G + sh.length := by dsimp only at hz; omega
  have hpre : PreS s H (va_Pc ((Value.ref q :: as).map (hd_v (hd_ad G))) (fun U => hd_K G U ∧ hd_P G sh σ U.heap ∧ U.heap.size = hd_b G + sh.length)) (.ref (hd_ad G q) :: as.map (hd_v (hd_ad G))) :=
    ⟨hd_blind, fun U hU hW => ⟨rfl, hd_K.warm hW (fun q h1 h2 => by rw [hU]; exact hS.2.1 q h1 h2) (by rw [hU]; omega) hK, by rw [hU]; exact hP, by rw [hU]; exact hsize⟩⟩
  have hrooms : (hd_rm ce).frames + 1 ≤ R.frames ∧ 8 + (ce.2.2.1 + 11) + (hd_rm ce).locals ≤ R.locals := ⟨Nat.le_trans hR.1 hfr, Nat.le_trans hR.2 hlo⟩
  have hst' : (as.reverse ++ Value.ref q :: rest).map (hd_v (hd_ad G)) = (as.map (hd_v (hd_ad G))).reverse ++ .ref (hd_ad G q) :: rest.map (hd_v (hd_ad G)) := by simp [hd_v]
  rw [hst']
  have hfit : ks.1 + ce.2.2.2.2.2.2.1 ≤ R.cells ∧ ks.2 + ce.2.2.2.2.2.2.2 ≤ R.slots := by rw [hrc, hrs]; exact hcm
  have hlen : (as.map (hd_v (hd_ad G))).length = n := by rw [List.length_map]; exact hn
  have fin : ∀ (r : Option Value) (sh' : hd_S) (σ' : hd_M) (H1 : Heap) (locs1 : List Loc), P r sh' σ' → hd_P G sh' σ' H1 → sh'.length = sh.length + ce.2.2.2.2.2.2.1 → va_S (hd_A G) s.heap H1 locs1 → W p G.1 e R s m args below meth cd H1 locs1 (ks.1 + ce.2.2.2.2.2.2.1) (ks.2 + ce.2.2.2.2.2.2.2) Q (F0 m (pc + 3) ls ((r.map (hd_v (hd_ad G))).toList ++ rest.map (hd_v (hd_ad G)))) := by
    intro r sh' σ' H1 locs1 hp hP1 hln hS1
    rw [hd_ret_st]
    exact kk r sh' σ' hp (by dsimp only; omega) H1 locs1 ls hP1 hS1 hl
  have hws : hd_wm ce = Cond.code ce.1 ce.2.1 ce.2.2.1 none :: lw_g := by unfold hd_wm; rw [hrt]
  rcases hlk with hlk | hlk
  · exact hd_goes (va_runI (own := mi.1.cls) (index := idx) (y := ce.1) (bytes := ce.2.1) (maxL := ce.2.2.1) (ws := hd_wm ce) (rm := hd_rm ce) (n := n) (Ts := lw_g) (nL := mi.2.2.1) ⟨hx, hb, hml, hown, hts⟩ hE ⟨callB_of n hts (hd_good ce hcode) hws rfl rfl (hts _ hini) (hts _ hlk) hcd hrooms, hnm, hts _ hin⟩ hpre rfl hlen hl.1 rfl (lv_room (by rw [hd_sum_eq]; exact hsum)) hd hfit) hS fin
  · exact hd_goes (va_runIN (own := mi.1.cls) (host := "HiddenDrawers") (index := idx) (y := ce.1) (bytes := ce.2.1) (maxL := ce.2.2.1) (ws := hd_wm ce) (rm := hd_rm ce) (n := n) (Ts := lw_g) (nL := mi.2.2.1) ⟨hx, hb, hml, hown, hts⟩ hE ⟨va_cnB n hts (hd_good ce hcode) hws rfl rfl (hK.2.1 _ hlk) (hts _ hini) hcd hrooms, hnm, hts _ hin⟩ hpre rfl hlen hl.1 rfl (lv_room (by rw [hd_sum_eq]; exact hsum)) hd hfit) hS fin
theorem hd_cA {G : hd_G} {s : State} {c : ClassId} {t : Nat} {ty : FieldType} (hK : hd_K G s) (ht : (hd_tys G)[t]? = some (G.2.2.1 t, ty)) (h : va_RA s c ty) : c = G.2.2.1 t := by
  have h2 := (hK.1.2 t _ ht).2
  cases ty with
  | object C =>
    obtain ⟨_, _, -, -, -, h4⟩ := h
    obtain ⟨_, _, -, -, -, g4⟩ := h2
    exact Option.some.inj (h4.symm.trans g4)
  | _ => exact Option.some.inj (Eq.trans (Eq.symm h) h2)
set_option maxHeartbeats 4000000 in
theorem hd_stepA_ok {G : hd_G} {mi : hd_I} {X : hd_X} {Z : hd_S → Nat × Nat → Option Value → hd_M → Prop} {sh : hd_S} {ks : Nat × Nat} (hC : hd_C G mi X) (hks : ks.1 + 0 ≤ mi.2.2.2.2.2.2.1 ∧ ks.2 + 0 ≤ mi.2.2.2.2.2.2.2) (hZ : hd_Zok G mi X (Z sh ks) sh ks) {i : hd_Ins} {pc len a b : Nat} {c : Int32} {d : Int64} {sw : List (Int32 × Nat)} {ce : hd_I} (hok : hd_okA mi (pc, i, len, a, b, c, d, sw, ce) = true) (hcd : hd_cd (pc, i, len, a, b, c, d, sw, ce)) {lv : hd_L} {st : List Value} {σ : hd_M} {k : hd_S → Nat × Nat → Nat → hd_L → List Value → hd_M → Prop} (hk : ∀ sh' ks', (ks'.1 + 0 ≤ mi.2.2.2.2.2.2.1 ∧ ks'.2 + 0 ≤ mi.2.2.2.2.2.2.2) → ∀ pc lv st σ, k sh' ks' pc lv st σ → hd_J G mi X sh' ks' pc lv st σ) (h : hd_stepA G mi Z sh ks i pc len a b c d sw ce lv st σ k) : hd_J G mi X sh ks pc lv st σ := by
  have hC0 := hC
  obtain ⟨p, e, R, s, m, args, below, meth, cd, Q⟩ := X
  obtain ⟨hx, hb, hr, hml, hown, hts, hlocks, hK, hname, hfr, hlo, hrc, hrs⟩ := hC
  dsimp only at hx hb hr hml hown hts hlocks hK hname hfr hlo hrc hrs
  cases i
  case new idx =>
    obtain ⟨hok, o3⟩ := hd_and hok
    obtain ⟨o1, o2⟩ := hd_and hok
    have hd := of_decide_eq_true o1
    have e0 := hd_len1 o2; subst e0
    obtain ⟨hb1, h⟩ := hd_bif h
    obtain ⟨hb1, b3⟩ := hd_and hb1
    obtain ⟨b1, b2⟩ := hd_and hb1
    have b1 : sh.length < 5000 := Nat.le_of_ble_eq_true b1
    have b2 : ks.1 < mi.2.2.2.2.2.2.1 := Nat.le_of_ble_eq_true b2
    have b3 : ks.2 + hd_N a ≤ mi.2.2.2.2.2.2.2 := Nat.le_of_ble_eq_true b3
    split at o3
    · rename_i cq hcq
      obtain ⟨o3, o5⟩ := hd_and o3
      obtain ⟨o3, o4⟩ := hd_and o3
      obtain ⟨g1, g2, g3, g4⟩ := hd_clok hcq
      have ha9 : a < 9 := (List.getElem?_eq_some_iff.mp hcq).1
      intro hsz H locs ls hP hS hl
      dsimp only at hsz hS
      refine va_new (C := cq.1) (T := cq.2.1) (N := cq.2.2) (ci := a) (fs := (List.range (hd_N a)).map (fun j => hd_fv (hd_ad G) (hd_zer σ sh.length) sh.length (List.replicate (hd_N a) 0) a j)) hx hb hts g1 (hd_ft a) g2 hown (hts _ (hd_at_mem o3)) (hts _ (hd_at_mem o4)) (hts _ (hd_at_mem o5)) hK.1 hP.2 (hd_D G sh σ) hS (fun q hq => Nat.le_trans hK.2.2.2.2.1 hq) hcq ?_ (by show _ ≤ R.cells; rw [hrc]; exact b2) (by show _ ≤ R.slots; rw [hrs, ← g4]; exact b3) hd ?_
      · intro j hj
        rw [← g4] at hj
        rw [← hd_born (G := G) (σ := σ) (n := sh.length) ha9 hj]
        simp [vp_V, hj]
      · intro q H1 hP1 hD1 hS1
        refine hd_sized fun hz => ?_
        dsimp only at hz
        obtain ⟨hq, hPn⟩ := hd_newq (x := (10 + a, 0, List.replicate (hd_N a) 0)) b1 hP1 hD1 hz (by show _ = _; omega) hd_E_obj
        rw [hq, ← hK.2.2.2.2.2 sh.length b1, ← g4]
        exact hk _ (ks.1 + 1, ks.2 + hd_N a) ⟨b2, b3⟩ _ _ _ _ h (by show s.heap.size + (ks.1 + 1) = _; rw [List.length_append]; show _ = hd_b G + (sh.length + 1); omega) H1 locs ls hPn hS1 hl
    · cases o3
  case newarray aty =>
    obtain ⟨hok, o4⟩ := hd_and hok
    obtain ⟨hok, o3⟩ := hd_and hok
    obtain ⟨o1, o2⟩ := hd_and hok
    have hd := of_decide_eq_true o1
    have e0 := hd_len1 o2; subst e0
    have o4 := of_decide_eq_true o4
    obtain ⟨n, st', rfl, hn, h⟩ := hd_i1_inv h
    obtain ⟨hb1, hkk⟩ := hd_bif h
    obtain ⟨hb1, b4⟩ := hd_and hb1
    obtain ⟨hb1, b3⟩ := hd_and hb1
    obtain ⟨b1, b2⟩ := hd_and hb1
    have b1 : sh.length < 5000 := Nat.le_of_ble_eq_true b1
    have b2 : ks.1 < mi.2.2.2.2.2.2.1 := Nat.le_of_ble_eq_true b2
    have b3 : ks.2 + b ≤ mi.2.2.2.2.2.2.2 := Nat.le_of_ble_eq_true b3
    have b4 : b < 100000 := Nat.le_of_ble_eq_true b4
    intro hsz H locs ls hP hS hl
    dsimp only at hsz hS
    have hn0 : ¬ n < 0 := by rw [hn]; exact nI_pos (by omega)
    have hnb : n.toNatClampNeg = b := by rw [hn]; exact nI_clamp (by omega)
    have hcells : ks.1 + 1 ≤ R.cells := by rw [hrc]; exact b2
    have hslots : ks.2 + b ≤ R.slots := by rw [hrs]; exact b3
    rcases o4 with ⟨rfl, rfl⟩ | ⟨rfl, rfl⟩ | ⟨rfl, rfl⟩ | ⟨rfl, rfl⟩
    · refine va_newa (a0 := (b, .inl (fun _ => 0))) hx hb (hts _ (hd_at_mem o3)) rfl hK.1 hP.2 (hd_D G sh σ) hS (fun q hq => Nat.le_trans hK.2.2.2.2.1 hq) (fun _ => rfl) hn0 hnb (by show b * 4 ≤ _; omega) hcells hslots hd ?_
      intro q c1 H1 hK1 hP1 hD1 hS1
      refine hd_sized fun hz => ?_
      have hc1 : c1 = G.2.2.1 0 := hd_cA (ty := .int) hK rfl (hK1.2 5 (c1, .int) rfl).2
      subst hc1
      obtain ⟨hq, hPn⟩ := hd_newq (x := (0, b, [])) b1 hP1 hD1 hz (by show _ = _; omega) (by show Sum.inl (_, _, Sum.inl (va_up σ.1 sh.length (fun _ => 0) sh.length)) = _; rw [hd_up_eq])
      rw [hq, ← hK.2.2.2.2.2 sh.length b1]
      exact hk _ (ks.1 + 1, ks.2 + b) ⟨b2, b3⟩ _ _ _ _ hkk (by show s.heap.size + (ks.1 + 1) = _; rw [List.length_append]; show _ = hd_b G + (sh.length + 1); omega) H1 locs ls hPn hS1 hl
    · refine va_newa (a0 := (b, .inl (fun _ => 0))) hx hb (hts _ (hd_at_mem o3)) rfl hK.1 hP.2 (hd_D G sh σ) hS (fun q hq => Nat.le_trans hK.2.2.2.2.1 hq) (fun _ => rfl) hn0 hnb (by show b * 1 ≤ _; omega) hcells hslots hd ?_
      intro q c1 H1 hK1 hP1 hD1 hS1
      refine hd_sized fun hz => ?_
      have hc1 : c1 = G.2.2.1 1 := hd_cA (ty := .byte) hK rfl (hK1.2 5 (c1, .byte) rfl).2
      subst hc1
      obtain ⟨hq, hPn⟩ := hd_newq (x := (1, b, [])) b1 hP1 hD1 hz (by show _ = _; omega) (by show Sum.inl (_, _, Sum.inl (va_up σ.1 sh.length (fun _ => 0) sh.length)) = _; rw [hd_up_eq])
      rw [hq, ← hK.2.2.2.2.2 sh.length b1]
      exact hk _ (ks.1 + 1, ks.2 + b) ⟨b2, b3⟩ _ _ _ _ hkk (by show s.heap.size + (ks.1 + 1) = _; rw [List.length_append]; show _ = hd_b G + (sh.length + 1); omega) H1 locs ls hPn hS1 hl
    · refine va_newa (a0 := (b, .inl (fun _ => 0))) hx hb (hts _ (hd_at_mem o3)) rfl hK.1 hP.2 (hd_D G sh σ) hS (fun q hq => Nat.le_trans hK.2.2.2.2.1 hq) (fun _ => rfl) hn0 hnb (by show b * 1 ≤ _; omega) hcells hslots hd ?_
      intro q c1 H1 hK1 hP1 hD1 hS1
      refine hd_sized fun hz => ?_
      have hc1 : c1 = G.2.2.1 2 := hd_cA (ty := .boolean) hK rfl (hK1.2 5 (c1, .boolean) rfl).2
      subst hc1
      obtain ⟨hq, hPn⟩ := hd_newq (x := (2, b, [])) b1 hP1 hD1 hz (by show _ = _; omega) (by show Sum.inl (_, _, Sum.inl (va_up σ.1 sh.length (fun _ => 0) sh.length)) = _; rw [hd_up_eq])
      rw [hq, ← hK.2.2.2.2.2 sh.length b1]
      exact hk _ (ks.1 + 1, ks.2 + b) ⟨b2, b3⟩ _ _ _ _ hkk (by show s.heap.size + (ks.1 + 1) = _; rw [List.length_append]; show _ = hd_b G + (sh.length + 1); omega) H1 locs ls hPn hS1 hl
    · refine va_newa (a0 := (b, .inr (.inl (fun _ => 0)))) hx hb (hts _ (hd_at_mem o3)) rfl hK.1 hP.2 (hd_D G sh σ) hS (fun q hq => Nat.le_trans hK.2.2.2.2.1 hq) (fun _ => rfl) hn0 hnb (by show b * 8 ≤ _; omega) hcells hslots hd ?_
      intro q c1 H1 hK1 hP1 hD1 hS1
      refine hd_sized fun hz => ?_
      have hc1 : c1 = G.2.2.1 3 := hd_cA (ty := .long) hK rfl (hK1.2 5 (c1, .long) rfl).2
      subst hc1
      obtain ⟨hq, hPn⟩ := hd_newq (x := (3, b, [])) b1 hP1 hD1 hz (by show _ = _; omega) (by show Sum.inl (_, _, Sum.inr (Sum.inl (va_up σ.2 sh.length (fun _ => 0) sh.length))) = _; rw [hd_up_eq])
      rw [hq, ← hK.2.2.2.2.2 sh.length b1]
      exact hk _ (ks.1 + 1, ks.2 + b) ⟨b2, b3⟩ _ _ _ _ hkk (by show s.heap.size + (ks.1 + 1) = _; rw [List.length_append]; show _ = hd_b G + (sh.length + 1); omega) H1 locs ls hPn hS1 hl
  case anewarray idx =>
    obtain ⟨hok, o3⟩ := hd_and hok
    obtain ⟨o1, o2⟩ := hd_and hok
    have hd := of_decide_eq_true o1
    have e0 := hd_len1 o2; subst e0
    obtain ⟨n, st', rfl, hn, h⟩ := hd_i1_inv h
    obtain ⟨hb1, h⟩ := hd_bif h
    obtain ⟨hb1, b4⟩ := hd_and hb1
    obtain ⟨hb1, b3⟩ := hd_and hb1
    obtain ⟨b1, b2⟩ := hd_and hb1
    have b1 : sh.length < 5000 := Nat.le_of_ble_eq_true b1
    have b2 : ks.1 < mi.2.2.2.2.2.2.1 := Nat.le_of_ble_eq_true b2
    have b3 : ks.2 + b ≤ mi.2.2.2.2.2.2.2 := Nat.le_of_ble_eq_true b3
    have b4 : b < 100000 := Nat.le_of_ble_eq_true b4
    intro hsz H locs ls hP hS hl
    dsimp only at hsz hS
    have hn0 : ¬ n < 0 := by rw [hn]; exact nI_pos (by omega)
    have hnb : n.toNatClampNeg = b := by rw [hn]; exact nI_clamp (by omega)
    refine va_newq (C := "HiddenDrawers$Law") hx hb hown (hts _ (hd_at_mem o3)) hK.2.2.1 hK.1 hP.2 (hd_D G sh σ) hS (fun q hq => Nat.le_trans hK.2.2.2.2.1 hq) hn0 hnb (by omega) (by show _ ≤ R.cells; rw [hrc]; exact b2) (by show _ ≤ R.slots; rw [hrs]; exact b3) hd ?_
    intro q c1 H1 hK1 hP1 hD1 hS1
    refine hd_sized fun hz => ?_
    have hc1 : c1 = G.2.2.1 4 := hd_cA (ty := .object "HiddenDrawers$Law") hK rfl (hK1.2 5 (c1, .object "HiddenDrawers$Law") rfl).2
    subst hc1
    obtain ⟨hq, hPn⟩ := hd_newq (x := (4, b, List.replicate b 0)) b1 hP1 hD1 hz (by show _ = _; omega) (by
      show Sum.inl (_, _, Sum.inr (Sum.inr (Sum.inr (Sum.inr (fun i => hd_ro (hd_ad G) ((List.replicate b 0).getD i 0)))))) = _
      have : (fun i => hd_ro (hd_ad G) ((List.replicate b 0).getD i 0)) = fun _ => none := by
        funext i
        have : (List.replicate b 0).getD i 0 = 0 := hd_rep _ _
        rw [this]
        rfl
      rw [this])
    rw [hq, ← hK.2.2.2.2.2 sh.length b1]
    exact hk _ (ks.1 + 1, ks.2 + b) ⟨b2, b3⟩ _ _ _ _ h (by show s.heap.size + (ks.1 + 1) = _; rw [List.length_append]; show _ = hd_b G + (sh.length + 1); omega) H1 locs ls hPn hS1 hl
  case aastore =>
    obtain ⟨o1, o2⟩ := hd_and hok
    have hd := of_decide_eq_true o1
    have e0 := hd_len1 o2; subst e0
    obtain ⟨r, st1, e1, h1⟩ := hd_r1_inv h
    obtain ⟨j, q, rest, e2, h2⟩ := hd_ir_inv h1
    obtain ⟨n, rs, hq, hin, h3⟩ := hd_kr_inv h2
    obtain ⟨n', rs', hr', h4⟩ := hd_k_inv h3
    obtain ⟨h5, h6⟩ := hd_bif h4
    obtain ⟨h5, h7⟩ := hd_and h5
    have h5 : 0 < r := Nat.le_of_ble_eq_true h5
    have h7 := Nat.eq_of_beq_eq_true h7
    subst e2
    subst e1
    intro hsz H locs ls hP hS hl
    dsimp only at hsz hS
    show W _ _ _ _ _ _ _ _ _ _ _ _ _ _ _ (F0 m pc ls (.ref (hd_ad G r) :: .int j :: .ref (hd_ad G q) :: rest.map (hd_v (hd_ad G))))
    have har := hd_adq hK hP hr'
    rw [hd_adq hK hP hq, har]
    have hE4 : hd_E G σ r (12, n', rs') = .inr (2, (List.range (hd_N 2)).map (fun j => hd_fv (hd_ad G) σ r rs' 2 j)) := hd_E_obj (a := 2)
    refine va_astq (r := (RX2, TX2, 11)) hx hb hK.1 hP.2 (hd_D G sh σ) hS q 4 r 2 (hd_ws_at hq) rfl (by rw [hd_ws_at hr', hE4]) rfl hin hd (fun H1 locs1 hP1 hD1 hS1 => ?_)
    have hjn : j.toNatClampNeg < rs.length := by rw [← h7]; exact Nat.not_le.mp fun z => hin (Or.inr z)
    have hE : (.inl (G.2.2.1 4, n, .inr (.inr (.inr (.inr (va_up (fun i => hd_ro (hd_ad G) (rs.getD i 0)) j.toNatClampNeg (some (hd_b G + r))))))) : va_E) = hd_E G σ q (4, n, rs.set j.toNatClampNeg r) := by
      show _ = Sum.inl (_, _, Sum.inr (Sum.inr (Sum.inr (Sum.inr (fun i => hd_ro (hd_ad G) ((rs.set j.toNatClampNeg r).getD i 0))))))
      congr 7
      funext i
      by_cases hi : i = j.toNatClampNeg
      · subst hi
        rw [hd_up_eq]
        simp only [List.getD_eq_getElem?_getD, List.getElem?_set, if_true, hjn, Option.getD_some]
        unfold hd_ro
        cases hb0 : Nat.beq r 0 with
        | true => exact absurd (Nat.eq_of_beq_eq_true hb0) (Nat.ne_of_gt h5)
        | false => rw [har]; rfl
      · rw [hd_up_ne hi]
        simp only [List.getD_eq_getElem?_getD, List.getElem?_set, if_neg (fun z => hi z.symm : ¬ j.toNatClampNeg = i)]
    rw [show ((hd_ws G sh σ).set q (hd_b G + q, _)) = hd_ws G (sh.set q (4, n, rs.set j.toNatClampNeg r)) σ from (by rw [← hd_ws_set (hd_len hq), ← hE])] at hP1
    exact hk _ ks hks _ _ _ _ h6 (by rw [List.length_set]; exact hsz) H1 locs1 ls ⟨by rw [List.length_set]; exact hP.1, hP1⟩ hS1 hl
  case putfield idx =>
    replace hok : (bif Nat.beq (b / 100) 2 then decide (decode mi.2.1 pc = .ok (.putfield idx, len)) && Nat.beq len 3 && hd_fok mi idx a b sw && (match vwCl[a]? with
      | some q => (q.2.1 (b % 100)).2.2.2 && decide (mi.1.name = "<init>") && decide ((q.2.1 (b % 100)).1 = mi.1.cls)
      | none => false) else hd_okb mi (pc, .putfield idx, len, a, b, c, d, sw, ce)) = true := hok
    replace h : bif Nat.beq (b / 100) 2 then hd_puR sh a b st (fun sh st => k sh ks (pc + len) lv st σ) else hd_step G mi (Z sh ks) sh (.putfield idx) pc len a b c d sw ce lv st σ (k sh ks) := h
    cases hb2 : Nat.beq (b / 100) 2 with
    | false =>
      rw [hb2] at hok h
      exact hd_step_ok hC0 hks hZ hok hcd (hk sh ks hks) h
    | true =>
      rw [hb2] at hok h
      replace h : hd_puR sh a b st (fun sh st => k sh ks (pc + len) lv st σ) := h
      obtain ⟨hok, o4⟩ := hd_and hok
      obtain ⟨hok, o3⟩ := hd_and hok
      obtain ⟨o1, o2⟩ := hd_and hok
      have hd := of_decide_eq_true o1
      have e0 := hd_len1 o2; subst e0
      obtain ⟨r, q, rest, n, rs, e1, hq, hr0, hrl, hrn, hkk⟩ := hd_puR_inv h
      subst e1
      have hkd : hd_fk a (b % 100) = 2 := by
        have hb2 := Nat.eq_of_beq_eq_true hb2
        rcases hd_fok_k o3 with z | z
        · rw [z, hb2]
        · exact z.2
      unfold hd_fok at o3
      split at o3
      · rename_i cq hcq
        rw [hcq] at o4
        obtain ⟨o4, o7⟩ := hd_and o4
        obtain ⟨o5, o6⟩ := hd_and o4
        obtain ⟨o3, -⟩ := hd_and o3
        obtain ⟨h1, h2⟩ := hd_and o3
        have h1 : b % 100 < cq.2.2 := Nat.le_of_ble_eq_true h1
        obtain ⟨g1, g2, g3, g4⟩ := hd_clok hcq
        intro hsz H locs ls hP hS hl
        dsimp only at hsz hS
        have hty : (∃ c, hd_ft a (b % 100) = .object c) ∨ ∃ t, hd_ft a (b % 100) = .array t := by
          have hkd' := hkd
          unfold hd_fk at hkd'
          split at hkd'
          · cases hkd'
          · cases hkd'
          · exact Or.inl ⟨_, by assumption⟩
          · exact Or.inr ⟨_, by assumption⟩
          · cases hkd'
          · cases hkd'
        show W _ _ _ _ _ _ _ _ _ _ _ _ _ _ _ (F0 m pc ls (.ref (hd_ad G r) :: .ref (hd_ad G q) :: rest.map (hd_v (hd_ad G))))
        rw [hd_adq hK hP hq]
        refine va_putF (C := cq.1) (T := cq.2.1) (N := cq.2.2) (ci := a) hx hb hts g1 (hd_ft a) g2 g3 hown hK.1 hP.2 (hd_D G sh σ) hS q (by rw [hd_ws_at hq, hd_E_obj]) (by rw [hcq]) (b % 100) h1 (hts _ (hd_at_mem h2)) (fun _ z => z) o5 (by rw [hname]; exact of_decide_eq_true o6) (of_decide_eq_true o7) (g2 _ h1) (by rcases hty with ⟨c, hty⟩ | ⟨c, hty⟩ <;> rw [hty] <;> rfl) (by rcases hty with ⟨c, hty⟩ | ⟨c, hty⟩ <;> rw [hty] <;> rfl) (by simp [g4, h1]) hd ?_
        intro H1 locs1 hP1 hD1 hS1
        have hE : (.inr (a, ((List.range (hd_N a)).map (fun j => hd_fv (hd_ad G) σ q rs a j)).set (b % 100) (.ref (hd_ad G r))) : va_E) = hd_E G σ q (10 + a, n, rs.set (b % 100) r) := by
          rw [hd_E_obj]
          congr 2
          apply List.ext_getElem?
          intro i
          rw [List.getElem?_set]
          by_cases hi : b % 100 = i
          · subst hi
            have hbl : b % 100 < rs.length := by rw [hrn, g4]; exact h1
            have hbl2 : b % 100 < hd_N a := by rw [g4]; exact h1
            rw [if_pos rfl, if_pos (by simp [hbl2])]
            simp only [List.getElem?_map, List.getElem?_range hbl2, Option.map_some]
            rw [hd_fv2 hkd]
            simp only [List.getD_eq_getElem?_getD, List.getElem?_set, if_true, hbl, Option.getD_some]
            rw [hd_rv_ne (Nat.ne_of_gt hr0)]
          · rw [if_neg hi]
            by_cases hl2 : i < hd_N a
            · simp only [List.getElem?_map, List.getElem?_range hl2, Option.map_some]
              unfold hd_fv
              simp only [List.getD_eq_getElem?_getD, List.getElem?_set, if_neg hi]
            · simp [hl2]
        rw [hE, hd_ws_set (hd_len hq)] at hP1
        exact hk _ ks hks _ _ _ _ hkk (by rw [List.length_set]; exact hsz) H1 locs1 ls ⟨by rw [List.length_set]; exact hP.1, hP1⟩ hS1 hl
      · cases o3
  case invokespecial idx =>
    replace h : bif Nat.beq a 4 then hd_inI G mi ce b sh ks st σ (fun sh ks st σ => k sh ks (pc + len) lv st σ) else hd_step G mi (Z sh ks) sh (.invokespecial idx) pc len a b c d sw ce lv st σ (k sh ks) := h
    replace hok : (bif Nat.beq a 4 then decide (decode mi.2.1 pc = .ok (.invokespecial idx, len)) && Nat.beq len 3 && (bif hd_isN sw then hd_lnkN mi idx sw ce.1 else hd_lnk mi idx sw ce.1) && hd_cal mi b sw ce && hd_at sw 3 (.instanceMethod ce.1) && decide (ce.1.name = "<init>") && decide (ce.2.2.2.1 = none) else hd_okb mi (pc, .invokespecial idx, len, a, b, c, d, sw, ce)) = true := hok
    cases ha4 : Nat.beq a 4 with
    | false =>
      rw [ha4] at hok
      rw [ha4] at h
      exact hd_step_ok hC0 hks hZ hok hcd (hk sh ks hks) h
    | true =>
      rw [ha4] at hok h
      replace h : hd_inI G mi ce b sh ks st σ (fun sh ks st σ => k sh ks (pc + len) lv st σ) := h
      obtain ⟨hok, o7⟩ := hd_and hok
      obtain ⟨hok, o6⟩ := hd_and hok
      obtain ⟨hok, o5⟩ := hd_and hok
      obtain ⟨hok, o4⟩ := hd_and hok
      obtain ⟨hok, o3⟩ := hd_and hok
      obtain ⟨o1, o2⟩ := hd_and hok
      have hd := of_decide_eq_true o1
      have e0 := hd_len1 o2; subst e0
      obtain ⟨q, as, rest, htk, hs8, hc1, hc2, hE⟩ := hd_inI_inv h
      obtain ⟨hst, hln⟩ := hd_take_ok htk
      have hst : as.reverse ++ Value.ref q :: rest = st := by simpa using hst
      have hln : as.length = b := by simpa using hln
      have hlk : Cond.methodLink mi.1.cls idx ce.1 ∈ lw_g ∨ Cond.methodLinkNest mi.1.cls idx ce.1 "HiddenDrawers" ∈ hd_nest := by
        cases hn : hd_isN sw with
        | true =>
          rw [hn] at o3
          have o3 : hd_lnkN mi idx sw ce.1 = true := o3
          unfold hd_lnkN at o3
          split at o3
          · exact Or.inr (List.mem_of_getElem? (of_decide_eq_true o3))
          · cases o3
        | false =>
          rw [hn] at o3
          exact Or.inl (hd_at_mem o3)
      rw [← hst]
      refine hd_callI hC0 hd hlk (hd_at_mem o5) (of_decide_eq_true o6) (of_decide_eq_true o7) o4 (by have hcd' : bif Nat.beq a 4 then hd_cdc ce else True := hcd; rw [ha4] at hcd'; exact hcd') ⟨hc1, hc2⟩ hln hs8 hE (fun r sh' σ' hp => ?_)
      obtain ⟨rfl, hp⟩ := hp
      exact hk _ (ks.1 + ce.2.2.2.2.2.2.1, ks.2 + ce.2.2.2.2.2.2.2) ⟨hc1, hc2⟩ _ _ _ _ hp
  all_goals exact hd_step_ok hC0 hks hZ hok hcd (hk sh ks hks) h
def hd_wpA (G : hd_G) (mi : hd_I) (X : hd_X) (Z : hd_S → Nat × Nat → Option Value → hd_M → Prop) (rows : List hd_R) (cuts : List (Nat × List Nat)) : Nat → hd_S → Nat × Nat → Nat → hd_L → List Value → hd_M → Prop
  | 0, sh, ks, pc, lv, st, σ => hd_J G mi X sh ks pc lv st σ
  | n + 1, sh, ks, pc, lv, st, σ => match hd_find pc rows with
    | none => False
    | some (pc, i, len, a, b, c, d, sw, ce) => hd_stepA G mi Z sh ks i pc len a b c d sw ce lv st σ (fun sh ks pc lv st σ => match hd_cut pc cuts with
      | some live => hd_J G mi X sh ks pc (hd_pick live lv) st σ
      | none => hd_wpA G mi X Z rows cuts n sh ks pc lv st σ)
theorem hd_wpA_ok {G : hd_G} {mi : hd_I} {X : hd_X} {Z : hd_S → Nat × Nat → Option Value → hd_M → Prop} {rows : List hd_R} {cuts : List (Nat × List Nat)} (hC : hd_C G mi X) (hZ : ∀ sh ks, hd_Zok G mi X (Z sh ks) sh ks) (hrows : rows.all (hd_okA mi) = true) (hcs : hd_cdl rows) : ∀ (n : Nat) (sh : hd_S) (ks : Nat × Nat), (ks.1 + 0 ≤ mi.2.2.2.2.2.2.1 ∧ ks.2 + 0 ≤ mi.2.2.2.2.2.2.2) → ∀ (pc : Nat) (lv : hd_L) (st : List Value) (σ : hd_M), hd_wpA G mi X Z rows cuts n sh ks pc lv st σ → hd_J G mi X sh ks pc lv st σ
  | 0, _, _, _, _, _, _, _, h => h
  | n + 1, sh, ks, hks, pc, lv, st, σ, h => by
    unfold hd_wpA at h
    split at h
    · exact h.elim
    · rename_i pc' i len a b c d sw ce hf
      obtain ⟨h1, h2⟩ := hd_find_ok hf
      have h2 : pc' = pc := h2
      subst h2
      refine hd_stepA_ok hC hks (hZ sh ks) (List.all_eq_true.mp hrows _ h1) (hd_cdl_mem hcs _ h1) (fun sh' ks' hks' pc lv st σ hk => ?_) h
      split at hk
      · rename_i live hc
        intro hsz H locs ls hP hS hl
        exact hk hsz H locs ls hP hS (hd_has_pick hl)
      · exact hd_wpA_ok hC hZ hrows hcs n sh' ks' hks' pc lv st σ hk
/-- a constructor's end -/
def hd_Zc (mi : hd_I) (n : Nat) (P : hd_S → hd_M → Prop) : hd_S → Nat × Nat → Option Value → hd_M → Prop := fun sh ks r σ => match r with
  | none => (sh.length = n ∧ ks.1 ≤ mi.2.2.2.2.2.2.1 ∧ ks.2 ≤ mi.2.2.2.2.2.2.2) ∧ P sh σ
  | some _ => False
def hd_CA (G : hd_G) (mi : hd_I) (X : hd_X) (Z : hd_S → Nat × Nat → Option Value → hd_M → Prop) : Prop := hd_C G mi X ∧ ∀ sh ks, hd_Zok G mi X (Z sh ks) sh ks
theorem hd_walkA {G : hd_G} {mi : hd_I} {X : hd_X} {Z : hd_S → Nat × Nat → Option Value → hd_M → Prop} {rows : List hd_R} (cuts : List (Nat × List Nat)) {sh : hd_S} {ks : Nat × Nat} (n : Nat) {pc : Nat} {lv : hd_L} {st : List Value} {σ : hd_M} (hX : hd_CA G mi X Z) (hks : Nat.ble ks.1 mi.2.2.2.2.2.2.1 = true ∧ Nat.ble ks.2 mi.2.2.2.2.2.2.2 = true) (hrows : rows.all (hd_okA mi) = true ∧ hd_cdl rows) (h : hd_wpA G mi X Z rows cuts n sh ks pc lv st σ) : hd_J G mi X sh ks pc lv st σ := hd_wpA_ok hX.1 hX.2 hrows.1 hrows.2 n sh ks ⟨Nat.le_of_ble_eq_true hks.1, Nat.le_of_ble_eq_true hks.2⟩ pc lv st σ h
theorem EVc_of {G : hd_G} {mi : hd_I} {sh : hd_S} {as : List Value} {σ : hd_M} {P : hd_S → hd_M → Prop} (hy : plainName mi.1.cls = true) (hal : Nat.ble (hd_al2 as) mi.2.2.1 = true) (hret : mi.2.2.2.1 = none) (h : ∀ X, hd_CA G mi X (hd_Zc mi (sh.length + mi.2.2.2.2.2.2.1) P) → hd_J G mi X sh (0, 0) 0 (hd_ar 0 as) [] σ) : EVc G mi sh as σ P := by
  unfold EVc hd_EV
  refine Met.ofW (cc := mi.2.1) (maxL := mi.2.2.1) (ret := mi.2.2.2.1) hy rfl ?_
  intro p e s m args below meth c s₁ B hml hv
  obtain ⟨rfl, hK, hP, hsz⟩ := hv
  have hts := atoms_spec (ws := hd_wm mi) B.pre
  have hlocks := B.notSynchronized
  have hC : hd_C G mi (p, e, (headSpec (hd_wm mi) (hd_rm mi)).room, s, m, (as.map (hd_v (hd_ad G))).toArray, below, meth, c, MQ below (hd_Qc G (sh.length + mi.2.2.2.2.2.2.1) (fun r sh' σ' => r = none ∧ P sh' σ')) (as.map (hd_v (hd_ad G))).toArray s mi.2.2.2.2.2.2.1 mi.2.2.2.2.2.2.2 (hd_A G)) :=
    ⟨B.exec, B.bytes, B.returns, hml, findClass_of_methodNamed B.named, fun w hw => hts w (List.mem_cons_of_mem _ hw), B.notSynchronized, hK, (name_of_methodNamed B.named B.method).1, Nat.le_refl _, Nat.le_refl _, rfl, rfl⟩
  have hl := lv_entry (as.map (hd_v (hd_ad G))) (n := mi.2.2.1) (by rw [hd_al2_eq]; exact Nat.le_of_ble_eq_true hal)
  rw [lg_entry_eq]
  rw [hd_ar_eq] at hl
  refine h _ ⟨hC, fun sh' ks' => ?_⟩ (by show s.heap.size + 0 = _; rw [hsz]; rfl) s.heap [] _ hP va_S.rf hl
  refine ⟨fun v σ H locs ls pc h hP hS hd => ?_, fun v σ H locs ls pc h hP hS hd => ?_, fun v σ H locs ls pc h hP hS hd => ?_, fun σ H locs ls pc h hP hS hd => ?_⟩
  · rw [hret] at h; exact h.elim
  · rw [hret] at h; exact h.elim
  · rw [hret] at h; exact h.elim
  · rw [hret] at h
    obtain ⟨⟨z1, z2, z3⟩, z4⟩ := h
    refine W.widen z2 z3 ?_
    exact W.vret B.exec B.bytes (B.returns.trans hret) (fun t ht _ => ⟨⟨none, sh', σ, rfl, ⟨rfl, z4⟩, by rw [ht]; exact hP, z1⟩, hS.F ht⟩) hS.2.2 hd hlocks
end
section
/-! written by wip/whole/gen_all.py: the methods, the shape behind the two constructors -/
def hd_i0 : hd_I := (yX8_isIn, cX8_isIn, 0, none, 0, 0, 0, 0)
def SH : hd_S := [(17, 0, [1, 0, 0, 0, 2, 9, 16, 53, 62, 78, 81, 87, 93, 0]), (1, 300, []), (11, 0, [3, 0, 0, 0, 0, 0, 4, 5, 0, 6, 7, 0, 8, 0]), (0, 6, []), (0, 30, []), (0, 30, []), (0, 12, []), (0, 12, []), (0, 10, []), (11, 0, [10, 0, 0, 0, 0, 0, 11, 12, 0, 13, 14, 0, 15, 0]), (0, 6, []), (0, 30, []), (0, 30, []), (0, 12, []), (0, 12, []), (0, 10, []), (4, 4, [17, 26, 35, 44]), (12, 0, [18, 0, 19, 20, 21, 22, 23, 0, 24, 25, 0]), (0, 300, []), (0, 9, []), (0, 9, []), (0, 24, []), (0, 24, []), (0, 24, []), (0, 24, []), (0, 24, []), (12, 0, [27, 0, 28, 29, 30, 31, 32, 0, 33, 34, 0]), (0, 300, []), (0, 9, []), (0, 9, []), (0, 24, []), (0, 24, []), (0, 24, []), (0, 24, []), (0, 24, []), (12, 0, [36, 0, 37, 38, 39, 40, 41, 0, 42, 43, 0]), (0, 300, []), (0, 9, []), (0, 9, []), (0, 24, []), (0, 24, []), (0, 24, []), (0, 24, []), (0, 24, []), (12, 0, [45, 0, 46, 47, 48, 49, 50, 0, 51, 52, 0]), (0, 300, []), (0, 9, []), (0, 9, []), (0, 24, []), (0, 24, []), (0, 24, []), (0, 24, []), (0, 24, []), (12, 0, [54, 0, 55, 56, 57, 58, 59, 0, 60, 61, 0]), (0, 300, []), (0, 9, []), (0, 9, []), (0, 24, []), (0, 24, []), (0, 24, []), (0, 24, []), (0, 24, []), (13, 0, [63, 0, 0, 0, 77, 0, 0, 0, 0, 0, 0, 0]), (16, 0, [64, 65, 66, 0, 0, 0, 0, 0, 0, 0, 0]), (0, 301, []), (0, 301, []), (0, 301, []), (1, 0, []), (12, 0, [69, 0, 70, 71, 72, 73, 74, 0, 75, 76, 0]), (0, 300, []), (0, 9, []), (0, 9, []), (0, 24, []), (0, 24, []), (0, 24, []), (0, 24, []), (0, 24, []), (0, 300, []), (14, 0, [3, 79, 0, 80]), (0, 10, []), (0, 64, []), (15, 0, [78, 82, 83, 84, 85, 86, 0, 0, 0, 0, 0]), (0, 3000, []), (0, 3000, []), (0, 3000, []), (0, 3000, []), (0, 8192, []), (10, 0, [78, 88, 0, 89, 0, 90, 91, 92]), (0, 2187, []), (0, 2187, []), (0, 2187, []), (0, 2187, []), (0, 32805, []), (0, 4, []), (18, 0, [95, 96, 97, 98, 0, 0, 0, 0, 0, 0, 0, 0, 0, 0, 0, 0, 99, 0, 0, 0, 0, 0, 100, 101, 102, 103, 104, 0, 105, 106, 107, 108, 109, 110, 0, 0, 111, 112, 113, 114, 115]), (0, 334, []), (0, 334, []), (0, 2920, []), (0, 300, []), (0, 160, []), (0, 10, []), (3, 330, []), (2, 330, []), (0, 6, []), (0, 6, []), (0, 3000, []), (0, 3000, []), (0, 3000, []), (0, 3000, []), (0, 3000, []), (0, 4096, []), (2, 2187, []), (2, 2187, []), (0, 32805, []), (0, 2187, []), (0, 11, [])]
def hd_law (q : Nat) : Prop := q = 17 ∨ q = 26 ∨ q = 35 ∨ q = 44 ∨ q = 53 ∨ q = 68
theorem pn_J6 : plainName yJ6_bitCount_0f7a4.cls = true := by decide +kernel
theorem pn_J7 : plainName yJ7_fill_53178.cls = true := by decide +kernel
theorem pn_X0 : plainName yX0_actsInto.cls = true := by decide +kernel
theorem pn_X1 : plainName yX1_addStep.cls = true := by decide +kernel
theorem pn_X2 : plainName yX2_addCode.cls = true := by decide +kernel
theorem pn_X3 : plainName yX3_addOne.cls = true := by decide +kernel
theorem pn_X4 : plainName yX4_ballAfter.cls = true := by decide +kernel
theorem pn_X5 : plainName yX5_actsUntil.cls = true := by decide +kernel
theorem pn_X6 : plainName yX6_add.cls = true := by decide +kernel
theorem pn_X7 : plainName yX7_about.cls = true := by decide +kernel
theorem pn_X8 : plainName yX8_about.cls = true := by decide +kernel
def mJ6_bitCount_0f7a4 : hd_I := (yJ6_bitCount_0f7a4, cJ6_bitCount_0f7a4, 1, (some .int), 0, 0, 0, 0)
def mJ7_fill_53178 : hd_I := (yJ7_fill_53178, cJ7_fill_53178, 4, none, 0, 0, 0, 0)
def mX0_actsInto : hd_I := (yX0_actsInto, cX0_actsInto, 5, (some .int), 6, 146, 0, 0)
def mX0_follow : hd_I := (yX0_follow, cX0_follow, 6, none, 5, 121, 0, 0)
def mX0_hope : hd_I := (yX0_hope, cX0_hope, 2, none, 0, 0, 0, 0)
def mX0_hopeWhereItCameFrom : hd_I := (yX0_hopeWhereItCameFrom, cX0_hopeWhereItCameFrom, 4, none, 1, 21, 0, 0)
def mX0_hopelessActs : hd_I := (yX0_hopelessActs, cX0_hopelessActs, 6, (some .int), 5, 121, 0, 0)
def mX0_reach : hd_I := (yX0_reach, cX0_reach, 3, none, 4, 96, 0, 0)
def mX1_addStep : hd_I := (yX1_addStep, cX1_addStep, 3, none, 1, 60, 0, 0)
def mX1_copyFrom : hd_I := (yX1_copyFrom, cX1_copyFrom, 2, none, 2, 81, 0, 0)
def mX1_copyRow : hd_I := (yX1_copyRow, cX1_copyRow, 2, none, 1, 60, 0, 0)
def mX1_sizeOfHollows : hd_I := (yX1_sizeOfHollows, cX1_sizeOfHollows, 4, (some .int), 0, 0, 0, 0)
def mX1_takeStepBack : hd_I := (yX1_takeStepBack, cX1_takeStepBack, 1, (some .boolean), 0, 0, 0, 0)
def mX2_addCode : hd_I := (yX2_addCode, cX2_addCode, 2, none, 0, 0, 0, 0)
def mX2_addDo : hd_I := (yX2_addDo, cX2_addDo, 3, none, 0, 0, 0, 0)
def mX2_addSet : hd_I := (yX2_addSet, cX2_addSet, 4, none, 0, 0, 0, 0)
def mX2_clear : hd_I := (yX2_clear, cX2_clear, 1, none, 1, 23, 0, 0)
def mX2_has : hd_I := (yX2_has, cX2_has, 2, (some .boolean), 0, 0, 0, 0)
def mX3_addOne : hd_I := (yX3_addOne, cX3_addOne, 3, none, 1, 21, 0, 0)
def mX3_blame : hd_I := (yX3_blame, cX3_blame, 2, none, 0, 0, 0, 0)
def mX3_closeBracket : hd_I := (yX3_closeBracket, cX3_closeBracket, 1, none, 2, 43, 0, 0)
def mX3_isNameOf : hd_I := (yX3_isNameOf, cX3_isNameOf, 2, (some .boolean), 0, 0, 0, 0)
def mX3_join : hd_I := (yX3_join, cX3_join, 2, none, 2, 43, 0, 0)
def mX3_nestIn : hd_I := (yX3_nestIn, cX3_nestIn, 2, none, 1, 21, 0, 0)
def mX3_putToWait : hd_I := (yX3_putToWait, cX3_putToWait, 2, none, 0, 0, 0, 0)
def mX3_read : hd_I := (yX3_read, cX3_read, 5, (some .int), 9, 192, 0, 0)
def mX3_readClause : hd_I := (yX3_readClause, cX3_readClause, 5, none, 5, 111, 0, 0)
def mX3_readRule : hd_I := (yX3_readRule, cX3_readRule, 3, none, 4, 87, 0, 0)
def mX3_readSet : hd_I := (yX3_readSet, cX3_readSet, 5, none, 4, 87, 0, 0)
def mX3_release : hd_I := (yX3_release, cX3_release, 3, none, 1, 21, 0, 0)
def mX3_strengthOf : hd_I := (yX3_strengthOf, cX3_strengthOf, 1, (some .int), 0, 0, 0, 0)
def mX3_takeNumber : hd_I := (yX3_takeNumber, cX3_takeNumber, 2, (some .int), 3, 66, 0, 0)
def mX3_takeOne : hd_I := (yX3_takeOne, cX3_takeOne, 3, none, 2, 43, 0, 0)
def mX3_takeOperator : hd_I := (yX3_takeOperator, cX3_takeOperator, 4, none, 3, 64, 0, 0)
def mX3_takeToken : hd_I := (yX3_takeToken, cX3_takeToken, 2, none, 2, 45, 0, 0)
def mX3_takeWhenPart : hd_I := (yX3_takeWhenPart, cX3_takeWhenPart, 2, (some .int), 4, 87, 0, 0)
def mX4_ballAfter : hd_I := (yX4_ballAfter, cX4_ballAfter, 9, (some .int), 3, 74, 0, 0)
def mX4_gather : hd_I := (yX4_gather, cX4_gather, 3, (some .int), 0, 0, 0, 0)
def mX4_heardOf : hd_I := (yX4_heardOf, cX4_heardOf, 6, (some .int), 3, 74, 0, 0)
def mX4_isOpen : hd_I := (yX4_isOpen, cX4_isOpen, 3, (some .boolean), 3, 74, 0, 0)
def mX4_isPlace : hd_I := (yX4_isPlace, cX4_isPlace, 3, (some .boolean), 0, 0, 0, 0)
def mX4_joined : hd_I := (yX4_joined, cX4_joined, 5, (some .int), 1, 24, 0, 0)
def mX4_partsMoved : hd_I := (yX4_partsMoved, cX4_partsMoved, 6, (some .int), 0, 0, 0, 0)
def mX4_pushed : hd_I := (yX4_pushed, cX4_pushed, 5, (some .int), 3, 74, 0, 0)
def mX4_setBy : hd_I := (yX4_setBy, cX4_setBy, 4, none, 1, 22, 0, 0)
def mX4_show : hd_I := (yX4_show, cX4_show, 4, none, 0, 0, 0, 0)
def mX4_standingAfter : hd_I := (yX4_standingAfter, cX4_standingAfter, 4, (some .int), 4, 98, 0, 0)
def mX4_standingOrSame : hd_I := (yX4_standingOrSame, cX4_standingOrSame, 5, (some .int), 5, 121, 0, 0)
def mX4_tilted : hd_I := (yX4_tilted, cX4_tilted, 3, (some .int), 2, 45, 0, 0)
def mX4_valueOf : hd_I := (yX4_valueOf, cX4_valueOf, 7, (some .int), 2, 48, 0, 0)
def mX5_actsUntil : hd_I := (yX5_actsUntil, cX5_actsUntil, 4, (some .int), 0, 0, 0, 0)
def mX5_answerOf : hd_I := (yX5_answerOf, cX5_answerOf, 4, (some .int), 0, 0, 0, 0)
def mX5_reach : hd_I := (yX5_reach, cX5_reach, 6, none, 4, 96, 0, 0)
def mX5_seek : hd_I := (yX5_seek, cX5_seek, 9, none, 6, 145, 0, 0)
def mX5_slotOf : hd_I := (yX5_slotOf, cX5_slotOf, 6, (some .int), 0, 0, 0, 0)
def mX6_add : hd_I := (yX6_add, cX6_add, 3, none, 0, 0, 0, 0)
def mX6_advance : hd_I := (yX6_advance, cX6_advance, 2, none, 1, 24, 0, 0)
def mX6_find : hd_I := (yX6_find, cX6_find, 4, none, 8, 169, 0, 0)
def mX6_findNumber : hd_I := (yX6_findNumber, cX6_findNumber, 3, none, 1, 24, 0, 0)
def mX6_findOne : hd_I := (yX6_findOne, cX6_findOne, 2, none, 7, 148, 0, 0)
def mX6_findSign : hd_I := (yX6_findSign, cX6_findSign, 3, none, 1, 22, 0, 0)
def mX6_isDigit : hd_I := (yX6_isDigit, cX6_isDigit, 1, (some .boolean), 0, 0, 0, 0)
def mX6_isLetter : hd_I := (yX6_isLetter, cX6_isLetter, 1, (some .boolean), 0, 0, 0, 0)
def mX6_isWord : hd_I := (yX6_isWord, cX6_isWord, 3, (some .boolean), 5, 106, 0, 0)
def mX6_kindOfLetter : hd_I := (yX6_kindOfLetter, cX6_kindOfLetter, 1, (some .int), 0, 0, 0, 0)
def mX6_kindOfSign : hd_I := (yX6_kindOfSign, cX6_kindOfSign, 1, (some .int), 0, 0, 0, 0)
def mX6_kindOfWord : hd_I := (yX6_kindOfWord, cX6_kindOfWord, 1, (some .int), 6, 128, 0, 0)
def mX7_about : hd_I := (yX7_about, cX7_about, 2, (some .int), 0, 0, 0, 0)
def mX7_act : hd_I := (yX7_act, cX7_act, 5, (some .int), 6, 145, 0, 0)
def mX7_answerTo : hd_I := (yX7_answerTo, cX7_answerTo, 5, (some .int), 5, 121, 0, 0)
def mX7_back : hd_I := (yX7_back, cX7_back, 1, (some .int), 3, 102, 0, 0)
def mX7_by : hd_I := (yX7_by, cX7_by, 2, (some .boolean), 1, 21, 0, 0)
def mX7_can : hd_I := (yX7_can, cX7_can, 2, (some .boolean), 5, 121, 0, 0)
def mX7_carts : hd_I := (yX7_carts, cX7_carts, 6, (some .int), 6, 145, 0, 0)
def mX7_causeOfPush : hd_I := (yX7_causeOfPush, cX7_causeOfPush, 2, (some .int), 0, 0, 0, 0)
def mX7_causeOfTilt : hd_I := (yX7_causeOfTilt, cX7_causeOfTilt, 1, (some .int), 0, 0, 0, 0)
def mX7_end : hd_I := (yX7_end, cX7_end, 2, (some .int), 0, 0, 0, 0)
def mX7_fault : hd_I := (yX7_fault, cX7_fault, 2, (some .int), 0, 0, 0, 0)
def mX7_feed : hd_I := (yX7_feed, cX7_feed, 6, (some .int), 1, 22, 0, 0)
def mX7_fewest : hd_I := (yX7_fewest, cX7_fewest, 3, (some .int), 7, 173, 0, 0)
def mX7_fits : hd_I := (yX7_fits, cX7_fits, 3, (some .int), 7, 169, 0, 0)
def mX7_forever : hd_I := (yX7_forever, cX7_forever, 1, (some .int), 7, 170, 0, 0)
def mX7_forget : hd_I := (yX7_forget, cX7_forget, 2, (some .int), 0, 0, 0, 0)
def mX7_hollow : hd_I := (yX7_hollow, cX7_hollow, 2, (some .int), 0, 0, 0, 0)
def mX7_image : hd_I := (yX7_image, cX7_image, 1, (some .int), 3, 102, 0, 0)
def mX7_isText : hd_I := (yX7_isText, cX7_isText, 2, (some .boolean), 0, 0, 0, 0)
def mX7_measure : hd_I := (yX7_measure, cX7_measure, 5, (some .int), 1, 23, 0, 0)
def mX7_mostAlike : hd_I := (yX7_mostAlike, cX7_mostAlike, 8, (some .int), 6, 145, 0, 0)
def mX7_move : hd_I := (yX7_move, cX7_move, 5, (some .int), 5, 121, 0, 0)
def mX7_next : hd_I := (yX7_next, cX7_next, 6, (some .int), 7, 172, 0, 0)
def mX7_now : hd_I := (yX7_now, cX7_now, 2, (some .int), 4, 96, 0, 0)
def mX7_part : hd_I := (yX7_part, cX7_part, 2, (some .int), 0, 0, 0, 0)
def mX7_place : hd_I := (yX7_place, cX7_place, 2, (some .int), 1, 23, 0, 0)
def mX7_placeIn : hd_I := (yX7_placeIn, cX7_placeIn, 4, (some .int), 0, 0, 0, 0)
def mX7_played : hd_I := (yX7_played, cX7_played, 4, (some .int), 7, 169, 0, 0)
def mX7_putFour : hd_I := (yX7_putFour, cX7_putFour, 3, none, 0, 0, 0, 0)
def mX7_rulingLaw : hd_I := (yX7_rulingLaw, cX7_rulingLaw, 1, (some (.object "HiddenDrawers$Law")), 1, 21, 0, 0)
def mX7_standingBehindTrials : hd_I := (yX7_standingBehindTrials, cX7_standingBehindTrials, 5, (some .int), 6, 145, 0, 0)
def mX7_text : hd_I := (yX7_text, cX7_text, 1, (some .int), 10, 216, 0, 0)
def mX7_tried : hd_I := (yX7_tried, cX7_tried, 3, (some .int), 0, 0, 0, 0)
def mX7_undo : hd_I := (yX7_undo, cX7_undo, 1, (some .int), 1, 20, 0, 0)
def mX7_whatever : hd_I := (yX7_whatever, cX7_whatever, 6, (some .int), 7, 173, 0, 0)
def mX8_about : hd_I := (yX8_about, cX8_about, 2, (some .int), 1, 22, 0, 0)
def mX8_act : hd_I := (yX8_act, cX8_act, 2, (some .int), 7, 172, 0, 0)
def mX8_actsTo : hd_I := (yX8_actsTo, cX8_actsTo, 6, (some .int), 0, 0, 0, 0)
def mX8_alike : hd_I := (yX8_alike, cX8_alike, 7, (some .int), 7, 171, 0, 0)
def mX8_asked : hd_I := (yX8_asked, cX8_asked, 4, (some .int), 7, 156, 0, 0)
def mX8_asks : hd_I := (yX8_asks, cX8_asks, 5, (some .int), 5, 107, 0, 0)
def mX8_back : hd_I := (yX8_back, cX8_back, 1, (some .int), 1, 22, 0, 0)
def mX8_beginOne : hd_I := (yX8_beginOne, cX8_beginOne, 2, (some .int), 3, 65, 0, 0)
def mX8_behindOne : hd_I := (yX8_behindOne, cX8_behindOne, 2, (some .int), 3, 64, 0, 0)
def mX8_by : hd_I := (yX8_by, cX8_by, 2, (some .boolean), 1, 22, 0, 0)
def mX8_byteAt : hd_I := (yX8_byteAt, cX8_byteAt, 2, (some .int), 0, 0, 0, 0)
def mX8_can : hd_I := (yX8_can, cX8_can, 2, (some .boolean), 5, 123, 0, 0)
def mX8_canBe : hd_I := (yX8_canBe, cX8_canBe, 5, (some .boolean), 4, 99, 0, 0)
def mX8_carts : hd_I := (yX8_carts, cX8_carts, 6, (some .int), 7, 172, 0, 0)
def mX8_clause : hd_I := (yX8_clause, cX8_clause, 5, (some .int), 8, 179, 0, 0)
def mX8_clausesOf : hd_I := (yX8_clausesOf, cX8_clausesOf, 2, (some .int), 0, 0, 0, 0)
def mX8_clip : hd_I := (yX8_clip, cX8_clip, 2, (some .long), 0, 0, 0, 0)
def mX8_compareOf : hd_I := (yX8_compareOf, cX8_compareOf, 1, (some .int), 0, 0, 0, 0)
def mX8_copy : hd_I := (yX8_copy, cX8_copy, 3, none, 0, 0, 0, 0)
def mX8_doNow : hd_I := (yX8_doNow, cX8_doNow, 4, (some .int), 6, 149, 0, 0)
def mX8_does : hd_I := (yX8_does, cX8_does, 7, (some .int), 5, 123, 0, 0)
def mX8_either : hd_I := (yX8_either, cX8_either, 6, (some .int), 6, 131, 0, 0)
def mX8_emit : hd_I := (yX8_emit, cX8_emit, 3, none, 0, 0, 0, 0)
def mX8_end : hd_I := (yX8_end, cX8_end, 2, (some .int), 1, 22, 0, 0)
def mX8_fault : hd_I := (yX8_fault, cX8_fault, 2, (some .int), 0, 0, 0, 0)
def mX8_feed : hd_I := (yX8_feed, cX8_feed, 6, (some .int), 1, 22, 0, 0)
def mX8_fewest : hd_I := (yX8_fewest, cX8_fewest, 2, (some .int), 8, 203, 0, 0)
def mX8_figure : hd_I := (yX8_figure, cX8_figure, 3, (some .int), 3, 64, 0, 0)
def mX8_findFree : hd_I := (yX8_findFree, cX8_findFree, 6, none, 6, 142, 0, 0)
def mX8_fits : hd_I := (yX8_fits, cX8_fits, 3, (some .int), 7, 171, 0, 0)
def mX8_forever : hd_I := (yX8_forever, cX8_forever, 4, (some .int), 8, 198, 0, 0)
def mX8_forget : hd_I := (yX8_forget, cX8_forget, 2, (some .int), 0, 0, 0, 0)
def mX8_four : hd_I := (yX8_four, cX8_four, 3, none, 0, 0, 0, 0)
def mX8_goesOn : hd_I := (yX8_goesOn, cX8_goesOn, 1, (some .boolean), 1, 21, 0, 0)
def mX8_has : hd_I := (yX8_has, cX8_has, 2, (some .boolean), 0, 0, 0, 0)
def mX8_hasParen : hd_I := (yX8_hasParen, cX8_hasParen, 2, (some .boolean), 0, 0, 0, 0)
def mX8_hasWhen : hd_I := (yX8_hasWhen, cX8_hasWhen, 3, (some .boolean), 0, 0, 0, 0)
def mX8_heard : hd_I := (yX8_heard, cX8_heard, 5, (some .int), 3, 74, 0, 0)
def mX8_hollow : hd_I := (yX8_hollow, cX8_hollow, 2, (some .int), 1, 22, 0, 0)
def mX8_image : hd_I := (yX8_image, cX8_image, 1, (some .int), 1, 22, 0, 0)
def mX8_isAct : hd_I := (yX8_isAct, cX8_isAct, 1, (some .boolean), 1, 22, 0, 0)
def mX8_isAsked : hd_I := (yX8_isAsked, cX8_isAsked, 5, (some .boolean), 0, 0, 0, 0)
def mX8_isAsking : hd_I := (yX8_isAsking, cX8_isAsking, 1, (some .boolean), 0, 0, 0, 0)
def mX8_isBarred : hd_I := (yX8_isBarred, cX8_isBarred, 2, (some .boolean), 0, 0, 0, 0)
def mX8_isDigit : hd_I := (yX8_isDigit, cX8_isDigit, 1, (some .boolean), 1, 22, 0, 0)
def mX8_isFit : hd_I := (yX8_isFit, cX8_isFit, 3, (some .boolean), 6, 149, 0, 0)
def mX8_isIn : hd_I := (yX8_isIn, cX8_isIn, 3, (some .boolean), 0, 0, 0, 0)
def mX8_isKept : hd_I := (yX8_isKept, cX8_isKept, 7, (some .boolean), 0, 0, 0, 0)
def mX8_isLetter : hd_I := (yX8_isLetter, cX8_isLetter, 1, (some .boolean), 1, 22, 0, 0)
def mX8_isOnce : hd_I := (yX8_isOnce, cX8_isOnce, 1, (some .boolean), 0, 0, 0, 0)
def mX8_isOpen : hd_I := (yX8_isOpen, cX8_isOpen, 2, (some .boolean), 4, 99, 0, 0)
def mX8_isOpenAt : hd_I := (yX8_isOpenAt, cX8_isOpenAt, 3, (some .boolean), 5, 120, 0, 0)
def mX8_isPart : hd_I := (yX8_isPart, cX8_isPart, 2, (some .boolean), 1, 22, 0, 0)
def mX8_isPlace : hd_I := (yX8_isPlace, cX8_isPlace, 3, (some .boolean), 2, 43, 0, 0)
def mX8_isSo : hd_I := (yX8_isSo, cX8_isSo, 6, (some .boolean), 3, 74, 0, 0)
def mX8_isStopped : hd_I := (yX8_isStopped, cX8_isStopped, 2, (some .boolean), 4, 99, 0, 0)
def mX8_isText : hd_I := (yX8_isText, cX8_isText, 2, (some .boolean), 1, 22, 0, 0)
def mX8_isWord : hd_I := (yX8_isWord, cX8_isWord, 3, (some .boolean), 0, 0, 0, 0)
def mX8_keep : hd_I := (yX8_keep, cX8_keep, 3, none, 0, 0, 0, 0)
def mX8_line : hd_I := (yX8_line, cX8_line, 4, (some .int), 6, 129, 0, 0)
def mX8_made : hd_I := (yX8_made, cX8_made, 5, (some .int), 6, 149, 0, 0)
def mX8_measure : hd_I := (yX8_measure, cX8_measure, 7, (some .int), 1, 22, 0, 0)
def mX8_name : hd_I := (yX8_name, cX8_name, 5, none, 0, 0, 0, 0)
def mX8_nameOf : hd_I := (yX8_nameOf, cX8_nameOf, 1, (some .int), 2, 45, 0, 0)
def mX8_next : hd_I := (yX8_next, cX8_next, 6, (some .int), 8, 197, 0, 0)
def mX8_nextToken : hd_I := (yX8_nextToken, cX8_nextToken, 3, none, 2, 42, 0, 0)
def mX8_now : hd_I := (yX8_now, cX8_now, 2, (some .int), 5, 120, 0, 0)
def mX8_part : hd_I := (yX8_part, cX8_part, 2, (some .int), 1, 22, 0, 0)
def mX8_place : hd_I := (yX8_place, cX8_place, 2, (some .int), 2, 43, 0, 0)
def mX8_placed : hd_I := (yX8_placed, cX8_placed, 3, (some .int), 4, 86, 0, 0)
def mX8_played : hd_I := (yX8_played, cX8_played, 3, (some .int), 8, 193, 0, 0)
def mX8_push : hd_I := (yX8_push, cX8_push, 2, none, 0, 0, 0, 0)
def mX8_reachAll : hd_I := (yX8_reachAll, cX8_reachAll, 6, (some .int), 7, 173, 0, 0)
def mX8_readText : hd_I := (yX8_readText, cX8_readText, 2, (some .int), 9, 203, 0, 0)
def mX8_roll : hd_I := (yX8_roll, cX8_roll, 2, none, 5, 120, 0, 0)
def mX8_search : hd_I := (yX8_search, cX8_search, 11, (some .int), 7, 173, 0, 0)
def mX8_sets : hd_I := (yX8_sets, cX8_sets, 3, none, 3, 65, 0, 0)
def mX8_setting : hd_I := (yX8_setting, cX8_setting, 2, (some .int), 5, 108, 0, 0)
def mX8_settle : hd_I := (yX8_settle, cX8_settle, 2, none, 1, 22, 0, 0)
def mX8_sortOf : hd_I := (yX8_sortOf, cX8_sortOf, 1, (some .int), 2, 46, 0, 0)
def mX8_stand : hd_I := (yX8_stand, cX8_stand, 4, none, 0, 0, 0, 0)
def mX8_standFirst : hd_I := (yX8_standFirst, cX8_standFirst, 2, none, 0, 0, 0, 0)
def mX8_standNow : hd_I := (yX8_standNow, cX8_standNow, 2, none, 2, 43, 0, 0)
def mX8_standing : hd_I := (yX8_standing, cX8_standing, 3, (some .int), 0, 0, 0, 0)
def mX8_summed : hd_I := (yX8_summed, cX8_summed, 2, (some .int), 4, 86, 0, 0)
def mX8_text : hd_I := (yX8_text, cX8_text, 1, (some .int), 10, 224, 0, 0)
def mX8_told : hd_I := (yX8_told, cX8_told, 4, (some .int), 0, 0, 0, 0)
def mX8_tried : hd_I := (yX8_tried, cX8_tried, 3, (some .int), 2, 42, 0, 0)
def mX8_two : hd_I := (yX8_two, cX8_two, 5, (some .long), 1, 21, 0, 0)
def mX8_undo : hd_I := (yX8_undo, cX8_undo, 3, (some .int), 0, 0, 0, 0)
def mX8_w3 : hd_I := (yX8_w3, cX8_w3, 3, (some .long), 0, 0, 0, 0)
def mX8_w4 : hd_I := (yX8_w4, cX8_w4, 4, (some .long), 1, 22, 0, 0)
def mX8_w5 : hd_I := (yX8_w5, cX8_w5, 5, (some .long), 1, 22, 0, 0)
def mX8_whatever : hd_I := (yX8_whatever, cX8_whatever, 6, (some .int), 8, 203, 0, 0)
def mX8_whole : hd_I := (yX8_whole, cX8_whole, 1, none, 1, 22, 0, 0)
def mX8_work : hd_I := (yX8_work, cX8_work, 10, none, 2, 45, 0, 0)
def mJ0_length_8abf5 : hd_I := (yJ0_length_8abf5, cJ0_length_8abf5, 1, (some .int), 1, 20, 0, 0)
def mJ0_charAt_5068e : hd_I := (yJ0_charAt_5068e, cJ0_charAt_5068e, 2, (some .char), 4, 85, 0, 0)
def mX0_init : hd_I := (yX0_init, cX0_init, 2, none, 1, 20, 0, 0)
def mX1_init : hd_I := (yX1_init, cX1_init, 1, none, 1, 20, 0, 0)
def mX2_init : hd_I := (yX2_init, cX2_init, 1, none, 1, 23, 0, 0)
def mX3_init : hd_I := (yX3_init, cX3_init, 1, none, 2, 43, 0, 0)
def mX4_init : hd_I := (yX4_init, cX4_init, 2, none, 1, 20, 0, 0)
def mX5_init : hd_I := (yX5_init, cX5_init, 3, none, 1, 20, 0, 0)
def mX6_init : hd_I := (yX6_init, cX6_init, 1, none, 1, 20, 0, 0)
def mX7_init : hd_I := (yX7_init, cX7_init, 2, none, 3, 63, 0, 0)
def mX8_init : hd_I := (yX8_init, cX8_init, 1, none, 1, 22, 0, 0)
set_option maxRecDepth 100000 in
theorem zJ6_bitCount_0f7a4 : hd_cdc mJ6_bitCount_0f7a4 := List.mem_filter.mpr ⟨hd_tb_sub (c := 4) (List.mem_of_getElem? (i := 104) rfl), rfl⟩
set_option maxRecDepth 100000 in
theorem zJ7_fill_53178 : hd_cdc mJ7_fill_53178 := List.mem_filter.mpr ⟨hd_tb_sub (c := 1) (List.mem_of_getElem? (i := 98) rfl), rfl⟩
set_option maxRecDepth 100000 in
theorem zX0_actsInto : hd_cdc mX0_actsInto := List.mem_filter.mpr ⟨hd_tb_sub (c := 4) (List.mem_of_getElem? (i := 44) rfl), rfl⟩
set_option maxRecDepth 100000 in
theorem zX0_follow : hd_cdc mX0_follow := List.mem_filter.mpr ⟨hd_tb_sub (c := 4) (List.mem_of_getElem? (i := 58) rfl), rfl⟩
set_option maxRecDepth 100000 in
theorem zX0_hope : hd_cdc mX0_hope := List.mem_filter.mpr ⟨hd_tb_sub (c := 4) (List.mem_of_getElem? (i := 54) rfl), rfl⟩
set_option maxRecDepth 100000 in
theorem zX0_hopeWhereItCameFrom : hd_cdc mX0_hopeWhereItCameFrom := List.mem_filter.mpr ⟨hd_tb_sub (c := 4) (List.mem_of_getElem? (i := 63) rfl), rfl⟩
set_option maxRecDepth 100000 in
theorem zX0_hopelessActs : hd_cdc mX0_hopelessActs := List.mem_filter.mpr ⟨hd_tb_sub (c := 4) (List.mem_of_getElem? (i := 67) rfl), rfl⟩
set_option maxRecDepth 100000 in
theorem zX0_reach : hd_cdc mX0_reach := List.mem_filter.mpr ⟨hd_tb_sub (c := 4) (List.mem_of_getElem? (i := 49) rfl), rfl⟩
set_option maxRecDepth 100000 in
theorem zX1_addStep : hd_cdc mX1_addStep := List.mem_filter.mpr ⟨hd_tb_sub (c := 3) (List.mem_of_getElem? (i := 208) rfl), rfl⟩
set_option maxRecDepth 100000 in
theorem zX1_copyFrom : hd_cdc mX1_copyFrom := List.mem_filter.mpr ⟨hd_tb_sub (c := 4) (List.mem_of_getElem? (i := 128) rfl), rfl⟩
set_option maxRecDepth 100000 in
theorem zX1_copyRow : hd_cdc mX1_copyRow := List.mem_filter.mpr ⟨hd_tb_sub (c := 4) (List.mem_of_getElem? (i := 131) rfl), rfl⟩
set_option maxRecDepth 100000 in
theorem zX1_sizeOfHollows : hd_cdc mX1_sizeOfHollows := List.mem_filter.mpr ⟨hd_tb_sub (c := 4) (List.mem_of_getElem? (i := 120) rfl), rfl⟩
set_option maxRecDepth 100000 in
theorem zX1_takeStepBack : hd_cdc mX1_takeStepBack := List.mem_filter.mpr ⟨hd_tb_sub (c := 3) (List.mem_of_getElem? (i := 228) rfl), rfl⟩
set_option maxRecDepth 100000 in
theorem zX2_addCode : hd_cdc mX2_addCode := List.mem_filter.mpr ⟨hd_tb_sub (c := 3) (List.mem_of_getElem? (i := 54) rfl), rfl⟩
set_option maxRecDepth 100000 in
theorem zX2_addDo : hd_cdc mX2_addDo := List.mem_filter.mpr ⟨hd_tb_sub (c := 3) (List.mem_of_getElem? (i := 103) rfl), rfl⟩
set_option maxRecDepth 100000 in
theorem zX2_addSet : hd_cdc mX2_addSet := List.mem_filter.mpr ⟨hd_tb_sub (c := 3) (List.mem_of_getElem? (i := 117) rfl), rfl⟩
set_option maxRecDepth 100000 in
theorem zX2_clear : hd_cdc mX2_clear := List.mem_filter.mpr ⟨hd_tb_sub (c := 2) (List.mem_of_getElem? (i := 156) rfl), rfl⟩
set_option maxRecDepth 100000 in
theorem zX2_has : hd_cdc mX2_has := List.mem_filter.mpr ⟨hd_tb_sub (c := 3) (List.mem_of_getElem? (i := 38) rfl), rfl⟩
set_option maxRecDepth 100000 in
theorem zX3_addOne : hd_cdc mX3_addOne := List.mem_filter.mpr ⟨hd_tb_sub (c := 3) (List.mem_of_getElem? (i := 50) rfl), rfl⟩
set_option maxRecDepth 100000 in
theorem zX3_blame : hd_cdc mX3_blame := List.mem_filter.mpr ⟨hd_tb_sub (c := 3) (List.mem_of_getElem? (i := 34) rfl), rfl⟩
set_option maxRecDepth 100000 in
theorem zX3_closeBracket : hd_cdc mX3_closeBracket := List.mem_filter.mpr ⟨hd_tb_sub (c := 3) (List.mem_of_getElem? (i := 84) rfl), rfl⟩
set_option maxRecDepth 100000 in
theorem zX3_isNameOf : hd_cdc mX3_isNameOf := List.mem_filter.mpr ⟨hd_tb_sub (c := 3) (List.mem_of_getElem? (i := 57) rfl), rfl⟩
set_option maxRecDepth 100000 in
theorem zX3_join : hd_cdc mX3_join := List.mem_filter.mpr ⟨hd_tb_sub (c := 3) (List.mem_of_getElem? (i := 73) rfl), rfl⟩
set_option maxRecDepth 100000 in
theorem zX3_nestIn : hd_cdc mX3_nestIn := List.mem_filter.mpr ⟨hd_tb_sub (c := 3) (List.mem_of_getElem? (i := 61) rfl), rfl⟩
set_option maxRecDepth 100000 in
theorem zX3_putToWait : hd_cdc mX3_putToWait := List.mem_filter.mpr ⟨hd_tb_sub (c := 3) (List.mem_of_getElem? (i := 65) rfl), rfl⟩
set_option maxRecDepth 100000 in
theorem zX3_read : hd_cdc mX3_read := List.mem_filter.mpr ⟨hd_tb_sub (c := 2) (List.mem_of_getElem? (i := 152) rfl), rfl⟩
set_option maxRecDepth 100000 in
theorem zX3_readClause : hd_cdc mX3_readClause := List.mem_filter.mpr ⟨hd_tb_sub (c := 3) (List.mem_of_getElem? (i := 30) rfl), rfl⟩
set_option maxRecDepth 100000 in
theorem zX3_readRule : hd_cdc mX3_readRule := List.mem_filter.mpr ⟨hd_tb_sub (c := 3) (List.mem_of_getElem? (i := 42) rfl), rfl⟩
set_option maxRecDepth 100000 in
theorem zX3_readSet : hd_cdc mX3_readSet := List.mem_filter.mpr ⟨hd_tb_sub (c := 3) (List.mem_of_getElem? (i := 107) rfl), rfl⟩
set_option maxRecDepth 100000 in
theorem zX3_release : hd_cdc mX3_release := List.mem_filter.mpr ⟨hd_tb_sub (c := 3) (List.mem_of_getElem? (i := 80) rfl), rfl⟩
set_option maxRecDepth 100000 in
theorem zX3_strengthOf : hd_cdc mX3_strengthOf := List.mem_filter.mpr ⟨hd_tb_sub (c := 3) (List.mem_of_getElem? (i := 76) rfl), rfl⟩
set_option maxRecDepth 100000 in
theorem zX3_takeNumber : hd_cdc mX3_takeNumber := List.mem_filter.mpr ⟨hd_tb_sub (c := 3) (List.mem_of_getElem? (i := 95) rfl), rfl⟩
set_option maxRecDepth 100000 in
theorem zX3_takeOne : hd_cdc mX3_takeOne := List.mem_filter.mpr ⟨hd_tb_sub (c := 3) (List.mem_of_getElem? (i := 46) rfl), rfl⟩
set_option maxRecDepth 100000 in
theorem zX3_takeOperator : hd_cdc mX3_takeOperator := List.mem_filter.mpr ⟨hd_tb_sub (c := 3) (List.mem_of_getElem? (i := 69) rfl), rfl⟩
set_option maxRecDepth 100000 in
theorem zX3_takeToken : hd_cdc mX3_takeToken := List.mem_filter.mpr ⟨hd_tb_sub (c := 3) (List.mem_of_getElem? (i := 99) rfl), rfl⟩
set_option maxRecDepth 100000 in
theorem zX3_takeWhenPart : hd_cdc mX3_takeWhenPart := List.mem_filter.mpr ⟨hd_tb_sub (c := 3) (List.mem_of_getElem? (i := 91) rfl), rfl⟩
set_option maxRecDepth 100000 in
theorem zX4_ballAfter : hd_cdc mX4_ballAfter := List.mem_filter.mpr ⟨hd_tb_sub (c := 3) (List.mem_of_getElem? (i := 204) rfl), rfl⟩
set_option maxRecDepth 100000 in
theorem zX4_gather : hd_cdc mX4_gather := List.mem_filter.mpr ⟨hd_tb_sub (c := 3) (List.mem_of_getElem? (i := 162) rfl), rfl⟩
set_option maxRecDepth 100000 in
theorem zX4_heardOf : hd_cdc mX4_heardOf := List.mem_filter.mpr ⟨hd_tb_sub (c := 3) (List.mem_of_getElem? (i := 195) rfl), rfl⟩
set_option maxRecDepth 100000 in
theorem zX4_isOpen : hd_cdc mX4_isOpen := List.mem_filter.mpr ⟨hd_tb_sub (c := 4) (List.mem_of_getElem? (i := 3) rfl), rfl⟩
set_option maxRecDepth 100000 in
theorem zX4_isPlace : hd_cdc mX4_isPlace := List.mem_filter.mpr ⟨hd_tb_sub (c := 3) (List.mem_of_getElem? (i := 158) rfl), rfl⟩
set_option maxRecDepth 100000 in
theorem zX4_joined : hd_cdc mX4_joined := List.mem_filter.mpr ⟨hd_tb_sub (c := 3) (List.mem_of_getElem? (i := 174) rfl), rfl⟩
set_option maxRecDepth 100000 in
theorem zX4_partsMoved : hd_cdc mX4_partsMoved := List.mem_filter.mpr ⟨hd_tb_sub (c := 3) (List.mem_of_getElem? (i := 198) rfl), rfl⟩
set_option maxRecDepth 100000 in
theorem zX4_pushed : hd_cdc mX4_pushed := List.mem_filter.mpr ⟨hd_tb_sub (c := 3) (List.mem_of_getElem? (i := 166) rfl), rfl⟩
set_option maxRecDepth 100000 in
theorem zX4_setBy : hd_cdc mX4_setBy := List.mem_filter.mpr ⟨hd_tb_sub (c := 3) (List.mem_of_getElem? (i := 154) rfl), rfl⟩
set_option maxRecDepth 100000 in
theorem zX4_show : hd_cdc mX4_show := List.mem_filter.mpr ⟨hd_tb_sub (c := 3) (List.mem_of_getElem? (i := 145) rfl), rfl⟩
set_option maxRecDepth 100000 in
theorem zX4_standingAfter : hd_cdc mX4_standingAfter := List.mem_filter.mpr ⟨hd_tb_sub (c := 3) (List.mem_of_getElem? (i := 141) rfl), rfl⟩
set_option maxRecDepth 100000 in
theorem zX4_standingOrSame : hd_cdc mX4_standingOrSame := List.mem_filter.mpr ⟨hd_tb_sub (c := 4) (List.mem_of_getElem? (i := 31) rfl), rfl⟩
set_option maxRecDepth 100000 in
theorem zX4_tilted : hd_cdc mX4_tilted := List.mem_filter.mpr ⟨hd_tb_sub (c := 3) (List.mem_of_getElem? (i := 149) rfl), rfl⟩
set_option maxRecDepth 100000 in
theorem zX4_valueOf : hd_cdc mX4_valueOf := List.mem_filter.mpr ⟨hd_tb_sub (c := 3) (List.mem_of_getElem? (i := 171) rfl), rfl⟩
set_option maxRecDepth 100000 in
theorem zX5_actsUntil : hd_cdc mX5_actsUntil := List.mem_filter.mpr ⟨hd_tb_sub (c := 4) (List.mem_of_getElem? (i := 27) rfl), rfl⟩
set_option maxRecDepth 100000 in
theorem zX5_answerOf : hd_cdc mX5_answerOf := List.mem_filter.mpr ⟨hd_tb_sub (c := 4) (List.mem_of_getElem? (i := 36) rfl), rfl⟩
set_option maxRecDepth 100000 in
theorem zX5_reach : hd_cdc mX5_reach := List.mem_filter.mpr ⟨hd_tb_sub (c := 4) (List.mem_of_getElem? (i := 17) rfl), rfl⟩
set_option maxRecDepth 100000 in
theorem zX5_seek : hd_cdc mX5_seek := List.mem_filter.mpr ⟨hd_tb_sub (c := 4) (List.mem_of_getElem? (i := 11) rfl), rfl⟩
set_option maxRecDepth 100000 in
theorem zX5_slotOf : hd_cdc mX5_slotOf := List.mem_filter.mpr ⟨hd_tb_sub (c := 4) (List.mem_of_getElem? (i := 21) rfl), rfl⟩
set_option maxRecDepth 100000 in
theorem zX6_add : hd_cdc mX6_add := List.mem_filter.mpr ⟨hd_tb_sub (c := 3) (List.mem_of_getElem? (i := 8) rfl), rfl⟩
set_option maxRecDepth 100000 in
theorem zX6_advance : hd_cdc mX6_advance := List.mem_filter.mpr ⟨hd_tb_sub (c := 3) (List.mem_of_getElem? (i := 26) rfl), rfl⟩
set_option maxRecDepth 100000 in
theorem zX6_find : hd_cdc mX6_find := List.mem_filter.mpr ⟨hd_tb_sub (c := 2) (List.mem_of_getElem? (i := 160) rfl), rfl⟩
set_option maxRecDepth 100000 in
theorem zX6_findNumber : hd_cdc mX6_findNumber := List.mem_filter.mpr ⟨hd_tb_sub (c := 3) (List.mem_of_getElem? (i := 15) rfl), rfl⟩
set_option maxRecDepth 100000 in
theorem zX6_findOne : hd_cdc mX6_findOne := List.mem_filter.mpr ⟨hd_tb_sub (c := 2) (List.mem_of_getElem? (i := 167) rfl), rfl⟩
set_option maxRecDepth 100000 in
theorem zX6_findSign : hd_cdc mX6_findSign := List.mem_filter.mpr ⟨hd_tb_sub (c := 3) (List.mem_of_getElem? (i := 19) rfl), rfl⟩
set_option maxRecDepth 100000 in
theorem zX6_isDigit : hd_cdc mX6_isDigit := List.mem_filter.mpr ⟨hd_tb_sub (c := 3) (List.mem_of_getElem? (i := 11) rfl), rfl⟩
set_option maxRecDepth 100000 in
theorem zX6_isLetter : hd_cdc mX6_isLetter := List.mem_filter.mpr ⟨hd_tb_sub (c := 2) (List.mem_of_getElem? (i := 170) rfl), rfl⟩
set_option maxRecDepth 100000 in
theorem zX6_isWord : hd_cdc mX6_isWord := List.mem_filter.mpr ⟨hd_tb_sub (c := 2) (List.mem_of_getElem? (i := 182) rfl), rfl⟩
set_option maxRecDepth 100000 in
theorem zX6_kindOfLetter : hd_cdc mX6_kindOfLetter := List.mem_filter.mpr ⟨hd_tb_sub (c := 2) (List.mem_of_getElem? (i := 173) rfl), rfl⟩
set_option maxRecDepth 100000 in
theorem zX6_kindOfSign : hd_cdc mX6_kindOfSign := List.mem_filter.mpr ⟨hd_tb_sub (c := 3) (List.mem_of_getElem? (i := 22) rfl), rfl⟩
set_option maxRecDepth 100000 in
theorem zX6_kindOfWord : hd_cdc mX6_kindOfWord := List.mem_filter.mpr ⟨hd_tb_sub (c := 2) (List.mem_of_getElem? (i := 177) rfl), rfl⟩
set_option maxRecDepth 100000 in
theorem zX7_about : hd_cdc mX7_about := List.mem_filter.mpr ⟨hd_tb_sub (c := 4) (List.mem_of_getElem? (i := 140) rfl), rfl⟩
set_option maxRecDepth 100000 in
theorem zX7_act : hd_cdc mX7_act := List.mem_filter.mpr ⟨hd_tb_sub (c := 3) (List.mem_of_getElem? (i := 187) rfl), rfl⟩
set_option maxRecDepth 100000 in
theorem zX7_answerTo : hd_cdc mX7_answerTo := List.mem_filter.mpr ⟨hd_tb_sub (c := 4) (List.mem_of_getElem? (i := 87) rfl), rfl⟩
set_option maxRecDepth 100000 in
theorem zX7_back : hd_cdc mX7_back := List.mem_filter.mpr ⟨hd_tb_sub (c := 4) (List.mem_of_getElem? (i := 136) rfl), rfl⟩
set_option maxRecDepth 100000 in
theorem zX7_by : hd_cdc mX7_by := List.mem_filter.mpr ⟨hd_tb_sub (c := 3) (List.mem_of_getElem? (i := 125) rfl), rfl⟩
set_option maxRecDepth 100000 in
theorem zX7_can : hd_cdc mX7_can := List.mem_filter.mpr ⟨hd_tb_sub (c := 3) (List.mem_of_getElem? (i := 133) rfl), rfl⟩
set_option maxRecDepth 100000 in
theorem zX7_carts : hd_cdc mX7_carts := List.mem_filter.mpr ⟨hd_tb_sub (c := 3) (List.mem_of_getElem? (i := 220) rfl), rfl⟩
set_option maxRecDepth 100000 in
theorem zX7_causeOfPush : hd_cdc mX7_causeOfPush := List.mem_filter.mpr ⟨hd_tb_sub (c := 3) (List.mem_of_getElem? (i := 110) rfl), rfl⟩
set_option maxRecDepth 100000 in
theorem zX7_causeOfTilt : hd_cdc mX7_causeOfTilt := List.mem_filter.mpr ⟨hd_tb_sub (c := 3) (List.mem_of_getElem? (i := 113) rfl), rfl⟩
set_option maxRecDepth 100000 in
theorem zX7_end : hd_cdc mX7_end := List.mem_filter.mpr ⟨hd_tb_sub (c := 2) (List.mem_of_getElem? (i := 144) rfl), rfl⟩
set_option maxRecDepth 100000 in
theorem zX7_fault : hd_cdc mX7_fault := List.mem_filter.mpr ⟨hd_tb_sub (c := 3) (List.mem_of_getElem? (i := 121) rfl), rfl⟩
set_option maxRecDepth 100000 in
theorem zX7_feed : hd_cdc mX7_feed := List.mem_filter.mpr ⟨hd_tb_sub (c := 2) (List.mem_of_getElem? (i := 136) rfl), rfl⟩
set_option maxRecDepth 100000 in
theorem zX7_fewest : hd_cdc mX7_fewest := List.mem_filter.mpr ⟨hd_tb_sub (c := 4) (List.mem_of_getElem? (i := 7) rfl), rfl⟩
set_option maxRecDepth 100000 in
theorem zX7_fits : hd_cdc mX7_fits := List.mem_filter.mpr ⟨hd_tb_sub (c := 4) (List.mem_of_getElem? (i := 79) rfl), rfl⟩
set_option maxRecDepth 100000 in
theorem zX7_forever : hd_cdc mX7_forever := List.mem_filter.mpr ⟨hd_tb_sub (c := 4) (List.mem_of_getElem? (i := 40) rfl), rfl⟩
set_option maxRecDepth 100000 in
theorem zX7_forget : hd_cdc mX7_forget := List.mem_filter.mpr ⟨hd_tb_sub (c := 4) (List.mem_of_getElem? (i := 75) rfl), rfl⟩
set_option maxRecDepth 100000 in
theorem zX7_hollow : hd_cdc mX7_hollow := List.mem_filter.mpr ⟨hd_tb_sub (c := 4) (List.mem_of_getElem? (i := 112) rfl), rfl⟩
set_option maxRecDepth 100000 in
theorem zX7_image : hd_cdc mX7_image := List.mem_filter.mpr ⟨hd_tb_sub (c := 4) (List.mem_of_getElem? (i := 124) rfl), rfl⟩
set_option maxRecDepth 100000 in
theorem zX7_isText : hd_cdc mX7_isText := List.mem_filter.mpr ⟨hd_tb_sub (c := 3) (List.mem_of_getElem? (i := 129) rfl), rfl⟩
set_option maxRecDepth 100000 in
theorem zX7_measure : hd_cdc mX7_measure := List.mem_filter.mpr ⟨hd_tb_sub (c := 4) (List.mem_of_getElem? (i := 116) rfl), rfl⟩
set_option maxRecDepth 100000 in
theorem zX7_mostAlike : hd_cdc mX7_mostAlike := List.mem_filter.mpr ⟨hd_tb_sub (c := 4) (List.mem_of_getElem? (i := 96) rfl), rfl⟩
set_option maxRecDepth 100000 in
theorem zX7_move : hd_cdc mX7_move := List.mem_filter.mpr ⟨hd_tb_sub (c := 3) (List.mem_of_getElem? (i := 191) rfl), rfl⟩
set_option maxRecDepth 100000 in
theorem zX7_next : hd_cdc mX7_next := List.mem_filter.mpr ⟨hd_tb_sub (c := 4) (List.mem_of_getElem? (i := 92) rfl), rfl⟩
set_option maxRecDepth 100000 in
theorem zX7_now : hd_cdc mX7_now := List.mem_filter.mpr ⟨hd_tb_sub (c := 3) (List.mem_of_getElem? (i := 239) rfl), rfl⟩
set_option maxRecDepth 100000 in
theorem zX7_part : hd_cdc mX7_part := List.mem_filter.mpr ⟨hd_tb_sub (c := 2) (List.mem_of_getElem? (i := 132) rfl), rfl⟩
set_option maxRecDepth 100000 in
theorem zX7_place : hd_cdc mX7_place := List.mem_filter.mpr ⟨hd_tb_sub (c := 3) (List.mem_of_getElem? (i := 232) rfl), rfl⟩
set_option maxRecDepth 100000 in
theorem zX7_placeIn : hd_cdc mX7_placeIn := List.mem_filter.mpr ⟨hd_tb_sub (c := 3) (List.mem_of_getElem? (i := 235) rfl), rfl⟩
set_option maxRecDepth 100000 in
theorem zX7_played : hd_cdc mX7_played := List.mem_filter.mpr ⟨hd_tb_sub (c := 3) (List.mem_of_getElem? (i := 215) rfl), rfl⟩
set_option maxRecDepth 100000 in
theorem zX7_putFour : hd_cdc mX7_putFour := List.mem_filter.mpr ⟨hd_tb_sub (c := 2) (List.mem_of_getElem? (i := 140) rfl), rfl⟩
set_option maxRecDepth 100000 in
theorem zX7_rulingLaw : hd_cdc mX7_rulingLaw := List.mem_filter.mpr ⟨hd_tb_sub (c := 3) (List.mem_of_getElem? (i := 137) rfl), rfl⟩
set_option maxRecDepth 100000 in
theorem zX7_standingBehindTrials : hd_cdc mX7_standingBehindTrials := List.mem_filter.mpr ⟨hd_tb_sub (c := 4) (List.mem_of_getElem? (i := 83) rfl), rfl⟩
set_option maxRecDepth 100000 in
theorem zX7_text : hd_cdc mX7_text := List.mem_filter.mpr ⟨hd_tb_sub (c := 2) (List.mem_of_getElem? (i := 148) rfl), rfl⟩
set_option maxRecDepth 100000 in
theorem zX7_tried : hd_cdc mX7_tried := List.mem_filter.mpr ⟨hd_tb_sub (c := 4) (List.mem_of_getElem? (i := 71) rfl), rfl⟩
set_option maxRecDepth 100000 in
theorem zX7_undo : hd_cdc mX7_undo := List.mem_filter.mpr ⟨hd_tb_sub (c := 3) (List.mem_of_getElem? (i := 224) rfl), rfl⟩
set_option maxRecDepth 100000 in
theorem zX7_whatever : hd_cdc mX7_whatever := List.mem_filter.mpr ⟨hd_tb_sub (c := 4) (List.mem_of_getElem? (i := 101) rfl), rfl⟩
set_option maxRecDepth 100000 in
theorem zX8_about : hd_cdc mX8_about := List.mem_filter.mpr ⟨hd_tb_sub (c := 6) (List.mem_of_getElem? (i := 175) rfl), rfl⟩
set_option maxRecDepth 100000 in
theorem zX8_act : hd_cdc mX8_act := List.mem_filter.mpr ⟨hd_tb_sub (c := 6) (List.mem_of_getElem? (i := 16) rfl), rfl⟩
set_option maxRecDepth 100000 in
theorem zX8_actsTo : hd_cdc mX8_actsTo := List.mem_filter.mpr ⟨hd_tb_sub (c := 6) (List.mem_of_getElem? (i := 107) rfl), rfl⟩
set_option maxRecDepth 100000 in
theorem zX8_alike : hd_cdc mX8_alike := List.mem_filter.mpr ⟨hd_tb_sub (c := 6) (List.mem_of_getElem? (i := 148) rfl), rfl⟩
set_option maxRecDepth 100000 in
theorem zX8_asked : hd_cdc mX8_asked := List.mem_filter.mpr ⟨hd_tb_sub (c := 5) (List.mem_of_getElem? (i := 108) rfl), rfl⟩
set_option maxRecDepth 100000 in
theorem zX8_asks : hd_cdc mX8_asks := List.mem_filter.mpr ⟨hd_tb_sub (c := 5) (List.mem_of_getElem? (i := 172) rfl), rfl⟩
set_option maxRecDepth 100000 in
theorem zX8_back : hd_cdc mX8_back := List.mem_filter.mpr ⟨hd_tb_sub (c := 6) (List.mem_of_getElem? (i := 171) rfl), rfl⟩
set_option maxRecDepth 100000 in
theorem zX8_beginOne : hd_cdc mX8_beginOne := List.mem_filter.mpr ⟨hd_tb_sub (c := 5) (List.mem_of_getElem? (i := 152) rfl), rfl⟩
set_option maxRecDepth 100000 in
theorem zX8_behindOne : hd_cdc mX8_behindOne := List.mem_filter.mpr ⟨hd_tb_sub (c := 5) (List.mem_of_getElem? (i := 132) rfl), rfl⟩
set_option maxRecDepth 100000 in
theorem zX8_by : hd_cdc mX8_by := List.mem_filter.mpr ⟨hd_tb_sub (c := 5) (List.mem_of_getElem? (i := 198) rfl), rfl⟩
set_option maxRecDepth 100000 in
theorem zX8_byteAt : hd_cdc mX8_byteAt := List.mem_filter.mpr ⟨hd_tb_sub (c := 5) (List.mem_of_getElem? (i := 69) rfl), rfl⟩
set_option maxRecDepth 100000 in
theorem zX8_can : hd_cdc mX8_can := List.mem_filter.mpr ⟨hd_tb_sub (c := 5) (List.mem_of_getElem? (i := 202) rfl), rfl⟩
set_option maxRecDepth 100000 in
theorem zX8_canBe : hd_cdc mX8_canBe := List.mem_filter.mpr ⟨hd_tb_sub (c := 5) (List.mem_of_getElem? (i := 217) rfl), rfl⟩
set_option maxRecDepth 100000 in
theorem zX8_carts : hd_cdc mX8_carts := List.mem_filter.mpr ⟨hd_tb_sub (c := 6) (List.mem_of_getElem? (i := 59) rfl), rfl⟩
set_option maxRecDepth 100000 in
theorem zX8_clause : hd_cdc mX8_clause := List.mem_filter.mpr ⟨hd_tb_sub (c := 5) (List.mem_of_getElem? (i := 80) rfl), rfl⟩
set_option maxRecDepth 100000 in
theorem zX8_clausesOf : hd_cdc mX8_clausesOf := List.mem_filter.mpr ⟨hd_tb_sub (c := 5) (List.mem_of_getElem? (i := 233) rfl), rfl⟩
set_option maxRecDepth 100000 in
theorem zX8_clip : hd_cdc mX8_clip := List.mem_filter.mpr ⟨hd_tb_sub (c := 6) (List.mem_of_getElem? (i := 7) rfl), rfl⟩
set_option maxRecDepth 100000 in
theorem zX8_compareOf : hd_cdc mX8_compareOf := List.mem_filter.mpr ⟨hd_tb_sub (c := 5) (List.mem_of_getElem? (i := 176) rfl), rfl⟩
set_option maxRecDepth 100000 in
theorem zX8_copy : hd_cdc mX8_copy := List.mem_filter.mpr ⟨hd_tb_sub (c := 4) (List.mem_of_getElem? (i := 150) rfl), rfl⟩
set_option maxRecDepth 100000 in
theorem zX8_doNow : hd_cdc mX8_doNow := List.mem_filter.mpr ⟨hd_tb_sub (c := 6) (List.mem_of_getElem? (i := 25) rfl), rfl⟩
set_option maxRecDepth 100000 in
theorem zX8_does : hd_cdc mX8_does := List.mem_filter.mpr ⟨hd_tb_sub (c := 6) (List.mem_of_getElem? (i := 29) rfl), rfl⟩
set_option maxRecDepth 100000 in
theorem zX8_either : hd_cdc mX8_either := List.mem_filter.mpr ⟨hd_tb_sub (c := 5) (List.mem_of_getElem? (i := 168) rfl), rfl⟩
set_option maxRecDepth 100000 in
theorem zX8_emit : hd_cdc mX8_emit := List.mem_filter.mpr ⟨hd_tb_sub (c := 5) (List.mem_of_getElem? (i := 140) rfl), rfl⟩
set_option maxRecDepth 100000 in
theorem zX8_end : hd_cdc mX8_end := List.mem_filter.mpr ⟨hd_tb_sub (c := 5) (List.mem_of_getElem? (i := 53) rfl), rfl⟩
set_option maxRecDepth 100000 in
theorem zX8_fault : hd_cdc mX8_fault := List.mem_filter.mpr ⟨hd_tb_sub (c := 5) (List.mem_of_getElem? (i := 194) rfl), rfl⟩
set_option maxRecDepth 100000 in
theorem zX8_feed : hd_cdc mX8_feed := List.mem_filter.mpr ⟨hd_tb_sub (c := 5) (List.mem_of_getElem? (i := 45) rfl), rfl⟩
set_option maxRecDepth 100000 in
theorem zX8_fewest : hd_cdc mX8_fewest := List.mem_filter.mpr ⟨hd_tb_sub (c := 6) (List.mem_of_getElem? (i := 79) rfl), rfl⟩
set_option maxRecDepth 100000 in
theorem zX8_figure : hd_cdc mX8_figure := List.mem_filter.mpr ⟨hd_tb_sub (c := 5) (List.mem_of_getElem? (i := 116) rfl), rfl⟩
set_option maxRecDepth 100000 in
theorem zX8_findFree : hd_cdc mX8_findFree := List.mem_filter.mpr ⟨hd_tb_sub (c := 6) (List.mem_of_getElem? (i := 119) rfl), rfl⟩
set_option maxRecDepth 100000 in
theorem zX8_fits : hd_cdc mX8_fits := List.mem_filter.mpr ⟨hd_tb_sub (c := 6) (List.mem_of_getElem? (i := 131) rfl), rfl⟩
set_option maxRecDepth 100000 in
theorem zX8_forever : hd_cdc mX8_forever := List.mem_filter.mpr ⟨hd_tb_sub (c := 6) (List.mem_of_getElem? (i := 111) rfl), rfl⟩
set_option maxRecDepth 100000 in
theorem zX8_forget : hd_cdc mX8_forget := List.mem_filter.mpr ⟨hd_tb_sub (c := 6) (List.mem_of_getElem? (i := 127) rfl), rfl⟩
set_option maxRecDepth 100000 in
theorem zX8_four : hd_cdc mX8_four := List.mem_filter.mpr ⟨hd_tb_sub (c := 5) (List.mem_of_getElem? (i := 49) rfl), rfl⟩
set_option maxRecDepth 100000 in
theorem zX8_goesOn : hd_cdc mX8_goesOn := List.mem_filter.mpr ⟨hd_tb_sub (c := 5) (List.mem_of_getElem? (i := 124) rfl), rfl⟩
set_option maxRecDepth 100000 in
theorem zX8_has : hd_cdc mX8_has := List.mem_filter.mpr ⟨hd_tb_sub (c := 6) (List.mem_of_getElem? (i := 151) rfl), rfl⟩
set_option maxRecDepth 100000 in
theorem zX8_hasParen : hd_cdc mX8_hasParen := List.mem_filter.mpr ⟨hd_tb_sub (c := 5) (List.mem_of_getElem? (i := 128) rfl), rfl⟩
set_option maxRecDepth 100000 in
theorem zX8_hasWhen : hd_cdc mX8_hasWhen := List.mem_filter.mpr ⟨hd_tb_sub (c := 5) (List.mem_of_getElem? (i := 112) rfl), rfl⟩
set_option maxRecDepth 100000 in
theorem zX8_heard : hd_cdc mX8_heard := List.mem_filter.mpr ⟨hd_tb_sub (c := 6) (List.mem_of_getElem? (i := 37) rfl), rfl⟩
set_option maxRecDepth 100000 in
theorem zX8_hollow : hd_cdc mX8_hollow := List.mem_filter.mpr ⟨hd_tb_sub (c := 6) (List.mem_of_getElem? (i := 159) rfl), rfl⟩
set_option maxRecDepth 100000 in
theorem zX8_image : hd_cdc mX8_image := List.mem_filter.mpr ⟨hd_tb_sub (c := 6) (List.mem_of_getElem? (i := 167) rfl), rfl⟩
set_option maxRecDepth 100000 in
theorem zX8_isAct : hd_cdc mX8_isAct := List.mem_filter.mpr ⟨hd_tb_sub (c := 5) (List.mem_of_getElem? (i := 205) rfl), rfl⟩
set_option maxRecDepth 100000 in
theorem zX8_isAsked : hd_cdc mX8_isAsked := List.mem_filter.mpr ⟨hd_tb_sub (c := 6) (List.mem_of_getElem? (i := 12) rfl), rfl⟩
set_option maxRecDepth 100000 in
theorem zX8_isAsking : hd_cdc mX8_isAsking := List.mem_filter.mpr ⟨hd_tb_sub (c := 5) (List.mem_of_getElem? (i := 104) rfl), rfl⟩
set_option maxRecDepth 100000 in
theorem zX8_isBarred : hd_cdc mX8_isBarred := List.mem_filter.mpr ⟨hd_tb_sub (c := 5) (List.mem_of_getElem? (i := 164) rfl), rfl⟩
set_option maxRecDepth 100000 in
theorem zX8_isDigit : hd_cdc mX8_isDigit := List.mem_filter.mpr ⟨hd_tb_sub (c := 5) (List.mem_of_getElem? (i := 72) rfl), rfl⟩
set_option maxRecDepth 100000 in
theorem zX8_isFit : hd_cdc mX8_isFit := List.mem_filter.mpr ⟨hd_tb_sub (c := 6) (List.mem_of_getElem? (i := 135) rfl), rfl⟩
set_option maxRecDepth 100000 in
theorem zX8_isIn : hd_cdc mX8_isIn := List.mem_filter.mpr ⟨hd_tb_sub (c := 5) (List.mem_of_getElem? (i := 41) rfl), rfl⟩
set_option maxRecDepth 100000 in
theorem zX8_isKept : hd_cdc mX8_isKept := List.mem_filter.mpr ⟨hd_tb_sub (c := 6) (List.mem_of_getElem? (i := 91) rfl), rfl⟩
set_option maxRecDepth 100000 in
theorem zX8_isLetter : hd_cdc mX8_isLetter := List.mem_filter.mpr ⟨hd_tb_sub (c := 5) (List.mem_of_getElem? (i := 76) rfl), rfl⟩
set_option maxRecDepth 100000 in
theorem zX8_isOnce : hd_cdc mX8_isOnce := List.mem_filter.mpr ⟨hd_tb_sub (c := 5) (List.mem_of_getElem? (i := 101) rfl), rfl⟩
set_option maxRecDepth 100000 in
theorem zX8_isOpen : hd_cdc mX8_isOpen := List.mem_filter.mpr ⟨hd_tb_sub (c := 6) (List.mem_of_getElem? (i := 75) rfl), rfl⟩
set_option maxRecDepth 100000 in
theorem zX8_isOpenAt : hd_cdc mX8_isOpenAt := List.mem_filter.mpr ⟨hd_tb_sub (c := 6) (List.mem_of_getElem? (i := 95) rfl), rfl⟩
set_option maxRecDepth 100000 in
theorem zX8_isPart : hd_cdc mX8_isPart := List.mem_filter.mpr ⟨hd_tb_sub (c := 5) (List.mem_of_getElem? (i := 213) rfl), rfl⟩
set_option maxRecDepth 100000 in
theorem zX8_isPlace : hd_cdc mX8_isPlace := List.mem_filter.mpr ⟨hd_tb_sub (c := 5) (List.mem_of_getElem? (i := 221) rfl), rfl⟩
set_option maxRecDepth 100000 in
theorem zX8_isSo : hd_cdc mX8_isSo := List.mem_filter.mpr ⟨hd_tb_sub (c := 5) (List.mem_of_getElem? (i := 229) rfl), rfl⟩
set_option maxRecDepth 100000 in
theorem zX8_isStopped : hd_cdc mX8_isStopped := List.mem_filter.mpr ⟨hd_tb_sub (c := 6) (List.mem_of_getElem? (i := 46) rfl), rfl⟩
set_option maxRecDepth 100000 in
theorem zX8_isText : hd_cdc mX8_isText := List.mem_filter.mpr ⟨hd_tb_sub (c := 6) (List.mem_of_getElem? (i := 54) rfl), rfl⟩
set_option maxRecDepth 100000 in
theorem zX8_isWord : hd_cdc mX8_isWord := List.mem_filter.mpr ⟨hd_tb_sub (c := 5) (List.mem_of_getElem? (i := 94) rfl), rfl⟩
set_option maxRecDepth 100000 in
theorem zX8_keep : hd_cdc mX8_keep := List.mem_filter.mpr ⟨hd_tb_sub (c := 6) (List.mem_of_getElem? (i := 21) rfl), rfl⟩
set_option maxRecDepth 100000 in
theorem zX8_line : hd_cdc mX8_line := List.mem_filter.mpr ⟨hd_tb_sub (c := 5) (List.mem_of_getElem? (i := 181) rfl), rfl⟩
set_option maxRecDepth 100000 in
theorem zX8_made : hd_cdc mX8_made := List.mem_filter.mpr ⟨hd_tb_sub (c := 6) (List.mem_of_getElem? (i := 103) rfl), rfl⟩
set_option maxRecDepth 100000 in
theorem zX8_measure : hd_cdc mX8_measure := List.mem_filter.mpr ⟨hd_tb_sub (c := 6) (List.mem_of_getElem? (i := 163) rfl), rfl⟩
set_option maxRecDepth 100000 in
theorem zX8_name : hd_cdc mX8_name := List.mem_filter.mpr ⟨hd_tb_sub (c := 5) (List.mem_of_getElem? (i := 225) rfl), rfl⟩
set_option maxRecDepth 100000 in
theorem zX8_nameOf : hd_cdc mX8_nameOf := List.mem_filter.mpr ⟨hd_tb_sub (c := 5) (List.mem_of_getElem? (i := 156) rfl), rfl⟩
set_option maxRecDepth 100000 in
theorem zX8_next : hd_cdc mX8_next := List.mem_filter.mpr ⟨hd_tb_sub (c := 6) (List.mem_of_getElem? (i := 143) rfl), rfl⟩
set_option maxRecDepth 100000 in
theorem zX8_nextToken : hd_cdc mX8_nextToken := List.mem_filter.mpr ⟨hd_tb_sub (c := 5) (List.mem_of_getElem? (i := 65) rfl), rfl⟩
set_option maxRecDepth 100000 in
theorem zX8_now : hd_cdc mX8_now := List.mem_filter.mpr ⟨hd_tb_sub (c := 6) (List.mem_of_getElem? (i := 71) rfl), rfl⟩
set_option maxRecDepth 100000 in
theorem zX8_part : hd_cdc mX8_part := List.mem_filter.mpr ⟨hd_tb_sub (c := 5) (List.mem_of_getElem? (i := 38) rfl), rfl⟩
set_option maxRecDepth 100000 in
theorem zX8_place : hd_cdc mX8_place := List.mem_filter.mpr ⟨hd_tb_sub (c := 6) (List.mem_of_getElem? (i := 67) rfl), rfl⟩
set_option maxRecDepth 100000 in
theorem zX8_placed : hd_cdc mX8_placed := List.mem_filter.mpr ⟨hd_tb_sub (c := 5) (List.mem_of_getElem? (i := 185) rfl), rfl⟩
set_option maxRecDepth 100000 in
theorem zX8_played : hd_cdc mX8_played := List.mem_filter.mpr ⟨hd_tb_sub (c := 6) (List.mem_of_getElem? (i := 50) rfl), rfl⟩
set_option maxRecDepth 100000 in
theorem zX8_push : hd_cdc mX8_push := List.mem_filter.mpr ⟨hd_tb_sub (c := 5) (List.mem_of_getElem? (i := 144) rfl), rfl⟩
set_option maxRecDepth 100000 in
theorem zX8_reachAll : hd_cdc mX8_reachAll := List.mem_filter.mpr ⟨hd_tb_sub (c := 6) (List.mem_of_getElem? (i := 115) rfl), rfl⟩
set_option maxRecDepth 100000 in
theorem zX8_readText : hd_cdc mX8_readText := List.mem_filter.mpr ⟨hd_tb_sub (c := 5) (List.mem_of_getElem? (i := 61) rfl), rfl⟩
set_option maxRecDepth 100000 in
theorem zX8_roll : hd_cdc mX8_roll := List.mem_filter.mpr ⟨hd_tb_sub (c := 6) (List.mem_of_getElem? (i := 42) rfl), rfl⟩
set_option maxRecDepth 100000 in
theorem zX8_search : hd_cdc mX8_search := List.mem_filter.mpr ⟨hd_tb_sub (c := 6) (List.mem_of_getElem? (i := 87) rfl), rfl⟩
set_option maxRecDepth 100000 in
theorem zX8_sets : hd_cdc mX8_sets := List.mem_filter.mpr ⟨hd_tb_sub (c := 6) (List.mem_of_getElem? (i := 33) rfl), rfl⟩
set_option maxRecDepth 100000 in
theorem zX8_setting : hd_cdc mX8_setting := List.mem_filter.mpr ⟨hd_tb_sub (c := 5) (List.mem_of_getElem? (i := 190) rfl), rfl⟩
set_option maxRecDepth 100000 in
theorem zX8_settle : hd_cdc mX8_settle := List.mem_filter.mpr ⟨hd_tb_sub (c := 5) (List.mem_of_getElem? (i := 136) rfl), rfl⟩
set_option maxRecDepth 100000 in
theorem zX8_sortOf : hd_cdc mX8_sortOf := List.mem_filter.mpr ⟨hd_tb_sub (c := 5) (List.mem_of_getElem? (i := 84) rfl), rfl⟩
set_option maxRecDepth 100000 in
theorem zX8_stand : hd_cdc mX8_stand := List.mem_filter.mpr ⟨hd_tb_sub (c := 6) (List.mem_of_getElem? (i := 99) rfl), rfl⟩
set_option maxRecDepth 100000 in
theorem zX8_standFirst : hd_cdc mX8_standFirst := List.mem_filter.mpr ⟨hd_tb_sub (c := 6) (List.mem_of_getElem? (i := 139) rfl), rfl⟩
set_option maxRecDepth 100000 in
theorem zX8_standNow : hd_cdc mX8_standNow := List.mem_filter.mpr ⟨hd_tb_sub (c := 5) (List.mem_of_getElem? (i := 209) rfl), rfl⟩
set_option maxRecDepth 100000 in
theorem zX8_standing : hd_cdc mX8_standing := List.mem_filter.mpr ⟨hd_tb_sub (c := 6) (List.mem_of_getElem? (i := 83) rfl), rfl⟩
set_option maxRecDepth 100000 in
theorem zX8_summed : hd_cdc mX8_summed := List.mem_filter.mpr ⟨hd_tb_sub (c := 5) (List.mem_of_getElem? (i := 120) rfl), rfl⟩
set_option maxRecDepth 100000 in
theorem zX8_text : hd_cdc mX8_text := List.mem_filter.mpr ⟨hd_tb_sub (c := 5) (List.mem_of_getElem? (i := 57) rfl), rfl⟩
set_option maxRecDepth 100000 in
theorem zX8_told : hd_cdc mX8_told := List.mem_filter.mpr ⟨hd_tb_sub (c := 5) (List.mem_of_getElem? (i := 237) rfl), rfl⟩
set_option maxRecDepth 100000 in
theorem zX8_tried : hd_cdc mX8_tried := List.mem_filter.mpr ⟨hd_tb_sub (c := 6) (List.mem_of_getElem? (i := 123) rfl), rfl⟩
set_option maxRecDepth 100000 in
theorem zX8_two : hd_cdc mX8_two := List.mem_filter.mpr ⟨hd_tb_sub (c := 6) (List.mem_of_getElem? (i := 4) rfl), rfl⟩
set_option maxRecDepth 100000 in
theorem zX8_undo : hd_cdc mX8_undo := List.mem_filter.mpr ⟨hd_tb_sub (c := 6) (List.mem_of_getElem? (i := 63) rfl), rfl⟩
set_option maxRecDepth 100000 in
theorem zX8_w3 : hd_cdc mX8_w3 := List.mem_filter.mpr ⟨hd_tb_sub (c := 5) (List.mem_of_getElem? (i := 90) rfl), rfl⟩
set_option maxRecDepth 100000 in
theorem zX8_w4 : hd_cdc mX8_w4 := List.mem_filter.mpr ⟨hd_tb_sub (c := 5) (List.mem_of_getElem? (i := 87) rfl), rfl⟩
set_option maxRecDepth 100000 in
theorem zX8_w5 : hd_cdc mX8_w5 := List.mem_filter.mpr ⟨hd_tb_sub (c := 5) (List.mem_of_getElem? (i := 97) rfl), rfl⟩
set_option maxRecDepth 100000 in
theorem zX8_whatever : hd_cdc mX8_whatever := List.mem_filter.mpr ⟨hd_tb_sub (c := 6) (List.mem_of_getElem? (i := 155) rfl), rfl⟩
set_option maxRecDepth 100000 in
theorem zX8_whole : hd_cdc mX8_whole := List.mem_filter.mpr ⟨hd_tb_sub (c := 5) (List.mem_of_getElem? (i := 148) rfl), rfl⟩
set_option maxRecDepth 100000 in
theorem zX8_work : hd_cdc mX8_work := List.mem_filter.mpr ⟨hd_tb_sub (c := 6) (List.mem_of_getElem? (i := 1) rfl), rfl⟩
set_option maxRecDepth 100000 in
theorem zJ0_length_8abf5 : hd_cdc mJ0_length_8abf5 := List.mem_filter.mpr ⟨hd_tb_sub (c := 2) (List.mem_of_getElem? (i := 186) rfl), rfl⟩
set_option maxRecDepth 100000 in
theorem zJ0_charAt_5068e : hd_cdc mJ0_charAt_5068e := List.mem_filter.mpr ⟨hd_tb_sub (c := 2) (List.mem_of_getElem? (i := 196) rfl), rfl⟩
set_option maxRecDepth 100000 in
theorem zX0_init : hd_cdc mX0_init := List.mem_filter.mpr ⟨hd_tb_sub (c := 2) (List.mem_of_getElem? (i := 58) rfl), rfl⟩
set_option maxRecDepth 100000 in
theorem zX1_init : hd_cdc mX1_init := List.mem_filter.mpr ⟨hd_tb_sub (c := 1) (List.mem_of_getElem? (i := 30) rfl), rfl⟩
set_option maxRecDepth 100000 in
theorem zX2_init : hd_cdc mX2_init := List.mem_filter.mpr ⟨hd_tb_sub (c := 1) (List.mem_of_getElem? (i := 94) rfl), rfl⟩
set_option maxRecDepth 100000 in
theorem zX3_init : hd_cdc mX3_init := List.mem_filter.mpr ⟨hd_tb_sub (c := 1) (List.mem_of_getElem? (i := 150) rfl), rfl⟩
set_option maxRecDepth 100000 in
theorem zX4_init : hd_cdc mX4_init := List.mem_filter.mpr ⟨hd_tb_sub (c := 1) (List.mem_of_getElem? (i := 239) rfl), rfl⟩
set_option maxRecDepth 100000 in
theorem zX5_init : hd_cdc mX5_init := List.mem_filter.mpr ⟨hd_tb_sub (c := 2) (List.mem_of_getElem? (i := 18) rfl), rfl⟩
set_option maxRecDepth 100000 in
theorem zX6_init : hd_cdc mX6_init := List.mem_filter.mpr ⟨hd_tb_sub (c := 1) (List.mem_of_getElem? (i := 156) rfl), rfl⟩
set_option maxRecDepth 100000 in
theorem zX7_init : hd_cdc mX7_init := List.mem_filter.mpr ⟨hd_tb_sub (c := 1) (List.mem_of_getElem? (i := 22) rfl), rfl⟩
set_option maxRecDepth 100000 in
theorem zX8_init : hd_cdc mX8_init := List.mem_filter.mpr ⟨hd_tb_sub (c := 4) (List.mem_of_getElem? (i := 145) rfl), rfl⟩
end
section
/-! text constants: length and charAt -/
def mJ0_coder : hd_I := (yJ0_coder_7d493, cJ0_coder_7d493, 1, some .byte, 0, 0, 0, 0)
def mJ0_isLatin1 : hd_I := (yJ0_isLatin1_aae02, cJ0_isLatin1_aae02, 1, some .boolean, 0, 0, 0, 0)
def mJ3_checkIndex : hd_I := (yJ3_checkIndex_8e157, cJ3_checkIndex_8e157, 3, some .int, 0, 0, 0, 0)
def mJ0_checkIndex : hd_I := (yJ0_checkIndex_df160, cJ0_checkIndex_df160, 2, none, 1, 22, 0, 0)
def mJ1_charAt : hd_I := (yJ1_charAt_3b067, cJ1_charAt_3b067, 2, some .char, 2, 43, 0, 0)
set_option maxRecDepth 100000 in
theorem zJ0_coder : hd_cdc mJ0_coder := List.mem_filter.mpr ⟨hd_tb_sub (c := 2) (List.mem_of_getElem? (i := 190) rfl), rfl⟩
set_option maxRecDepth 100000 in
theorem zJ0_isLatin1 : hd_cdc mJ0_isLatin1 := List.mem_filter.mpr ⟨hd_tb_sub (c := 2) (List.mem_of_getElem? (i := 200) rfl), rfl⟩
set_option maxRecDepth 100000 in
theorem zJ3_checkIndex : hd_cdc mJ3_checkIndex := List.mem_filter.mpr ⟨hd_tb_sub (c := 2) (List.mem_of_getElem? (i := 211) rfl), rfl⟩
set_option maxRecDepth 100000 in
theorem zJ0_checkIndex : hd_cdc mJ0_checkIndex := List.mem_filter.mpr ⟨hd_tb_sub (c := 2) (List.mem_of_getElem? (i := 206) rfl), rfl⟩
set_option maxRecDepth 100000 in
theorem zJ1_charAt : hd_cdc mJ1_charAt := List.mem_filter.mpr ⟨hd_tb_sub (c := 2) (List.mem_of_getElem? (i := 203) rfl), rfl⟩
set_option maxRecDepth 100000 in
theorem qs_cs : Cond.fieldLink RJ0 38 RJ0 "COMPACT_STRINGS" "Z" ∈ lw_g := List.mem_filter.mpr ⟨hd_tb_sub (c := 2) (List.mem_of_getElem? (i := 191) rfl), rfl⟩
set_option maxRecDepth 100000 in
theorem qs_va : Cond.fieldLink RJ0 9 RJ0 "value" "[B" ∈ lw_g := List.mem_filter.mpr ⟨hd_tb_sub (c := 6) (List.mem_of_getElem? (i := 176) rfl), rfl⟩
set_option maxRecDepth 100000 in
theorem qs_co : Cond.fieldLink RJ0 15 RJ0 "coder" "B" ∈ lw_g := List.mem_filter.mpr ⟨hd_tb_sub (c := 6) (List.mem_of_getElem? (i := 177) rfl), rfl⟩
set_option maxRecDepth 100000 in
theorem qs_sf : Cond.fieldLink RJ0 1053 RJ3 "SIOOBE_FORMATTER" "Ljava/util/function/BiFunction;" ∈ lw_g := List.mem_filter.mpr ⟨hd_tb_sub (c := 2) (List.mem_of_getElem? (i := 207) rfl), rfl⟩
set_option maxRecDepth 100000 in
theorem qs_m1 : Cond.methodLink RJ0 335 yJ0_coder_7d493 ∈ lw_g ∧ Cond.instanceMethod yJ0_coder_7d493 ∈ lw_g ∧ Cond.selects RJ0 yJ0_coder_7d493 yJ0_coder_7d493 ∈ lw_g := ⟨List.mem_filter.mpr ⟨hd_tb_sub (c := 2) (List.mem_of_getElem? (i := 187) rfl), rfl⟩, List.mem_filter.mpr ⟨hd_tb_sub (c := 2) (List.mem_of_getElem? (i := 188) rfl), rfl⟩, List.mem_filter.mpr ⟨hd_tb_sub (c := 2) (List.mem_of_getElem? (i := 189) rfl), rfl⟩⟩
set_option maxRecDepth 100000 in
theorem qs_m2 : Cond.methodLink RJ0 492 yJ0_isLatin1_aae02 ∈ lw_g ∧ Cond.instanceMethod yJ0_isLatin1_aae02 ∈ lw_g ∧ Cond.selects RJ0 yJ0_isLatin1_aae02 yJ0_isLatin1_aae02 ∈ lw_g := ⟨List.mem_filter.mpr ⟨hd_tb_sub (c := 2) (List.mem_of_getElem? (i := 197) rfl), rfl⟩, List.mem_filter.mpr ⟨hd_tb_sub (c := 2) (List.mem_of_getElem? (i := 198) rfl), rfl⟩, List.mem_filter.mpr ⟨hd_tb_sub (c := 2) (List.mem_of_getElem? (i := 199) rfl), rfl⟩⟩
set_option maxRecDepth 100000 in
theorem qs_m3 : Cond.methodLink RJ0 495 yJ1_charAt_3b067 ∈ lw_g ∧ Cond.static yJ1_charAt_3b067 ∈ lw_g := ⟨List.mem_filter.mpr ⟨hd_tb_sub (c := 2) (List.mem_of_getElem? (i := 201) rfl), rfl⟩, List.mem_filter.mpr ⟨hd_tb_sub (c := 2) (List.mem_of_getElem? (i := 202) rfl), rfl⟩⟩
set_option maxRecDepth 100000 in
theorem qs_m4 : Cond.methodLink RJ1 9 yJ0_checkIndex_df160 ∈ lw_g ∧ Cond.static yJ0_checkIndex_df160 ∈ lw_g := ⟨List.mem_filter.mpr ⟨hd_tb_sub (c := 2) (List.mem_of_getElem? (i := 204) rfl), rfl⟩, List.mem_filter.mpr ⟨hd_tb_sub (c := 2) (List.mem_of_getElem? (i := 205) rfl), rfl⟩⟩
set_option maxRecDepth 100000 in
theorem qs_m5 : Cond.methodLink RJ0 1059 yJ3_checkIndex_8e157 ∈ lw_g ∧ Cond.static yJ3_checkIndex_8e157 ∈ lw_g := ⟨List.mem_filter.mpr ⟨hd_tb_sub (c := 2) (List.mem_of_getElem? (i := 209) rfl), rfl⟩, List.mem_filter.mpr ⟨hd_tb_sub (c := 2) (List.mem_of_getElem? (i := 210) rfl), rfl⟩⟩
/-- a method whose answer is known, of any small type -/
theorem EVn_of {G : hd_G} {mi : hd_I} {sh : hd_S} {as : List Value} {σ : hd_M} {P : Int32 → hd_M → Prop} {ty : FieldType} {x : Int32} (hy : plainName mi.1.cls = true) (hal : Nat.ble (hd_al2 as) mi.2.2.1 = true) (h0 : mi.2.2.2.2.2.2.1 = 0) (h1 : mi.2.2.2.2.2.2.2 = 0) (hrt : mi.2.2.2.1 = some ty) (hn : narrow ty (.int x) = .int x) (hp : P x σ) (h : ∀ X, hd_C G mi X → (∀ pc lv, decode mi.2.1 pc = .ok (.ireturn, 1) → hd_J G mi X sh (0, 0) pc lv [.int x] σ) → hd_J G mi X sh (0, 0) 0 (hd_ar 0 as) [] σ) : EVi G mi sh as σ P := by
  unfold EVi hd_EV
  rw [h0, h1]
  refine Met.ofW (cc := mi.2.1) (maxL := mi.2.2.1) (ret := mi.2.2.2.1) hy rfl ?_
  intro p e s m args below meth c s₁ B hml hv
  obtain ⟨rfl, hK, hP, hsz⟩ := hv
  have hts := atoms_spec (ws := hd_wm mi) B.pre
  have hC : hd_C G mi (p, e, (headSpec (hd_wm mi) (hd_rm mi)).room, s, m, (as.map (hd_v (hd_ad G))).toArray, below, meth, c, MQ below (hd_Qc G (sh.length + 0) (fun r sh' σ' => sh' = sh ∧ ∃ x, r = some (.int x) ∧ P x σ')) (as.map (hd_v (hd_ad G))).toArray s 0 0 (hd_A G)) :=
    ⟨B.exec, B.bytes, B.returns, hml, findClass_of_methodNamed B.named, fun w hw => hts w (List.mem_cons_of_mem _ hw), B.notSynchronized, hK, (name_of_methodNamed B.named B.method).1, Nat.le_refl _, Nat.le_refl _, rfl, rfl⟩
  have hl := lv_entry (as.map (hd_v (hd_ad G))) (n := mi.2.2.1) (by rw [hd_al2_eq]; exact Nat.le_of_ble_eq_true hal)
  rw [lg_entry_eq]
  rw [hd_ar_eq] at hl
  refine h _ hC (fun pc lv hd => ?_) (by show s.heap.size + 0 = _; rw [hsz]; rfl) s.heap [] _ hP va_S.rf hl
  intro hsz2 H locs ls hP2 hS2 hl2
  have hr : meth.sig.returnType = some ty := by rw [← hrt]; exact B.returns
  exact W.zret (v := x) B.exec B.bytes hr hn (fun t ht _ => ⟨⟨some (.int x), sh, σ, rfl, ⟨rfl, x, rfl, hp⟩, by rw [ht]; exact hP2, rfl⟩, hS2.F ht⟩) hS2.2.2 hd B.notSynchronized
theorem dJ_c0 : decode cJ0_coder_7d493 0 = .ok (.getstatic 38, 3) := by decide +kernel
theorem dJ_c3 : decode cJ0_coder_7d493 3 = .ok (.ifCond .eq 10, 3) := by decide +kernel
theorem dJ_c6 : decode cJ0_coder_7d493 6 = .ok (.aload_n 0, 1) := by decide +kernel
theorem dJ_c7 : decode cJ0_coder_7d493 7 = .ok (.getfield 15, 3) := by decide +kernel
theorem dJ_c10 : decode cJ0_coder_7d493 10 = .ok (.goto 4, 3) := by decide +kernel
theorem dJ_c14 : decode cJ0_coder_7d493 14 = .ok (.ireturn, 1) := by decide +kernel
theorem sJ0_coder {G : hd_G} {σ : hd_M} {P : Int32 → hd_M → Prop} {sh : hd_S} {j : Nat} (hj : j < 15) (h : P 0 σ) : EVi G mJ0_coder sh [.ref (5000 + j)] σ P := by
  refine EVn_of (ty := .byte) (x := 0) rfl rfl rfl rfl rfl rfl h (fun X hC fin => ?_)
  obtain ⟨p, e, R, s, m, args, below, meth, cd, Q⟩ := X
  obtain ⟨hx, hb, hr, hml, hown, hts, hlocks, hK, hrest⟩ := hC
  intro hsz H locs ls hP hS hl
  have hS' : va_S (hd_A G) s.heap H locs := hS
  have hstr : hd_str G s := hK.2.2.2.1
  refine va_gets (cc := cJ0_coder_7d493) (own := RJ0) (index := 38) (ref := RJ0) hx hb hstr.2.2.1 hS' hown (hts _ qs_cs) (fun x h => h) dJ_c0 ?_
  refine lv_if_eq (cc := cJ0_coder_7d493) (tgt := 13) hx hb dJ_c3 rfl (fun z => absurd z (by decide)) (fun _ => ?_)
  refine lv_aload_n (cc := cJ0_coder_7d493) (k := 0) (i := 0) hx hb dJ_c6 rfl (hd_has_at hl (v := .ref (5000 + j)) rfl) ?_
  refine vk_getf (cc := cJ0_coder_7d493) (own := RJ0) (ref := RJ0) hx hb (hstr.2.1.1 j hj).2.1 hS' hown (hts _ qs_co) (fun x h => h) dJ_c7 ?_
  refine lv_goto (cc := cJ0_coder_7d493) (tgt := 14) hx hb dJ_c10 rfl ?_
  exact fin 14 _ dJ_c14 hsz H locs ls hP hS hl
theorem dJ_l0 : decode cJ0_isLatin1_aae02 0 = .ok (.getstatic 38, 3) := by decide +kernel
theorem dJ_l3 : decode cJ0_isLatin1_aae02 3 = .ok (.ifCond .eq 14, 3) := by decide +kernel
theorem dJ_l6 : decode cJ0_isLatin1_aae02 6 = .ok (.aload_n 0, 1) := by decide +kernel
theorem dJ_l7 : decode cJ0_isLatin1_aae02 7 = .ok (.getfield 15, 3) := by decide +kernel
theorem dJ_l10 : decode cJ0_isLatin1_aae02 10 = .ok (.ifCond .ne 7, 3) := by decide +kernel
theorem dJ_l13 : decode cJ0_isLatin1_aae02 13 = .ok (.iconst 1, 1) := by decide +kernel
theorem dJ_l14 : decode cJ0_isLatin1_aae02 14 = .ok (.goto 4, 3) := by decide +kernel
theorem dJ_l18 : decode cJ0_isLatin1_aae02 18 = .ok (.ireturn, 1) := by decide +kernel
theorem sJ0_isLatin1 {G : hd_G} {σ : hd_M} {P : Int32 → hd_M → Prop} {sh : hd_S} {j : Nat} (hj : j < 15) (h : P 1 σ) : EVi G mJ0_isLatin1 sh [.ref (5000 + j)] σ P := by
  refine EVn_of (ty := .boolean) (x := 1) rfl rfl rfl rfl rfl rfl h (fun X hC fin => ?_)
  obtain ⟨p, e, R, s, m, args, below, meth, cd, Q⟩ := X
  obtain ⟨hx, hb, hr, hml, hown, hts, hlocks, hK, hrest⟩ := hC
  intro hsz H locs ls hP hS hl
  have hS' : va_S (hd_A G) s.heap H locs := hS
  have hstr : hd_str G s := hK.2.2.2.1
  refine va_gets (cc := cJ0_isLatin1_aae02) (own := RJ0) (index := 38) (ref := RJ0) hx hb hstr.2.2.1 hS' hown (hts _ qs_cs) (fun x h => h) dJ_l0 ?_
  refine lv_if_eq (cc := cJ0_isLatin1_aae02) (tgt := 17) hx hb dJ_l3 rfl (fun z => absurd z (by decide)) (fun _ => ?_)
  refine lv_aload_n (cc := cJ0_isLatin1_aae02) (k := 0) (i := 0) hx hb dJ_l6 rfl (hd_has_at hl (v := .ref (5000 + j)) rfl) ?_
  refine vk_getf (cc := cJ0_isLatin1_aae02) (own := RJ0) (ref := RJ0) hx hb (hstr.2.1.1 j hj).2.1 hS' hown (hts _ qs_co) (fun x h => h) dJ_l7 ?_
  refine lv_if_ne (cc := cJ0_isLatin1_aae02) (tgt := 17) hx hb dJ_l10 rfl (fun z => absurd rfl z) (fun _ => ?_)
  refine lv_iconst (cc := cJ0_isLatin1_aae02) (v := 1) hx hb dJ_l13 rfl ?_
  refine lv_goto (cc := cJ0_isLatin1_aae02) (tgt := 18) hx hb dJ_l14 rfl ?_
  exact fin 18 _ dJ_l18 hsz H locs ls hP hS hl
theorem dJ_n0 : decode cJ0_length_8abf5 0 = .ok (.aload_n 0, 1) := by decide +kernel
theorem dJ_n1 : decode cJ0_length_8abf5 1 = .ok (.getfield 9, 3) := by decide +kernel
theorem dJ_n4 : decode cJ0_length_8abf5 4 = .ok (.arraylength, 1) := by decide +kernel
theorem dJ_n5 : decode cJ0_length_8abf5 5 = .ok (.aload_n 0, 1) := by decide +kernel
theorem dJ_n6 : decode cJ0_length_8abf5 6 = .ok (.invokevirtual 335, 3) := by decide +kernel
theorem dJ_n9 : decode cJ0_length_8abf5 9 = .ok (.ishr, 1) := by decide +kernel
theorem dJ_n10 : decode cJ0_length_8abf5 10 = .ok (.ireturn, 1) := by decide +kernel
theorem qs_len : ∀ j, j < 15 → hd_sl.getD j 0 < 8 ∧ Int32.ofNat (hd_sl.getD j 0) >>> ((0 : Int32) &&& 31) = Int32.ofNat (hd_sl.getD j 0) := by decide +kernel
set_option maxRecDepth 100000 in
theorem qs_cal1 : hd_cal mJ0_length_8abf5 0 [(0, 0), (0, 0), (0, 1012)] mJ0_coder = true := by decide +kernel
theorem sJ0_length {G : hd_G} {σ : hd_M} {P : Int32 → hd_M → Prop} {sh : hd_S} {j : Nat} (hj : j < 15) (h : P (Int32.ofNat (hd_sl.getD j 0)) σ) : EVi G mJ0_length_8abf5 sh [.ref (5000 + j)] σ P := by
  refine EVn_of (ty := .int) (x := Int32.ofNat (hd_sl.getD j 0)) rfl rfl rfl rfl rfl rfl h (fun X hC fin => ?_)
  obtain ⟨p, e, R, s, m, args, below, meth, cd, Q⟩ := X
  have hC0 := hC
  obtain ⟨hx, hb, hr, hml, hown, hts, hlocks, hK, hrest⟩ := hC
  intro hsz H locs ls hP hS hl
  have hS' : va_S (hd_A G) s.heap H locs := hS
  have hstr : hd_str G s := hK.2.2.2.1
  refine lv_aload_n (cc := cJ0_length_8abf5) (k := 0) (i := 0) hx hb dJ_n0 rfl (hd_has_at hl (v := .ref (5000 + j)) rfl) ?_
  refine vk_getf (cc := cJ0_length_8abf5) (own := RJ0) (ref := RJ0) hx hb (hstr.2.1.1 j hj).2.2.1 hS' hown (hts _ qs_va) (fun x h => h) dJ_n1 ?_
  refine va_tlen (cc := cJ0_length_8abf5) hx hb (hstr.2.1.1 j hj).2.2.2 hS' rfl dJ_n4 ?_
  refine lv_aload_n (cc := cJ0_length_8abf5) (k := 0) (i := 0) hx hb dJ_n5 rfl (hd_has_at hl (v := .ref (5000 + j)) rfl) ?_
  refine hd_callT (mi := mJ0_length_8abf5) (ce := mJ0_coder) (idx := 335) (pc := 6) (n := 0) (q := 5000 + j) (as := []) (rest := [.int (Int32.ofNat (hd_sl.getD j 0))]) hC0 dJ_n6 qs_m1.1 qs_m1.2.1 qs_m1.2.2 rfl ⟨by omega, by omega⟩ qs_cal1 zJ0_coder ⟨Nat.le_refl _, Nat.le_refl _⟩ rfl (by show (1 : Nat) ≤ 8; decide) (sJ0_coder (P := fun x s => x = 0 ∧ s = σ) hj ⟨rfl, rfl⟩) (fun r sh' σ' hp => ?_) hsz H locs ls hP hS hl
  obtain ⟨rfl, x, rfl, rfl, rfl⟩ := hp
  intro hsz H locs ls hP hS hl
  refine lv_ishr (cc := cJ0_length_8abf5) hx hb dJ_n9 ?_
  have fin := fin 10 _ dJ_n10 hsz H locs ls hP hS hl
  rw [(qs_len j hj).2]
  exact fin
theorem dJ_p0 : decode cJ3_checkIndex_8e157 0 = .ok (.iload_n 0, 1) := by decide +kernel
theorem dJ_p1 : decode cJ3_checkIndex_8e157 1 = .ok (.ifCond .lt 8, 3) := by decide +kernel
theorem dJ_p4 : decode cJ3_checkIndex_8e157 4 = .ok (.iload_n 0, 1) := by decide +kernel
theorem dJ_p5 : decode cJ3_checkIndex_8e157 5 = .ok (.iload_n 1, 1) := by decide +kernel
theorem dJ_p6 : decode cJ3_checkIndex_8e157 6 = .ok (.if_icmp .lt 10, 3) := by decide +kernel
theorem dJ_p16 : decode cJ3_checkIndex_8e157 16 = .ok (.iload_n 0, 1) := by decide +kernel
theorem dJ_p17 : decode cJ3_checkIndex_8e157 17 = .ok (.ireturn, 1) := by decide +kernel
theorem sJ3_checkIndex {G : hd_G} {σ : hd_M} {P : Int32 → hd_M → Prop} {sh : hd_S} {x y : Int32} {v : Value} (hv : v = .null ∨ v = .ref 5300) (h0 : ¬ x < 0) (h1 : x < y) (h : P x σ) : EVi G mJ3_checkIndex sh [.int x, .int y, v] σ P := by
  refine EVn_of (ty := .int) (x := x) rfl (by rcases hv with rfl | rfl <;> rfl) rfl rfl rfl rfl h (fun X hC fin => ?_)
  obtain ⟨p, e, R, s, m, args, below, meth, cd, Q⟩ := X
  obtain ⟨hx, hb, hr, hml, hown, hts, hlocks, hK, hrest⟩ := hC
  intro hsz H locs ls hP hS hl
  refine lv_iload_n (cc := cJ3_checkIndex_8e157) (k := 0) (i := 0) hx hb dJ_p0 rfl (hd_has_at hl (v := .int x) rfl) ?_
  refine lv_if_lt (cc := cJ3_checkIndex_8e157) (tgt := 9) hx hb dJ_p1 rfl (fun z => absurd z h0) (fun _ => ?_)
  refine lv_iload_n (cc := cJ3_checkIndex_8e157) (k := 0) (i := 0) hx hb dJ_p4 rfl (hd_has_at hl (v := .int x) rfl) ?_
  refine lv_iload_n (cc := cJ3_checkIndex_8e157) (k := 1) (i := 1) hx hb dJ_p5 rfl (hd_has_at hl (v := .int y) rfl) ?_
  refine lv_icmp_lt (cc := cJ3_checkIndex_8e157) (tgt := 16) hx hb dJ_p6 rfl (fun _ => ?_) (fun z => absurd h1 z)
  refine lv_iload_n (cc := cJ3_checkIndex_8e157) (k := 0) (i := 0) hx hb dJ_p16 rfl (hd_has_at hl (v := .int x) rfl) ?_
  exact fin 17 _ dJ_p17 hsz H locs ls hP hS hl
theorem dJ_k0 : decode cJ0_checkIndex_df160 0 = .ok (.iload_n 0, 1) := by decide +kernel
theorem dJ_k1 : decode cJ0_checkIndex_df160 1 = .ok (.iload_n 1, 1) := by decide +kernel
theorem dJ_k2 : decode cJ0_checkIndex_df160 2 = .ok (.getstatic 1053, 3) := by decide +kernel
theorem dJ_k5 : decode cJ0_checkIndex_df160 5 = .ok (.invokestatic 1059, 3) := by decide +kernel
theorem dJ_k8 : decode cJ0_checkIndex_df160 8 = .ok (.pop, 1) := by decide +kernel
theorem dJ_k9 : decode cJ0_checkIndex_df160 9 = .ok (.return_, 1) := by decide +kernel
set_option maxRecDepth 100000 in
theorem qs_cal2 : hd_cal mJ0_checkIndex 3 [(0, 0), (0, 0), (0, 1014)] mJ3_checkIndex = true := by decide +kernel
theorem sJ0_checkIndex {G : hd_G} {σ : hd_M} {P : hd_M → Prop} {sh : hd_S} {x y : Int32} (h0 : ¬ x < 0) (h1 : x < y) (h : P σ) : EVv G mJ0_checkIndex sh [.int x, .int y] σ P := by
  refine EVv_of rfl rfl rfl rfl (fun X hX => ?_)
  obtain ⟨hC, hZ⟩ := hX
  obtain ⟨p, e, R, s, m, args, below, meth, cd, Q⟩ := X
  have hC0 := hC
  obtain ⟨hx, hb, hr, hml, hown, hts, hlocks, hK, hrest⟩ := hC
  intro hsz H locs ls hP hS hl
  have hS' : va_S (hd_A G) s.heap H locs := hS
  have hstr : hd_str G s := hK.2.2.2.1
  refine lv_iload_n (cc := cJ0_checkIndex_df160) (k := 0) (i := 0) hx hb dJ_k0 rfl (hd_has_at hl (v := .int x) rfl) ?_
  refine lv_iload_n (cc := cJ0_checkIndex_df160) (k := 1) (i := 1) hx hb dJ_k1 rfl (hd_has_at hl (v := .int y) rfl) ?_
  have call : ∀ v : Value, v = .null ∨ v = .ref 5300 → W p G.1 e R s m args below meth cd H locs 0 0 Q (F0 m 5 ls (([v, .int y, .int x] : List Value).map (hd_v (hd_ad G)))) := by
    intro v hv
    refine hd_callS (mi := mJ0_checkIndex) (ce := mJ3_checkIndex) (idx := 1059) (pc := 5) (n := 3) (as := [.int x, .int y, v]) (rest := []) hC0 dJ_k5 (Or.inl qs_m5.1) qs_m5.2 qs_cal2 zJ3_checkIndex ⟨Nat.le_refl _, Nat.le_refl _⟩ rfl (Nat.zero_le _) (sJ3_checkIndex (P := fun _ s => s = σ) hv h0 h1 rfl) (fun r sh' σ' hp => ?_) hsz H locs ls hP hS hl
    obtain ⟨rfl, x', rfl, rfl⟩ := hp
    intro hsz H locs ls hP hS hl
    refine lv_pop (cc := cJ0_checkIndex_df160) hx hb dJ_k8 rfl ?_
    exact hZ.2.2.2 σ' H locs ls 9 h hP hS dJ_k9
  rcases hstr.2.2.2 with q | q
  · exact va_gets (cc := cJ0_checkIndex_df160) (own := RJ0) (index := 1053) (ref := RJ3) hx hb q hS' hown (hts _ qs_sf) (fun x h => h) dJ_k2 (call .null (Or.inl rfl))
  · exact va_gets (cc := cJ0_checkIndex_df160) (own := RJ0) (index := 1053) (ref := RJ3) hx hb q hS' hown (hts _ qs_sf) (fun x h => h) dJ_k2 (call (.ref 5300) (Or.inr rfl))
theorem dJ_h0 : decode cJ1_charAt_3b067 0 = .ok (.iload_n 1, 1) := by decide +kernel
theorem dJ_h1 : decode cJ1_charAt_3b067 1 = .ok (.aload_n 0, 1) := by decide +kernel
theorem dJ_h2 : decode cJ1_charAt_3b067 2 = .ok (.arraylength, 1) := by decide +kernel
theorem dJ_h3 : decode cJ1_charAt_3b067 3 = .ok (.invokestatic 9, 3) := by decide +kernel
theorem dJ_h6 : decode cJ1_charAt_3b067 6 = .ok (.aload_n 0, 1) := by decide +kernel
theorem dJ_h7 : decode cJ1_charAt_3b067 7 = .ok (.iload_n 1, 1) := by decide +kernel
theorem dJ_h8 : decode cJ1_charAt_3b067 8 = .ok (.baload, 1) := by decide +kernel
theorem dJ_h9 : decode cJ1_charAt_3b067 9 = .ok (.sipush 255, 3) := by decide +kernel
theorem dJ_h12 : decode cJ1_charAt_3b067 12 = .ok (.iand, 1) := by decide +kernel
theorem dJ_h13 : decode cJ1_charAt_3b067 13 = .ok (.i2c, 1) := by decide +kernel
theorem dJ_h14 : decode cJ1_charAt_3b067 14 = .ok (.ireturn, 1) := by decide +kernel
theorem qs_ch : ∀ j, j < 15 → ∀ i, i < 8 → ((((hd_sb.getD j []).getD i 0) &&& 255 : Int32).toUInt32 % 65536).toInt32 = (hd_sb.getD j []).getD i 0 := by decide +kernel
theorem qs_nc : ∀ j, j < 15 → ∀ i, i < 8 → ∃ q : Nat, q < 65536 ∧ (hd_sb.getD j []).getD i 0 = nI q := by
  intro j hj i hi
  have := qs_ch j hj i hi
  rw [pk_char] at this
  exact ⟨_, Nat.mod_lt _ (by decide), this.symm⟩
set_option maxRecDepth 100000 in
theorem qs_cal3 : hd_cal mJ1_charAt 2 [(0, 0), (0, 0), (0, 1012)] mJ0_checkIndex = true := by decide +kernel
theorem sJ1_charAt {G : hd_G} {σ : hd_M} {P : Int32 → hd_M → Prop} {sh : hd_S} {j i : Nat} (hj : j < 15) (hi : i < hd_sl.getD j 0) (h : P ((hd_sb.getD j []).getD i 0) σ) : EVi G mJ1_charAt sh [.ref (5100 + j), .int (nI i)] σ P := by
  have hl8 := (qs_len j hj).1
  have nar : narrow .char (.int ((hd_sb.getD j []).getD i 0)) = .int ((hd_sb.getD j []).getD i 0) := by
    obtain ⟨q, h1, h2⟩ := qs_nc j hj i (by omega)
    rw [h2]
    exact (pk_charN h1).1
  refine EVn_of (ty := .char) (x := (hd_sb.getD j []).getD i 0) rfl rfl rfl rfl rfl nar h (fun X hC fin => ?_)
  obtain ⟨p, e, R, s, m, args, below, meth, cd, Q⟩ := X
  have hC0 := hC
  obtain ⟨hx, hb, hr, hml, hown, hts, hlocks, hK, hrest⟩ := hC
  intro hsz H locs ls hP hS hl
  have hS' : va_S (hd_A G) s.heap H locs := hS
  have hstr : hd_str G s := hK.2.2.2.1
  refine lv_iload_n (cc := cJ1_charAt_3b067) (k := 1) (i := 1) hx hb dJ_h0 rfl (hd_has_at hl (v := .int (nI i)) rfl) ?_
  refine lv_aload_n (cc := cJ1_charAt_3b067) (k := 0) (i := 0) hx hb dJ_h1 rfl (hd_has_at hl (v := .ref (5100 + j)) rfl) ?_
  refine va_tlen (cc := cJ1_charAt_3b067) hx hb (hstr.2.1.1 j hj).2.2.2 hS' rfl dJ_h2 ?_
  refine hd_callS (mi := mJ1_charAt) (ce := mJ0_checkIndex) (idx := 9) (pc := 3) (n := 2) (as := [.int (nI i), .int (Int32.ofNat (hd_sl.getD j 0))]) (rest := []) hC0 dJ_h3 (Or.inl qs_m4.1) qs_m4.2 qs_cal3 zJ0_checkIndex ⟨Nat.le_refl _, Nat.le_refl _⟩ rfl (Nat.zero_le _) (sJ0_checkIndex (P := fun s => s = σ) (nI_pos (by omega)) (nI_lt hi (by omega)) rfl) (fun r sh' σ' hp => ?_) hsz H locs ls hP hS hl
  obtain ⟨rfl, rfl, rfl⟩ := hp
  intro hsz H locs ls hP hS hl
  have hS' : va_S (hd_A G) s.heap H locs := hS
  refine lv_aload_n (cc := cJ1_charAt_3b067) (k := 0) (i := 0) hx hb dJ_h6 rfl (hd_has_at hl (v := .ref (5100 + j)) rfl) ?_
  refine lv_iload_n (cc := cJ1_charAt_3b067) (k := 1) (i := 1) hx hb dJ_h7 rfl (hd_has_at hl (v := .int (nI i)) rfl) ?_
  refine va_tb (cc := cJ1_charAt_3b067) hx hb (hstr.2.1.1 j hj).2.2.2 hS' (i := nI i) (vp_in_nI hi (by omega)) (v := .int ((hd_sb.getD j []).getD i 0)) (by rw [nI_clamp (by omega)]) dJ_h8 ?_
  refine lv_sipush (cc := cJ1_charAt_3b067) (v := 255) hx hb dJ_h9 rfl ?_
  refine lv_iand (cc := cJ1_charAt_3b067) hx hb dJ_h12 ?_
  refine lv_i2c (cc := cJ1_charAt_3b067) hx hb dJ_h13 (qs_ch j hj i (by omega)) ?_
  exact fin 14 _ dJ_h14 hsz H locs ls hP hS hl
theorem dJ_a0 : decode cJ0_charAt_5068e 0 = .ok (.aload_n 0, 1) := by decide +kernel
theorem dJ_a1 : decode cJ0_charAt_5068e 1 = .ok (.invokevirtual 492, 3) := by decide +kernel
theorem dJ_a4 : decode cJ0_charAt_5068e 4 = .ok (.ifCond .eq 12, 3) := by decide +kernel
theorem dJ_a7 : decode cJ0_charAt_5068e 7 = .ok (.aload_n 0, 1) := by decide +kernel
theorem dJ_a8 : decode cJ0_charAt_5068e 8 = .ok (.getfield 9, 3) := by decide +kernel
theorem dJ_a11 : decode cJ0_charAt_5068e 11 = .ok (.iload_n 1, 1) := by decide +kernel
theorem dJ_a12 : decode cJ0_charAt_5068e 12 = .ok (.invokestatic 495, 3) := by decide +kernel
theorem dJ_a15 : decode cJ0_charAt_5068e 15 = .ok (.ireturn, 1) := by decide +kernel
set_option maxRecDepth 100000 in
theorem qs_cal4 : hd_cal mJ0_charAt_5068e 0 [(0, 0), (0, 0), (0, 1012)] mJ0_isLatin1 = true := by decide +kernel
set_option maxRecDepth 100000 in
theorem qs_cal5 : hd_cal mJ0_charAt_5068e 2 [(0, 0), (0, 0), (0, 1013)] mJ1_charAt = true := by decide +kernel
theorem sJ0_charAt {G : hd_G} {σ : hd_M} {P : Int32 → hd_M → Prop} {sh : hd_S} {j i : Nat} (hj : j < 15) (hi : i < hd_sl.getD j 0) (h : P ((hd_sb.getD j []).getD i 0) σ) : EVi G mJ0_charAt_5068e sh [.ref (5000 + j), .int (nI i)] σ P := by
  have hl8 := (qs_len j hj).1
  have nar : narrow .char (.int ((hd_sb.getD j []).getD i 0)) = .int ((hd_sb.getD j []).getD i 0) := by
    obtain ⟨q, h1, h2⟩ := qs_nc j hj i (by omega)
    rw [h2]
    exact (pk_charN h1).1
  refine EVn_of (ty := .char) (x := (hd_sb.getD j []).getD i 0) rfl rfl rfl rfl rfl nar h (fun X hC fin => ?_)
  obtain ⟨p, e, R, s, m, args, below, meth, cd, Q⟩ := X
  have hC0 := hC
  obtain ⟨hx, hb, hr, hml, hown, hts, hlocks, hK, hrest⟩ := hC
  intro hsz H locs ls hP hS hl
  have hstr : hd_str G s := hK.2.2.2.1
  refine lv_aload_n (cc := cJ0_charAt_5068e) (k := 0) (i := 0) hx hb dJ_a0 rfl (hd_has_at hl (v := .ref (5000 + j)) rfl) ?_
  refine hd_callT (mi := mJ0_charAt_5068e) (ce := mJ0_isLatin1) (idx := 492) (pc := 1) (n := 0) (q := 5000 + j) (as := []) (rest := []) hC0 dJ_a1 qs_m2.1 qs_m2.2.1 qs_m2.2.2 rfl ⟨by omega, by omega⟩ qs_cal4 zJ0_isLatin1 ⟨Nat.le_refl _, Nat.le_refl _⟩ rfl (Nat.zero_le _) (sJ0_isLatin1 (P := fun x s => x = 1 ∧ s = σ) hj ⟨rfl, rfl⟩) (fun r sh' σ' hp => ?_) hsz H locs ls hP hS hl
  obtain ⟨rfl, x, rfl, rfl, rfl⟩ := hp
  intro hsz H locs ls hP hS hl
  have hS' : va_S (hd_A G) s.heap H locs := hS
  refine lv_if_eq (cc := cJ0_charAt_5068e) (tgt := 16) hx hb dJ_a4 rfl (fun z => absurd z (by decide)) (fun _ => ?_)
  refine lv_aload_n (cc := cJ0_charAt_5068e) (k := 0) (i := 0) hx hb dJ_a7 rfl (hd_has_at hl (v := .ref (5000 + j)) rfl) ?_
  refine vk_getf (cc := cJ0_charAt_5068e) (own := RJ0) (ref := RJ0) hx hb (hstr.2.1.1 j hj).2.2.1 hS' hown (hts _ qs_va) (fun x h => h) dJ_a8 ?_
  refine lv_iload_n (cc := cJ0_charAt_5068e) (k := 1) (i := 1) hx hb dJ_a11 rfl (hd_has_at hl (v := .int (nI i)) rfl) ?_
  refine hd_callS (mi := mJ0_charAt_5068e) (ce := mJ1_charAt) (idx := 495) (pc := 12) (n := 2) (as := [.ref (5100 + j), .int (nI i)]) (rest := []) hC0 dJ_a12 (Or.inl qs_m3.1) qs_m3.2 qs_cal5 zJ1_charAt ⟨Nat.le_refl _, Nat.le_refl _⟩ rfl (Nat.zero_le _) (sJ1_charAt (P := fun x s => x = (hd_sb.getD j []).getD i 0 ∧ s = σ') hj hi ⟨rfl, rfl⟩) (fun r sh' σ'' hp => ?_) hsz H locs ls hP hS hl
  obtain ⟨rfl, x, rfl, rfl, rfl⟩ := hp
  intro hsz H locs ls hP hS hl
  exact fin 15 _ dJ_a15 hsz H locs ls hP hS hl
end
