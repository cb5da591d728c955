section
-- ===== PART A: goes FIRST, ahead of the names: the tables' words, and 'selects' of the private methods out of them =====
/-- a private method of a class that the tables say can be made, by its rows of tables_1 -/
def lw_okq (q : MethodName × Nat) : Prop := (q.1.cls ≠ "java/lang/invoke/MethodHandle" ∧ q.1.cls ≠ "java/lang/invoke/VarHandle") ∧ Cond.instantiable q.1.cls q.2 ∈ tables_1 ∧ Cond.privateMethod q.1 ∈ tables_1 ∧ Cond.instanceMethod q.1 ∈ tables_1
theorem lw_p0 : lw_okq (⟨"SatchelSins$Reader", "skipBlanks", "()V"⟩, 7) := ⟨⟨by decide +kernel, by decide +kernel⟩, List.mem_of_getElem? (i := 85) (by decide +kernel), List.mem_of_getElem? (i := 324) (by decide +kernel), List.mem_of_getElem? (i := 325) (by decide +kernel)⟩
theorem lw_p1 : lw_okq (⟨"SatchelSins$Reader", "letter", "()I"⟩, 7) := ⟨⟨by decide +kernel, by decide +kernel⟩, List.mem_of_getElem? (i := 85) (by decide +kernel), List.mem_of_getElem? (i := 328) (by decide +kernel), List.mem_of_getElem? (i := 329) (by decide +kernel)⟩
theorem lw_p2 : lw_okq (⟨"SatchelSins$Reader", "readClause", "()V"⟩, 7) := ⟨⟨by decide +kernel, by decide +kernel⟩, List.mem_of_getElem? (i := 85) (by decide +kernel), List.mem_of_getElem? (i := 332) (by decide +kernel), List.mem_of_getElem? (i := 333) (by decide +kernel)⟩
theorem lw_p3 : lw_okq (⟨"SatchelSins$Reader", "fail", "(II)V"⟩, 7) := ⟨⟨by decide +kernel, by decide +kernel⟩, List.mem_of_getElem? (i := 85) (by decide +kernel), List.mem_of_getElem? (i := 336) (by decide +kernel), List.mem_of_getElem? (i := 337) (by decide +kernel)⟩
theorem lw_p4 : lw_okq (⟨"SatchelSins$Reader", "readBrook", "()V"⟩, 7) := ⟨⟨by decide +kernel, by decide +kernel⟩, List.mem_of_getElem? (i := 85) (by decide +kernel), List.mem_of_getElem? (i := 340) (by decide +kernel), List.mem_of_getElem? (i := 341) (by decide +kernel)⟩
theorem lw_p5 : lw_okq (⟨"SatchelSins$Reader", "takeWord", "(Z)V"⟩, 7) := ⟨⟨by decide +kernel, by decide +kernel⟩, List.mem_of_getElem? (i := 85) (by decide +kernel), List.mem_of_getElem? (i := 344) (by decide +kernel), List.mem_of_getElem? (i := 345) (by decide +kernel)⟩
theorem lw_p6 : lw_okq (⟨"SatchelSins$Reader", "readNumber", "(II)I"⟩, 7) := ⟨⟨by decide +kernel, by decide +kernel⟩, List.mem_of_getElem? (i := 85) (by decide +kernel), List.mem_of_getElem? (i := 348) (by decide +kernel), List.mem_of_getElem? (i := 349) (by decide +kernel)⟩
theorem lw_p7 : lw_okq (⟨"SatchelSins$Reader", "isFigure", "(I)Z"⟩, 7) := ⟨⟨by decide +kernel, by decide +kernel⟩, List.mem_of_getElem? (i := 85) (by decide +kernel), List.mem_of_getElem? (i := 352) (by decide +kernel), List.mem_of_getElem? (i := 353) (by decide +kernel)⟩
theorem lw_p8 : lw_okq (⟨"SatchelSins$Reader", "readEnd", "()V"⟩, 7) := ⟨⟨by decide +kernel, by decide +kernel⟩, List.mem_of_getElem? (i := 85) (by decide +kernel), List.mem_of_getElem? (i := 356) (by decide +kernel), List.mem_of_getElem? (i := 357) (by decide +kernel)⟩
theorem lw_p9 : lw_okq (⟨"SatchelSins$Reader", "readChild", "()V"⟩, 7) := ⟨⟨by decide +kernel, by decide +kernel⟩, List.mem_of_getElem? (i := 85) (by decide +kernel), List.mem_of_getElem? (i := 360) (by decide +kernel), List.mem_of_getElem? (i := 361) (by decide +kernel)⟩
theorem lw_p10 : lw_okq (⟨"SatchelSins$Reader", "readDeed", "()V"⟩, 7) := ⟨⟨by decide +kernel, by decide +kernel⟩, List.mem_of_getElem? (i := 85) (by decide +kernel), List.mem_of_getElem? (i := 368) (by decide +kernel), List.mem_of_getElem? (i := 369) (by decide +kernel)⟩
theorem lw_p11 : lw_okq (⟨"SatchelSins$Reader", "readHanding", "()V"⟩, 7) := ⟨⟨by decide +kernel, by decide +kernel⟩, List.mem_of_getElem? (i := 85) (by decide +kernel), List.mem_of_getElem? (i := 376) (by decide +kernel), List.mem_of_getElem? (i := 377) (by decide +kernel)⟩
theorem lw_p12 : lw_okq (⟨"SatchelSins$Roll", "hasItFrom", "(II)Z"⟩, 9) := ⟨⟨by decide +kernel, by decide +kernel⟩, List.mem_of_getElem? (i := 23) (by decide +kernel), List.mem_of_getElem? (i := 384) (by decide +kernel), List.mem_of_getElem? (i := 385) (by decide +kernel)⟩
theorem lw_p13 : lw_okq (⟨"SatchelSins", "beginAnew", "()V"⟩, 14) := ⟨⟨by decide +kernel, by decide +kernel⟩, List.mem_of_getElem? (i := 15) (by decide +kernel), List.mem_of_getElem? (i := 403) (by decide +kernel), List.mem_of_getElem? (i := 404) (by decide +kernel)⟩
theorem lw_p14 : lw_okq (⟨"SatchelSins$Day", "ownLoadOf", "(I)I"⟩, 2) := ⟨⟨by decide +kernel, by decide +kernel⟩, List.mem_of_getElem? (i := 113) (by decide +kernel), List.mem_of_getElem? (i := 476) (by decide +kernel), List.mem_of_getElem? (i := 477) (by decide +kernel)⟩
theorem lw_p15 : lw_okq (⟨"SatchelSins", "driftOnce", "()V"⟩, 14) := ⟨⟨by decide +kernel, by decide +kernel⟩, List.mem_of_getElem? (i := 15) (by decide +kernel), List.mem_of_getElem? (i := 594) (by decide +kernel), List.mem_of_getElem? (i := 595) (by decide +kernel)⟩
def lw_privs_1 : List (MethodName × Nat) := [(⟨"SatchelSins$Reader", "skipBlanks", "()V"⟩, 7), (⟨"SatchelSins$Reader", "letter", "()I"⟩, 7), (⟨"SatchelSins$Reader", "readClause", "()V"⟩, 7), (⟨"SatchelSins$Reader", "fail", "(II)V"⟩, 7), (⟨"SatchelSins$Reader", "readBrook", "()V"⟩, 7), (⟨"SatchelSins$Reader", "takeWord", "(Z)V"⟩, 7), (⟨"SatchelSins$Reader", "readNumber", "(II)I"⟩, 7), (⟨"SatchelSins$Reader", "isFigure", "(I)Z"⟩, 7), (⟨"SatchelSins$Reader", "readEnd", "()V"⟩, 7), (⟨"SatchelSins$Reader", "readChild", "()V"⟩, 7), (⟨"SatchelSins$Reader", "readDeed", "()V"⟩, 7), (⟨"SatchelSins$Reader", "readHanding", "()V"⟩, 7), (⟨"SatchelSins$Roll", "hasItFrom", "(II)Z"⟩, 9), (⟨"SatchelSins", "beginAnew", "()V"⟩, 14), (⟨"SatchelSins$Day", "ownLoadOf", "(I)I"⟩, 2), (⟨"SatchelSins", "driftOnce", "()V"⟩, 14)]
theorem lw_r1 : ∀ q ∈ lw_privs_1, lw_okq q := List.forall_mem_cons.mpr ⟨lw_p0, List.forall_mem_cons.mpr ⟨lw_p1, List.forall_mem_cons.mpr ⟨lw_p2, List.forall_mem_cons.mpr ⟨lw_p3, List.forall_mem_cons.mpr ⟨lw_p4, List.forall_mem_cons.mpr ⟨lw_p5, List.forall_mem_cons.mpr ⟨lw_p6, List.forall_mem_cons.mpr ⟨lw_p7, List.forall_mem_cons.mpr ⟨lw_p8, List.forall_mem_cons.mpr ⟨lw_p9, List.forall_mem_cons.mpr ⟨lw_p10, List.forall_mem_cons.mpr ⟨lw_p11, List.forall_mem_cons.mpr ⟨lw_p12, List.forall_mem_cons.mpr ⟨lw_p13, List.forall_mem_cons.mpr ⟨lw_p14, List.forall_mem_cons.mpr ⟨lw_p15, fun _ h => absurd h List.not_mem_nil⟩⟩⟩⟩⟩⟩⟩⟩⟩⟩⟩⟩⟩⟩⟩⟩
theorem lw_p16 : lw_okq (⟨"SatchelSins", "draw", "(I)I"⟩, 14) := ⟨⟨by decide +kernel, by decide +kernel⟩, List.mem_of_getElem? (i := 15) (by decide +kernel), List.mem_of_getElem? (i := 598) (by decide +kernel), List.mem_of_getElem? (i := 599) (by decide +kernel)⟩
theorem lw_p17 : lw_okq (⟨"SatchelSins", "packed", "(LSatchelSins$Packing;I)I"⟩, 14) := ⟨⟨by decide +kernel, by decide +kernel⟩, List.mem_of_getElem? (i := 15) (by decide +kernel), List.mem_of_getElem? (i := 622) (by decide +kernel), List.mem_of_getElem? (i := 623) (by decide +kernel)⟩
theorem lw_p18 : lw_okq (⟨"SatchelSins$Packing", "solve", "()V"⟩, 9) := ⟨⟨by decide +kernel, by decide +kernel⟩, List.mem_of_getElem? (i := 153) (by decide +kernel), List.mem_of_getElem? (i := 630) (by decide +kernel), List.mem_of_getElem? (i := 631) (by decide +kernel)⟩
theorem lw_p19 : lw_okq (⟨"SatchelSins$Packing", "haveHoldersChanged", "()Z"⟩, 9) := ⟨⟨by decide +kernel, by decide +kernel⟩, List.mem_of_getElem? (i := 153) (by decide +kernel), List.mem_of_getElem? (i := 634) (by decide +kernel), List.mem_of_getElem? (i := 635) (by decide +kernel)⟩
theorem lw_p20 : lw_okq (⟨"SatchelSins$Packing", "holderNow", "(I)I"⟩, 9) := ⟨⟨by decide +kernel, by decide +kernel⟩, List.mem_of_getElem? (i := 153) (by decide +kernel), List.mem_of_getElem? (i := 638) (by decide +kernel), List.mem_of_getElem? (i := 639) (by decide +kernel)⟩
theorem lw_p21 : lw_okq (⟨"SatchelSins$Packing", "place", "(II)V"⟩, 9) := ⟨⟨by decide +kernel, by decide +kernel⟩, List.mem_of_getElem? (i := 153) (by decide +kernel), List.mem_of_getElem? (i := 646) (by decide +kernel), List.mem_of_getElem? (i := 647) (by decide +kernel)⟩
theorem lw_p22 : lw_okq (⟨"SatchelSins$Scale", "weightOf", "(I)I"⟩, 5) := ⟨⟨by decide +kernel, by decide +kernel⟩, List.mem_of_getElem? (i := 187) (by decide +kernel), List.mem_of_getElem? (i := 678) (by decide +kernel), List.mem_of_getElem? (i := 679) (by decide +kernel)⟩
theorem lw_p23 : lw_okq (⟨"SatchelSins$Scale", "count", "(I)V"⟩, 5) := ⟨⟨by decide +kernel, by decide +kernel⟩, List.mem_of_getElem? (i := 187) (by decide +kernel), List.mem_of_getElem? (i := 682) (by decide +kernel), List.mem_of_getElem? (i := 683) (by decide +kernel)⟩
theorem lw_p24 : lw_okq (⟨"SatchelSinsModel", "here", "()I"⟩, 41) := ⟨⟨by decide +kernel, by decide +kernel⟩, List.mem_of_getElem? (i := 772) (by decide +kernel), List.mem_of_getElem? (i := 916) (by decide +kernel), List.mem_of_getElem? (i := 917) (by decide +kernel)⟩
theorem lw_p25 : lw_okq (⟨"SatchelSinsModel", "takeClause", "()I"⟩, 41) := ⟨⟨by decide +kernel, by decide +kernel⟩, List.mem_of_getElem? (i := 772) (by decide +kernel), List.mem_of_getElem? (i := 920) (by decide +kernel), List.mem_of_getElem? (i := 921) (by decide +kernel)⟩
theorem lw_p26 : lw_okq (⟨"SatchelSinsModel", "fails", "(II)I"⟩, 41) := ⟨⟨by decide +kernel, by decide +kernel⟩, List.mem_of_getElem? (i := 772) (by decide +kernel), List.mem_of_getElem? (i := 924) (by decide +kernel), List.mem_of_getElem? (i := 925) (by decide +kernel)⟩
theorem lw_p27 : lw_okq (⟨"SatchelSinsModel", "takeBrook", "()I"⟩, 41) := ⟨⟨by decide +kernel, by decide +kernel⟩, List.mem_of_getElem? (i := 772) (by decide +kernel), List.mem_of_getElem? (i := 928) (by decide +kernel), List.mem_of_getElem? (i := 929) (by decide +kernel)⟩
theorem lw_p28 : lw_okq (⟨"SatchelSinsModel", "takeNumber", "(II)I"⟩, 41) := ⟨⟨by decide +kernel, by decide +kernel⟩, List.mem_of_getElem? (i := 772) (by decide +kernel), List.mem_of_getElem? (i := 932) (by decide +kernel), List.mem_of_getElem? (i := 933) (by decide +kernel)⟩
theorem lw_p29 : lw_okq (⟨"SatchelSinsModel", "takeChild", "()I"⟩, 41) := ⟨⟨by decide +kernel, by decide +kernel⟩, List.mem_of_getElem? (i := 772) (by decide +kernel), List.mem_of_getElem? (i := 938) (by decide +kernel), List.mem_of_getElem? (i := 939) (by decide +kernel)⟩
theorem lw_p30 : lw_okq (⟨"SatchelSinsModel", "into", "([IIII)I"⟩, 41) := ⟨⟨by decide +kernel, by decide +kernel⟩, List.mem_of_getElem? (i := 772) (by decide +kernel), List.mem_of_getElem? (i := 942) (by decide +kernel), List.mem_of_getElem? (i := 943) (by decide +kernel)⟩
theorem lw_p31 : lw_okq (⟨"SatchelSinsModel", "takeDeed", "()I"⟩, 41) := ⟨⟨by decide +kernel, by decide +kernel⟩, List.mem_of_getElem? (i := 772) (by decide +kernel), List.mem_of_getElem? (i := 946) (by decide +kernel), List.mem_of_getElem? (i := 947) (by decide +kernel)⟩
def lw_privs_2 : List (MethodName × Nat) := [(⟨"SatchelSins", "draw", "(I)I"⟩, 14), (⟨"SatchelSins", "packed", "(LSatchelSins$Packing;I)I"⟩, 14), (⟨"SatchelSins$Packing", "solve", "()V"⟩, 9), (⟨"SatchelSins$Packing", "haveHoldersChanged", "()Z"⟩, 9), (⟨"SatchelSins$Packing", "holderNow", "(I)I"⟩, 9), (⟨"SatchelSins$Packing", "place", "(II)V"⟩, 9), (⟨"SatchelSins$Scale", "weightOf", "(I)I"⟩, 5), (⟨"SatchelSins$Scale", "count", "(I)V"⟩, 5), (⟨"SatchelSinsModel", "here", "()I"⟩, 41), (⟨"SatchelSinsModel", "takeClause", "()I"⟩, 41), (⟨"SatchelSinsModel", "fails", "(II)I"⟩, 41), (⟨"SatchelSinsModel", "takeBrook", "()I"⟩, 41), (⟨"SatchelSinsModel", "takeNumber", "(II)I"⟩, 41), (⟨"SatchelSinsModel", "takeChild", "()I"⟩, 41), (⟨"SatchelSinsModel", "into", "([IIII)I"⟩, 41), (⟨"SatchelSinsModel", "takeDeed", "()I"⟩, 41)]
theorem lw_r2 : ∀ q ∈ lw_privs_2, lw_okq q := List.forall_mem_cons.mpr ⟨lw_p16, List.forall_mem_cons.mpr ⟨lw_p17, List.forall_mem_cons.mpr ⟨lw_p18, List.forall_mem_cons.mpr ⟨lw_p19, List.forall_mem_cons.mpr ⟨lw_p20, List.forall_mem_cons.mpr ⟨lw_p21, List.forall_mem_cons.mpr ⟨lw_p22, List.forall_mem_cons.mpr ⟨lw_p23, List.forall_mem_cons.mpr ⟨lw_p24, List.forall_mem_cons.mpr ⟨lw_p25, List.forall_mem_cons.mpr ⟨lw_p26, List.forall_mem_cons.mpr ⟨lw_p27, List.forall_mem_cons.mpr ⟨lw_p28, List.forall_mem_cons.mpr ⟨lw_p29, List.forall_mem_cons.mpr ⟨lw_p30, List.forall_mem_cons.mpr ⟨lw_p31, fun _ h => absurd h List.not_mem_nil⟩⟩⟩⟩⟩⟩⟩⟩⟩⟩⟩⟩⟩⟩⟩⟩
theorem lw_p32 : lw_okq (⟨"SatchelSinsModel", "takeHanded", "()I"⟩, 41) := ⟨⟨by decide +kernel, by decide +kernel⟩, List.mem_of_getElem? (i := 772) (by decide +kernel), List.mem_of_getElem? (i := 950) (by decide +kernel), List.mem_of_getElem? (i := 951) (by decide +kernel)⟩
theorem lw_p33 : lw_okq (⟨"SatchelSinsModel", "takeRead", "()V"⟩, 41) := ⟨⟨by decide +kernel, by decide +kernel⟩, List.mem_of_getElem? (i := 772) (by decide +kernel), List.mem_of_getElem? (i := 954) (by decide +kernel), List.mem_of_getElem? (i := 955) (by decide +kernel)⟩
theorem lw_p34 : lw_okq (⟨"SatchelSinsModel", "lamed", "()I"⟩, 41) := ⟨⟨by decide +kernel, by decide +kernel⟩, List.mem_of_getElem? (i := 772) (by decide +kernel), List.mem_of_getElem? (i := 966) (by decide +kernel), List.mem_of_getElem? (i := 967) (by decide +kernel)⟩
theorem lw_p35 : lw_okq (⟨"SatchelSinsModel", "load", "(I)I"⟩, 41) := ⟨⟨by decide +kernel, by decide +kernel⟩, List.mem_of_getElem? (i := 772) (by decide +kernel), List.mem_of_getElem? (i := 970) (by decide +kernel), List.mem_of_getElem? (i := 971) (by decide +kernel)⟩
theorem lw_p36 : lw_okq (⟨"SatchelSinsModel", "isWith", "(III)Z"⟩, 41) := ⟨⟨by decide +kernel, by decide +kernel⟩, List.mem_of_getElem? (i := 772) (by decide +kernel), List.mem_of_getElem? (i := 974) (by decide +kernel), List.mem_of_getElem? (i := 975) (by decide +kernel)⟩
theorem lw_p37 : lw_okq (⟨"SatchelSinsModel", "lamedDays", "()I"⟩, 41) := ⟨⟨by decide +kernel, by decide +kernel⟩, List.mem_of_getElem? (i := 772) (by decide +kernel), List.mem_of_getElem? (i := 978) (by decide +kernel), List.mem_of_getElem? (i := 979) (by decide +kernel)⟩
theorem lw_p38 : lw_okq (⟨"SatchelSinsModel", "made", "()I"⟩, 41) := ⟨⟨by decide +kernel, by decide +kernel⟩, List.mem_of_getElem? (i := 772) (by decide +kernel), List.mem_of_getElem? (i := 982) (by decide +kernel), List.mem_of_getElem? (i := 983) (by decide +kernel)⟩
theorem lw_p39 : lw_okq (⟨"SatchelSinsModel", "lastHome", "()I"⟩, 41) := ⟨⟨by decide +kernel, by decide +kernel⟩, List.mem_of_getElem? (i := 772) (by decide +kernel), List.mem_of_getElem? (i := 986) (by decide +kernel), List.mem_of_getElem? (i := 987) (by decide +kernel)⟩
theorem lw_p40 : lw_okq (⟨"SatchelSinsModel", "minutes", "(I)I"⟩, 41) := ⟨⟨by decide +kernel, by decide +kernel⟩, List.mem_of_getElem? (i := 772) (by decide +kernel), List.mem_of_getElem? (i := 990) (by decide +kernel), List.mem_of_getElem? (i := 991) (by decide +kernel)⟩
theorem lw_p41 : lw_okq (⟨"SatchelSinsModel", "isChild", "(I)Z"⟩, 41) := ⟨⟨by decide +kernel, by decide +kernel⟩, List.mem_of_getElem? (i := 772) (by decide +kernel), List.mem_of_getElem? (i := 998) (by decide +kernel), List.mem_of_getElem? (i := 999) (by decide +kernel)⟩
theorem lw_p42 : lw_okq (⟨"SatchelSinsModel", "deedsWith", "(II)I"⟩, 41) := ⟨⟨by decide +kernel, by decide +kernel⟩, List.mem_of_getElem? (i := 772) (by decide +kernel), List.mem_of_getElem? (i := 1003) (by decide +kernel), List.mem_of_getElem? (i := 1004) (by decide +kernel)⟩
theorem lw_p43 : lw_okq (⟨"SatchelSinsModel", "isDeed", "(I)Z"⟩, 41) := ⟨⟨by decide +kernel, by decide +kernel⟩, List.mem_of_getElem? (i := 772) (by decide +kernel), List.mem_of_getElem? (i := 1011) (by decide +kernel), List.mem_of_getElem? (i := 1012) (by decide +kernel)⟩
theorem lw_p44 : lw_okq (⟨"SatchelSinsModel", "remember", "()V"⟩, 41) := ⟨⟨by decide +kernel, by decide +kernel⟩, List.mem_of_getElem? (i := 772) (by decide +kernel), List.mem_of_getElem? (i := 1020) (by decide +kernel), List.mem_of_getElem? (i := 1021) (by decide +kernel)⟩
theorem lw_p45 : lw_okq (⟨"SatchelSinsModel", "lay", "(III)V"⟩, 41) := ⟨⟨by decide +kernel, by decide +kernel⟩, List.mem_of_getElem? (i := 772) (by decide +kernel), List.mem_of_getElem? (i := 1024) (by decide +kernel), List.mem_of_getElem? (i := 1025) (by decide +kernel)⟩
theorem lw_p46 : lw_okq (⟨"SatchelSinsModel", "canSwap", "(II)Z"⟩, 41) := ⟨⟨by decide +kernel, by decide +kernel⟩, List.mem_of_getElem? (i := 772) (by decide +kernel), List.mem_of_getElem? (i := 1036) (by decide +kernel), List.mem_of_getElem? (i := 1037) (by decide +kernel)⟩
theorem lw_p47 : lw_okq (⟨"SatchelSinsModel", "canThrow", "(I)Z"⟩, 41) := ⟨⟨by decide +kernel, by decide +kernel⟩, List.mem_of_getElem? (i := 772) (by decide +kernel), List.mem_of_getElem? (i := 1044) (by decide +kernel), List.mem_of_getElem? (i := 1045) (by decide +kernel)⟩
def lw_privs_3 : List (MethodName × Nat) := [(⟨"SatchelSinsModel", "takeHanded", "()I"⟩, 41), (⟨"SatchelSinsModel", "takeRead", "()V"⟩, 41), (⟨"SatchelSinsModel", "lamed", "()I"⟩, 41), (⟨"SatchelSinsModel", "load", "(I)I"⟩, 41), (⟨"SatchelSinsModel", "isWith", "(III)Z"⟩, 41), (⟨"SatchelSinsModel", "lamedDays", "()I"⟩, 41), (⟨"SatchelSinsModel", "made", "()I"⟩, 41), (⟨"SatchelSinsModel", "lastHome", "()I"⟩, 41), (⟨"SatchelSinsModel", "minutes", "(I)I"⟩, 41), (⟨"SatchelSinsModel", "isChild", "(I)Z"⟩, 41), (⟨"SatchelSinsModel", "deedsWith", "(II)I"⟩, 41), (⟨"SatchelSinsModel", "isDeed", "(I)Z"⟩, 41), (⟨"SatchelSinsModel", "remember", "()V"⟩, 41), (⟨"SatchelSinsModel", "lay", "(III)V"⟩, 41), (⟨"SatchelSinsModel", "canSwap", "(II)Z"⟩, 41), (⟨"SatchelSinsModel", "canThrow", "(I)Z"⟩, 41)]
theorem lw_r3 : ∀ q ∈ lw_privs_3, lw_okq q := List.forall_mem_cons.mpr ⟨lw_p32, List.forall_mem_cons.mpr ⟨lw_p33, List.forall_mem_cons.mpr ⟨lw_p34, List.forall_mem_cons.mpr ⟨lw_p35, List.forall_mem_cons.mpr ⟨lw_p36, List.forall_mem_cons.mpr ⟨lw_p37, List.forall_mem_cons.mpr ⟨lw_p38, List.forall_mem_cons.mpr ⟨lw_p39, List.forall_mem_cons.mpr ⟨lw_p40, List.forall_mem_cons.mpr ⟨lw_p41, List.forall_mem_cons.mpr ⟨lw_p42, List.forall_mem_cons.mpr ⟨lw_p43, List.forall_mem_cons.mpr ⟨lw_p44, List.forall_mem_cons.mpr ⟨lw_p45, List.forall_mem_cons.mpr ⟨lw_p46, List.forall_mem_cons.mpr ⟨lw_p47, fun _ h => absurd h List.not_mem_nil⟩⟩⟩⟩⟩⟩⟩⟩⟩⟩⟩⟩⟩⟩⟩⟩
theorem lw_p48 : lw_okq (⟨"SatchelSinsModel", "throwNow", "(I)V"⟩, 41) := ⟨⟨by decide +kernel, by decide +kernel⟩, List.mem_of_getElem? (i := 772) (by decide +kernel), List.mem_of_getElem? (i := 1048) (by decide +kernel), List.mem_of_getElem? (i := 1049) (by decide +kernel)⟩
theorem lw_p49 : lw_okq (⟨"SatchelSinsModel", "goHome", "()I"⟩, 41) := ⟨⟨by decide +kernel, by decide +kernel⟩, List.mem_of_getElem? (i := 772) (by decide +kernel), List.mem_of_getElem? (i := 1057) (by decide +kernel), List.mem_of_getElem? (i := 1058) (by decide +kernel)⟩
theorem lw_p50 : lw_okq (⟨"SatchelSinsModel", "chance", "()I"⟩, 41) := ⟨⟨by decide +kernel, by decide +kernel⟩, List.mem_of_getElem? (i := 772) (by decide +kernel), List.mem_of_getElem? (i := 1070) (by decide +kernel), List.mem_of_getElem? (i := 1071) (by decide +kernel)⟩
theorem lw_p51 : lw_okq (⟨"SatchelSinsModel", "draw", "(I)I"⟩, 41) := ⟨⟨by decide +kernel, by decide +kernel⟩, List.mem_of_getElem? (i := 772) (by decide +kernel), List.mem_of_getElem? (i := 1074) (by decide +kernel), List.mem_of_getElem? (i := 1075) (by decide +kernel)⟩
theorem lw_p52 : lw_okq (⟨"SatchelSinsModel", "waysToGive", "()I"⟩, 41) := ⟨⟨by decide +kernel, by decide +kernel⟩, List.mem_of_getElem? (i := 772) (by decide +kernel), List.mem_of_getElem? (i := 1091) (by decide +kernel), List.mem_of_getElem? (i := 1092) (by decide +kernel)⟩
theorem lw_p53 : lw_okq (⟨"SatchelSinsModel", "giveBy", "(I)I"⟩, 41) := ⟨⟨by decide +kernel, by decide +kernel⟩, List.mem_of_getElem? (i := 772) (by decide +kernel), List.mem_of_getElem? (i := 1095) (by decide +kernel), List.mem_of_getElem? (i := 1096) (by decide +kernel)⟩
theorem lw_p54 : lw_okq (⟨"SatchelSinsModel", "isBorne", "()Z"⟩, 41) := ⟨⟨by decide +kernel, by decide +kernel⟩, List.mem_of_getElem? (i := 772) (by decide +kernel), List.mem_of_getElem? (i := 1099) (by decide +kernel), List.mem_of_getElem? (i := 1100) (by decide +kernel)⟩
theorem lw_p55 : lw_okq (⟨"SatchelSinsModel", "keepGiven", "()V"⟩, 41) := ⟨⟨by decide +kernel, by decide +kernel⟩, List.mem_of_getElem? (i := 772) (by decide +kernel), List.mem_of_getElem? (i := 1103) (by decide +kernel), List.mem_of_getElem? (i := 1104) (by decide +kernel)⟩
theorem lw_p56 : lw_okq (⟨"SatchelSinsModel", "greatest", "()I"⟩, 41) := ⟨⟨by decide +kernel, by decide +kernel⟩, List.mem_of_getElem? (i := 772) (by decide +kernel), List.mem_of_getElem? (i := 1111) (by decide +kernel), List.mem_of_getElem? (i := 1112) (by decide +kernel)⟩
theorem lw_p57 : lw_okq (⟨"SatchelSinsModel", "isLighter", "(II)Z"⟩, 41) := ⟨⟨by decide +kernel, by decide +kernel⟩, List.mem_of_getElem? (i := 772) (by decide +kernel), List.mem_of_getElem? (i := 1119) (by decide +kernel), List.mem_of_getElem? (i := 1120) (by decide +kernel)⟩
theorem lw_p58 : lw_okq (⟨"SatchelSinsModel", "weightOf", "(I)I"⟩, 41) := ⟨⟨by decide +kernel, by decide +kernel⟩, List.mem_of_getElem? (i := 772) (by decide +kernel), List.mem_of_getElem? (i := 1129) (by decide +kernel), List.mem_of_getElem? (i := 1130) (by decide +kernel)⟩
theorem lw_p59 : lw_okq (⟨"SatchelSinsModel", "lookFor", "(I)I"⟩, 41) := ⟨⟨by decide +kernel, by decide +kernel⟩, List.mem_of_getElem? (i := 772) (by decide +kernel), List.mem_of_getElem? (i := 1136) (by decide +kernel), List.mem_of_getElem? (i := 1137) (by decide +kernel)⟩
theorem lw_p60 : lw_okq (⟨"SatchelSinsModel", "firstOf", "(I)I"⟩, 41) := ⟨⟨by decide +kernel, by decide +kernel⟩, List.mem_of_getElem? (i := 772) (by decide +kernel), List.mem_of_getElem? (i := 1144) (by decide +kernel), List.mem_of_getElem? (i := 1145) (by decide +kernel)⟩
theorem lw_p61 : lw_okq (⟨"SatchelSinsModel", "lies", "(II)Z"⟩, 41) := ⟨⟨by decide +kernel, by decide +kernel⟩, List.mem_of_getElem? (i := 772) (by decide +kernel), List.mem_of_getElem? (i := 1162) (by decide +kernel), List.mem_of_getElem? (i := 1163) (by decide +kernel)⟩
def lw_privs_4 : List (MethodName × Nat) := [(⟨"SatchelSinsModel", "throwNow", "(I)V"⟩, 41), (⟨"SatchelSinsModel", "goHome", "()I"⟩, 41), (⟨"SatchelSinsModel", "chance", "()I"⟩, 41), (⟨"SatchelSinsModel", "draw", "(I)I"⟩, 41), (⟨"SatchelSinsModel", "waysToGive", "()I"⟩, 41), (⟨"SatchelSinsModel", "giveBy", "(I)I"⟩, 41), (⟨"SatchelSinsModel", "isBorne", "()Z"⟩, 41), (⟨"SatchelSinsModel", "keepGiven", "()V"⟩, 41), (⟨"SatchelSinsModel", "greatest", "()I"⟩, 41), (⟨"SatchelSinsModel", "isLighter", "(II)Z"⟩, 41), (⟨"SatchelSinsModel", "weightOf", "(I)I"⟩, 41), (⟨"SatchelSinsModel", "lookFor", "(I)I"⟩, 41), (⟨"SatchelSinsModel", "firstOf", "(I)I"⟩, 41), (⟨"SatchelSinsModel", "lies", "(II)Z"⟩, 41)]
theorem lw_r4 : ∀ q ∈ lw_privs_4, lw_okq q := List.forall_mem_cons.mpr ⟨lw_p48, List.forall_mem_cons.mpr ⟨lw_p49, List.forall_mem_cons.mpr ⟨lw_p50, List.forall_mem_cons.mpr ⟨lw_p51, List.forall_mem_cons.mpr ⟨lw_p52, List.forall_mem_cons.mpr ⟨lw_p53, List.forall_mem_cons.mpr ⟨lw_p54, List.forall_mem_cons.mpr ⟨lw_p55, List.forall_mem_cons.mpr ⟨lw_p56, List.forall_mem_cons.mpr ⟨lw_p57, List.forall_mem_cons.mpr ⟨lw_p58, List.forall_mem_cons.mpr ⟨lw_p59, List.forall_mem_cons.mpr ⟨lw_p60, List.forall_mem_cons.mpr ⟨lw_p61, fun _ h => absurd h List.not_mem_nil⟩⟩⟩⟩⟩⟩⟩⟩⟩⟩⟩⟩⟩⟩
def lw_privs : List (MethodName × Nat) := lw_privs_1 ++ (lw_privs_2 ++ (lw_privs_3 ++ (lw_privs_4)))
def lw_tbl : List Cond := k2_sels lw_privs ++ tables_1
theorem lw_privs_ok : ∀ q ∈ lw_privs, lw_okq q := by
  show ∀ q ∈ lw_privs_1 ++ (lw_privs_2 ++ (lw_privs_3 ++ (lw_privs_4))), lw_okq q
  exact List.forall_mem_append.mpr ⟨lw_r1, List.forall_mem_append.mpr ⟨lw_r2, List.forall_mem_append.mpr ⟨lw_r3, lw_r4⟩⟩⟩
end
section
/-! THE SMALL MACHINE: cells by number, ints by (cell, place); every instruction is a function on it -/
abbrev SC : Type := Nat × Nat × List (Option Nat)
abbrev AH : Type := Nat → Nat → Int32
abbrev St : Type := Nat × List Value × List Value × List SC × AH
abbrev Act : Type := Nat → List Value → List Value → List SC → AH → Option (St × Nat × Nat)
abbrev Op : Type := Act ⊕ ((Nat × Nat) ⊕ Nat)
def st_ (h : AH) (k i : Nat) (v : Int32) : AH := fun a b => if a = k ∧ b = i then v else h a b
def sc_ (h : AH) (k : Nat) (f : Nat → Int32) : AH := fun a b => if a = k then f b else h a b
abbrev un_ : Value := .retAddr 0
def isSet : Value → Bool
  | .retAddr _ => false
  | _ => true
/-- a store at slot i doesn't cut a long that begins one slot below -/
def cutOk (L : List Value) : Nat → Bool
  | 0 => true
  | i + 1 => match L[i]? with
    | some (.long _) => false
    | some (.double _) => false
    | _ => true
def a_push (len : Nat) (v : Value) : Act := fun pc L S G h => some ((pc + len, L, v :: S, G, h), 0, 0)
def a_iload (len i : Nat) : Act := fun pc L S G h => match L[i]? with
  | some (.int x) => some ((pc + len, L, .int x :: S, G, h), 0, 0)
  | _ => none
def a_lload (len i : Nat) : Act := fun pc L S G h => match L[i]? with
  | some (.long x) => some ((pc + len, L, .long x :: S, G, h), 0, 0)
  | _ => none
def a_aload (len i : Nat) : Act := fun pc L S G h => match L[i]? with
  | some (.ref x) => some ((pc + len, L, .ref x :: S, G, h), 0, 0)
  | _ => none
def a_istore (len i : Nat) : Act := fun pc L S G h => match S with
  | .int x :: S => if i < L.length ∧ cutOk L i = true then some ((pc + len, L.set i (.int x), S, G, h), 0, 0) else none
  | _ => none
def a_astore (len i : Nat) : Act := fun pc L S G h => match S with
  | .ref x :: S => if i < L.length ∧ cutOk L i = true then some ((pc + len, L.set i (.ref x), S, G, h), 0, 0) else none
  | _ => none
def a_lstore (len i : Nat) : Act := fun pc L S G h => match S with
  | .long x :: S => if i + 1 < L.length ∧ cutOk L i = true then some ((pc + len, (L.set i (.long x)).set (i + 1) un_, S, G, h), 0, 0) else none
  | _ => none
def a_iinc (i : Nat) (n : Int32) : Act := fun pc L S G h => match L[i]? with
  | some (.int x) => if cutOk L i = true then some ((pc + 3, L.set i (.int (x + n)), S, G, h), 0, 0) else none
  | _ => none
def a_bin (f : Int32 → Int32 → Int32) : Act := fun pc L S G h => match S with
  | .int y :: .int x :: S => some ((pc + 1, L, .int (f x y) :: S, G, h), 0, 0)
  | _ => none
def a_div : Act := fun pc L S G h => match S with
  | .int y :: .int x :: S => if y = 0 then none else some ((pc + 1, L, .int (x / y) :: S, G, h), 0, 0)
  | _ => none
def a_rem : Act := fun pc L S G h => match S with
  | .int y :: .int x :: S => if y = 0 then none else some ((pc + 1, L, .int (x - x / y * y) :: S, G, h), 0, 0)
  | _ => none
def a_lbin (f : Int64 → Int64 → Int64) : Act := fun pc L S G h => match S with
  | .long y :: .long x :: S => some ((pc + 1, L, .long (f x y) :: S, G, h), 0, 0)
  | _ => none
def a_ldiv : Act := fun pc L S G h => match S with
  | .long y :: .long x :: S => if y = 0 then none else some ((pc + 1, L, .long (x / y) :: S, G, h), 0, 0)
  | _ => none
def a_lrem : Act := fun pc L S G h => match S with
  | .long y :: .long x :: S => if y = 0 then none else some ((pc + 1, L, .long (x - x / y * y) :: S, G, h), 0, 0)
  | _ => none
def a_i2l : Act := fun pc L S G h => match S with
  | .int x :: S => some ((pc + 1, L, .long x.toInt64 :: S, G, h), 0, 0)
  | _ => none
def a_l2i : Act := fun pc L S G h => match S with
  | .long x :: S => some ((pc + 1, L, .int x.toInt32 :: S, G, h), 0, 0)
  | _ => none
def a_lcmp : Act := fun pc L S G h => match S with
  | .long y :: .long x :: S => some ((pc + 1, L, .int (lg_cmp x y) :: S, G, h), 0, 0)
  | _ => none
def a_dup : Act := fun pc L S G h => match S with
  | .int x :: S => some ((pc + 1, L, .int x :: .int x :: S, G, h), 0, 0)
  | .ref x :: S => some ((pc + 1, L, .ref x :: .ref x :: S, G, h), 0, 0)
  | _ => none
def a_dup2 : Act := fun pc L S G h => match S with
  | .int x :: .ref y :: S => some ((pc + 1, L, .int x :: .ref y :: .int x :: .ref y :: S, G, h), 0, 0)
  | _ => none
def a_pop : Act := fun pc L S G h => match S with
  | .int _ :: S => some ((pc + 1, L, S, G, h), 0, 0)
  | _ => none
def a_goto (t : Nat) : Act := fun _ L S G h => some ((t, L, S, G, h), 0, 0)
def a_if1 (f : Int32 → Bool) (t : Nat) : Act := fun pc L S G h => match S with
  | .int x :: S => some ((cond (f x) t (pc + 3), L, S, G, h), 0, 0)
  | _ => none
def a_if2 (f : Int32 → Int32 → Bool) (t : Nat) : Act := fun pc L S G h => match S with
  | .int y :: .int x :: S => some ((cond (f x y) t (pc + 3), L, S, G, h), 0, 0)
  | _ => none
def tsw (lo : Int) (ts : List Nat) (d : Nat) (x : Int32) : Nat := if x.toInt < lo ∨ lo + ts.length - 1 < x.toInt then d else ts.getD (x.toInt - lo).toNat d
def lsw (d : Nat) (x : Int32) : List (Int × Nat) → Nat
  | [] => d
  | (a, t) :: r => if a = x.toInt then t else lsw d x r
def a_tsw (lo : Int) (ts : List Nat) (d : Nat) : Act := fun _ L S G h => match S with
  | .int x :: S => some ((tsw lo ts d x, L, S, G, h), 0, 0)
  | _ => none
def a_lsw (ps : List (Int × Nat)) (d : Nat) : Act := fun _ L S G h => match S with
  | .int x :: S => some ((lsw d x ps, L, S, G, h), 0, 0)
  | _ => none
def a_getI (ci k : Nat) : Act := fun pc L S G h => match S with
  | .ref a :: S => match G[a]? with
    | some (0, c, _) => if c = ci then some ((pc + 3, L, .int (h a k) :: S, G, h), 0, 0) else none
    | _ => none
  | _ => none
def a_getR (ci k : Nat) : Act := fun pc L S G h => match S with
  | .ref a :: S => match G[a]? with
    | some (0, c, rs) => if c = ci then (match rs[k]? with
      | some (some b) => some ((pc + 3, L, .ref b :: S, G, h), 0, 0)
      | _ => none) else none
    | _ => none
  | _ => none
def a_putI (ci k : Nat) : Act := fun pc L S G h => match S with
  | .int x :: .ref a :: S => match G[a]? with
    | some (0, c, _) => if c = ci then some ((pc + 3, L, S, G, st_ h a k x), 0, 0) else none
    | _ => none
  | _ => none
def a_putZ (ci k : Nat) : Act := fun pc L S G h => match S with
  | .int x :: .ref a :: S => match G[a]? with
    | some (0, c, _) => if c = ci ∧ (x = 0 ∨ x = 1) then some ((pc + 3, L, S, G, st_ h a k x), 0, 0) else none
    | _ => none
  | _ => none
def a_putR (ci k : Nat) : Act := fun pc L S G h => match S with
  | .ref b :: .ref a :: S => match G[a]? with
    | some (0, c, rs) => if c = ci ∧ k < rs.length then some ((pc + 3, L, S, G.set a (0, ci, rs.set k (some b)), h), 0, 0) else none
    | _ => none
  | _ => none
def a_iald : Act := fun pc L S G h => match S with
  | .int i :: .ref a :: S => match G[a]? with
    | some (1, n, _) => if i < 0 ∨ n ≤ i.toNatClampNeg then none else some ((pc + 1, L, .int (h a i.toNatClampNeg) :: S, G, h), 0, 0)
    | some (4, n, _) => if i < 0 ∨ n ≤ i.toNatClampNeg then none else some ((pc + 1, L, .int (h a i.toNatClampNeg) :: S, G, h), 0, 0)
    | _ => none
  | _ => none
def a_iast : Act := fun pc L S G h => match S with
  | .int x :: .int i :: .ref a :: S => match G[a]? with
    | some (1, n, _) => if i < 0 ∨ n ≤ i.toNatClampNeg then none else some ((pc + 1, L, S, G, st_ h a i.toNatClampNeg x), 0, 0)
    | _ => none
  | _ => none
def a_bald : Act := fun pc L S G h => match S with
  | .int i :: .ref a :: S => match G[a]? with
    | some (2, n, _) => if i < 0 ∨ n ≤ i.toNatClampNeg then none else some ((pc + 1, L, .int (h a i.toNatClampNeg) :: S, G, h), 0, 0)
    | _ => none
  | _ => none
def a_bast : Act := fun pc L S G h => match S with
  | .int x :: .int i :: .ref a :: S => match G[a]? with
    | some (2, n, _) => if (i < 0 ∨ n ≤ i.toNatClampNeg) ∨ ¬ (x = 0 ∨ x = 1) then none else some ((pc + 1, L, S, G, st_ h a i.toNatClampNeg x), 0, 0)
    | _ => none
  | _ => none
def a_aald : Act := fun pc L S G h => match S with
  | .int i :: .ref a :: S => match G[a]? with
    | some (3, n, rs) => if i < 0 ∨ n ≤ i.toNatClampNeg then none else (match rs[i.toNatClampNeg]? with
      | some (some b) => some ((pc + 1, L, .ref b :: S, G, h), 0, 0)
      | _ => none)
    | _ => none
  | _ => none
/-- ci: the number of the type that the row holds -/
def a_aast (ci : Nat) : Act := fun pc L S G h => match S with
  | .ref b :: .int i :: .ref a :: S => match G[a]? with
    | some (3, n, rs) => if (i < 0 ∨ n ≤ i.toNatClampNeg) ∨ rs.length ≤ i.toNatClampNeg then none else (match G[b]? with
      | some (0, c, _) => if c = ci then some ((pc + 1, L, S, G.set a (3, n, rs.set i.toNatClampNeg (some b)), h), 0, 0) else none
      | _ => none)
    | _ => none
  | _ => none
def a_alen : Act := fun pc L S G h => match S with
  | .ref a :: S => match G[a]? with
    | some (k, n, _) => if k = 0 ∨ 4 < k then none else some ((pc + 1, L, .int (Int32.ofNat n) :: S, G, h), 0, 0)
    | _ => none
  | _ => none
def a_new (ci N : Nat) : Act := fun pc L S G h => some ((pc + 3, L, .ref G.length :: S, G ++ [(0, ci, List.replicate N none)], sc_ h G.length (fun _ => 0)), 1, N)
def a_newP (kd : Nat) : Act := fun pc L S G h => match S with
  | .int n :: S => if n < 0 ∨ 1000 < n.toNatClampNeg then none else some ((pc + 2, L, .ref G.length :: S, G ++ [(kd, n.toNatClampNeg, [])], sc_ h G.length (fun _ => 0)), 1, n.toNatClampNeg)
  | _ => none
def a_newO : Act := fun pc L S G h => match S with
  | .int n :: S => if n < 0 ∨ 1000 < n.toNatClampNeg then none else some ((pc + 3, L, .ref G.length :: S, G ++ [(3, n.toNatClampNeg, List.replicate n.toNatClampNeg none)], h), 1, n.toNatClampNeg)
  | _ => none
def a_obj : Act := fun pc L S G h => match S with
  | .ref _ :: S => if 8 < (S.map fun v => v.category).sum then none else some ((pc + 3, L, S, G, h), 0, 0)
  | _ => none
def a_copy : Act := fun pc L S G h => match S with
  | .int n :: .int dp :: .ref b :: .int sp :: .ref a :: S => match G[a]?, G[b]? with
    | some (1, na, _), some (1, nb, _) => if (n < 0 ∨ dp < 0 ∨ sp < 0) ∨ (na < sp.toNatClampNeg + n.toNatClampNeg ∨ nb < dp.toNatClampNeg + n.toNatClampNeg) ∨ 8 < (S.map fun v => v.category).sum then none
      else some ((pc + 3, L, S, G, sc_ h b (va_cpy (h a) (h b) sp.toNatClampNeg dp.toNatClampNeg n.toNatClampNeg)), 0, 0)
    | _, _ => none
  | _ => none
end
section
/-! TABLES of the program: fields of each kind of object, the methods, their code as functions. Written by program. -/
def TX0 : u_T := fun k => match k with
  | 0 => ("SatchelSins$Day", "row", "[I", true)
  | _ => ("SatchelSins$Day", "roll", "LSatchelSins$Roll;", true)
def tyX0 : Nat → FieldType := fun k => match k with
  | 0 => .array .int
  | _ => .object "SatchelSins$Roll"
theorem nmX0 : ∀ a, a < 2 → ∀ b, b < 2 → a ≠ b → (TX0 a).2.1 ≠ (TX0 b).2.1 := by decide +kernel
theorem tyX0_ok : ∀ k, k < 2 → parseFieldDescriptor (TX0 k).2.2.1 = some (tyX0 k) := by decide +kernel
def TX1 : u_T := fun k => match k with
  | 0 => ("SatchelSins$Image", "kept", "[I", true)
  | 1 => ("SatchelSins$Image", "drawn", "I", false)
  | _ => ("SatchelSins$Image", "isKept", "Z", false)
def tyX1 : Nat → FieldType := fun k => match k with
  | 0 => .array .int
  | 1 => .int
  | _ => .boolean
theorem nmX1 : ∀ a, a < 3 → ∀ b, b < 3 → a ≠ b → (TX1 a).2.1 ≠ (TX1 b).2.1 := by decide +kernel
theorem tyX1_ok : ∀ k, k < 3 → parseFieldDescriptor (TX1 k).2.2.1 = some (tyX1 k) := by decide +kernel
def TX2 : u_T := fun k => match k with
  | 0 => ("SatchelSins$Packing", "roll", "LSatchelSins$Roll;", true)
  | 1 => ("SatchelSins$Packing", "day", "LSatchelSins$Day;", true)
  | 2 => ("SatchelSins$Packing", "isFair", "Z", true)
  | 3 => ("SatchelSins$Packing", "holders", "[I", true)
  | 4 => ("SatchelSins$Packing", "trial", "[I", true)
  | 5 => ("SatchelSins$Packing", "answer", "[I", true)
  | 6 => ("SatchelSins$Packing", "loadNow", "[I", true)
  | 7 => ("SatchelSins$Packing", "best", "I", false)
  | _ => ("SatchelSins$Packing", "isSolved", "Z", false)
def tyX2 : Nat → FieldType := fun k => match k with
  | 0 => .object "SatchelSins$Roll"
  | 1 => .object "SatchelSins$Day"
  | 2 => .boolean
  | 3 => .array .int
  | 4 => .array .int
  | 5 => .array .int
  | 6 => .array .int
  | 7 => .int
  | _ => .boolean
theorem nmX2 : ∀ a, a < 9 → ∀ b, b < 9 → a ≠ b → (TX2 a).2.1 ≠ (TX2 b).2.1 := by decide +kernel
theorem tyX2_ok : ∀ k, k < 9 → parseFieldDescriptor (TX2 k).2.2.1 = some (tyX2 k) := by decide +kernel
def TX3 : u_T := fun k => match k with
  | 0 => ("SatchelSins$Past", "rows", "[I", true)
  | 1 => ("SatchelSins$Past", "next", "I", false)
  | _ => ("SatchelSins$Past", "count", "I", false)
def tyX3 : Nat → FieldType := fun k => match k with
  | 0 => .array .int
  | 1 => .int
  | _ => .int
theorem nmX3 : ∀ a, a < 3 → ∀ b, b < 3 → a ≠ b → (TX3 a).2.1 ≠ (TX3 b).2.1 := by decide +kernel
theorem tyX3_ok : ∀ k, k < 3 → parseFieldDescriptor (TX3 k).2.2.1 = some (tyX3 k) := by decide +kernel
def TX4 : u_T := fun k => match k with
  | 0 => ("SatchelSins$Reader", "text", "[I", true)
  | 1 => ("SatchelSins$Reader", "roll", "LSatchelSins$Roll;", true)
  | 2 => ("SatchelSins$Reader", "length", "I", false)
  | 3 => ("SatchelSins$Reader", "at", "I", false)
  | 4 => ("SatchelSins$Reader", "numberAt", "I", false)
  | 5 => ("SatchelSins$Reader", "fault", "I", false)
  | _ => ("SatchelSins$Reader", "place", "I", false)
def tyX4 : Nat → FieldType := fun k => match k with
  | 0 => .array .int
  | 1 => .object "SatchelSins$Roll"
  | 2 => .int
  | 3 => .int
  | 4 => .int
  | 5 => .int
  | _ => .int
theorem nmX4 : ∀ a, a < 7 → ∀ b, b < 7 → a ≠ b → (TX4 a).2.1 ≠ (TX4 b).2.1 := by decide +kernel
theorem tyX4_ok : ∀ k, k < 7 → parseFieldDescriptor (TX4 k).2.2.1 = some (tyX4 k) := by decide +kernel
def TX5 : u_T := fun k => match k with
  | 0 => ("SatchelSins$Roll", "isTold", "Z", false)
  | 1 => ("SatchelSins$Roll", "brook", "I", false)
  | 2 => ("SatchelSins$Roll", "children", "I", false)
  | 3 => ("SatchelSins$Roll", "deeds", "I", false)
  | 4 => ("SatchelSins$Roll", "strong", "[I", true)
  | 5 => ("SatchelSins$Roll", "minutes", "[I", true)
  | 6 => ("SatchelSins$Roll", "from", "[I", true)
  | 7 => ("SatchelSins$Roll", "owner", "[I", true)
  | _ => ("SatchelSins$Roll", "weight", "[I", true)
def tyX5 : Nat → FieldType := fun k => match k with
  | 0 => .boolean
  | 1 => .int
  | 2 => .int
  | 3 => .int
  | 4 => .array .int
  | 5 => .array .int
  | 6 => .array .int
  | 7 => .array .int
  | _ => .array .int
theorem nmX5 : ∀ a, a < 9 → ∀ b, b < 9 → a ≠ b → (TX5 a).2.1 ≠ (TX5 b).2.1 := by decide +kernel
theorem tyX5_ok : ∀ k, k < 9 → parseFieldDescriptor (TX5 k).2.2.1 = some (tyX5 k) := by decide +kernel
def TX6 : u_T := fun k => match k with
  | 0 => ("SatchelSins$Scale", "roll", "LSatchelSins$Roll;", true)
  | 1 => ("SatchelSins$Scale", "setsWith", "[I", true)
  | 2 => ("SatchelSins$Scale", "sets", "I", false)
  | 3 => ("SatchelSins$Scale", "least", "I", false)
  | _ => ("SatchelSins$Scale", "sure", "I", false)
def tyX6 : Nat → FieldType := fun k => match k with
  | 0 => .object "SatchelSins$Roll"
  | 1 => .array .int
  | 2 => .int
  | 3 => .int
  | _ => .int
theorem nmX6 : ∀ a, a < 5 → ∀ b, b < 5 → a ≠ b → (TX6 a).2.1 ≠ (TX6 b).2.1 := by decide +kernel
theorem tyX6_ok : ∀ k, k < 5 → parseFieldDescriptor (TX6 k).2.2.1 = some (tyX6 k) := by decide +kernel
def TX7 : u_T := fun k => match k with
  | 0 => ("SatchelSins$Slate", "table", "[I", true)
  | 1 => ("SatchelSins$Slate", "owner", "[I", true)
  | 2 => ("SatchelSins$Slate", "lay", "[Z", true)
  | 3 => ("SatchelSins$Slate", "carrier", "[I", true)
  | 4 => ("SatchelSins$Slate", "load", "[I", true)
  | 5 => ("SatchelSins$Slate", "seen", "I", false)
  | _ => ("SatchelSins$Slate", "entries", "I", false)
def tyX7 : Nat → FieldType := fun k => match k with
  | 0 => .array .int
  | 1 => .array .int
  | 2 => .array .boolean
  | 3 => .array .int
  | 4 => .array .int
  | 5 => .int
  | _ => .int
theorem nmX7 : ∀ a, a < 7 → ∀ b, b < 7 → a ≠ b → (TX7 a).2.1 ≠ (TX7 b).2.1 := by decide +kernel
theorem tyX7_ok : ∀ k, k < 7 → parseFieldDescriptor (TX7 k).2.2.1 = some (tyX7 k) := by decide +kernel
def TX8 : u_T := fun k => match k with
  | 0 => ("SatchelSins", "text", "[I", true)
  | 1 => ("SatchelSins", "letters", "I", false)
  | 2 => ("SatchelSins", "faultAt", "I", false)
  | 3 => ("SatchelSins", "roll", "LSatchelSins$Roll;", true)
  | 4 => ("SatchelSins", "draft", "LSatchelSins$Roll;", true)
  | 5 => ("SatchelSins", "reader", "LSatchelSins$Reader;", true)
  | 6 => ("SatchelSins", "day", "LSatchelSins$Day;", true)
  | 7 => ("SatchelSins", "past", "LSatchelSins$Past;", true)
  | 8 => ("SatchelSins", "images", "[LSatchelSins$Image;", true)
  | 9 => ("SatchelSins", "unlamed", "LSatchelSins$Packing;", true)
  | 10 => ("SatchelSins", "fairest", "LSatchelSins$Packing;", true)
  | 11 => ("SatchelSins", "scale", "LSatchelSins$Scale;", true)
  | 12 => ("SatchelSins", "slate", "LSatchelSins$Slate;", true)
  | _ => ("SatchelSins", "drawn", "I", false)
def tyX8 : Nat → FieldType := fun k => match k with
  | 0 => .array .int
  | 1 => .int
  | 2 => .int
  | 3 => .object "SatchelSins$Roll"
  | 4 => .object "SatchelSins$Roll"
  | 5 => .object "SatchelSins$Reader"
  | 6 => .object "SatchelSins$Day"
  | 7 => .object "SatchelSins$Past"
  | 8 => .array (.object "SatchelSins$Image")
  | 9 => .object "SatchelSins$Packing"
  | 10 => .object "SatchelSins$Packing"
  | 11 => .object "SatchelSins$Scale"
  | 12 => .object "SatchelSins$Slate"
  | _ => .int
theorem nmX8 : ∀ a, a < 14 → ∀ b, b < 14 → a ≠ b → (TX8 a).2.1 ≠ (TX8 b).2.1 := by decide +kernel
theorem tyX8_ok : ∀ k, k < 14 → parseFieldDescriptor (TX8 k).2.2.1 = some (tyX8 k) := by decide +kernel
def TX9 : u_T := fun k => match k with
  | 0 => ("SatchelSinsModel", "isSchool", "Z", false)
  | 1 => ("SatchelSinsModel", "takes", "I", false)
  | 2 => ("SatchelSinsModel", "children", "I", false)
  | 3 => ("SatchelSinsModel", "strong", "[I", true)
  | 4 => ("SatchelSinsModel", "way", "[I", true)
  | 5 => ("SatchelSinsModel", "from", "[I", true)
  | 6 => ("SatchelSinsModel", "deeds", "I", false)
  | 7 => ("SatchelSinsModel", "whose", "[I", true)
  | 8 => ("SatchelSinsModel", "weight", "[I", true)
  | 9 => ("SatchelSinsModel", "now", "[I", true)
  | 10 => ("SatchelSinsModel", "seed", "I", false)
  | 11 => ("SatchelSinsModel", "text", "[I", true)
  | 12 => ("SatchelSinsModel", "texted", "I", false)
  | 13 => ("SatchelSinsModel", "faultPlace", "I", false)
  | 14 => ("SatchelSinsModel", "at0", "I", false)
  | 15 => ("SatchelSinsModel", "number", "I", false)
  | 16 => ("SatchelSinsModel", "numberAt", "I", false)
  | 17 => ("SatchelSinsModel", "readSchool", "Z", false)
  | 18 => ("SatchelSinsModel", "readTakes", "I", false)
  | 19 => ("SatchelSinsModel", "readChildren", "I", false)
  | 20 => ("SatchelSinsModel", "readStrong", "[I", true)
  | 21 => ("SatchelSinsModel", "readWay", "[I", true)
  | 22 => ("SatchelSinsModel", "readFrom", "[I", true)
  | 23 => ("SatchelSinsModel", "readDeeds", "I", false)
  | 24 => ("SatchelSinsModel", "readWhose", "[I", true)
  | 25 => ("SatchelSinsModel", "readWeight", "[I", true)
  | 26 => ("SatchelSinsModel", "undos", "I", false)
  | 27 => ("SatchelSinsModel", "past", "[I", true)
  | 28 => ("SatchelSinsModel", "given", "[I", true)
  | 29 => ("SatchelSinsModel", "bestGiven", "[I", true)
  | 30 => ("SatchelSinsModel", "loads", "[I", true)
  | 31 => ("SatchelSinsModel", "within", "[I", true)
  | 32 => ("SatchelSinsModel", "seen", "I", false)
  | 33 => ("SatchelSinsModel", "seenAt", "[I", true)
  | 34 => ("SatchelSinsModel", "seenOf", "[I", true)
  | 35 => ("SatchelSinsModel", "seenIs", "[Z", true)
  | 36 => ("SatchelSinsModel", "booked", "I", false)
  | 37 => ("SatchelSinsModel", "bookOf", "[I", true)
  | 38 => ("SatchelSinsModel", "bookIs", "[I", true)
  | 39 => ("SatchelSinsModel", "images", "[I", true)
  | _ => ("SatchelSinsModel", "isKept", "[Z", true)
def tyX9 : Nat → FieldType := fun k => match k with
  | 0 => .boolean
  | 1 => .int
  | 2 => .int
  | 3 => .array .int
  | 4 => .array .int
  | 5 => .array .int
  | 6 => .int
  | 7 => .array .int
  | 8 => .array .int
  | 9 => .array .int
  | 10 => .int
  | 11 => .array .int
  | 12 => .int
  | 13 => .int
  | 14 => .int
  | 15 => .int
  | 16 => .int
  | 17 => .boolean
  | 18 => .int
  | 19 => .int
  | 20 => .array .int
  | 21 => .array .int
  | 22 => .array .int
  | 23 => .int
  | 24 => .array .int
  | 25 => .array .int
  | 26 => .int
  | 27 => .array .int
  | 28 => .array .int
  | 29 => .array .int
  | 30 => .array .int
  | 31 => .array .int
  | 32 => .int
  | 33 => .array .int
  | 34 => .array .int
  | 35 => .array .boolean
  | 36 => .int
  | 37 => .array .int
  | 38 => .array .int
  | 39 => .array .int
  | _ => .array .boolean
theorem nmX9 : ∀ a, a < 41 → ∀ b, b < 41 → a ≠ b → (TX9 a).2.1 ≠ (TX9 b).2.1 := by decide +kernel
theorem tyX9_ok : ∀ k, k < 41 → parseFieldDescriptor (TX9 k).2.2.1 = some (tyX9 k) := by decide +kernel
def cls : List vw_C := [("SatchelSins$Day", TX0, 2), ("SatchelSins$Image", TX1, 3), ("SatchelSins$Packing", TX2, 9), ("SatchelSins$Past", TX3, 3), ("SatchelSins$Reader", TX4, 7), ("SatchelSins$Roll", TX5, 9), ("SatchelSins$Scale", TX6, 5), ("SatchelSins$Slate", TX7, 7), ("SatchelSins", TX8, 14), ("SatchelSinsModel", TX9, 41)]
def ftab : List (Nat → FieldType) := [tyX0, tyX1, tyX2, tyX3, tyX4, tyX5, tyX6, tyX7, tyX8, tyX9]
def mt : List (MethodName × ByteArray × Nat × Option FieldType) := [(⟨"SatchelSins$Day", "<init>", "(LSatchelSins$Roll;)V"⟩, prog_2_method_1_code, 2, none),
  (⟨"SatchelSins$Day", "wipe", "()V"⟩, prog_2_method_2_code, 2, none),
  (⟨"SatchelSins$Day", "days", "()I"⟩, prog_2_method_3_code, 1, some .int),
  (⟨"SatchelSins$Day", "takenThisDay", "()I"⟩, prog_2_method_4_code, 1, some .int),
  (⟨"SatchelSins$Day", "takenInAll", "()I"⟩, prog_2_method_5_code, 1, some .int),
  (⟨"SatchelSins$Day", "lamedDays", "(I)I"⟩, prog_2_method_6_code, 2, some .int),
  (⟨"SatchelSins$Day", "stageOf", "(I)I"⟩, prog_2_method_7_code, 2, some .int),
  (⟨"SatchelSins$Day", "placeOf", "(I)I"⟩, prog_2_method_8_code, 2, some .int),
  (⟨"SatchelSins$Day", "isInSatchel", "(I)Z"⟩, prog_2_method_9_code, 2, some .boolean),
  (⟨"SatchelSins$Day", "loadOf", "(I)I"⟩, prog_2_method_10_code, 4, some .int),
  (⟨"SatchelSins$Day", "isLamed", "(I)Z"⟩, prog_2_method_11_code, 2, some .boolean),
  (⟨"SatchelSins$Day", "lamedSet", "()I"⟩, prog_2_method_12_code, 3, some .int),
  (⟨"SatchelSins$Day", "lamedDaysOfAll", "()I"⟩, prog_2_method_13_code, 3, some .int),
  (⟨"SatchelSins$Day", "minutesHome", "(I)I"⟩, prog_2_method_14_code, 3, some .int),
  (⟨"SatchelSins$Day", "lastHome", "()I"⟩, prog_2_method_15_code, 5, some .int),
  (⟨"SatchelSins$Day", "madeSet", "()I"⟩, prog_2_method_16_code, 4, some .int),
  (⟨"SatchelSins$Day", "ownLoadOf", "(I)I"⟩, prog_2_method_17_code, 4, some .int),
  (⟨"SatchelSins$Day", "deedSet", "(II)I"⟩, prog_2_method_18_code, 5, some .int),
  (⟨"SatchelSins$Day", "liesOnTable", "(II)Z"⟩, prog_2_method_19_code, 4, some .boolean),
  (⟨"SatchelSins$Day", "canBeDone", "(I)Z"⟩, prog_2_method_20_code, 2, some .boolean),
  (⟨"SatchelSins$Day", "canBeCarried", "(II)Z"⟩, prog_2_method_21_code, 3, some .boolean),
  (⟨"SatchelSins$Day", "canBeThrown", "(I)Z"⟩, prog_2_method_22_code, 2, some .boolean),
  (⟨"SatchelSins$Day", "areInUnlikeSatchels", "(II)Z"⟩, prog_2_method_23_code, 3, some .boolean),
  (⟨"SatchelSins$Day", "isLightenedBySwap", "(II)Z"⟩, prog_2_method_24_code, 6, some .boolean),
  (⟨"SatchelSins$Day", "putInOwnSatchel", "(I)V"⟩, prog_2_method_25_code, 2, none),
  (⟨"SatchelSins$Day", "putInSatchel", "(II)V"⟩, prog_2_method_26_code, 3, none),
  (⟨"SatchelSins$Day", "changePlaces", "(II)V"⟩, prog_2_method_27_code, 4, none),
  (⟨"SatchelSins$Day", "putInBrook", "(I)V"⟩, prog_2_method_28_code, 2, none),
  (⟨"SatchelSins$Day", "putNowhere", "(I)V"⟩, prog_2_method_29_code, 2, none),
  (⟨"SatchelSins$Day", "allGoHome", "()I"⟩, prog_2_method_30_code, 3, some .int),
  (⟨"SatchelSins$Image", "<init>", "()V"⟩, prog_3_method_1_code, 1, none),
  (⟨"SatchelSins$Image", "take", "([II)V"⟩, prog_3_method_2_code, 3, none),
  (⟨"SatchelSins$Image", "giveTo", "([I)V"⟩, prog_3_method_3_code, 2, none),
  (⟨"SatchelSins$Packing", "<init>", "(LSatchelSins$Roll;LSatchelSins$Day;Z)V"⟩, prog_4_method_1_code, 4, none),
  (⟨"SatchelSins$Packing", "forget", "()V"⟩, prog_4_method_2_code, 1, none),
  (⟨"SatchelSins$Packing", "leastCost", "()I"⟩, prog_4_method_3_code, 1, some .int),
  (⟨"SatchelSins$Packing", "childFor", "(I)I"⟩, prog_4_method_4_code, 2, some .int),
  (⟨"SatchelSins$Packing", "solve", "()V"⟩, prog_4_method_5_code, 2, none),
  (⟨"SatchelSins$Packing", "haveHoldersChanged", "()Z"⟩, prog_4_method_6_code, 2, some .boolean),
  (⟨"SatchelSins$Packing", "holderNow", "(I)I"⟩, prog_4_method_7_code, 2, some .int),
  (⟨"SatchelSins$Packing", "place", "(II)V"⟩, prog_4_method_8_code, 5, none),
  (⟨"SatchelSins$Past", "<init>", "()V"⟩, prog_5_method_1_code, 1, none),
  (⟨"SatchelSins$Past", "push", "([I)V"⟩, prog_5_method_2_code, 2, none),
  (⟨"SatchelSins$Past", "pop", "([I)V"⟩, prog_5_method_3_code, 2, none),
  (⟨"SatchelSins$Past", "wipe", "()V"⟩, prog_5_method_4_code, 1, none),
  (⟨"SatchelSins$Reader", "<init>", "([ILSatchelSins$Roll;)V"⟩, prog_6_method_1_code, 3, none),
  (⟨"SatchelSins$Reader", "readText", "(I)I"⟩, prog_6_method_2_code, 3, some .int),
  (⟨"SatchelSins$Reader", "faultPlace", "()I"⟩, prog_6_method_3_code, 1, some .int),
  (⟨"SatchelSins$Reader", "readClause", "()V"⟩, prog_6_method_4_code, 2, none),
  (⟨"SatchelSins$Reader", "readBrook", "()V"⟩, prog_6_method_5_code, 2, none),
  (⟨"SatchelSins$Reader", "readChild", "()V"⟩, prog_6_method_6_code, 3, none),
  (⟨"SatchelSins$Reader", "readDeed", "()V"⟩, prog_6_method_7_code, 3, none),
  (⟨"SatchelSins$Reader", "readHanding", "()V"⟩, prog_6_method_8_code, 3, none),
  (⟨"SatchelSins$Reader", "takeWord", "(Z)V"⟩, prog_6_method_9_code, 2, none),
  (⟨"SatchelSins$Reader", "readEnd", "()V"⟩, prog_6_method_10_code, 1, none),
  (⟨"SatchelSins$Reader", "readNumber", "(II)I"⟩, prog_6_method_11_code, 4, some .int),
  (⟨"SatchelSins$Reader", "isFigure", "(I)Z"⟩, prog_6_method_12_code, 2, some .boolean),
  (⟨"SatchelSins$Reader", "skipBlanks", "()V"⟩, prog_6_method_13_code, 1, none),
  (⟨"SatchelSins$Reader", "letter", "()I"⟩, prog_6_method_14_code, 1, some .int),
  (⟨"SatchelSins$Reader", "fail", "(II)V"⟩, prog_6_method_15_code, 3, none),
  (⟨"SatchelSins$Roll", "<init>", "()V"⟩, prog_7_method_1_code, 1, none),
  (⟨"SatchelSins$Roll", "wipe", "()V"⟩, prog_7_method_2_code, 1, none),
  (⟨"SatchelSins$Roll", "copyFrom", "(LSatchelSins$Roll;)V"⟩, prog_7_method_3_code, 2, none),
  (⟨"SatchelSins$Roll", "addChild", "(II)V"⟩, prog_7_method_4_code, 3, none),
  (⟨"SatchelSins$Roll", "addDeed", "(II)V"⟩, prog_7_method_5_code, 3, none),
  (⟨"SatchelSins$Roll", "hasChild", "(I)Z"⟩, prog_7_method_6_code, 2, some .boolean),
  (⟨"SatchelSins$Roll", "hasDeed", "(I)Z"⟩, prog_7_method_7_code, 2, some .boolean),
  (⟨"SatchelSins$Roll", "childAfter", "(I)I"⟩, prog_7_method_8_code, 2, some .int),
  (⟨"SatchelSins$Roll", "canHandDown", "(II)Z"⟩, prog_7_method_9_code, 3, some .boolean),
  (⟨"SatchelSins$Roll", "hasItFrom", "(II)Z"⟩, prog_7_method_10_code, 5, some .boolean),
  (⟨"SatchelSins$Roll", "firstOf", "(I)I"⟩, prog_7_method_11_code, 4, some .int),
  (⟨"SatchelSins$Roll", "allWithFirst", "(I)I"⟩, prog_7_method_12_code, 4, some .int),
  (⟨"SatchelSins$Scale", "<init>", "(LSatchelSins$Roll;)V"⟩, prog_8_method_1_code, 2, none),
  (⟨"SatchelSins$Scale", "tryAllSets", "(I)V"⟩, prog_8_method_2_code, 3, none),
  (⟨"SatchelSins$Scale", "bestToLookFor", "()I"⟩, prog_8_method_3_code, 5, some .int),
  (⟨"SatchelSins$Scale", "weightOf", "(I)I"⟩, prog_8_method_4_code, 4, some .int),
  (⟨"SatchelSins$Scale", "count", "(I)V"⟩, prog_8_method_5_code, 3, none),
  (⟨"SatchelSins$Slate", "<init>", "()V"⟩, prog_9_method_1_code, 1, none),
  (⟨"SatchelSins$Slate", "wipe", "()V"⟩, prog_9_method_2_code, 1, none),
  (⟨"SatchelSins$Slate", "addSeen", "(IIZ)V"⟩, prog_9_method_3_code, 4, none),
  (⟨"SatchelSins$Slate", "addEntry", "(II)V"⟩, prog_9_method_4_code, 3, none),
  (⟨"SatchelSins$Slate", "firstUntrue", "(LSatchelSins$Day;)I"⟩, prog_9_method_5_code, 3, some .int),
  (⟨"SatchelSins$Slate", "firstWrong", "(LSatchelSins$Day;)I"⟩, prog_9_method_6_code, 3, some .int),
  (⟨"SatchelSins", "<init>", "()V"⟩, prog_1_method_1_code, 2, none),
  (⟨"SatchelSins", "feed", "(I)I"⟩, prog_1_method_2_code, 2, some .int),
  (⟨"SatchelSins", "school", "()I"⟩, prog_1_method_3_code, 2, some .int),
  (⟨"SatchelSins", "fault", "()I"⟩, prog_1_method_4_code, 1, some .int),
  (⟨"SatchelSins", "told", "(I)I"⟩, prog_1_method_5_code, 2, some .int),
  (⟨"SatchelSins", "child", "(II)I"⟩, prog_1_method_6_code, 3, some .int),
  (⟨"SatchelSins", "deed", "(II)I"⟩, prog_1_method_7_code, 3, some .int),
  (⟨"SatchelSins", "doIt", "(I)I"⟩, prog_1_method_8_code, 2, some .int),
  (⟨"SatchelSins", "carry", "(II)I"⟩, prog_1_method_9_code, 3, some .int),
  (⟨"SatchelSins", "swap", "(II)I"⟩, prog_1_method_10_code, 3, some .int),
  (⟨"SatchelSins", "throwIt", "(I)I"⟩, prog_1_method_11_code, 2, some .int),
  (⟨"SatchelSins", "home", "()I"⟩, prog_1_method_12_code, 1, some .int),
  (⟨"SatchelSins", "takeBack", "(I)I"⟩, prog_1_method_13_code, 3, some .int),
  (⟨"SatchelSins", "drift", "(I)I"⟩, prog_1_method_14_code, 3, some .int),
  (⟨"SatchelSins", "undo", "()I"⟩, prog_1_method_15_code, 1, some .int),
  (⟨"SatchelSins", "loads", "(I)I"⟩, prog_1_method_16_code, 2, some .int),
  (⟨"SatchelSins", "fair", "(I)I"⟩, prog_1_method_17_code, 2, some .int),
  (⟨"SatchelSins", "lighter", "(I)I"⟩, prog_1_method_18_code, 5, some .int),
  (⟨"SatchelSins", "weighs", "(II)I"⟩, prog_1_method_19_code, 3, some .int),
  (⟨"SatchelSins", "handed", "(II)I"⟩, prog_1_method_20_code, 3, some .int),
  (⟨"SatchelSins", "light", "(II)I"⟩, prog_1_method_21_code, 6, some .int),
  (⟨"SatchelSins", "see", "(IIZ)I"⟩, prog_1_method_22_code, 4, some .int),
  (⟨"SatchelSins", "hold", "()I"⟩, prog_1_method_23_code, 1, some .int),
  (⟨"SatchelSins", "write", "(II)I"⟩, prog_1_method_24_code, 3, some .int),
  (⟨"SatchelSins", "tear", "()I"⟩, prog_1_method_25_code, 2, some .int),
  (⟨"SatchelSins", "judge", "()I"⟩, prog_1_method_26_code, 1, some .int),
  (⟨"SatchelSins", "seed", "(I)I"⟩, prog_1_method_27_code, 3, some .int),
  (⟨"SatchelSins", "keep", "(I)I"⟩, prog_1_method_28_code, 2, some .int),
  (⟨"SatchelSins", "goBack", "(I)I"⟩, prog_1_method_29_code, 2, some .int),
  (⟨"SatchelSins", "beginAnew", "()V"⟩, prog_1_method_30_code, 2, none),
  (⟨"SatchelSins", "packed", "(LSatchelSins$Packing;I)I"⟩, prog_1_method_31_code, 3, some .int),
  (⟨"SatchelSins", "driftOnce", "()V"⟩, prog_1_method_32_code, 3, none),
  (⟨"SatchelSins", "draw", "(I)I"⟩, prog_1_method_33_code, 2, some .int),
  (⟨"SatchelSinsModel", "<init>", "()V"⟩, prog_11_method_1_code, 1, none),
  (⟨"SatchelSinsModel", "in", "(JJJ)Z"⟩, prog_11_method_3_code, 6, some .boolean),
  (⟨"SatchelSinsModel", "has", "(II)Z"⟩, prog_11_method_4_code, 2, some .boolean),
  (⟨"SatchelSinsModel", "isChild", "(I)Z"⟩, prog_11_method_5_code, 2, some .boolean),
  (⟨"SatchelSinsModel", "isDeed", "(I)Z"⟩, prog_11_method_6_code, 2, some .boolean),
  (⟨"SatchelSinsModel", "feed", "(I)I"⟩, prog_11_method_7_code, 2, some .int),
  (⟨"SatchelSinsModel", "here", "()I"⟩, prog_11_method_8_code, 1, some .int),
  (⟨"SatchelSinsModel", "fails", "(II)I"⟩, prog_11_method_9_code, 3, some .int),
  (⟨"SatchelSinsModel", "takeNumber", "(II)I"⟩, prog_11_method_10_code, 4, some .int),
  (⟨"SatchelSinsModel", "into", "([IIII)I"⟩, prog_11_method_11_code, 6, some .int),
  (⟨"SatchelSinsModel", "takeBrook", "()I"⟩, prog_11_method_12_code, 2, some .int),
  (⟨"SatchelSinsModel", "takeChild", "()I"⟩, prog_11_method_13_code, 3, some .int),
  (⟨"SatchelSinsModel", "takeDeed", "()I"⟩, prog_11_method_14_code, 3, some .int),
  (⟨"SatchelSinsModel", "takeHanded", "()I"⟩, prog_11_method_15_code, 5, some .int),
  (⟨"SatchelSinsModel", "takeClause", "()I"⟩, prog_11_method_16_code, 5, some .int),
  (⟨"SatchelSinsModel", "takeRead", "()V"⟩, prog_11_method_17_code, 2, none),
  (⟨"SatchelSinsModel", "school", "()I"⟩, prog_11_method_18_code, 2, some .int),
  (⟨"SatchelSinsModel", "fault", "()I"⟩, prog_11_method_19_code, 1, some .int),
  (⟨"SatchelSinsModel", "isWith", "(III)Z"⟩, prog_11_method_20_code, 4, some .boolean),
  (⟨"SatchelSinsModel", "deedsWith", "(II)I"⟩, prog_11_method_21_code, 5, some .int),
  (⟨"SatchelSinsModel", "load", "(I)I"⟩, prog_11_method_22_code, 4, some .int),
  (⟨"SatchelSinsModel", "minutes", "(I)I"⟩, prog_11_method_23_code, 2, some .int),
  (⟨"SatchelSinsModel", "lamed", "()I"⟩, prog_11_method_24_code, 3, some .int),
  (⟨"SatchelSinsModel", "lamedDays", "()I"⟩, prog_11_method_25_code, 3, some .int),
  (⟨"SatchelSinsModel", "made", "()I"⟩, prog_11_method_26_code, 5, some .int),
  (⟨"SatchelSinsModel", "lastHome", "()I"⟩, prog_11_method_27_code, 3, some .int),
  (⟨"SatchelSinsModel", "told", "(I)I"⟩, prog_11_method_28_code, 2, some .int),
  (⟨"SatchelSinsModel", "child", "(II)I"⟩, prog_11_method_29_code, 3, some .int),
  (⟨"SatchelSinsModel", "deed", "(II)I"⟩, prog_11_method_30_code, 3, some .int),
  (⟨"SatchelSinsModel", "remember", "()V"⟩, prog_11_method_31_code, 2, none),
  (⟨"SatchelSinsModel", "lay", "(III)V"⟩, prog_11_method_32_code, 4, none),
  (⟨"SatchelSinsModel", "doIt", "(I)I"⟩, prog_11_method_33_code, 2, some .int),
  (⟨"SatchelSinsModel", "carry", "(II)I"⟩, prog_11_method_34_code, 3, some .int),
  (⟨"SatchelSinsModel", "canSwap", "(II)Z"⟩, prog_11_method_35_code, 3, some .boolean),
  (⟨"SatchelSinsModel", "swap", "(II)I"⟩, prog_11_method_36_code, 4, some .int),
  (⟨"SatchelSinsModel", "canThrow", "(I)Z"⟩, prog_11_method_37_code, 2, some .boolean),
  (⟨"SatchelSinsModel", "throwNow", "(I)V"⟩, prog_11_method_38_code, 2, none),
  (⟨"SatchelSinsModel", "throwIt", "(I)I"⟩, prog_11_method_39_code, 2, some .int),
  (⟨"SatchelSinsModel", "goHome", "()I"⟩, prog_11_method_40_code, 3, some .int),
  (⟨"SatchelSinsModel", "home", "()I"⟩, prog_11_method_41_code, 1, some .int),
  (⟨"SatchelSinsModel", "takeBack", "(I)I"⟩, prog_11_method_42_code, 3, some .int),
  (⟨"SatchelSinsModel", "draw", "(I)I"⟩, prog_11_method_43_code, 2, some .int),
  (⟨"SatchelSinsModel", "chance", "()I"⟩, prog_11_method_44_code, 3, some .int),
  (⟨"SatchelSinsModel", "drift", "(I)I"⟩, prog_11_method_45_code, 4, some .int),
  (⟨"SatchelSinsModel", "undo", "()I"⟩, prog_11_method_46_code, 2, some .int),
  (⟨"SatchelSinsModel", "waysToGive", "()I"⟩, prog_11_method_47_code, 3, some .int),
  (⟨"SatchelSinsModel", "giveBy", "(I)I"⟩, prog_11_method_48_code, 5, some .int),
  (⟨"SatchelSinsModel", "isBorne", "()Z"⟩, prog_11_method_49_code, 3, some .boolean),
  (⟨"SatchelSinsModel", "greatest", "()I"⟩, prog_11_method_50_code, 3, some .int),
  (⟨"SatchelSinsModel", "keepGiven", "()V"⟩, prog_11_method_51_code, 2, none),
  (⟨"SatchelSinsModel", "loads", "(I)I"⟩, prog_11_method_52_code, 5, some .int),
  (⟨"SatchelSinsModel", "fair", "(I)I"⟩, prog_11_method_53_code, 5, some .int),
  (⟨"SatchelSinsModel", "isLighter", "(II)Z"⟩, prog_11_method_54_code, 7, some .boolean),
  (⟨"SatchelSinsModel", "lighter", "(I)I"⟩, prog_11_method_55_code, 6, some .int),
  (⟨"SatchelSinsModel", "weightOf", "(I)I"⟩, prog_11_method_56_code, 4, some .int),
  (⟨"SatchelSinsModel", "lookFor", "(I)I"⟩, prog_11_method_57_code, 6, some .int),
  (⟨"SatchelSinsModel", "weighs", "(II)I"⟩, prog_11_method_58_code, 8, some .int),
  (⟨"SatchelSinsModel", "firstOf", "(I)I"⟩, prog_11_method_59_code, 3, some .int),
  (⟨"SatchelSinsModel", "handed", "(II)I"⟩, prog_11_method_60_code, 5, some .int),
  (⟨"SatchelSinsModel", "light", "(II)I"⟩, prog_11_method_61_code, 6, some .int),
  (⟨"SatchelSinsModel", "see", "(IIZ)I"⟩, prog_11_method_62_code, 4, some .int),
  (⟨"SatchelSinsModel", "lies", "(II)Z"⟩, prog_11_method_63_code, 5, some .boolean),
  (⟨"SatchelSinsModel", "hold", "()I"⟩, prog_11_method_64_code, 3, some .int),
  (⟨"SatchelSinsModel", "write", "(II)I"⟩, prog_11_method_65_code, 3, some .int),
  (⟨"SatchelSinsModel", "tear", "()I"⟩, prog_11_method_66_code, 2, some .int),
  (⟨"SatchelSinsModel", "judge", "()I"⟩, prog_11_method_67_code, 2, some .int),
  (⟨"SatchelSinsModel", "seed", "(I)I"⟩, prog_11_method_68_code, 3, some .int),
  (⟨"SatchelSinsModel", "keep", "(I)I"⟩, prog_11_method_69_code, 3, some .int),
  (⟨"SatchelSinsModel", "goBack", "(I)I"⟩, prog_11_method_70_code, 3, some .int),
  (⟨"java/lang/Math", "max", "(II)I"⟩, prog_12_method_65_code, 2, some .int),
  (⟨"java/lang/Math", "min", "(II)I"⟩, prog_12_method_69_code, 2, some .int),
  (⟨"java/util/Arrays", "fill", "([II)V"⟩, prog_14_method_103_code, 4, none),
  (⟨"SatchelSinsLaw", "law", "([I)Z"⟩, code, 4, some .boolean)]
def o_X0_init : List (Nat × Op) := [(0, .inl (a_aload 1 0)), (1, .inl (a_obj)), (4, .inl (a_aload 1 0)), (5, .inl (a_push 2 (.int 22))), (7, .inl (a_newP 1)), (9, .inl (a_putR 0 0)), (12, .inl (a_aload 1 0)), (13, .inl (a_aload 1 1)), (14, .inl (a_putR 0 1)), (17, .inl (a_aload 1 0)), (18, .inr (.inl (1, 1))), (21, .inr (.inr 0))]
def o_X0_wipe : List (Nat × Op) := [(0, .inl (a_aload 1 0)), (1, .inl (a_getR 0 0)), (4, .inl (a_push 1 (.int 0))), (5, .inr (.inl (187, 2))), (8, .inl (a_push 1 (.int 0))), (9, .inl (a_istore 1 1)), (10, .inl (a_iload 1 1)), (11, .inl (a_push 2 (.int 7))), (13, .inl (a_if2 (fun x y => decide (y ≤ x)) 32)), (16, .inl (a_aload 1 0)), (17, .inl (a_getR 0 0)), (20, .inl (a_push 2 (.int 7))), (22, .inl (a_iload 1 1)), (23, .inl (a_bin (fun x y => x + y))), (24, .inl (a_push 1 (.int (-1)))), (25, .inl (a_iast)), (26, .inl (a_iinc 1 1)), (29, .inl (a_goto 10)), (32, .inr (.inr 0))]
def o_X0_days : List (Nat × Op) := [(0, .inl (a_aload 1 0)), (1, .inl (a_getR 0 0)), (4, .inl (a_push 2 (.int 19))), (6, .inl (a_iald)), (7, .inr (.inr 1))]
def o_X0_takenThisDay : List (Nat × Op) := [(0, .inl (a_aload 1 0)), (1, .inl (a_getR 0 0)), (4, .inl (a_push 2 (.int 20))), (6, .inl (a_iald)), (7, .inr (.inr 1))]
def o_X0_takenInAll : List (Nat × Op) := [(0, .inl (a_aload 1 0)), (1, .inl (a_getR 0 0)), (4, .inl (a_push 2 (.int 21))), (6, .inl (a_iald)), (7, .inr (.inr 1))]
def o_X0_lamedDays : List (Nat × Op) := [(0, .inl (a_aload 1 0)), (1, .inl (a_getR 0 0)), (4, .inl (a_push 2 (.int 14))), (6, .inl (a_iload 1 1)), (7, .inl (a_bin (fun x y => x + y))), (8, .inl (a_iald)), (9, .inr (.inr 1))]
def o_X0_stageOf : List (Nat × Op) := [(0, .inl (a_aload 1 0)), (1, .inl (a_getR 0 0)), (4, .inl (a_push 1 (.int 0))), (5, .inl (a_iload 1 1)), (6, .inl (a_bin (fun x y => x + y))), (7, .inl (a_iald)), (8, .inr (.inr 1))]
def o_X0_placeOf : List (Nat × Op) := [(0, .inl (a_aload 1 0)), (1, .inl (a_getR 0 0)), (4, .inl (a_push 2 (.int 7))), (6, .inl (a_iload 1 1)), (7, .inl (a_bin (fun x y => x + y))), (8, .inl (a_iald)), (9, .inr (.inr 1))]
def o_X0_isInSatchel : List (Nat × Op) := [(0, .inl (a_aload 1 0)), (1, .inl (a_iload 1 1)), (2, .inr (.inl (6, 2))), (5, .inl (a_push 1 (.int 1))), (6, .inl (a_if2 (fun x y => decide (¬ x = y)) 13)), (9, .inl (a_push 1 (.int 1))), (10, .inl (a_goto 14)), (13, .inl (a_push 1 (.int 0))), (14, .inr (.inr 2))]
def o_X0_loadOf : List (Nat × Op) := [(0, .inl (a_push 1 (.int 0))), (1, .inl (a_istore 1 2)), (2, .inl (a_push 1 (.int 0))), (3, .inl (a_istore 1 3)), (4, .inl (a_iload 1 3)), (5, .inl (a_aload 1 0)), (6, .inl (a_getR 0 1)), (9, .inl (a_getI 5 3)), (12, .inl (a_if2 (fun x y => decide (y ≤ x)) 50)), (15, .inl (a_aload 1 0)), (16, .inl (a_iload 1 3)), (17, .inr (.inl (8, 2))), (20, .inl (a_if1 (fun x => decide (x = 0)) 44)), (23, .inl (a_aload 1 0)), (24, .inl (a_iload 1 3)), (25, .inr (.inl (7, 2))), (28, .inl (a_iload 1 1)), (29, .inl (a_if2 (fun x y => decide (¬ x = y)) 44)), (32, .inl (a_iload 1 2)), (33, .inl (a_aload 1 0)), (34, .inl (a_getR 0 1)), (37, .inl (a_getR 5 8)), (40, .inl (a_iload 1 3)), (41, .inl (a_iald)), (42, .inl (a_bin (fun x y => x + y))), (43, .inl (a_istore 1 2)), (44, .inl (a_iinc 3 1)), (47, .inl (a_goto 4)), (50, .inl (a_iload 1 2)), (51, .inr (.inr 1))]
def o_X0_isLamed : List (Nat × Op) := [(0, .inl (a_aload 1 0)), (1, .inl (a_iload 1 1)), (2, .inr (.inl (9, 2))), (5, .inl (a_aload 1 0)), (6, .inl (a_getR 0 1)), (9, .inl (a_getR 5 4)), (12, .inl (a_iload 1 1)), (13, .inl (a_iald)), (14, .inl (a_if2 (fun x y => decide (x ≤ y)) 21)), (17, .inl (a_push 1 (.int 1))), (18, .inl (a_goto 22)), (21, .inl (a_push 1 (.int 0))), (22, .inr (.inr 2))]
def o_X0_lamedSet : List (Nat × Op) := [(0, .inl (a_push 1 (.int 0))), (1, .inl (a_istore 1 1)), (2, .inl (a_push 1 (.int 0))), (3, .inl (a_istore 1 2)), (4, .inl (a_iload 1 2)), (5, .inl (a_aload 1 0)), (6, .inl (a_getR 0 1)), (9, .inl (a_getI 5 2)), (12, .inl (a_if2 (fun x y => decide (y ≤ x)) 35)), (15, .inl (a_aload 1 0)), (16, .inl (a_iload 1 2)), (17, .inr (.inl (10, 2))), (20, .inl (a_if1 (fun x => decide (x = 0)) 29)), (23, .inl (a_iload 1 1)), (24, .inl (a_push 1 (.int 1))), (25, .inl (a_iload 1 2)), (26, .inl (a_bin (fun x y => x <<< (y &&& 31)))), (27, .inl (a_bin (fun x y => x ||| y))), (28, .inl (a_istore 1 1)), (29, .inl (a_iinc 2 1)), (32, .inl (a_goto 4)), (35, .inl (a_iload 1 1)), (36, .inr (.inr 1))]
def o_X0_lamedDaysOfAll : List (Nat × Op) := [(0, .inl (a_push 1 (.int 0))), (1, .inl (a_istore 1 1)), (2, .inl (a_push 1 (.int 0))), (3, .inl (a_istore 1 2)), (4, .inl (a_iload 1 2)), (5, .inl (a_aload 1 0)), (6, .inl (a_getR 0 1)), (9, .inl (a_getI 5 2)), (12, .inl (a_if2 (fun x y => decide (y ≤ x)) 29)), (15, .inl (a_iload 1 1)), (16, .inl (a_aload 1 0)), (17, .inl (a_iload 1 2)), (18, .inr (.inl (5, 2))), (21, .inl (a_bin (fun x y => x + y))), (22, .inl (a_istore 1 1)), (23, .inl (a_iinc 2 1)), (26, .inl (a_goto 4)), (29, .inl (a_iload 1 1)), (30, .inr (.inr 1))]
def o_X0_minutesHome : List (Nat × Op) := [(0, .inl (a_push 1 (.int 1))), (1, .inl (a_aload 1 0)), (2, .inl (a_getR 0 1)), (5, .inl (a_getR 5 4)), (8, .inl (a_iload 1 1)), (9, .inl (a_iald)), (10, .inr (.inl (185, 2))), (13, .inl (a_istore 1 2)), (14, .inl (a_aload 1 0)), (15, .inl (a_getR 0 1)), (18, .inl (a_getR 5 5)), (21, .inl (a_iload 1 1)), (22, .inl (a_iald)), (23, .inl (a_aload 1 0)), (24, .inl (a_getR 0 1)), (27, .inl (a_getR 5 5)), (30, .inl (a_iload 1 1)), (31, .inl (a_iald)), (32, .inl (a_aload 1 0)), (33, .inl (a_iload 1 1)), (34, .inr (.inl (9, 2))), (37, .inl (a_bin (fun x y => x * y))), (38, .inl (a_iload 1 2)), (39, .inl (a_div)), (40, .inl (a_bin (fun x y => x + y))), (41, .inr (.inr 1))]
def o_X0_lastHome : List (Nat × Op) := [(0, .inl (a_push 1 (.int (-1)))), (1, .inl (a_istore 1 1)), (2, .inl (a_push 1 (.int (-1)))), (3, .inl (a_istore 1 2)), (4, .inl (a_push 1 (.int 0))), (5, .inl (a_istore 1 3)), (6, .inl (a_iload 1 3)), (7, .inl (a_aload 1 0)), (8, .inl (a_getR 0 1)), (11, .inl (a_getI 5 2)), (14, .inl (a_if2 (fun x y => decide (y ≤ x)) 41)), (17, .inl (a_aload 1 0)), (18, .inl (a_iload 1 3)), (19, .inr (.inl (13, 2))), (22, .inl (a_istore 2 4)), (24, .inl (a_iload 2 4)), (26, .inl (a_iload 1 2)), (27, .inl (a_if2 (fun x y => decide (x ≤ y)) 35)), (30, .inl (a_iload 2 4)), (32, .inl (a_istore 1 2)), (33, .inl (a_iload 1 3)), (34, .inl (a_istore 1 1)), (35, .inl (a_iinc 3 1)), (38, .inl (a_goto 6)), (41, .inl (a_iload 1 1)), (42, .inr (.inr 1))]
def o_X0_madeSet : List (Nat × Op) := [(0, .inl (a_push 1 (.int 0))), (1, .inl (a_istore 1 1)), (2, .inl (a_push 1 (.int 0))), (3, .inl (a_istore 1 2)), (4, .inl (a_iload 1 2)), (5, .inl (a_aload 1 0)), (6, .inl (a_getR 0 1)), (9, .inl (a_getI 5 2)), (12, .inl (a_if2 (fun x y => decide (y ≤ x)) 44)), (15, .inl (a_aload 1 0)), (16, .inl (a_iload 1 2)), (17, .inr (.inl (16, 2))), (20, .inl (a_istore 1 3)), (21, .inl (a_aload 1 0)), (22, .inl (a_iload 1 2)), (23, .inr (.inl (9, 2))), (26, .inl (a_iload 1 3)), (27, .inl (a_bin (fun x y => x - y))), (28, .inl (a_iload 1 3)), (29, .inl (a_if2 (fun x y => decide (x ≤ y)) 38)), (32, .inl (a_iload 1 1)), (33, .inl (a_push 1 (.int 1))), (34, .inl (a_iload 1 2)), (35, .inl (a_bin (fun x y => x <<< (y &&& 31)))), (36, .inl (a_bin (fun x y => x ||| y))), (37, .inl (a_istore 1 1)), (38, .inl (a_iinc 2 1)), (41, .inl (a_goto 4)), (44, .inl (a_iload 1 1)), (45, .inr (.inr 1))]
def o_X0_ownLoadOf : List (Nat × Op) := [(0, .inl (a_push 1 (.int 0))), (1, .inl (a_istore 1 2)), (2, .inl (a_push 1 (.int 0))), (3, .inl (a_istore 1 3)), (4, .inl (a_iload 1 3)), (5, .inl (a_aload 1 0)), (6, .inl (a_getR 0 1)), (9, .inl (a_getI 5 3)), (12, .inl (a_if2 (fun x y => decide (y ≤ x)) 63)), (15, .inl (a_aload 1 0)), (16, .inl (a_iload 1 3)), (17, .inr (.inl (8, 2))), (20, .inl (a_if1 (fun x => decide (x = 0)) 57)), (23, .inl (a_aload 1 0)), (24, .inl (a_iload 1 3)), (25, .inr (.inl (7, 2))), (28, .inl (a_iload 1 1)), (29, .inl (a_if2 (fun x y => decide (¬ x = y)) 57)), (32, .inl (a_aload 1 0)), (33, .inl (a_getR 0 1)), (36, .inl (a_getR 5 7)), (39, .inl (a_iload 1 3)), (40, .inl (a_iald)), (41, .inl (a_iload 1 1)), (42, .inl (a_if2 (fun x y => decide (¬ x = y)) 57)), (45, .inl (a_iload 1 2)), (46, .inl (a_aload 1 0)), (47, .inl (a_getR 0 1)), (50, .inl (a_getR 5 8)), (53, .inl (a_iload 1 3)), (54, .inl (a_iald)), (55, .inl (a_bin (fun x y => x + y))), (56, .inl (a_istore 1 2)), (57, .inl (a_iinc 3 1)), (60, .inl (a_goto 4)), (63, .inl (a_iload 1 2)), (64, .inr (.inr 1))]
def o_X0_deedSet : List (Nat × Op) := [(0, .inl (a_push 1 (.int 0))), (1, .inl (a_istore 1 3)), (2, .inl (a_push 1 (.int 0))), (3, .inl (a_istore 2 4)), (5, .inl (a_iload 2 4)), (7, .inl (a_aload 1 0)), (8, .inl (a_getR 0 1)), (11, .inl (a_getI 5 3)), (14, .inl (a_if2 (fun x y => decide (y ≤ x)) 50)), (17, .inl (a_aload 1 0)), (18, .inl (a_iload 2 4)), (20, .inr (.inl (6, 2))), (23, .inl (a_iload 1 1)), (24, .inl (a_if2 (fun x y => decide (¬ x = y)) 44)), (27, .inl (a_aload 1 0)), (28, .inl (a_iload 2 4)), (30, .inr (.inl (7, 2))), (33, .inl (a_iload 1 2)), (34, .inl (a_if2 (fun x y => decide (¬ x = y)) 44)), (37, .inl (a_iload 1 3)), (38, .inl (a_push 1 (.int 1))), (39, .inl (a_iload 2 4)), (41, .inl (a_bin (fun x y => x <<< (y &&& 31)))), (42, .inl (a_bin (fun x y => x ||| y))), (43, .inl (a_istore 1 3)), (44, .inl (a_iinc 4 1)), (47, .inl (a_goto 5)), (50, .inl (a_iload 1 3)), (51, .inr (.inr 1))]
def o_X0_liesOnTable : List (Nat × Op) := [(0, .inl (a_push 1 (.int 0))), (1, .inl (a_istore 1 3)), (2, .inl (a_iload 1 3)), (3, .inl (a_aload 1 0)), (4, .inl (a_getR 0 1)), (7, .inl (a_getI 5 3)), (10, .inl (a_if2 (fun x y => decide (y ≤ x)) 52)), (13, .inl (a_aload 1 0)), (14, .inl (a_iload 1 3)), (15, .inr (.inl (6, 2))), (18, .inl (a_push 1 (.int 3))), (19, .inl (a_if2 (fun x y => decide (¬ x = y)) 46)), (22, .inl (a_aload 1 0)), (23, .inl (a_iload 1 3)), (24, .inr (.inl (7, 2))), (27, .inl (a_iload 1 1)), (28, .inl (a_if2 (fun x y => decide (¬ x = y)) 46)), (31, .inl (a_aload 1 0)), (32, .inl (a_getR 0 1)), (35, .inl (a_getR 5 7)), (38, .inl (a_iload 1 3)), (39, .inl (a_iald)), (40, .inl (a_iload 1 2)), (41, .inl (a_if2 (fun x y => decide (¬ x = y)) 46)), (44, .inl (a_push 1 (.int 1))), (45, .inr (.inr 2)), (46, .inl (a_iinc 3 1)), (49, .inl (a_goto 2)), (52, .inl (a_push 1 (.int 0))), (53, .inr (.inr 2))]
def o_X0_canBeDone : List (Nat × Op) := [(0, .inl (a_aload 1 0)), (1, .inl (a_iload 1 1)), (2, .inr (.inl (6, 2))), (5, .inl (a_if1 (fun x => decide (¬ x = 0)) 12)), (8, .inl (a_push 1 (.int 1))), (9, .inl (a_goto 13)), (12, .inl (a_push 1 (.int 0))), (13, .inr (.inr 2))]
def o_X0_canBeCarried : List (Nat × Op) := [(0, .inl (a_aload 1 0)), (1, .inl (a_iload 1 1)), (2, .inr (.inl (8, 2))), (5, .inl (a_if1 (fun x => decide (x = 0)) 21)), (8, .inl (a_aload 1 0)), (9, .inl (a_iload 1 1)), (10, .inr (.inl (7, 2))), (13, .inl (a_iload 1 2)), (14, .inl (a_if2 (fun x y => decide (x = y)) 21)), (17, .inl (a_push 1 (.int 1))), (18, .inl (a_goto 22)), (21, .inl (a_push 1 (.int 0))), (22, .inr (.inr 2))]
def o_X0_canBeThrown : List (Nat × Op) := [(0, .inl (a_aload 1 0)), (1, .inl (a_iload 1 1)), (2, .inr (.inl (8, 2))), (5, .inl (a_if1 (fun x => decide (x = 0)) 36)), (8, .inl (a_aload 1 0)), (9, .inr (.inl (3, 1))), (12, .inl (a_aload 1 0)), (13, .inl (a_getR 0 1)), (16, .inl (a_getR 5 8)), (19, .inl (a_iload 1 1)), (20, .inl (a_iald)), (21, .inl (a_bin (fun x y => x + y))), (22, .inl (a_aload 1 0)), (23, .inl (a_getR 0 1)), (26, .inl (a_getI 5 1)), (29, .inl (a_if2 (fun x y => decide (y < x)) 36)), (32, .inl (a_push 1 (.int 1))), (33, .inl (a_goto 37)), (36, .inl (a_push 1 (.int 0))), (37, .inr (.inr 2))]
def o_X0_areInUnlikeSatchels : List (Nat × Op) := [(0, .inl (a_aload 1 0)), (1, .inl (a_iload 1 1)), (2, .inr (.inl (8, 2))), (5, .inl (a_if1 (fun x => decide (x = 0)) 33)), (8, .inl (a_aload 1 0)), (9, .inl (a_iload 1 2)), (10, .inr (.inl (8, 2))), (13, .inl (a_if1 (fun x => decide (x = 0)) 33)), (16, .inl (a_aload 1 0)), (17, .inl (a_iload 1 1)), (18, .inr (.inl (7, 2))), (21, .inl (a_aload 1 0)), (22, .inl (a_iload 1 2)), (23, .inr (.inl (7, 2))), (26, .inl (a_if2 (fun x y => decide (x = y)) 33)), (29, .inl (a_push 1 (.int 1))), (30, .inl (a_goto 34)), (33, .inl (a_push 1 (.int 0))), (34, .inr (.inr 2))]
def o_X0_isLightenedBySwap_1 : List (Nat × Op) := [(0, .inl (a_aload 1 0)), (1, .inl (a_iload 1 1)), (2, .inl (a_iload 1 2)), (3, .inr (.inl (22, 3))), (6, .inl (a_if1 (fun x => decide (¬ x = 0)) 11)), (9, .inl (a_push 1 (.int 0))), (10, .inr (.inr 2)), (11, .inl (a_aload 1 0)), (12, .inl (a_iload 1 1)), (13, .inr (.inl (7, 2))), (16, .inl (a_istore 1 3)), (17, .inl (a_aload 1 0)), (18, .inl (a_iload 1 2)), (19, .inr (.inl (7, 2))), (22, .inl (a_istore 2 4)), (24, .inl (a_aload 1 0)), (25, .inl (a_getR 0 1)), (28, .inl (a_getR 5 8)), (31, .inl (a_iload 1 2)), (32, .inl (a_iald)), (33, .inl (a_aload 1 0)), (34, .inl (a_getR 0 1)), (37, .inl (a_getR 5 8)), (40, .inl (a_iload 1 1)), (41, .inl (a_iald)), (42, .inl (a_bin (fun x y => x - y))), (43, .inl (a_istore 2 5)), (45, .inl (a_aload 1 0)), (46, .inl (a_iload 1 3)), (47, .inr (.inl (10, 2))), (50, .inl (a_if1 (fun x => decide (¬ x = 0)) 62)), (53, .inl (a_aload 1 0)), (54, .inl (a_iload 2 4)), (56, .inr (.inl (10, 2))), (59, .inl (a_if1 (fun x => decide (x = 0)) 108)), (62, .inl (a_aload 1 0)), (63, .inl (a_iload 1 3)), (64, .inr (.inl (9, 2))), (67, .inl (a_iload 2 5)), (69, .inl (a_bin (fun x y => x + y))), (70, .inl (a_aload 1 0)), (71, .inl (a_getR 0 1)), (74, .inl (a_getR 5 4)), (77, .inl (a_iload 1 3)), (78, .inl (a_iald)), (79, .inl (a_if2 (fun x y => decide (y < x)) 108)), (82, .inl (a_aload 1 0)), (83, .inl (a_iload 2 4)), (85, .inr (.inl (9, 2))), (88, .inl (a_iload 2 5)), (90, .inl (a_bin (fun x y => x - y))), (91, .inl (a_aload 1 0)), (92, .inl (a_getR 0 1)), (95, .inl (a_getR 5 4)), (98, .inl (a_iload 2 4)), (100, .inl (a_iald)), (101, .inl (a_if2 (fun x y => decide (y < x)) 108)), (104, .inl (a_push 1 (.int 1))), (105, .inl (a_goto 109)), (108, .inl (a_push 1 (.int 0)))]
def o_X0_isLightenedBySwap_2 : List (Nat × Op) := [(109, .inr (.inr 2))]
def o_X0_isLightenedBySwap : List (Nat × Op) := o_X0_isLightenedBySwap_1 ++ (o_X0_isLightenedBySwap_2)
def o_X0_putInOwnSatchel : List (Nat × Op) := [(0, .inl (a_aload 1 0)), (1, .inl (a_iload 1 1)), (2, .inl (a_aload 1 0)), (3, .inl (a_getR 0 1)), (6, .inl (a_getR 5 7)), (9, .inl (a_iload 1 1)), (10, .inl (a_iald)), (11, .inr (.inl (25, 3))), (14, .inr (.inr 0))]
def o_X0_putInSatchel : List (Nat × Op) := [(0, .inl (a_aload 1 0)), (1, .inl (a_getR 0 0)), (4, .inl (a_push 1 (.int 0))), (5, .inl (a_iload 1 1)), (6, .inl (a_bin (fun x y => x + y))), (7, .inl (a_push 1 (.int 1))), (8, .inl (a_iast)), (9, .inl (a_aload 1 0)), (10, .inl (a_getR 0 0)), (13, .inl (a_push 2 (.int 7))), (15, .inl (a_iload 1 1)), (16, .inl (a_bin (fun x y => x + y))), (17, .inl (a_iload 1 2)), (18, .inl (a_iast)), (19, .inr (.inr 0))]
def o_X0_changePlaces : List (Nat × Op) := [(0, .inl (a_aload 1 0)), (1, .inl (a_iload 1 1)), (2, .inr (.inl (7, 2))), (5, .inl (a_istore 1 3)), (6, .inl (a_aload 1 0)), (7, .inl (a_iload 1 1)), (8, .inl (a_aload 1 0)), (9, .inl (a_iload 1 2)), (10, .inr (.inl (7, 2))), (13, .inr (.inl (25, 3))), (16, .inl (a_aload 1 0)), (17, .inl (a_iload 1 2)), (18, .inl (a_iload 1 3)), (19, .inr (.inl (25, 3))), (22, .inr (.inr 0))]
def o_X0_putInBrook : List (Nat × Op) := [(0, .inl (a_aload 1 0)), (1, .inl (a_getR 0 0)), (4, .inl (a_push 1 (.int 0))), (5, .inl (a_iload 1 1)), (6, .inl (a_bin (fun x y => x + y))), (7, .inl (a_push 1 (.int 2))), (8, .inl (a_iast)), (9, .inl (a_aload 1 0)), (10, .inl (a_getR 0 0)), (13, .inl (a_push 2 (.int 7))), (15, .inl (a_iload 1 1)), (16, .inl (a_bin (fun x y => x + y))), (17, .inl (a_push 1 (.int (-1)))), (18, .inl (a_iast)), (19, .inl (a_aload 1 0)), (20, .inl (a_getR 0 0)), (23, .inl (a_push 2 (.int 20))), (25, .inl (a_dup2)), (26, .inl (a_iald)), (27, .inl (a_aload 1 0)), (28, .inl (a_getR 0 1)), (31, .inl (a_getR 5 8)), (34, .inl (a_iload 1 1)), (35, .inl (a_iald)), (36, .inl (a_bin (fun x y => x + y))), (37, .inl (a_iast)), (38, .inl (a_aload 1 0)), (39, .inl (a_getR 0 0)), (42, .inl (a_push 2 (.int 21))), (44, .inl (a_push 2 (.int 999999))), (46, .inl (a_aload 1 0)), (47, .inl (a_getR 0 0)), (50, .inl (a_push 2 (.int 21))), (52, .inl (a_iald)), (53, .inl (a_aload 1 0)), (54, .inl (a_getR 0 1)), (57, .inl (a_getR 5 8)), (60, .inl (a_iload 1 1)), (61, .inl (a_iald)), (62, .inl (a_bin (fun x y => x + y))), (63, .inr (.inl (186, 2))), (66, .inl (a_iast)), (67, .inr (.inr 0))]
def o_X0_putNowhere : List (Nat × Op) := [(0, .inl (a_aload 1 0)), (1, .inl (a_getR 0 0)), (4, .inl (a_push 1 (.int 0))), (5, .inl (a_iload 1 1)), (6, .inl (a_bin (fun x y => x + y))), (7, .inl (a_push 1 (.int 0))), (8, .inl (a_iast)), (9, .inl (a_aload 1 0)), (10, .inl (a_getR 0 0)), (13, .inl (a_push 2 (.int 7))), (15, .inl (a_iload 1 1)), (16, .inl (a_bin (fun x y => x + y))), (17, .inl (a_push 1 (.int (-1)))), (18, .inl (a_iast)), (19, .inr (.inr 0))]
def o_X0_allGoHome_1 : List (Nat × Op) := [(0, .inl (a_aload 1 0)), (1, .inr (.inl (11, 1))), (4, .inl (a_istore 1 1)), (5, .inl (a_push 1 (.int 0))), (6, .inl (a_istore 1 2)), (7, .inl (a_iload 1 2)), (8, .inl (a_aload 1 0)), (9, .inl (a_getR 0 1)), (12, .inl (a_getI 5 2)), (15, .inl (a_if2 (fun x y => decide (y ≤ x)) 41)), (18, .inl (a_aload 1 0)), (19, .inl (a_getR 0 0)), (22, .inl (a_push 2 (.int 14))), (24, .inl (a_iload 1 2)), (25, .inl (a_bin (fun x y => x + y))), (26, .inl (a_dup2)), (27, .inl (a_iald)), (28, .inl (a_iload 1 1)), (29, .inl (a_iload 1 2)), (30, .inl (a_bin (fun x y => x >>> (y &&& 31)))), (31, .inl (a_push 1 (.int 1))), (32, .inl (a_bin (fun x y => x &&& y))), (33, .inl (a_bin (fun x y => x + y))), (34, .inl (a_iast)), (35, .inl (a_iinc 2 1)), (38, .inl (a_goto 7)), (41, .inl (a_push 1 (.int 0))), (42, .inl (a_istore 1 2)), (43, .inl (a_iload 1 2)), (44, .inl (a_aload 1 0)), (45, .inl (a_getR 0 1)), (48, .inl (a_getI 5 3)), (51, .inl (a_if2 (fun x y => decide (y ≤ x)) 77)), (54, .inl (a_aload 1 0)), (55, .inl (a_iload 1 2)), (56, .inr (.inl (8, 2))), (59, .inl (a_if1 (fun x => decide (x = 0)) 71)), (62, .inl (a_aload 1 0)), (63, .inl (a_getR 0 0)), (66, .inl (a_push 1 (.int 0))), (67, .inl (a_iload 1 2)), (68, .inl (a_bin (fun x y => x + y))), (69, .inl (a_push 1 (.int 3))), (70, .inl (a_iast)), (71, .inl (a_iinc 2 1)), (74, .inl (a_goto 43)), (77, .inl (a_aload 1 0)), (78, .inl (a_getR 0 0)), (81, .inl (a_push 2 (.int 19))), (83, .inl (a_dup2)), (84, .inl (a_iald)), (85, .inl (a_push 1 (.int 1))), (86, .inl (a_bin (fun x y => x + y))), (87, .inl (a_iast)), (88, .inl (a_aload 1 0)), (89, .inl (a_getR 0 0)), (92, .inl (a_push 2 (.int 20))), (94, .inl (a_push 1 (.int 0))), (95, .inl (a_iast)), (96, .inl (a_iload 1 1))]
def o_X0_allGoHome_2 : List (Nat × Op) := [(97, .inr (.inr 1))]
def o_X0_allGoHome : List (Nat × Op) := o_X0_allGoHome_1 ++ (o_X0_allGoHome_2)
def o_X1_init : List (Nat × Op) := [(0, .inl (a_aload 1 0)), (1, .inl (a_obj)), (4, .inl (a_aload 1 0)), (5, .inl (a_push 2 (.int 22))), (7, .inl (a_newP 1)), (9, .inl (a_putR 1 0)), (12, .inr (.inr 0))]
def o_X1_take : List (Nat × Op) := [(0, .inl (a_aload 1 1)), (1, .inl (a_push 1 (.int 0))), (2, .inl (a_aload 1 0)), (3, .inl (a_getR 1 0)), (6, .inl (a_push 1 (.int 0))), (7, .inl (a_push 2 (.int 22))), (9, .inl (a_copy)), (12, .inl (a_aload 1 0)), (13, .inl (a_iload 1 2)), (14, .inl (a_putI 1 1)), (17, .inl (a_aload 1 0)), (18, .inl (a_push 1 (.int 1))), (19, .inl (a_putZ 1 2)), (22, .inr (.inr 0))]
def o_X1_giveTo : List (Nat × Op) := [(0, .inl (a_aload 1 0)), (1, .inl (a_getR 1 0)), (4, .inl (a_push 1 (.int 0))), (5, .inl (a_aload 1 1)), (6, .inl (a_push 1 (.int 0))), (7, .inl (a_push 2 (.int 22))), (9, .inl (a_copy)), (12, .inr (.inr 0))]
def o_X2_init : List (Nat × Op) := [(0, .inl (a_aload 1 0)), (1, .inl (a_obj)), (4, .inl (a_aload 1 0)), (5, .inl (a_push 2 (.int 7))), (7, .inl (a_newP 1)), (9, .inl (a_putR 2 3)), (12, .inl (a_aload 1 0)), (13, .inl (a_push 2 (.int 7))), (15, .inl (a_newP 1)), (17, .inl (a_putR 2 4)), (20, .inl (a_aload 1 0)), (21, .inl (a_push 2 (.int 7))), (23, .inl (a_newP 1)), (25, .inl (a_putR 2 5)), (28, .inl (a_aload 1 0)), (29, .inl (a_push 1 (.int 5))), (30, .inl (a_newP 1)), (32, .inl (a_putR 2 6)), (35, .inl (a_aload 1 0)), (36, .inl (a_aload 1 1)), (37, .inl (a_putR 2 0)), (40, .inl (a_aload 1 0)), (41, .inl (a_aload 1 2)), (42, .inl (a_putR 2 1)), (45, .inl (a_aload 1 0)), (46, .inl (a_iload 1 3)), (47, .inl (a_putZ 2 2)), (50, .inr (.inr 0))]
def o_X2_forget : List (Nat × Op) := [(0, .inl (a_aload 1 0)), (1, .inl (a_push 1 (.int 0))), (2, .inl (a_putZ 2 8)), (5, .inr (.inr 0))]
def o_X2_leastCost : List (Nat × Op) := [(0, .inl (a_aload 1 0)), (1, .inr (.inl (37, 1))), (4, .inl (a_aload 1 0)), (5, .inl (a_getI 2 7)), (8, .inl (a_push 3 (.int 1000))), (11, .inl (a_if2 (fun x y => decide (y ≤ x)) 21)), (14, .inl (a_aload 1 0)), (15, .inl (a_getI 2 7)), (18, .inl (a_goto 22)), (21, .inl (a_push 1 (.int (-1)))), (22, .inr (.inr 1))]
def o_X2_childFor : List (Nat × Op) := [(0, .inl (a_aload 1 0)), (1, .inr (.inl (37, 1))), (4, .inl (a_aload 1 0)), (5, .inl (a_getR 2 5)), (8, .inl (a_iload 1 1)), (9, .inl (a_iald)), (10, .inr (.inr 1))]
def o_X2_solve : List (Nat × Op) := [(0, .inl (a_aload 1 0)), (1, .inl (a_getI 2 8)), (4, .inl (a_if1 (fun x => decide (x = 0)) 15)), (7, .inl (a_aload 1 0)), (8, .inr (.inl (38, 1))), (11, .inl (a_if1 (fun x => decide (¬ x = 0)) 15)), (14, .inr (.inr 0)), (15, .inl (a_push 1 (.int 0))), (16, .inl (a_istore 1 1)), (17, .inl (a_iload 1 1)), (18, .inl (a_push 2 (.int 7))), (20, .inl (a_if2 (fun x y => decide (y ≤ x)) 40)), (23, .inl (a_aload 1 0)), (24, .inl (a_getR 2 3)), (27, .inl (a_iload 1 1)), (28, .inl (a_aload 1 0)), (29, .inl (a_iload 1 1)), (30, .inr (.inl (39, 2))), (33, .inl (a_iast)), (34, .inl (a_iinc 1 1)), (37, .inl (a_goto 17)), (40, .inl (a_aload 1 0)), (41, .inl (a_getR 2 4)), (44, .inl (a_push 1 (.int (-1)))), (45, .inr (.inl (187, 2))), (48, .inl (a_aload 1 0)), (49, .inl (a_getR 2 5)), (52, .inl (a_push 1 (.int (-1)))), (53, .inr (.inl (187, 2))), (56, .inl (a_aload 1 0)), (57, .inl (a_getR 2 6)), (60, .inl (a_push 1 (.int 0))), (61, .inr (.inl (187, 2))), (64, .inl (a_aload 1 0)), (65, .inl (a_push 3 (.int 1000))), (68, .inl (a_putI 2 7)), (71, .inl (a_aload 1 0)), (72, .inl (a_push 1 (.int 1))), (73, .inl (a_putZ 2 8)), (76, .inl (a_aload 1 0)), (77, .inl (a_getI 2 2)), (80, .inl (a_if1 (fun x => decide (x = 0)) 93)), (83, .inl (a_aload 1 0)), (84, .inl (a_getR 2 0)), (87, .inl (a_getI 5 2)), (90, .inl (a_if1 (fun x => decide (x ≤ 0)) 99)), (93, .inl (a_aload 1 0)), (94, .inl (a_push 1 (.int 0))), (95, .inl (a_push 1 (.int 0))), (96, .inr (.inl (40, 3))), (99, .inr (.inr 0))]
def o_X2_haveHoldersChanged : List (Nat × Op) := [(0, .inl (a_push 1 (.int 0))), (1, .inl (a_istore 1 1)), (2, .inl (a_iload 1 1)), (3, .inl (a_push 2 (.int 7))), (5, .inl (a_if2 (fun x y => decide (y ≤ x)) 30)), (8, .inl (a_aload 1 0)), (9, .inl (a_getR 2 3)), (12, .inl (a_iload 1 1)), (13, .inl (a_iald)), (14, .inl (a_aload 1 0)), (15, .inl (a_iload 1 1)), (16, .inr (.inl (39, 2))), (19, .inl (a_if2 (fun x y => decide (x = y)) 24)), (22, .inl (a_push 1 (.int 1))), (23, .inr (.inr 2)), (24, .inl (a_iinc 1 1)), (27, .inl (a_goto 2)), (30, .inl (a_push 1 (.int 0))), (31, .inr (.inr 2))]
def o_X2_holderNow : List (Nat × Op) := [(0, .inl (a_aload 1 0)), (1, .inl (a_getR 2 0)), (4, .inl (a_iload 1 1)), (5, .inr (.inl (66, 2))), (8, .inl (a_if1 (fun x => decide (x = 0)) 33)), (11, .inl (a_aload 1 0)), (12, .inl (a_getR 2 1)), (15, .inl (a_iload 1 1)), (16, .inr (.inl (8, 2))), (19, .inl (a_if1 (fun x => decide (x = 0)) 33)), (22, .inl (a_aload 1 0)), (23, .inl (a_getR 2 1)), (26, .inl (a_iload 1 1)), (27, .inr (.inl (7, 2))), (30, .inl (a_goto 34)), (33, .inl (a_push 1 (.int (-1)))), (34, .inr (.inr 1))]
def o_X2_place_1 : List (Nat × Op) := [(0, .inl (a_iload 1 2)), (1, .inl (a_aload 1 0)), (2, .inl (a_getI 2 7)), (5, .inl (a_if2 (fun x y => decide (x < y)) 9)), (8, .inr (.inr 0)), (9, .inl (a_iload 1 1)), (10, .inl (a_if1 (fun x => decide (x < 0)) 30)), (13, .inl (a_iload 1 1)), (14, .inl (a_aload 1 0)), (15, .inl (a_getR 2 0)), (18, .inl (a_getI 5 3)), (21, .inl (a_if2 (fun x y => decide (y ≤ x)) 30)), (24, .inl (a_iload 1 1)), (25, .inl (a_push 2 (.int 7))), (27, .inl (a_if2 (fun x y => decide (x < y)) 51)), (30, .inl (a_aload 1 0)), (31, .inl (a_iload 1 2)), (32, .inl (a_putI 2 7)), (35, .inl (a_aload 1 0)), (36, .inl (a_getR 2 4)), (39, .inl (a_push 1 (.int 0))), (40, .inl (a_aload 1 0)), (41, .inl (a_getR 2 5)), (44, .inl (a_push 1 (.int 0))), (45, .inl (a_push 2 (.int 7))), (47, .inl (a_copy)), (50, .inr (.inr 0)), (51, .inl (a_aload 1 0)), (52, .inl (a_getR 2 3)), (55, .inl (a_iload 1 1)), (56, .inl (a_iald)), (57, .inl (a_push 1 (.int (-1)))), (58, .inl (a_if2 (fun x y => decide (¬ x = y)) 70)), (61, .inl (a_aload 1 0)), (62, .inl (a_iload 1 1)), (63, .inl (a_push 1 (.int 1))), (64, .inl (a_bin (fun x y => x + y))), (65, .inl (a_iload 1 2)), (66, .inr (.inl (40, 3))), (69, .inr (.inr 0)), (70, .inl (a_push 1 (.int 0))), (71, .inl (a_istore 1 3)), (72, .inl (a_iload 1 3)), (73, .inl (a_aload 1 0)), (74, .inl (a_getR 2 0)), (77, .inl (a_getI 5 2)), (80, .inl (a_if2 (fun x y => decide (y ≤ x)) 201)), (83, .inl (a_aload 1 0)), (84, .inl (a_getR 2 6)), (87, .inl (a_iload 1 3)), (88, .inl (a_iald)), (89, .inl (a_aload 1 0)), (90, .inl (a_getR 2 0)), (93, .inl (a_getR 5 8)), (96, .inl (a_iload 1 1)), (97, .inl (a_iald)), (98, .inl (a_bin (fun x y => x + y))), (99, .inl (a_istore 2 4)), (101, .inl (a_aload 1 0)), (102, .inl (a_getI 2 2))]
def o_X2_place_2 : List (Nat × Op) := [(105, .inl (a_if1 (fun x => decide (¬ x = 0)) 122)), (108, .inl (a_iload 2 4)), (110, .inl (a_aload 1 0)), (111, .inl (a_getR 2 0)), (114, .inl (a_getR 5 4)), (117, .inl (a_iload 1 3)), (118, .inl (a_iald)), (119, .inl (a_if2 (fun x y => decide (y < x)) 195)), (122, .inl (a_aload 1 0)), (123, .inl (a_getR 2 6)), (126, .inl (a_iload 1 3)), (127, .inl (a_iload 2 4)), (129, .inl (a_iast)), (130, .inl (a_aload 1 0)), (131, .inl (a_getR 2 4)), (134, .inl (a_iload 1 1)), (135, .inl (a_iload 1 3)), (136, .inl (a_iast)), (137, .inl (a_aload 1 0)), (138, .inl (a_iload 1 1)), (139, .inl (a_push 1 (.int 1))), (140, .inl (a_bin (fun x y => x + y))), (141, .inl (a_aload 1 0)), (142, .inl (a_getI 2 2)), (145, .inl (a_if1 (fun x => decide (x = 0)) 157)), (148, .inl (a_iload 1 2)), (149, .inl (a_iload 2 4)), (151, .inr (.inl (185, 2))), (154, .inl (a_goto 174)), (157, .inl (a_iload 1 3)), (158, .inl (a_aload 1 0)), (159, .inl (a_getR 2 3)), (162, .inl (a_iload 1 1)), (163, .inl (a_iald)), (164, .inl (a_if2 (fun x y => decide (¬ x = y)) 171)), (167, .inl (a_iload 1 2)), (168, .inl (a_goto 174)), (171, .inl (a_iload 1 2)), (172, .inl (a_push 1 (.int 1))), (173, .inl (a_bin (fun x y => x + y))), (174, .inr (.inl (40, 3))), (177, .inl (a_aload 1 0)), (178, .inl (a_getR 2 6)), (181, .inl (a_iload 1 3)), (182, .inl (a_iload 2 4)), (184, .inl (a_aload 1 0)), (185, .inl (a_getR 2 0)), (188, .inl (a_getR 5 8)), (191, .inl (a_iload 1 1)), (192, .inl (a_iald)), (193, .inl (a_bin (fun x y => x - y))), (194, .inl (a_iast)), (195, .inl (a_iinc 3 1)), (198, .inl (a_goto 72)), (201, .inr (.inr 0))]
def o_X2_place : List (Nat × Op) := o_X2_place_1 ++ (o_X2_place_2)
def o_X3_init : List (Nat × Op) := [(0, .inl (a_aload 1 0)), (1, .inl (a_obj)), (4, .inl (a_aload 1 0)), (5, .inl (a_push 3 (.int 440))), (8, .inl (a_newP 1)), (10, .inl (a_putR 3 0)), (13, .inr (.inr 0))]
def o_X3_push : List (Nat × Op) := [(0, .inl (a_aload 1 1)), (1, .inl (a_push 1 (.int 0))), (2, .inl (a_aload 1 0)), (3, .inl (a_getR 3 0)), (6, .inl (a_aload 1 0)), (7, .inl (a_getI 3 1)), (10, .inl (a_push 2 (.int 22))), (12, .inl (a_bin (fun x y => x * y))), (13, .inl (a_push 2 (.int 22))), (15, .inl (a_copy)), (18, .inl (a_aload 1 0)), (19, .inl (a_aload 1 0)), (20, .inl (a_getI 3 1)), (23, .inl (a_push 1 (.int 1))), (24, .inl (a_bin (fun x y => x + y))), (25, .inl (a_push 2 (.int 20))), (27, .inl (a_if2 (fun x y => decide (y ≤ x)) 39)), (30, .inl (a_aload 1 0)), (31, .inl (a_getI 3 1)), (34, .inl (a_push 1 (.int 1))), (35, .inl (a_bin (fun x y => x + y))), (36, .inl (a_goto 40)), (39, .inl (a_push 1 (.int 0))), (40, .inl (a_putI 3 1)), (43, .inl (a_aload 1 0)), (44, .inl (a_push 2 (.int 20))), (46, .inl (a_aload 1 0)), (47, .inl (a_getI 3 2)), (50, .inl (a_push 1 (.int 1))), (51, .inl (a_bin (fun x y => x + y))), (52, .inr (.inl (186, 2))), (55, .inl (a_putI 3 2)), (58, .inr (.inr 0))]
def o_X3_pop : List (Nat × Op) := [(0, .inl (a_aload 1 0)), (1, .inl (a_getI 3 2)), (4, .inl (a_if1 (fun x => decide (x ≤ 0)) 57)), (7, .inl (a_aload 1 0)), (8, .inl (a_aload 1 0)), (9, .inl (a_getI 3 1)), (12, .inl (a_if1 (fun x => decide (x ≤ 0)) 24)), (15, .inl (a_aload 1 0)), (16, .inl (a_getI 3 1)), (19, .inl (a_push 1 (.int 1))), (20, .inl (a_bin (fun x y => x - y))), (21, .inl (a_goto 26)), (24, .inl (a_push 2 (.int 19))), (26, .inl (a_putI 3 1)), (29, .inl (a_aload 1 0)), (30, .inl (a_dup)), (31, .inl (a_getI 3 2)), (34, .inl (a_push 1 (.int 1))), (35, .inl (a_bin (fun x y => x - y))), (36, .inl (a_putI 3 2)), (39, .inl (a_aload 1 0)), (40, .inl (a_getR 3 0)), (43, .inl (a_aload 1 0)), (44, .inl (a_getI 3 1)), (47, .inl (a_push 2 (.int 22))), (49, .inl (a_bin (fun x y => x * y))), (50, .inl (a_aload 1 1)), (51, .inl (a_push 1 (.int 0))), (52, .inl (a_push 2 (.int 22))), (54, .inl (a_copy)), (57, .inr (.inr 0))]
def o_X3_wipe : List (Nat × Op) := [(0, .inl (a_aload 1 0)), (1, .inl (a_push 1 (.int 0))), (2, .inl (a_putI 3 1)), (5, .inl (a_aload 1 0)), (6, .inl (a_push 1 (.int 0))), (7, .inl (a_putI 3 2)), (10, .inr (.inr 0))]
def o_X4_init : List (Nat × Op) := [(0, .inl (a_aload 1 0)), (1, .inl (a_obj)), (4, .inl (a_aload 1 0)), (5, .inl (a_aload 1 1)), (6, .inl (a_putR 4 0)), (9, .inl (a_aload 1 0)), (10, .inl (a_aload 1 2)), (11, .inl (a_putR 4 1)), (14, .inr (.inr 0))]
def o_X4_readText : List (Nat × Op) := [(0, .inl (a_aload 1 0)), (1, .inl (a_iload 1 1)), (2, .inl (a_aload 1 0)), (3, .inl (a_getR 4 0)), (6, .inl (a_alen)), (7, .inr (.inl (186, 2))), (10, .inl (a_putI 4 2)), (13, .inl (a_aload 1 0)), (14, .inl (a_push 1 (.int 0))), (15, .inl (a_putI 4 3)), (18, .inl (a_aload 1 0)), (19, .inl (a_push 1 (.int 0))), (20, .inl (a_putI 4 5)), (23, .inl (a_aload 1 0)), (24, .inl (a_push 1 (.int (-1)))), (25, .inl (a_putI 4 6)), (28, .inl (a_aload 1 0)), (29, .inl (a_getR 4 1)), (32, .inr (.inl (61, 1))), (35, .inl (a_aload 1 0)), (36, .inr (.inl (57, 1))), (39, .inl (a_push 1 (.int 0))), (40, .inl (a_istore 1 2)), (41, .inl (a_iload 1 2)), (42, .inl (a_aload 1 0)), (43, .inl (a_getI 4 2)), (46, .inl (a_if2 (fun x y => decide (y ≤ x)) 81)), (49, .inl (a_aload 1 0)), (50, .inl (a_getI 4 3)), (53, .inl (a_aload 1 0)), (54, .inl (a_getI 4 2)), (57, .inl (a_if2 (fun x y => decide (y ≤ x)) 81)), (60, .inl (a_aload 1 0)), (61, .inl (a_getI 4 5)), (64, .inl (a_if1 (fun x => decide (¬ x = 0)) 81)), (67, .inl (a_aload 1 0)), (68, .inr (.inl (48, 1))), (71, .inl (a_aload 1 0)), (72, .inr (.inl (57, 1))), (75, .inl (a_iinc 2 1)), (78, .inl (a_goto 41)), (81, .inl (a_aload 1 0)), (82, .inl (a_getI 4 5)), (85, .inr (.inr 1))]
def o_X4_faultPlace : List (Nat × Op) := [(0, .inl (a_aload 1 0)), (1, .inl (a_getI 4 6)), (4, .inr (.inr 1))]
def o_X4_readClause : List (Nat × Op) := [(0, .inl (a_aload 1 0)), (1, .inr (.inl (58, 1))), (4, .inl (a_istore 1 1)), (5, .inl (a_aload 1 0)), (6, .inl (a_getR 4 1)), (9, .inl (a_getI 5 0)), (12, .inl (a_if1 (fun x => decide (¬ x = 0)) 31)), (15, .inl (a_iload 1 1)), (16, .inl (a_push 2 (.int 98))), (18, .inl (a_if2 (fun x y => decide (x = y)) 31)), (21, .inl (a_aload 1 0)), (22, .inl (a_push 1 (.int 1))), (23, .inl (a_aload 1 0)), (24, .inl (a_getI 4 3)), (27, .inr (.inl (59, 3))), (30, .inr (.inr 0)), (31, .inl (a_iload 1 1)), (32, .inl (a_tsw 98 [76, 83, 90, 104, 104, 104, 97] 104)), (76, .inl (a_aload 1 0)), (77, .inr (.inl (49, 1))), (80, .inl (a_goto 113)), (83, .inl (a_aload 1 0)), (84, .inr (.inl (50, 1))), (87, .inl (a_goto 113)), (90, .inl (a_aload 1 0)), (91, .inr (.inl (51, 1))), (94, .inl (a_goto 113)), (97, .inl (a_aload 1 0)), (98, .inr (.inl (52, 1))), (101, .inl (a_goto 113)), (104, .inl (a_aload 1 0)), (105, .inl (a_push 1 (.int 1))), (106, .inl (a_aload 1 0)), (107, .inl (a_getI 4 3)), (110, .inr (.inl (59, 3))), (113, .inr (.inr 0))]
def o_X4_readBrook : List (Nat × Op) := [(0, .inl (a_aload 1 0)), (1, .inl (a_aload 1 0)), (2, .inl (a_getR 4 1)), (5, .inl (a_getI 5 0)), (8, .inl (a_if1 (fun x => decide (¬ x = 0)) 15)), (11, .inl (a_push 1 (.int 1))), (12, .inl (a_goto 16)), (15, .inl (a_push 1 (.int 0))), (16, .inr (.inl (53, 2))), (19, .inl (a_aload 1 0)), (20, .inl (a_getR 4 1)), (23, .inl (a_push 1 (.int 1))), (24, .inl (a_putZ 5 0)), (27, .inl (a_aload 1 0)), (28, .inl (a_push 1 (.int 0))), (29, .inl (a_push 3 (.int 999))), (32, .inr (.inl (55, 3))), (35, .inl (a_istore 1 1)), (36, .inl (a_aload 1 0)), (37, .inr (.inl (54, 1))), (40, .inl (a_aload 1 0)), (41, .inl (a_getR 4 1)), (44, .inl (a_iload 1 1)), (45, .inl (a_putI 5 1)), (48, .inr (.inr 0))]
def o_X4_readChild : List (Nat × Op) := [(0, .inl (a_aload 1 0)), (1, .inl (a_aload 1 0)), (2, .inl (a_getR 4 1)), (5, .inl (a_getI 5 2)), (8, .inl (a_push 1 (.int 5))), (9, .inl (a_if2 (fun x y => decide (y ≤ x)) 16)), (12, .inl (a_push 1 (.int 1))), (13, .inl (a_goto 17)), (16, .inl (a_push 1 (.int 0))), (17, .inr (.inl (53, 2))), (20, .inl (a_aload 1 0)), (21, .inl (a_push 1 (.int 1))), (22, .inl (a_push 2 (.int 99))), (24, .inr (.inl (55, 3))), (27, .inl (a_istore 1 1)), (28, .inl (a_aload 1 0)), (29, .inl (a_push 1 (.int 1))), (30, .inl (a_push 2 (.int 99))), (32, .inr (.inl (55, 3))), (35, .inl (a_istore 1 2)), (36, .inl (a_aload 1 0)), (37, .inr (.inl (54, 1))), (40, .inl (a_aload 1 0)), (41, .inl (a_getI 4 5)), (44, .inl (a_if1 (fun x => decide (¬ x = 0)) 56)), (47, .inl (a_aload 1 0)), (48, .inl (a_getR 4 1)), (51, .inl (a_iload 1 1)), (52, .inl (a_iload 1 2)), (53, .inr (.inl (63, 3))), (56, .inr (.inr 0))]
def o_X4_readDeed : List (Nat × Op) := [(0, .inl (a_aload 1 0)), (1, .inl (a_aload 1 0)), (2, .inl (a_getR 4 1)), (5, .inl (a_getI 5 3)), (8, .inl (a_push 2 (.int 7))), (10, .inl (a_if2 (fun x y => decide (y ≤ x)) 17)), (13, .inl (a_push 1 (.int 1))), (14, .inl (a_goto 18)), (17, .inl (a_push 1 (.int 0))), (18, .inr (.inl (53, 2))), (21, .inl (a_aload 1 0)), (22, .inl (a_push 1 (.int 0))), (23, .inl (a_aload 1 0)), (24, .inl (a_getR 4 1)), (27, .inl (a_getI 5 2)), (30, .inl (a_push 1 (.int 1))), (31, .inl (a_bin (fun x y => x - y))), (32, .inr (.inl (55, 3))), (35, .inl (a_istore 1 1)), (36, .inl (a_aload 1 0)), (37, .inl (a_push 1 (.int 1))), (38, .inl (a_push 2 (.int 99))), (40, .inr (.inl (55, 3))), (43, .inl (a_istore 1 2)), (44, .inl (a_aload 1 0)), (45, .inr (.inl (54, 1))), (48, .inl (a_aload 1 0)), (49, .inl (a_getI 4 5)), (52, .inl (a_if1 (fun x => decide (¬ x = 0)) 64)), (55, .inl (a_aload 1 0)), (56, .inl (a_getR 4 1)), (59, .inl (a_iload 1 1)), (60, .inl (a_iload 1 2)), (61, .inr (.inl (64, 3))), (64, .inr (.inr 0))]
def o_X4_readHanding : List (Nat × Op) := [(0, .inl (a_aload 1 0)), (1, .inl (a_push 1 (.int 1))), (2, .inr (.inl (53, 2))), (5, .inl (a_aload 1 0)), (6, .inl (a_push 1 (.int 0))), (7, .inl (a_aload 1 0)), (8, .inl (a_getR 4 1)), (11, .inl (a_getI 5 2)), (14, .inl (a_push 1 (.int 1))), (15, .inl (a_bin (fun x y => x - y))), (16, .inr (.inl (55, 3))), (19, .inl (a_istore 1 1)), (20, .inl (a_aload 1 0)), (21, .inl (a_push 1 (.int 0))), (22, .inl (a_aload 1 0)), (23, .inl (a_getR 4 1)), (26, .inl (a_getI 5 2)), (29, .inl (a_push 1 (.int 1))), (30, .inl (a_bin (fun x y => x - y))), (31, .inr (.inl (55, 3))), (34, .inl (a_istore 1 2)), (35, .inl (a_aload 1 0)), (36, .inl (a_getI 4 5)), (39, .inl (a_if1 (fun x => decide (¬ x = 0)) 63)), (42, .inl (a_aload 1 0)), (43, .inl (a_getR 4 1)), (46, .inl (a_iload 1 1)), (47, .inl (a_iload 1 2)), (48, .inr (.inl (68, 3))), (51, .inl (a_if1 (fun x => decide (¬ x = 0)) 63)), (54, .inl (a_aload 1 0)), (55, .inl (a_push 1 (.int 4))), (56, .inl (a_aload 1 0)), (57, .inl (a_getI 4 4)), (60, .inr (.inl (59, 3))), (63, .inl (a_aload 1 0)), (64, .inr (.inl (54, 1))), (67, .inl (a_aload 1 0)), (68, .inl (a_getI 4 5)), (71, .inl (a_if1 (fun x => decide (¬ x = 0)) 84)), (74, .inl (a_aload 1 0)), (75, .inl (a_getR 4 1)), (78, .inl (a_getR 5 6)), (81, .inl (a_iload 1 2)), (82, .inl (a_iload 1 1)), (83, .inl (a_iast)), (84, .inr (.inr 0))]
def o_X4_takeWord : List (Nat × Op) := [(0, .inl (a_iload 1 1)), (1, .inl (a_if1 (fun x => decide (¬ x = 0)) 13)), (4, .inl (a_aload 1 0)), (5, .inl (a_push 1 (.int 3))), (6, .inl (a_aload 1 0)), (7, .inl (a_getI 4 3)), (10, .inr (.inl (59, 3))), (13, .inl (a_aload 1 0)), (14, .inl (a_dup)), (15, .inl (a_getI 4 3)), (18, .inl (a_push 1 (.int 1))), (19, .inl (a_bin (fun x y => x + y))), (20, .inl (a_putI 4 3)), (23, .inr (.inr 0))]
def o_X4_readEnd : List (Nat × Op) := [(0, .inl (a_aload 1 0)), (1, .inr (.inl (57, 1))), (4, .inl (a_aload 1 0)), (5, .inr (.inl (58, 1))), (8, .inl (a_push 2 (.int 59))), (10, .inl (a_if2 (fun x y => decide (x = y)) 22)), (13, .inl (a_aload 1 0)), (14, .inl (a_push 1 (.int 1))), (15, .inl (a_aload 1 0)), (16, .inl (a_getI 4 3)), (19, .inr (.inl (59, 3))), (22, .inl (a_aload 1 0)), (23, .inl (a_dup)), (24, .inl (a_getI 4 3)), (27, .inl (a_push 1 (.int 1))), (28, .inl (a_bin (fun x y => x + y))), (29, .inl (a_putI 4 3)), (32, .inr (.inr 0))]
def o_X4_readNumber_1 : List (Nat × Op) := [(0, .inl (a_aload 1 0)), (1, .inr (.inl (57, 1))), (4, .inl (a_aload 1 0)), (5, .inl (a_aload 1 0)), (6, .inl (a_getI 4 3)), (9, .inl (a_putI 4 4)), (12, .inl (a_push 1 (.int 0))), (13, .inl (a_istore 1 3)), (14, .inl (a_aload 1 0)), (15, .inl (a_getI 4 3)), (18, .inl (a_aload 1 0)), (19, .inl (a_getI 4 2)), (22, .inl (a_if2 (fun x y => decide (y ≤ x)) 75)), (25, .inl (a_aload 1 0)), (26, .inl (a_aload 1 0)), (27, .inr (.inl (58, 1))), (30, .inr (.inl (56, 2))), (33, .inl (a_if1 (fun x => decide (x = 0)) 75)), (36, .inl (a_aload 1 0)), (37, .inl (a_getI 4 3)), (40, .inl (a_aload 1 0)), (41, .inl (a_getI 4 4)), (44, .inl (a_bin (fun x y => x - y))), (45, .inl (a_push 1 (.int 3))), (46, .inl (a_if2 (fun x y => decide (y ≤ x)) 62)), (49, .inl (a_iload 1 3)), (50, .inl (a_push 2 (.int 10))), (52, .inl (a_bin (fun x y => x * y))), (53, .inl (a_aload 1 0)), (54, .inr (.inl (58, 1))), (57, .inl (a_bin (fun x y => x + y))), (58, .inl (a_push 2 (.int 48))), (60, .inl (a_bin (fun x y => x - y))), (61, .inl (a_istore 1 3)), (62, .inl (a_aload 1 0)), (63, .inl (a_dup)), (64, .inl (a_getI 4 3)), (67, .inl (a_push 1 (.int 1))), (68, .inl (a_bin (fun x y => x + y))), (69, .inl (a_putI 4 3)), (72, .inl (a_goto 14)), (75, .inl (a_aload 1 0)), (76, .inl (a_getI 4 3)), (79, .inl (a_aload 1 0)), (80, .inl (a_getI 4 4)), (83, .inl (a_if2 (fun x y => decide (¬ x = y)) 98)), (86, .inl (a_aload 1 0)), (87, .inl (a_push 1 (.int 1))), (88, .inl (a_aload 1 0)), (89, .inl (a_getI 4 3)), (92, .inr (.inl (59, 3))), (95, .inl (a_goto 130)), (98, .inl (a_aload 1 0)), (99, .inl (a_getI 4 3)), (102, .inl (a_aload 1 0)), (103, .inl (a_getI 4 4)), (106, .inl (a_bin (fun x y => x - y))), (107, .inl (a_push 1 (.int 3))), (108, .inl (a_if2 (fun x y => decide (y < x)) 121)), (111, .inl (a_iload 1 3))]
def o_X4_readNumber_2 : List (Nat × Op) := [(112, .inl (a_iload 1 1)), (113, .inl (a_if2 (fun x y => decide (x < y)) 121)), (116, .inl (a_iload 1 3)), (117, .inl (a_iload 1 2)), (118, .inl (a_if2 (fun x y => decide (x ≤ y)) 130)), (121, .inl (a_aload 1 0)), (122, .inl (a_push 1 (.int 2))), (123, .inl (a_aload 1 0)), (124, .inl (a_getI 4 4)), (127, .inr (.inl (59, 3))), (130, .inl (a_iload 1 3)), (131, .inr (.inr 1))]
def o_X4_readNumber : List (Nat × Op) := o_X4_readNumber_1 ++ (o_X4_readNumber_2)
def o_X4_isFigure : List (Nat × Op) := [(0, .inl (a_iload 1 1)), (1, .inl (a_push 2 (.int 48))), (3, .inl (a_if2 (fun x y => decide (x < y)) 16)), (6, .inl (a_iload 1 1)), (7, .inl (a_push 2 (.int 57))), (9, .inl (a_if2 (fun x y => decide (y < x)) 16)), (12, .inl (a_push 1 (.int 1))), (13, .inl (a_goto 17)), (16, .inl (a_push 1 (.int 0))), (17, .inr (.inr 2))]
def o_X4_skipBlanks : List (Nat × Op) := [(0, .inl (a_aload 1 0)), (1, .inl (a_getI 4 3)), (4, .inl (a_aload 1 0)), (5, .inl (a_getI 4 2)), (8, .inl (a_if2 (fun x y => decide (y ≤ x)) 33)), (11, .inl (a_aload 1 0)), (12, .inr (.inl (58, 1))), (15, .inl (a_push 2 (.int 32))), (17, .inl (a_if2 (fun x y => decide (¬ x = y)) 33)), (20, .inl (a_aload 1 0)), (21, .inl (a_dup)), (22, .inl (a_getI 4 3)), (25, .inl (a_push 1 (.int 1))), (26, .inl (a_bin (fun x y => x + y))), (27, .inl (a_putI 4 3)), (30, .inl (a_goto 0)), (33, .inr (.inr 0))]
def o_X4_letter : List (Nat × Op) := [(0, .inl (a_aload 1 0)), (1, .inl (a_getI 4 3)), (4, .inl (a_if1 (fun x => decide (x < 0)) 30)), (7, .inl (a_aload 1 0)), (8, .inl (a_getI 4 3)), (11, .inl (a_aload 1 0)), (12, .inl (a_getI 4 2)), (15, .inl (a_if2 (fun x y => decide (y ≤ x)) 30)), (18, .inl (a_aload 1 0)), (19, .inl (a_getR 4 0)), (22, .inl (a_aload 1 0)), (23, .inl (a_getI 4 3)), (26, .inl (a_iald)), (27, .inl (a_goto 31)), (30, .inl (a_push 1 (.int (-1)))), (31, .inr (.inr 1))]
def o_X4_fail : List (Nat × Op) := [(0, .inl (a_aload 1 0)), (1, .inl (a_getI 4 5)), (4, .inl (a_if1 (fun x => decide (¬ x = 0)) 17)), (7, .inl (a_aload 1 0)), (8, .inl (a_iload 1 1)), (9, .inl (a_putI 4 5)), (12, .inl (a_aload 1 0)), (13, .inl (a_iload 1 2)), (14, .inl (a_putI 4 6)), (17, .inr (.inr 0))]
def o_X5_init : List (Nat × Op) := [(0, .inl (a_aload 1 0)), (1, .inl (a_obj)), (4, .inl (a_aload 1 0)), (5, .inl (a_push 1 (.int 5))), (6, .inl (a_newP 1)), (8, .inl (a_putR 5 4)), (11, .inl (a_aload 1 0)), (12, .inl (a_push 1 (.int 5))), (13, .inl (a_newP 1)), (15, .inl (a_putR 5 5)), (18, .inl (a_aload 1 0)), (19, .inl (a_push 1 (.int 5))), (20, .inl (a_newP 1)), (22, .inl (a_putR 5 6)), (25, .inl (a_aload 1 0)), (26, .inl (a_push 2 (.int 7))), (28, .inl (a_newP 1)), (30, .inl (a_putR 5 7)), (33, .inl (a_aload 1 0)), (34, .inl (a_push 2 (.int 7))), (36, .inl (a_newP 1)), (38, .inl (a_putR 5 8)), (41, .inr (.inr 0))]
def o_X5_wipe : List (Nat × Op) := [(0, .inl (a_aload 1 0)), (1, .inl (a_push 1 (.int 0))), (2, .inl (a_putZ 5 0)), (5, .inl (a_aload 1 0)), (6, .inl (a_push 1 (.int 0))), (7, .inl (a_putI 5 1)), (10, .inl (a_aload 1 0)), (11, .inl (a_push 1 (.int 0))), (12, .inl (a_putI 5 2)), (15, .inl (a_aload 1 0)), (16, .inl (a_push 1 (.int 0))), (17, .inl (a_putI 5 3)), (20, .inr (.inr 0))]
def o_X5_copyFrom : List (Nat × Op) := [(0, .inl (a_aload 1 0)), (1, .inl (a_aload 1 1)), (2, .inl (a_getI 5 0)), (5, .inl (a_putZ 5 0)), (8, .inl (a_aload 1 0)), (9, .inl (a_aload 1 1)), (10, .inl (a_getI 5 1)), (13, .inl (a_putI 5 1)), (16, .inl (a_aload 1 0)), (17, .inl (a_aload 1 1)), (18, .inl (a_getI 5 2)), (21, .inl (a_putI 5 2)), (24, .inl (a_aload 1 0)), (25, .inl (a_aload 1 1)), (26, .inl (a_getI 5 3)), (29, .inl (a_putI 5 3)), (32, .inl (a_aload 1 1)), (33, .inl (a_getR 5 4)), (36, .inl (a_push 1 (.int 0))), (37, .inl (a_aload 1 0)), (38, .inl (a_getR 5 4)), (41, .inl (a_push 1 (.int 0))), (42, .inl (a_push 1 (.int 5))), (43, .inl (a_copy)), (46, .inl (a_aload 1 1)), (47, .inl (a_getR 5 5)), (50, .inl (a_push 1 (.int 0))), (51, .inl (a_aload 1 0)), (52, .inl (a_getR 5 5)), (55, .inl (a_push 1 (.int 0))), (56, .inl (a_push 1 (.int 5))), (57, .inl (a_copy)), (60, .inl (a_aload 1 1)), (61, .inl (a_getR 5 6)), (64, .inl (a_push 1 (.int 0))), (65, .inl (a_aload 1 0)), (66, .inl (a_getR 5 6)), (69, .inl (a_push 1 (.int 0))), (70, .inl (a_push 1 (.int 5))), (71, .inl (a_copy)), (74, .inl (a_aload 1 1)), (75, .inl (a_getR 5 7)), (78, .inl (a_push 1 (.int 0))), (79, .inl (a_aload 1 0)), (80, .inl (a_getR 5 7)), (83, .inl (a_push 1 (.int 0))), (84, .inl (a_push 2 (.int 7))), (86, .inl (a_copy)), (89, .inl (a_aload 1 1)), (90, .inl (a_getR 5 8)), (93, .inl (a_push 1 (.int 0))), (94, .inl (a_aload 1 0)), (95, .inl (a_getR 5 8)), (98, .inl (a_push 1 (.int 0))), (99, .inl (a_push 2 (.int 7))), (101, .inl (a_copy)), (104, .inr (.inr 0))]
def o_X5_addChild : List (Nat × Op) := [(0, .inl (a_aload 1 0)), (1, .inl (a_getI 5 2)), (4, .inl (a_push 1 (.int 5))), (5, .inl (a_if2 (fun x y => decide (y ≤ x)) 48)), (8, .inl (a_aload 1 0)), (9, .inl (a_getR 5 4)), (12, .inl (a_aload 1 0)), (13, .inl (a_getI 5 2)), (16, .inl (a_iload 1 1)), (17, .inl (a_iast)), (18, .inl (a_aload 1 0)), (19, .inl (a_getR 5 5)), (22, .inl (a_aload 1 0)), (23, .inl (a_getI 5 2)), (26, .inl (a_iload 1 2)), (27, .inl (a_iast)), (28, .inl (a_aload 1 0)), (29, .inl (a_getR 5 6)), (32, .inl (a_aload 1 0)), (33, .inl (a_getI 5 2)), (36, .inl (a_push 1 (.int (-1)))), (37, .inl (a_iast)), (38, .inl (a_aload 1 0)), (39, .inl (a_dup)), (40, .inl (a_getI 5 2)), (43, .inl (a_push 1 (.int 1))), (44, .inl (a_bin (fun x y => x + y))), (45, .inl (a_putI 5 2)), (48, .inr (.inr 0))]
def o_X5_addDeed : List (Nat × Op) := [(0, .inl (a_aload 1 0)), (1, .inl (a_getI 5 3)), (4, .inl (a_push 2 (.int 7))), (6, .inl (a_if2 (fun x y => decide (y ≤ x)) 39)), (9, .inl (a_aload 1 0)), (10, .inl (a_getR 5 7)), (13, .inl (a_aload 1 0)), (14, .inl (a_getI 5 3)), (17, .inl (a_iload 1 1)), (18, .inl (a_iast)), (19, .inl (a_aload 1 0)), (20, .inl (a_getR 5 8)), (23, .inl (a_aload 1 0)), (24, .inl (a_getI 5 3)), (27, .inl (a_iload 1 2)), (28, .inl (a_iast)), (29, .inl (a_aload 1 0)), (30, .inl (a_dup)), (31, .inl (a_getI 5 3)), (34, .inl (a_push 1 (.int 1))), (35, .inl (a_bin (fun x y => x + y))), (36, .inl (a_putI 5 3)), (39, .inr (.inr 0))]
def o_X5_hasChild : List (Nat × Op) := [(0, .inl (a_iload 1 1)), (1, .inl (a_if1 (fun x => decide (x < 0)) 16)), (4, .inl (a_iload 1 1)), (5, .inl (a_aload 1 0)), (6, .inl (a_getI 5 2)), (9, .inl (a_if2 (fun x y => decide (y ≤ x)) 16)), (12, .inl (a_push 1 (.int 1))), (13, .inl (a_goto 17)), (16, .inl (a_push 1 (.int 0))), (17, .inr (.inr 2))]
def o_X5_hasDeed : List (Nat × Op) := [(0, .inl (a_iload 1 1)), (1, .inl (a_if1 (fun x => decide (x < 0)) 16)), (4, .inl (a_iload 1 1)), (5, .inl (a_aload 1 0)), (6, .inl (a_getI 5 3)), (9, .inl (a_if2 (fun x y => decide (y ≤ x)) 16)), (12, .inl (a_push 1 (.int 1))), (13, .inl (a_goto 17)), (16, .inl (a_push 1 (.int 0))), (17, .inr (.inr 2))]
def o_X5_childAfter : List (Nat × Op) := [(0, .inl (a_aload 1 0)), (1, .inl (a_iload 1 1)), (2, .inl (a_push 1 (.int 1))), (3, .inl (a_bin (fun x y => x + y))), (4, .inr (.inl (65, 2))), (7, .inl (a_if1 (fun x => decide (x = 0)) 16)), (10, .inl (a_iload 1 1)), (11, .inl (a_push 1 (.int 1))), (12, .inl (a_bin (fun x y => x + y))), (13, .inl (a_goto 17)), (16, .inl (a_push 1 (.int 0))), (17, .inr (.inr 1))]
def o_X5_canHandDown : List (Nat × Op) := [(0, .inl (a_iload 1 1)), (1, .inl (a_iload 1 2)), (2, .inl (a_if2 (fun x y => decide (x = y)) 28)), (5, .inl (a_aload 1 0)), (6, .inl (a_getR 5 6)), (9, .inl (a_iload 1 2)), (10, .inl (a_iald)), (11, .inl (a_push 1 (.int (-1)))), (12, .inl (a_if2 (fun x y => decide (¬ x = y)) 28)), (15, .inl (a_aload 1 0)), (16, .inl (a_iload 1 1)), (17, .inl (a_iload 1 2)), (18, .inr (.inl (69, 3))), (21, .inl (a_if1 (fun x => decide (¬ x = 0)) 28)), (24, .inl (a_push 1 (.int 1))), (25, .inl (a_goto 29)), (28, .inl (a_push 1 (.int 0))), (29, .inr (.inr 2))]
def o_X5_hasItFrom : List (Nat × Op) := [(0, .inl (a_iload 1 1)), (1, .inl (a_istore 1 3)), (2, .inl (a_push 1 (.int 0))), (3, .inl (a_istore 2 4)), (5, .inl (a_iload 2 4)), (7, .inl (a_aload 1 0)), (8, .inl (a_getI 5 2)), (11, .inl (a_if2 (fun x y => decide (y ≤ x)) 42)), (14, .inl (a_aload 1 0)), (15, .inl (a_iload 1 3)), (16, .inr (.inl (65, 2))), (19, .inl (a_if1 (fun x => decide (x = 0)) 42)), (22, .inl (a_aload 1 0)), (23, .inl (a_getR 5 6)), (26, .inl (a_iload 1 3)), (27, .inl (a_iald)), (28, .inl (a_istore 1 3)), (29, .inl (a_iload 1 3)), (30, .inl (a_iload 1 2)), (31, .inl (a_if2 (fun x y => decide (¬ x = y)) 36)), (34, .inl (a_push 1 (.int 1))), (35, .inr (.inr 2)), (36, .inl (a_iinc 4 1)), (39, .inl (a_goto 5)), (42, .inl (a_push 1 (.int 0))), (43, .inr (.inr 2))]
def o_X5_firstOf : List (Nat × Op) := [(0, .inl (a_iload 1 1)), (1, .inl (a_istore 1 2)), (2, .inl (a_push 1 (.int 0))), (3, .inl (a_istore 1 3)), (4, .inl (a_iload 1 3)), (5, .inl (a_aload 1 0)), (6, .inl (a_getI 5 2)), (9, .inl (a_if2 (fun x y => decide (y ≤ x)) 43)), (12, .inl (a_aload 1 0)), (13, .inl (a_iload 1 2)), (14, .inr (.inl (65, 2))), (17, .inl (a_if1 (fun x => decide (x = 0)) 37)), (20, .inl (a_aload 1 0)), (21, .inl (a_getR 5 6)), (24, .inl (a_iload 1 2)), (25, .inl (a_iald)), (26, .inl (a_push 1 (.int (-1)))), (27, .inl (a_if2 (fun x y => decide (x = y)) 37)), (30, .inl (a_aload 1 0)), (31, .inl (a_getR 5 6)), (34, .inl (a_iload 1 2)), (35, .inl (a_iald)), (36, .inl (a_istore 1 2)), (37, .inl (a_iinc 3 1)), (40, .inl (a_goto 4)), (43, .inl (a_iload 1 2)), (44, .inr (.inr 1))]
def o_X5_allWithFirst : List (Nat × Op) := [(0, .inl (a_push 1 (.int 0))), (1, .inl (a_istore 1 2)), (2, .inl (a_push 1 (.int 0))), (3, .inl (a_istore 1 3)), (4, .inl (a_iload 1 3)), (5, .inl (a_aload 1 0)), (6, .inl (a_getI 5 2)), (9, .inl (a_if2 (fun x y => decide (y ≤ x)) 33)), (12, .inl (a_aload 1 0)), (13, .inl (a_iload 1 3)), (14, .inr (.inl (70, 2))), (17, .inl (a_iload 1 1)), (18, .inl (a_if2 (fun x y => decide (¬ x = y)) 27)), (21, .inl (a_iload 1 2)), (22, .inl (a_push 1 (.int 1))), (23, .inl (a_iload 1 3)), (24, .inl (a_bin (fun x y => x <<< (y &&& 31)))), (25, .inl (a_bin (fun x y => x ||| y))), (26, .inl (a_istore 1 2)), (27, .inl (a_iinc 3 1)), (30, .inl (a_goto 4)), (33, .inl (a_iload 1 2)), (34, .inr (.inr 1))]
def o_X6_init : List (Nat × Op) := [(0, .inl (a_aload 1 0)), (1, .inl (a_obj)), (4, .inl (a_aload 1 0)), (5, .inl (a_push 2 (.int 7))), (7, .inl (a_newP 1)), (9, .inl (a_putR 6 1)), (12, .inl (a_aload 1 0)), (13, .inl (a_aload 1 1)), (14, .inl (a_putR 6 0)), (17, .inr (.inr 0))]
def o_X6_tryAllSets : List (Nat × Op) := [(0, .inl (a_aload 1 0)), (1, .inl (a_push 1 (.int 0))), (2, .inl (a_putI 6 2)), (5, .inl (a_aload 1 0)), (6, .inl (a_push 1 (.int (-1)))), (7, .inl (a_putI 6 3)), (10, .inl (a_aload 1 0)), (11, .inl (a_push 1 (.int 0))), (12, .inl (a_putI 6 4)), (15, .inl (a_aload 1 0)), (16, .inl (a_getR 6 1)), (19, .inl (a_push 1 (.int 0))), (20, .inr (.inl (187, 2))), (23, .inl (a_push 1 (.int 0))), (24, .inl (a_istore 1 2)), (25, .inl (a_iload 1 2)), (26, .inl (a_push 1 (.int 1))), (27, .inl (a_aload 1 0)), (28, .inl (a_getR 6 0)), (31, .inl (a_getI 5 3)), (34, .inl (a_bin (fun x y => x <<< (y &&& 31)))), (35, .inl (a_if2 (fun x y => decide (y ≤ x)) 58)), (38, .inl (a_aload 1 0)), (39, .inl (a_iload 1 2)), (40, .inr (.inl (75, 2))), (43, .inl (a_iload 1 1)), (44, .inl (a_if2 (fun x y => decide (¬ x = y)) 52)), (47, .inl (a_aload 1 0)), (48, .inl (a_iload 1 2)), (49, .inr (.inl (76, 2))), (52, .inl (a_iinc 2 1)), (55, .inl (a_goto 25)), (58, .inr (.inr 0))]
def o_X6_bestToLookFor : List (Nat × Op) := [(0, .inl (a_push 1 (.int (-1)))), (1, .inl (a_istore 1 1)), (2, .inl (a_aload 1 0)), (3, .inl (a_getI 6 2)), (6, .inl (a_istore 1 2)), (7, .inl (a_push 1 (.int 0))), (8, .inl (a_istore 1 3)), (9, .inl (a_iload 1 3)), (10, .inl (a_aload 1 0)), (11, .inl (a_getR 6 0)), (14, .inl (a_getI 5 3)), (17, .inl (a_if2 (fun x y => decide (y ≤ x)) 59)), (20, .inl (a_aload 1 0)), (21, .inl (a_getR 6 1)), (24, .inl (a_iload 1 3)), (25, .inl (a_iald)), (26, .inl (a_aload 1 0)), (27, .inl (a_getI 6 2)), (30, .inl (a_aload 1 0)), (31, .inl (a_getR 6 1)), (34, .inl (a_iload 1 3)), (35, .inl (a_iald)), (36, .inl (a_bin (fun x y => x - y))), (37, .inr (.inl (185, 2))), (40, .inl (a_istore 2 4)), (42, .inl (a_iload 2 4)), (44, .inl (a_iload 1 2)), (45, .inl (a_if2 (fun x y => decide (y ≤ x)) 53)), (48, .inl (a_iload 2 4)), (50, .inl (a_istore 1 2)), (51, .inl (a_iload 1 3)), (52, .inl (a_istore 1 1)), (53, .inl (a_iinc 3 1)), (56, .inl (a_goto 9)), (59, .inl (a_iload 1 1)), (60, .inr (.inr 1))]
def o_X6_weightOf : List (Nat × Op) := [(0, .inl (a_push 1 (.int 0))), (1, .inl (a_istore 1 2)), (2, .inl (a_push 1 (.int 0))), (3, .inl (a_istore 1 3)), (4, .inl (a_iload 1 3)), (5, .inl (a_aload 1 0)), (6, .inl (a_getR 6 0)), (9, .inl (a_getI 5 3)), (12, .inl (a_if2 (fun x y => decide (y ≤ x)) 39)), (15, .inl (a_iload 1 2)), (16, .inl (a_iload 1 1)), (17, .inl (a_iload 1 3)), (18, .inl (a_bin (fun x y => x >>> (y &&& 31)))), (19, .inl (a_push 1 (.int 1))), (20, .inl (a_bin (fun x y => x &&& y))), (21, .inl (a_aload 1 0)), (22, .inl (a_getR 6 0)), (25, .inl (a_getR 5 8)), (28, .inl (a_iload 1 3)), (29, .inl (a_iald)), (30, .inl (a_bin (fun x y => x * y))), (31, .inl (a_bin (fun x y => x + y))), (32, .inl (a_istore 1 2)), (33, .inl (a_iinc 3 1)), (36, .inl (a_goto 4)), (39, .inl (a_iload 1 2)), (40, .inr (.inr 1))]
def o_X6_count : List (Nat × Op) := [(0, .inl (a_aload 1 0)), (1, .inl (a_aload 1 0)), (2, .inl (a_getI 6 2)), (5, .inl (a_if1 (fun x => decide (¬ x = 0)) 12)), (8, .inl (a_iload 1 1)), (9, .inl (a_goto 16)), (12, .inl (a_aload 1 0)), (13, .inl (a_getI 6 3)), (16, .inl (a_putI 6 3)), (19, .inl (a_aload 1 0)), (20, .inl (a_aload 1 0)), (21, .inl (a_getI 6 2)), (24, .inl (a_if1 (fun x => decide (¬ x = 0)) 31)), (27, .inl (a_iload 1 1)), (28, .inl (a_goto 37)), (31, .inl (a_aload 1 0)), (32, .inl (a_getI 6 4)), (35, .inl (a_iload 1 1)), (36, .inl (a_bin (fun x y => x &&& y))), (37, .inl (a_putI 6 4)), (40, .inl (a_aload 1 0)), (41, .inl (a_dup)), (42, .inl (a_getI 6 2)), (45, .inl (a_push 1 (.int 1))), (46, .inl (a_bin (fun x y => x + y))), (47, .inl (a_putI 6 2)), (50, .inl (a_push 1 (.int 0))), (51, .inl (a_istore 1 2)), (52, .inl (a_iload 1 2)), (53, .inl (a_aload 1 0)), (54, .inl (a_getR 6 0)), (57, .inl (a_getI 5 3)), (60, .inl (a_if2 (fun x y => decide (y ≤ x)) 83)), (63, .inl (a_aload 1 0)), (64, .inl (a_getR 6 1)), (67, .inl (a_iload 1 2)), (68, .inl (a_dup2)), (69, .inl (a_iald)), (70, .inl (a_iload 1 1)), (71, .inl (a_iload 1 2)), (72, .inl (a_bin (fun x y => x >>> (y &&& 31)))), (73, .inl (a_push 1 (.int 1))), (74, .inl (a_bin (fun x y => x &&& y))), (75, .inl (a_bin (fun x y => x + y))), (76, .inl (a_iast)), (77, .inl (a_iinc 2 1)), (80, .inl (a_goto 52)), (83, .inr (.inr 0))]
def o_X7_init : List (Nat × Op) := [(0, .inl (a_aload 1 0)), (1, .inl (a_obj)), (4, .inl (a_aload 1 0)), (5, .inl (a_push 2 (.int 6))), (7, .inl (a_newP 1)), (9, .inl (a_putR 7 0)), (12, .inl (a_aload 1 0)), (13, .inl (a_push 2 (.int 6))), (15, .inl (a_newP 1)), (17, .inl (a_putR 7 1)), (20, .inl (a_aload 1 0)), (21, .inl (a_push 2 (.int 6))), (23, .inl (a_newP 2)), (25, .inl (a_putR 7 2)), (28, .inl (a_aload 1 0)), (29, .inl (a_push 2 (.int 15))), (31, .inl (a_newP 1)), (33, .inl (a_putR 7 3)), (36, .inl (a_aload 1 0)), (37, .inl (a_push 2 (.int 15))), (39, .inl (a_newP 1)), (41, .inl (a_putR 7 4)), (44, .inr (.inr 0))]
def o_X7_wipe : List (Nat × Op) := [(0, .inl (a_aload 1 0)), (1, .inl (a_push 1 (.int 0))), (2, .inl (a_putI 7 5)), (5, .inl (a_aload 1 0)), (6, .inl (a_push 1 (.int 0))), (7, .inl (a_putI 7 6)), (10, .inr (.inr 0))]
def o_X7_addSeen : List (Nat × Op) := [(0, .inl (a_aload 1 0)), (1, .inl (a_getI 7 5)), (4, .inl (a_push 2 (.int 6))), (6, .inl (a_if2 (fun x y => decide (y ≤ x)) 49)), (9, .inl (a_aload 1 0)), (10, .inl (a_getR 7 0)), (13, .inl (a_aload 1 0)), (14, .inl (a_getI 7 5)), (17, .inl (a_iload 1 1)), (18, .inl (a_iast)), (19, .inl (a_aload 1 0)), (20, .inl (a_getR 7 1)), (23, .inl (a_aload 1 0)), (24, .inl (a_getI 7 5)), (27, .inl (a_iload 1 2)), (28, .inl (a_iast)), (29, .inl (a_aload 1 0)), (30, .inl (a_getR 7 2)), (33, .inl (a_aload 1 0)), (34, .inl (a_getI 7 5)), (37, .inl (a_iload 1 3)), (38, .inl (a_bast)), (39, .inl (a_aload 1 0)), (40, .inl (a_dup)), (41, .inl (a_getI 7 5)), (44, .inl (a_push 1 (.int 1))), (45, .inl (a_bin (fun x y => x + y))), (46, .inl (a_putI 7 5)), (49, .inr (.inr 0))]
def o_X7_addEntry : List (Nat × Op) := [(0, .inl (a_aload 1 0)), (1, .inl (a_getI 7 6)), (4, .inl (a_push 2 (.int 15))), (6, .inl (a_if2 (fun x y => decide (y ≤ x)) 39)), (9, .inl (a_aload 1 0)), (10, .inl (a_getR 7 3)), (13, .inl (a_aload 1 0)), (14, .inl (a_getI 7 6)), (17, .inl (a_iload 1 1)), (18, .inl (a_iast)), (19, .inl (a_aload 1 0)), (20, .inl (a_getR 7 4)), (23, .inl (a_aload 1 0)), (24, .inl (a_getI 7 6)), (27, .inl (a_iload 1 2)), (28, .inl (a_iast)), (29, .inl (a_aload 1 0)), (30, .inl (a_dup)), (31, .inl (a_getI 7 6)), (34, .inl (a_push 1 (.int 1))), (35, .inl (a_bin (fun x y => x + y))), (36, .inl (a_putI 7 6)), (39, .inr (.inr 0))]
def o_X7_firstUntrue : List (Nat × Op) := [(0, .inl (a_push 1 (.int 0))), (1, .inl (a_istore 1 2)), (2, .inl (a_iload 1 2)), (3, .inl (a_aload 1 0)), (4, .inl (a_getI 7 5)), (7, .inl (a_if2 (fun x y => decide (y ≤ x)) 43)), (10, .inl (a_aload 1 1)), (11, .inl (a_aload 1 0)), (12, .inl (a_getR 7 0)), (15, .inl (a_iload 1 2)), (16, .inl (a_iald)), (17, .inl (a_aload 1 0)), (18, .inl (a_getR 7 1)), (21, .inl (a_iload 1 2)), (22, .inl (a_iald)), (23, .inr (.inl (18, 3))), (26, .inl (a_aload 1 0)), (27, .inl (a_getR 7 2)), (30, .inl (a_iload 1 2)), (31, .inl (a_bald)), (32, .inl (a_if2 (fun x y => decide (x = y)) 37)), (35, .inl (a_iload 1 2)), (36, .inr (.inr 1)), (37, .inl (a_iinc 2 1)), (40, .inl (a_goto 2)), (43, .inl (a_push 1 (.int (-1)))), (44, .inr (.inr 1))]
def o_X7_firstWrong : List (Nat × Op) := [(0, .inl (a_push 1 (.int 0))), (1, .inl (a_istore 1 2)), (2, .inl (a_iload 1 2)), (3, .inl (a_aload 1 0)), (4, .inl (a_getI 7 6)), (7, .inl (a_if2 (fun x y => decide (y ≤ x)) 37)), (10, .inl (a_aload 1 1)), (11, .inl (a_aload 1 0)), (12, .inl (a_getR 7 3)), (15, .inl (a_iload 1 2)), (16, .inl (a_iald)), (17, .inr (.inl (9, 2))), (20, .inl (a_aload 1 0)), (21, .inl (a_getR 7 4)), (24, .inl (a_iload 1 2)), (25, .inl (a_iald)), (26, .inl (a_if2 (fun x y => decide (x = y)) 31)), (29, .inl (a_iload 1 2)), (30, .inr (.inr 1)), (31, .inl (a_iinc 2 1)), (34, .inl (a_goto 2)), (37, .inl (a_push 1 (.int (-1)))), (38, .inr (.inr 1))]
def o_X8_init_1 : List (Nat × Op) := [(0, .inl (a_aload 1 0)), (1, .inl (a_obj)), (4, .inl (a_aload 1 0)), (5, .inl (a_push 3 (.int 240))), (8, .inl (a_newP 1)), (10, .inl (a_putR 8 0)), (13, .inl (a_aload 1 0)), (14, .inl (a_push 1 (.int (-1)))), (15, .inl (a_putI 8 2)), (18, .inl (a_aload 1 0)), (19, .inl (a_new 5 9)), (22, .inl (a_dup)), (23, .inr (.inl (60, 1))), (26, .inl (a_putR 8 3)), (29, .inl (a_aload 1 0)), (30, .inl (a_new 5 9)), (33, .inl (a_dup)), (34, .inr (.inl (60, 1))), (37, .inl (a_putR 8 4)), (40, .inl (a_aload 1 0)), (41, .inl (a_new 4 7)), (44, .inl (a_dup)), (45, .inl (a_aload 1 0)), (46, .inl (a_getR 8 0)), (49, .inl (a_aload 1 0)), (50, .inl (a_getR 8 4)), (53, .inr (.inl (45, 3))), (56, .inl (a_putR 8 5)), (59, .inl (a_aload 1 0)), (60, .inl (a_new 0 2)), (63, .inl (a_dup)), (64, .inl (a_aload 1 0)), (65, .inl (a_getR 8 3)), (68, .inr (.inl (0, 2))), (71, .inl (a_putR 8 6)), (74, .inl (a_aload 1 0)), (75, .inl (a_new 3 3)), (78, .inl (a_dup)), (79, .inr (.inl (41, 1))), (82, .inl (a_putR 8 7)), (85, .inl (a_aload 1 0)), (86, .inl (a_push 1 (.int 2))), (87, .inl (a_newO)), (90, .inl (a_putR 8 8)), (93, .inl (a_aload 1 0)), (94, .inl (a_new 2 9)), (97, .inl (a_dup)), (98, .inl (a_aload 1 0)), (99, .inl (a_getR 8 3)), (102, .inl (a_aload 1 0)), (103, .inl (a_getR 8 6)), (106, .inl (a_push 1 (.int 0))), (107, .inr (.inl (33, 4))), (110, .inl (a_putR 8 9)), (113, .inl (a_aload 1 0)), (114, .inl (a_new 2 9)), (117, .inl (a_dup)), (118, .inl (a_aload 1 0)), (119, .inl (a_getR 8 3)), (122, .inl (a_aload 1 0))]
def o_X8_init_2 : List (Nat × Op) := [(123, .inl (a_getR 8 6)), (126, .inl (a_push 1 (.int 1))), (127, .inr (.inl (33, 4))), (130, .inl (a_putR 8 10)), (133, .inl (a_aload 1 0)), (134, .inl (a_new 6 5)), (137, .inl (a_dup)), (138, .inl (a_aload 1 0)), (139, .inl (a_getR 8 3)), (142, .inr (.inl (72, 2))), (145, .inl (a_putR 8 11)), (148, .inl (a_aload 1 0)), (149, .inl (a_new 7 7)), (152, .inl (a_dup)), (153, .inr (.inl (77, 1))), (156, .inl (a_putR 8 12)), (159, .inl (a_push 1 (.int 0))), (160, .inl (a_istore 1 1)), (161, .inl (a_iload 1 1)), (162, .inl (a_aload 1 0)), (163, .inl (a_getR 8 8)), (166, .inl (a_alen)), (167, .inl (a_if2 (fun x y => decide (y ≤ x)) 189)), (170, .inl (a_aload 1 0)), (171, .inl (a_getR 8 8)), (174, .inl (a_iload 1 1)), (175, .inl (a_new 1 3)), (178, .inl (a_dup)), (179, .inr (.inl (30, 1))), (182, .inl (a_aast 1)), (183, .inl (a_iinc 1 1)), (186, .inl (a_goto 161)), (189, .inr (.inr 0))]
def o_X8_init : List (Nat × Op) := o_X8_init_1 ++ (o_X8_init_2)
def o_X8_feed : List (Nat × Op) := [(0, .inl (a_iload 1 1)), (1, .inl (a_if1 (fun x => decide (x < 0)) 11)), (4, .inl (a_iload 1 1)), (5, .inl (a_push 3 (.int 255))), (8, .inl (a_if2 (fun x y => decide (x ≤ y)) 14)), (11, .inl (a_push 2 (.int (-1000000002)))), (13, .inr (.inr 1)), (14, .inl (a_aload 1 0)), (15, .inl (a_getI 8 1)), (18, .inl (a_aload 1 0)), (19, .inl (a_getR 8 0)), (22, .inl (a_alen)), (23, .inl (a_if2 (fun x y => decide (x < y)) 29)), (26, .inl (a_push 2 (.int (-1000000004)))), (28, .inr (.inr 1)), (29, .inl (a_aload 1 0)), (30, .inl (a_getR 8 0)), (33, .inl (a_aload 1 0)), (34, .inl (a_getI 8 1)), (37, .inl (a_iload 1 1)), (38, .inl (a_iast)), (39, .inl (a_aload 1 0)), (40, .inl (a_dup)), (41, .inl (a_getI 8 1)), (44, .inl (a_push 1 (.int 1))), (45, .inl (a_bin (fun x y => x + y))), (46, .inl (a_putI 8 1)), (49, .inl (a_aload 1 0)), (50, .inl (a_getI 8 1)), (53, .inr (.inr 1))]
def o_X8_school : List (Nat × Op) := [(0, .inl (a_aload 1 0)), (1, .inl (a_getR 8 5)), (4, .inl (a_aload 1 0)), (5, .inl (a_getI 8 1)), (8, .inr (.inl (46, 2))), (11, .inl (a_istore 1 1)), (12, .inl (a_aload 1 0)), (13, .inl (a_push 1 (.int 0))), (14, .inl (a_putI 8 1)), (17, .inl (a_aload 1 0)), (18, .inl (a_aload 1 0)), (19, .inl (a_getR 8 5)), (22, .inr (.inl (47, 1))), (25, .inl (a_putI 8 2)), (28, .inl (a_iload 1 1)), (29, .inl (a_if1 (fun x => decide (x = 0)) 37)), (32, .inl (a_push 2 (.int (-10)))), (34, .inl (a_iload 1 1)), (35, .inl (a_bin (fun x y => x - y))), (36, .inr (.inr 1)), (37, .inl (a_aload 1 0)), (38, .inl (a_getR 8 3)), (41, .inl (a_aload 1 0)), (42, .inl (a_getR 8 4)), (45, .inr (.inl (62, 2))), (48, .inl (a_aload 1 0)), (49, .inr (.inl (112, 1))), (52, .inl (a_aload 1 0)), (53, .inl (a_getR 8 3)), (56, .inl (a_getI 5 2)), (59, .inr (.inr 1))]
def o_X8_fault : List (Nat × Op) := [(0, .inl (a_aload 1 0)), (1, .inl (a_getI 8 2)), (4, .inr (.inr 1))]
def o_X8_told : List (Nat × Op) := [(0, .inl (a_iload 1 1)), (1, .inl (a_tsw 0 [72, 80, 88, 96, 101, 109, 117, 125, 133, 141, 149, 157, 165, 173] 181)), (72, .inl (a_aload 1 0)), (73, .inl (a_getR 8 3)), (76, .inl (a_getI 5 1)), (79, .inr (.inr 1)), (80, .inl (a_aload 1 0)), (81, .inl (a_getR 8 3)), (84, .inl (a_getI 5 2)), (87, .inr (.inr 1)), (88, .inl (a_aload 1 0)), (89, .inl (a_getR 8 3)), (92, .inl (a_getI 5 3)), (95, .inr (.inr 1)), (96, .inl (a_aload 1 0)), (97, .inl (a_getI 8 1)), (100, .inr (.inr 1)), (101, .inl (a_aload 1 0)), (102, .inl (a_getR 8 6)), (105, .inr (.inl (2, 1))), (108, .inr (.inr 1)), (109, .inl (a_aload 1 0)), (110, .inl (a_getR 8 6)), (113, .inr (.inl (3, 1))), (116, .inr (.inr 1)), (117, .inl (a_aload 1 0)), (118, .inl (a_getR 8 6)), (121, .inr (.inl (4, 1))), (124, .inr (.inr 1)), (125, .inl (a_aload 1 0)), (126, .inl (a_getR 8 6)), (129, .inr (.inl (11, 1))), (132, .inr (.inr 1)), (133, .inl (a_aload 1 0)), (134, .inl (a_getR 8 6)), (137, .inr (.inl (12, 1))), (140, .inr (.inr 1)), (141, .inl (a_aload 1 0)), (142, .inl (a_getR 8 6)), (145, .inr (.inl (15, 1))), (148, .inr (.inr 1)), (149, .inl (a_aload 1 0)), (150, .inl (a_getR 8 6)), (153, .inr (.inl (14, 1))), (156, .inr (.inr 1)), (157, .inl (a_aload 1 0)), (158, .inl (a_getR 8 12)), (161, .inl (a_getI 7 5)), (164, .inr (.inr 1)), (165, .inl (a_aload 1 0)), (166, .inl (a_getR 8 12)), (169, .inl (a_getI 7 6)), (172, .inr (.inr 1)), (173, .inl (a_aload 1 0)), (174, .inl (a_getR 8 7)), (177, .inl (a_getI 3 2)), (180, .inr (.inr 1)), (181, .inl (a_push 2 (.int (-1000000002)))), (183, .inr (.inr 1))]
def o_X8_child : List (Nat × Op) := [(0, .inl (a_aload 1 0)), (1, .inl (a_getR 8 3)), (4, .inl (a_iload 1 1)), (5, .inr (.inl (65, 2))), (8, .inl (a_if1 (fun x => decide (¬ x = 0)) 14)), (11, .inl (a_push 2 (.int (-1000000001)))), (13, .inr (.inr 1)), (14, .inl (a_iload 1 2)), (15, .inl (a_tsw 0 [60, 70, 80, 89, 98, 108, 118, 127] 137)), (60, .inl (a_aload 1 0)), (61, .inl (a_getR 8 3)), (64, .inl (a_getR 5 4)), (67, .inl (a_iload 1 1)), (68, .inl (a_iald)), (69, .inr (.inr 1)), (70, .inl (a_aload 1 0)), (71, .inl (a_getR 8 3)), (74, .inl (a_getR 5 5)), (77, .inl (a_iload 1 1)), (78, .inl (a_iald)), (79, .inr (.inr 1)), (80, .inl (a_aload 1 0)), (81, .inl (a_getR 8 6)), (84, .inl (a_iload 1 1)), (85, .inr (.inl (9, 2))), (88, .inr (.inr 1)), (89, .inl (a_aload 1 0)), (90, .inl (a_getR 8 6)), (93, .inl (a_iload 1 1)), (94, .inr (.inl (13, 2))), (97, .inr (.inr 1)), (98, .inl (a_aload 1 0)), (99, .inl (a_getR 8 6)), (102, .inl (a_push 1 (.int 1))), (103, .inl (a_iload 1 1)), (104, .inr (.inl (17, 3))), (107, .inr (.inr 1)), (108, .inl (a_aload 1 0)), (109, .inl (a_getR 8 6)), (112, .inl (a_push 1 (.int 3))), (113, .inl (a_iload 1 1)), (114, .inr (.inl (17, 3))), (117, .inr (.inr 1)), (118, .inl (a_aload 1 0)), (119, .inl (a_getR 8 6)), (122, .inl (a_iload 1 1)), (123, .inr (.inl (5, 2))), (126, .inr (.inr 1)), (127, .inl (a_aload 1 0)), (128, .inl (a_getR 8 3)), (131, .inl (a_getR 5 6)), (134, .inl (a_iload 1 1)), (135, .inl (a_iald)), (136, .inr (.inr 1)), (137, .inl (a_push 2 (.int (-1000000002)))), (139, .inr (.inr 1))]
def o_X8_deed : List (Nat × Op) := [(0, .inl (a_aload 1 0)), (1, .inl (a_getR 8 3)), (4, .inl (a_iload 1 1)), (5, .inr (.inl (66, 2))), (8, .inl (a_if1 (fun x => decide (¬ x = 0)) 14)), (11, .inl (a_push 2 (.int (-1000000001)))), (13, .inr (.inr 1)), (14, .inl (a_iload 1 2)), (15, .inl (a_tsw 0 [44, 54, 64, 73] 82)), (44, .inl (a_aload 1 0)), (45, .inl (a_getR 8 3)), (48, .inl (a_getR 5 7)), (51, .inl (a_iload 1 1)), (52, .inl (a_iald)), (53, .inr (.inr 1)), (54, .inl (a_aload 1 0)), (55, .inl (a_getR 8 3)), (58, .inl (a_getR 5 8)), (61, .inl (a_iload 1 1)), (62, .inl (a_iald)), (63, .inr (.inr 1)), (64, .inl (a_aload 1 0)), (65, .inl (a_getR 8 6)), (68, .inl (a_iload 1 1)), (69, .inr (.inl (6, 2))), (72, .inr (.inr 1)), (73, .inl (a_aload 1 0)), (74, .inl (a_getR 8 6)), (77, .inl (a_iload 1 1)), (78, .inr (.inl (7, 2))), (81, .inr (.inr 1)), (82, .inl (a_push 2 (.int (-1000000002)))), (84, .inr (.inr 1))]
def o_X8_doIt : List (Nat × Op) := [(0, .inl (a_aload 1 0)), (1, .inl (a_getR 8 3)), (4, .inl (a_iload 1 1)), (5, .inr (.inl (66, 2))), (8, .inl (a_if1 (fun x => decide (¬ x = 0)) 14)), (11, .inl (a_push 2 (.int (-1000000001)))), (13, .inr (.inr 1)), (14, .inl (a_aload 1 0)), (15, .inl (a_getR 8 6)), (18, .inl (a_iload 1 1)), (19, .inr (.inl (19, 2))), (22, .inl (a_if1 (fun x => decide (¬ x = 0)) 28)), (25, .inl (a_push 2 (.int (-1000000003)))), (27, .inr (.inr 1)), (28, .inl (a_aload 1 0)), (29, .inl (a_getR 8 7)), (32, .inl (a_aload 1 0)), (33, .inl (a_getR 8 6)), (36, .inl (a_getR 0 0)), (39, .inr (.inl (42, 2))), (42, .inl (a_aload 1 0)), (43, .inl (a_getR 8 6)), (46, .inl (a_iload 1 1)), (47, .inr (.inl (24, 2))), (50, .inl (a_aload 1 0)), (51, .inl (a_getR 8 6)), (54, .inl (a_aload 1 0)), (55, .inl (a_getR 8 3)), (58, .inl (a_getR 5 7)), (61, .inl (a_iload 1 1)), (62, .inl (a_iald)), (63, .inr (.inl (9, 2))), (66, .inr (.inr 1))]
def o_X8_carry : List (Nat × Op) := [(0, .inl (a_aload 1 0)), (1, .inl (a_getR 8 3)), (4, .inl (a_iload 1 1)), (5, .inr (.inl (66, 2))), (8, .inl (a_if1 (fun x => decide (x = 0)) 22)), (11, .inl (a_aload 1 0)), (12, .inl (a_getR 8 3)), (15, .inl (a_iload 1 2)), (16, .inr (.inl (65, 2))), (19, .inl (a_if1 (fun x => decide (¬ x = 0)) 25)), (22, .inl (a_push 2 (.int (-1000000001)))), (24, .inr (.inr 1)), (25, .inl (a_aload 1 0)), (26, .inl (a_getR 8 6)), (29, .inl (a_iload 1 1)), (30, .inl (a_iload 1 2)), (31, .inr (.inl (20, 3))), (34, .inl (a_if1 (fun x => decide (¬ x = 0)) 40)), (37, .inl (a_push 2 (.int (-1000000003)))), (39, .inr (.inr 1)), (40, .inl (a_aload 1 0)), (41, .inl (a_getR 8 7)), (44, .inl (a_aload 1 0)), (45, .inl (a_getR 8 6)), (48, .inl (a_getR 0 0)), (51, .inr (.inl (42, 2))), (54, .inl (a_aload 1 0)), (55, .inl (a_getR 8 6)), (58, .inl (a_iload 1 1)), (59, .inl (a_iload 1 2)), (60, .inr (.inl (25, 3))), (63, .inl (a_aload 1 0)), (64, .inl (a_getR 8 6)), (67, .inl (a_iload 1 2)), (68, .inr (.inl (9, 2))), (71, .inr (.inr 1))]
def o_X8_swap : List (Nat × Op) := [(0, .inl (a_aload 1 0)), (1, .inl (a_getR 8 3)), (4, .inl (a_iload 1 1)), (5, .inr (.inl (66, 2))), (8, .inl (a_if1 (fun x => decide (x = 0)) 27)), (11, .inl (a_aload 1 0)), (12, .inl (a_getR 8 3)), (15, .inl (a_iload 1 2)), (16, .inr (.inl (66, 2))), (19, .inl (a_if1 (fun x => decide (x = 0)) 27)), (22, .inl (a_iload 1 1)), (23, .inl (a_iload 1 2)), (24, .inl (a_if2 (fun x y => decide (¬ x = y)) 30)), (27, .inl (a_push 2 (.int (-1000000001)))), (29, .inr (.inr 1)), (30, .inl (a_aload 1 0)), (31, .inl (a_getR 8 6)), (34, .inl (a_iload 1 1)), (35, .inl (a_iload 1 2)), (36, .inr (.inl (22, 3))), (39, .inl (a_if1 (fun x => decide (¬ x = 0)) 45)), (42, .inl (a_push 2 (.int (-1000000003)))), (44, .inr (.inr 1)), (45, .inl (a_aload 1 0)), (46, .inl (a_getR 8 7)), (49, .inl (a_aload 1 0)), (50, .inl (a_getR 8 6)), (53, .inl (a_getR 0 0)), (56, .inr (.inl (42, 2))), (59, .inl (a_aload 1 0)), (60, .inl (a_getR 8 6)), (63, .inl (a_iload 1 1)), (64, .inl (a_iload 1 2)), (65, .inr (.inl (26, 3))), (68, .inl (a_push 1 (.int 1))), (69, .inr (.inr 1))]
def o_X8_throwIt : List (Nat × Op) := [(0, .inl (a_aload 1 0)), (1, .inl (a_getR 8 3)), (4, .inl (a_iload 1 1)), (5, .inr (.inl (66, 2))), (8, .inl (a_if1 (fun x => decide (¬ x = 0)) 14)), (11, .inl (a_push 2 (.int (-1000000001)))), (13, .inr (.inr 1)), (14, .inl (a_aload 1 0)), (15, .inl (a_getR 8 6)), (18, .inl (a_iload 1 1)), (19, .inr (.inl (21, 2))), (22, .inl (a_if1 (fun x => decide (¬ x = 0)) 28)), (25, .inl (a_push 2 (.int (-1000000003)))), (27, .inr (.inr 1)), (28, .inl (a_aload 1 0)), (29, .inl (a_getR 8 7)), (32, .inl (a_aload 1 0)), (33, .inl (a_getR 8 6)), (36, .inl (a_getR 0 0)), (39, .inr (.inl (42, 2))), (42, .inl (a_aload 1 0)), (43, .inl (a_getR 8 6)), (46, .inl (a_iload 1 1)), (47, .inr (.inl (27, 2))), (50, .inl (a_aload 1 0)), (51, .inl (a_getR 8 6)), (54, .inr (.inl (3, 1))), (57, .inr (.inr 1))]
def o_X8_home : List (Nat × Op) := [(0, .inl (a_aload 1 0)), (1, .inl (a_getR 8 3)), (4, .inl (a_getI 5 0)), (7, .inl (a_if1 (fun x => decide (¬ x = 0)) 13)), (10, .inl (a_push 2 (.int (-1000000003)))), (12, .inr (.inr 1)), (13, .inl (a_aload 1 0)), (14, .inl (a_getR 8 6)), (17, .inr (.inl (2, 1))), (20, .inl (a_push 3 (.int 9000))), (23, .inl (a_if2 (fun x y => decide (x ≤ y)) 29)), (26, .inl (a_push 2 (.int (-1000000004)))), (28, .inr (.inr 1)), (29, .inl (a_aload 1 0)), (30, .inl (a_getR 8 7)), (33, .inl (a_aload 1 0)), (34, .inl (a_getR 8 6)), (37, .inl (a_getR 0 0)), (40, .inr (.inl (42, 2))), (43, .inl (a_aload 1 0)), (44, .inl (a_getR 8 6)), (47, .inr (.inl (29, 1))), (50, .inr (.inr 1))]
def o_X8_takeBack : List (Nat × Op) := [(0, .inl (a_aload 1 0)), (1, .inl (a_getR 8 3)), (4, .inl (a_iload 1 1)), (5, .inr (.inl (66, 2))), (8, .inl (a_if1 (fun x => decide (¬ x = 0)) 14)), (11, .inl (a_push 2 (.int (-1000000001)))), (13, .inr (.inr 1)), (14, .inl (a_aload 1 0)), (15, .inl (a_getR 8 6)), (18, .inl (a_iload 1 1)), (19, .inr (.inl (6, 2))), (22, .inl (a_push 1 (.int 3))), (23, .inl (a_if2 (fun x y => decide (x = y)) 29)), (26, .inl (a_push 2 (.int (-1000000003)))), (28, .inr (.inr 1)), (29, .inl (a_aload 1 0)), (30, .inl (a_getR 8 6)), (33, .inl (a_iload 1 1)), (34, .inr (.inl (7, 2))), (37, .inl (a_istore 1 2)), (38, .inl (a_aload 1 0)), (39, .inl (a_getR 8 7)), (42, .inl (a_aload 1 0)), (43, .inl (a_getR 8 6)), (46, .inl (a_getR 0 0)), (49, .inr (.inl (42, 2))), (52, .inl (a_aload 1 0)), (53, .inl (a_getR 8 6)), (56, .inl (a_iload 1 1)), (57, .inr (.inl (28, 2))), (60, .inl (a_iload 1 2)), (61, .inr (.inr 1))]
def o_X8_drift : List (Nat × Op) := [(0, .inl (a_iload 1 1)), (1, .inl (a_push 1 (.int 1))), (2, .inl (a_if2 (fun x y => decide (x < y)) 11)), (5, .inl (a_iload 1 1)), (6, .inl (a_push 2 (.int 60))), (8, .inl (a_if2 (fun x y => decide (x ≤ y)) 14)), (11, .inl (a_push 2 (.int (-1000000002)))), (13, .inr (.inr 1)), (14, .inl (a_aload 1 0)), (15, .inl (a_getR 8 3)), (18, .inl (a_getI 5 0)), (21, .inl (a_if1 (fun x => decide (¬ x = 0)) 27)), (24, .inl (a_push 2 (.int (-1000000003)))), (26, .inr (.inr 1)), (27, .inl (a_aload 1 0)), (28, .inl (a_getR 8 6)), (31, .inr (.inl (2, 1))), (34, .inl (a_push 3 (.int 9000))), (37, .inl (a_if2 (fun x y => decide (x ≤ y)) 43)), (40, .inl (a_push 2 (.int (-1000000004)))), (42, .inr (.inr 1)), (43, .inl (a_aload 1 0)), (44, .inl (a_getR 8 7)), (47, .inl (a_aload 1 0)), (48, .inl (a_getR 8 6)), (51, .inl (a_getR 0 0)), (54, .inr (.inl (42, 2))), (57, .inl (a_aload 1 0)), (58, .inl (a_getR 8 3)), (61, .inl (a_getI 5 3)), (64, .inl (a_if1 (fun x => decide (x ≤ 0)) 84)), (67, .inl (a_push 1 (.int 0))), (68, .inl (a_istore 1 2)), (69, .inl (a_iload 1 2)), (70, .inl (a_iload 1 1)), (71, .inl (a_if2 (fun x y => decide (y ≤ x)) 84)), (74, .inl (a_aload 1 0)), (75, .inr (.inl (114, 1))), (78, .inl (a_iinc 2 1)), (81, .inl (a_goto 69)), (84, .inl (a_aload 1 0)), (85, .inl (a_getR 8 6)), (88, .inr (.inl (2, 1))), (91, .inr (.inr 1))]
def o_X8_undo : List (Nat × Op) := [(0, .inl (a_aload 1 0)), (1, .inl (a_getR 8 7)), (4, .inl (a_getI 3 2)), (7, .inl (a_push 1 (.int 1))), (8, .inl (a_if2 (fun x y => decide (y ≤ x)) 14)), (11, .inl (a_push 2 (.int (-1000000003)))), (13, .inr (.inr 1)), (14, .inl (a_aload 1 0)), (15, .inl (a_getR 8 7)), (18, .inl (a_aload 1 0)), (19, .inl (a_getR 8 6)), (22, .inl (a_getR 0 0)), (25, .inr (.inl (43, 2))), (28, .inl (a_aload 1 0)), (29, .inl (a_getR 8 7)), (32, .inl (a_getI 3 2)), (35, .inr (.inr 1))]
def o_X8_loads : List (Nat × Op) := [(0, .inl (a_aload 1 0)), (1, .inl (a_aload 1 0)), (2, .inl (a_getR 8 9)), (5, .inl (a_iload 1 1)), (6, .inr (.inl (113, 3))), (9, .inr (.inr 1))]
def o_X8_fair : List (Nat × Op) := [(0, .inl (a_aload 1 0)), (1, .inl (a_aload 1 0)), (2, .inl (a_getR 8 10)), (5, .inl (a_iload 1 1)), (6, .inr (.inl (113, 3))), (9, .inr (.inr 1))]
def o_X8_lighter : List (Nat × Op) := [(0, .inl (a_push 1 (.int 0))), (1, .inl (a_istore 1 2)), (2, .inl (a_push 1 (.int 0))), (3, .inl (a_istore 1 3)), (4, .inl (a_iload 1 3)), (5, .inl (a_aload 1 0)), (6, .inl (a_getR 8 3)), (9, .inl (a_getI 5 3)), (12, .inl (a_if2 (fun x y => decide (y ≤ x)) 73)), (15, .inl (a_iload 1 3)), (16, .inl (a_push 1 (.int 1))), (17, .inl (a_bin (fun x y => x + y))), (18, .inl (a_istore 2 4)), (20, .inl (a_iload 2 4)), (22, .inl (a_aload 1 0)), (23, .inl (a_getR 8 3)), (26, .inl (a_getI 5 3)), (29, .inl (a_if2 (fun x y => decide (y ≤ x)) 67)), (32, .inl (a_aload 1 0)), (33, .inl (a_getR 8 6)), (36, .inl (a_iload 1 3)), (37, .inl (a_iload 2 4)), (39, .inr (.inl (23, 3))), (42, .inl (a_if1 (fun x => decide (x = 0)) 61)), (45, .inl (a_iload 1 2)), (46, .inl (a_iload 1 1)), (47, .inl (a_if2 (fun x y => decide (¬ x = y)) 58)), (50, .inl (a_push 2 (.int 10))), (52, .inl (a_iload 1 3)), (53, .inl (a_bin (fun x y => x * y))), (54, .inl (a_iload 2 4)), (56, .inl (a_bin (fun x y => x + y))), (57, .inr (.inr 1)), (58, .inl (a_iinc 2 1)), (61, .inl (a_iinc 4 1)), (64, .inl (a_goto 20)), (67, .inl (a_iinc 3 1)), (70, .inl (a_goto 4)), (73, .inl (a_iload 1 1)), (74, .inl (a_push 1 (.int (-1)))), (75, .inl (a_if2 (fun x y => decide (¬ x = y)) 82)), (78, .inl (a_iload 1 2)), (79, .inl (a_goto 83)), (82, .inl (a_push 1 (.int (-1)))), (83, .inr (.inr 1))]
def o_X8_weighs : List (Nat × Op) := [(0, .inl (a_iload 1 1)), (1, .inl (a_if1 (fun x => decide (x < 0)) 20)), (4, .inl (a_iload 1 1)), (5, .inl (a_push 3 (.int 999))), (8, .inl (a_if2 (fun x y => decide (y < x)) 20)), (11, .inl (a_iload 1 2)), (12, .inl (a_if1 (fun x => decide (x < 0)) 20)), (15, .inl (a_iload 1 2)), (16, .inl (a_push 1 (.int 3))), (17, .inl (a_if2 (fun x y => decide (x ≤ y)) 23)), (20, .inl (a_push 2 (.int (-1000000002)))), (22, .inr (.inr 1)), (23, .inl (a_aload 1 0)), (24, .inl (a_getR 8 11)), (27, .inl (a_iload 1 1)), (28, .inr (.inl (73, 2))), (31, .inl (a_iload 1 2)), (32, .inl (a_tsw 0 [60, 68, 76] 84)), (60, .inl (a_aload 1 0)), (61, .inl (a_getR 8 11)), (64, .inl (a_getI 6 2)), (67, .inr (.inr 1)), (68, .inl (a_aload 1 0)), (69, .inl (a_getR 8 11)), (72, .inl (a_getI 6 3)), (75, .inr (.inr 1)), (76, .inl (a_aload 1 0)), (77, .inl (a_getR 8 11)), (80, .inl (a_getI 6 4)), (83, .inr (.inr 1)), (84, .inl (a_aload 1 0)), (85, .inl (a_getR 8 11)), (88, .inr (.inl (74, 1))), (91, .inr (.inr 1))]
def o_X8_handed : List (Nat × Op) := [(0, .inl (a_aload 1 0)), (1, .inl (a_getR 8 3)), (4, .inl (a_iload 1 1)), (5, .inr (.inl (65, 2))), (8, .inl (a_if1 (fun x => decide (¬ x = 0)) 14)), (11, .inl (a_push 2 (.int (-1000000001)))), (13, .inr (.inr 1)), (14, .inl (a_iload 1 2)), (15, .inl (a_lsw [(0, 40), (1, 49)] 65)), (40, .inl (a_aload 1 0)), (41, .inl (a_getR 8 3)), (44, .inl (a_iload 1 1)), (45, .inr (.inl (70, 2))), (48, .inr (.inr 1)), (49, .inl (a_aload 1 0)), (50, .inl (a_getR 8 3)), (53, .inl (a_aload 1 0)), (54, .inl (a_getR 8 3)), (57, .inl (a_iload 1 1)), (58, .inr (.inl (70, 2))), (61, .inr (.inl (71, 2))), (64, .inr (.inr 1)), (65, .inl (a_push 2 (.int (-1000000002)))), (67, .inr (.inr 1))]
def o_X8_light : List (Nat × Op) := [(0, .inl (a_iload 1 1)), (1, .inl (a_if1 (fun x => decide (x < 0)) 20)), (4, .inl (a_iload 1 1)), (5, .inl (a_push 2 (.int 60))), (7, .inl (a_if2 (fun x y => decide (y < x)) 20)), (10, .inl (a_iload 1 2)), (11, .inl (a_if1 (fun x => decide (x < 0)) 20)), (14, .inl (a_iload 1 2)), (15, .inl (a_push 2 (.int 100))), (17, .inl (a_if2 (fun x y => decide (x ≤ y)) 23)), (20, .inl (a_push 2 (.int (-1000000002)))), (22, .inr (.inr 1)), (23, .inl (a_push 3 (.long 1000000000))), (26, .inl (a_lstore 1 3)), (27, .inl (a_push 1 (.int 0))), (28, .inl (a_istore 2 5)), (30, .inl (a_iload 2 5)), (32, .inl (a_iload 1 1)), (33, .inl (a_if2 (fun x y => decide (y ≤ x)) 51)), (36, .inl (a_lload 1 3)), (37, .inl (a_iload 1 2)), (38, .inl (a_i2l)), (39, .inl (a_lbin (fun x y => x * y))), (40, .inl (a_push 3 (.long 100))), (43, .inl (a_ldiv)), (44, .inl (a_lstore 1 3)), (45, .inl (a_iinc 5 1)), (48, .inl (a_goto 30)), (51, .inl (a_lload 1 3)), (52, .inl (a_l2i)), (53, .inr (.inr 1))]
def o_X8_see : List (Nat × Op) := [(0, .inl (a_aload 1 0)), (1, .inl (a_getR 8 3)), (4, .inl (a_iload 1 1)), (5, .inr (.inl (65, 2))), (8, .inl (a_if1 (fun x => decide (x = 0)) 22)), (11, .inl (a_aload 1 0)), (12, .inl (a_getR 8 3)), (15, .inl (a_iload 1 2)), (16, .inr (.inl (65, 2))), (19, .inl (a_if1 (fun x => decide (¬ x = 0)) 25)), (22, .inl (a_push 2 (.int (-1000000001)))), (24, .inr (.inr 1)), (25, .inl (a_aload 1 0)), (26, .inl (a_getR 8 12)), (29, .inl (a_getI 7 5)), (32, .inl (a_push 2 (.int 6))), (34, .inl (a_if2 (fun x y => decide (x < y)) 40)), (37, .inl (a_push 2 (.int (-1000000004)))), (39, .inr (.inr 1)), (40, .inl (a_aload 1 0)), (41, .inl (a_getR 8 12)), (44, .inl (a_iload 1 1)), (45, .inl (a_iload 1 2)), (46, .inl (a_iload 1 3)), (47, .inr (.inl (79, 4))), (50, .inl (a_aload 1 0)), (51, .inl (a_getR 8 12)), (54, .inl (a_getI 7 5)), (57, .inr (.inr 1))]
def o_X8_hold : List (Nat × Op) := [(0, .inl (a_aload 1 0)), (1, .inl (a_getR 8 12)), (4, .inl (a_aload 1 0)), (5, .inl (a_getR 8 6)), (8, .inr (.inl (81, 2))), (11, .inl (a_push 1 (.int (-1)))), (12, .inl (a_if2 (fun x y => decide (¬ x = y)) 19)), (15, .inl (a_push 1 (.int 1))), (16, .inl (a_goto 20)), (19, .inl (a_push 1 (.int 0))), (20, .inr (.inr 1))]
def o_X8_write : List (Nat × Op) := [(0, .inl (a_aload 1 0)), (1, .inl (a_getR 8 3)), (4, .inl (a_iload 1 1)), (5, .inr (.inl (65, 2))), (8, .inl (a_if1 (fun x => decide (¬ x = 0)) 14)), (11, .inl (a_push 2 (.int (-1000000001)))), (13, .inr (.inr 1)), (14, .inl (a_iload 1 2)), (15, .inl (a_if1 (fun x => decide (x < 0)) 25)), (18, .inl (a_iload 1 2)), (19, .inl (a_push 3 (.int 999))), (22, .inl (a_if2 (fun x y => decide (x ≤ y)) 28)), (25, .inl (a_push 2 (.int (-1000000002)))), (27, .inr (.inr 1)), (28, .inl (a_aload 1 0)), (29, .inl (a_getR 8 12)), (32, .inl (a_getI 7 6)), (35, .inl (a_push 2 (.int 15))), (37, .inl (a_if2 (fun x y => decide (x < y)) 43)), (40, .inl (a_push 2 (.int (-1000000004)))), (42, .inr (.inr 1)), (43, .inl (a_aload 1 0)), (44, .inl (a_getR 8 12)), (47, .inl (a_iload 1 1)), (48, .inl (a_iload 1 2)), (49, .inr (.inl (80, 3))), (52, .inl (a_aload 1 0)), (53, .inl (a_getR 8 12)), (56, .inl (a_getI 7 6)), (59, .inr (.inr 1))]
def o_X8_tear : List (Nat × Op) := [(0, .inl (a_aload 1 0)), (1, .inl (a_getR 8 12)), (4, .inl (a_getI 7 5)), (7, .inl (a_aload 1 0)), (8, .inl (a_getR 8 12)), (11, .inl (a_getI 7 6)), (14, .inl (a_bin (fun x y => x + y))), (15, .inl (a_istore 1 1)), (16, .inl (a_aload 1 0)), (17, .inl (a_getR 8 12)), (20, .inr (.inl (78, 1))), (23, .inl (a_iload 1 1)), (24, .inr (.inr 1))]
def o_X8_judge : List (Nat × Op) := [(0, .inl (a_aload 1 0)), (1, .inl (a_getR 8 12)), (4, .inl (a_aload 1 0)), (5, .inl (a_getR 8 6)), (8, .inr (.inl (82, 2))), (11, .inr (.inr 1))]
def o_X8_seed : List (Nat × Op) := [(0, .inl (a_iload 1 1)), (1, .inl (a_if1 (fun x => decide (0 ≤ x)) 7)), (4, .inl (a_push 2 (.int (-1000000002)))), (6, .inr (.inr 1)), (7, .inl (a_aload 1 0)), (8, .inl (a_getI 8 13)), (11, .inl (a_istore 1 2)), (12, .inl (a_aload 1 0)), (13, .inl (a_iload 1 1)), (14, .inl (a_putI 8 13)), (17, .inl (a_iload 1 2)), (18, .inr (.inr 1))]
def o_X8_keep : List (Nat × Op) := [(0, .inl (a_iload 1 1)), (1, .inl (a_if1 (fun x => decide (x < 0)) 13)), (4, .inl (a_iload 1 1)), (5, .inl (a_aload 1 0)), (6, .inl (a_getR 8 8)), (9, .inl (a_alen)), (10, .inl (a_if2 (fun x y => decide (x < y)) 16)), (13, .inl (a_push 2 (.int (-1000000001)))), (15, .inr (.inr 1)), (16, .inl (a_aload 1 0)), (17, .inl (a_getR 8 8)), (20, .inl (a_iload 1 1)), (21, .inl (a_aald)), (22, .inl (a_aload 1 0)), (23, .inl (a_getR 8 6)), (26, .inl (a_getR 0 0)), (29, .inl (a_aload 1 0)), (30, .inl (a_getI 8 13)), (33, .inr (.inl (31, 3))), (36, .inl (a_aload 1 0)), (37, .inl (a_getR 8 7)), (40, .inr (.inl (44, 1))), (43, .inl (a_push 1 (.int 1))), (44, .inr (.inr 1))]
def o_X8_goBack : List (Nat × Op) := [(0, .inl (a_iload 1 1)), (1, .inl (a_if1 (fun x => decide (x < 0)) 13)), (4, .inl (a_iload 1 1)), (5, .inl (a_aload 1 0)), (6, .inl (a_getR 8 8)), (9, .inl (a_alen)), (10, .inl (a_if2 (fun x y => decide (x < y)) 16)), (13, .inl (a_push 2 (.int (-1000000001)))), (15, .inr (.inr 1)), (16, .inl (a_aload 1 0)), (17, .inl (a_getR 8 8)), (20, .inl (a_iload 1 1)), (21, .inl (a_aald)), (22, .inl (a_getI 1 2)), (25, .inl (a_if1 (fun x => decide (¬ x = 0)) 31)), (28, .inl (a_push 2 (.int (-1000000003)))), (30, .inr (.inr 1)), (31, .inl (a_aload 1 0)), (32, .inl (a_getR 8 8)), (35, .inl (a_iload 1 1)), (36, .inl (a_aald)), (37, .inl (a_aload 1 0)), (38, .inl (a_getR 8 6)), (41, .inl (a_getR 0 0)), (44, .inr (.inl (32, 2))), (47, .inl (a_aload 1 0)), (48, .inl (a_aload 1 0)), (49, .inl (a_getR 8 8)), (52, .inl (a_iload 1 1)), (53, .inl (a_aald)), (54, .inl (a_getI 1 1)), (57, .inl (a_putI 8 13)), (60, .inl (a_aload 1 0)), (61, .inl (a_getR 8 7)), (64, .inr (.inl (44, 1))), (67, .inl (a_push 1 (.int 1))), (68, .inr (.inr 1))]
def o_X8_beginAnew : List (Nat × Op) := [(0, .inl (a_aload 1 0)), (1, .inl (a_getR 8 6)), (4, .inr (.inl (1, 1))), (7, .inl (a_aload 1 0)), (8, .inl (a_getR 8 7)), (11, .inr (.inl (44, 1))), (14, .inl (a_aload 1 0)), (15, .inl (a_getR 8 12)), (18, .inr (.inl (78, 1))), (21, .inl (a_aload 1 0)), (22, .inl (a_getR 8 9)), (25, .inr (.inl (34, 1))), (28, .inl (a_aload 1 0)), (29, .inl (a_getR 8 10)), (32, .inr (.inl (34, 1))), (35, .inl (a_push 1 (.int 0))), (36, .inl (a_istore 1 1)), (37, .inl (a_iload 1 1)), (38, .inl (a_aload 1 0)), (39, .inl (a_getR 8 8)), (42, .inl (a_alen)), (43, .inl (a_if2 (fun x y => decide (y ≤ x)) 62)), (46, .inl (a_aload 1 0)), (47, .inl (a_getR 8 8)), (50, .inl (a_iload 1 1)), (51, .inl (a_aald)), (52, .inl (a_push 1 (.int 0))), (53, .inl (a_putZ 1 2)), (56, .inl (a_iinc 1 1)), (59, .inl (a_goto 37)), (62, .inr (.inr 0))]
def o_X8_packed : List (Nat × Op) := [(0, .inl (a_iload 1 2)), (1, .inl (a_push 1 (.int (-1)))), (2, .inl (a_if2 (fun x y => decide (¬ x = y)) 10)), (5, .inl (a_aload 1 1)), (6, .inr (.inl (35, 1))), (9, .inr (.inr 1)), (10, .inl (a_aload 1 0)), (11, .inl (a_getR 8 3)), (14, .inl (a_iload 1 2)), (15, .inr (.inl (66, 2))), (18, .inl (a_if1 (fun x => decide (x = 0)) 29)), (21, .inl (a_aload 1 1)), (22, .inl (a_iload 1 2)), (23, .inr (.inl (36, 2))), (26, .inl (a_goto 31)), (29, .inl (a_push 2 (.int (-1000000001)))), (31, .inr (.inr 1))]
def o_X8_driftOnce : List (Nat × Op) := [(0, .inl (a_aload 1 0)), (1, .inl (a_aload 1 0)), (2, .inl (a_getR 8 3)), (5, .inl (a_getI 5 3)), (8, .inr (.inl (115, 2))), (11, .inl (a_istore 1 1)), (12, .inl (a_aload 1 0)), (13, .inl (a_push 1 (.int 4))), (14, .inr (.inl (115, 2))), (17, .inl (a_tsw 0 [44, 66, 88] 128)), (44, .inl (a_aload 1 0)), (45, .inl (a_getR 8 6)), (48, .inl (a_iload 1 1)), (49, .inr (.inl (19, 2))), (52, .inl (a_if1 (fun x => decide (x = 0)) 136)), (55, .inl (a_aload 1 0)), (56, .inl (a_getR 8 6)), (59, .inl (a_iload 1 1)), (60, .inr (.inl (24, 2))), (63, .inl (a_goto 136)), (66, .inl (a_aload 1 0)), (67, .inl (a_getR 8 6)), (70, .inl (a_iload 1 1)), (71, .inr (.inl (21, 2))), (74, .inl (a_if1 (fun x => decide (x = 0)) 136)), (77, .inl (a_aload 1 0)), (78, .inl (a_getR 8 6)), (81, .inl (a_iload 1 1)), (82, .inr (.inl (27, 2))), (85, .inl (a_goto 136)), (88, .inl (a_aload 1 0)), (89, .inl (a_getR 8 3)), (92, .inl (a_aload 1 0)), (93, .inl (a_getR 8 6)), (96, .inl (a_iload 1 1)), (97, .inr (.inl (7, 2))), (100, .inr (.inl (67, 2))), (103, .inl (a_istore 1 2)), (104, .inl (a_aload 1 0)), (105, .inl (a_getR 8 6)), (108, .inl (a_iload 1 1)), (109, .inl (a_iload 1 2)), (110, .inr (.inl (20, 3))), (113, .inl (a_if1 (fun x => decide (x = 0)) 136)), (116, .inl (a_aload 1 0)), (117, .inl (a_getR 8 6)), (120, .inl (a_iload 1 1)), (121, .inl (a_iload 1 2)), (122, .inr (.inl (25, 3))), (125, .inl (a_goto 136)), (128, .inl (a_aload 1 0)), (129, .inl (a_getR 8 6)), (132, .inr (.inl (29, 1))), (135, .inl (a_pop)), (136, .inr (.inr 0))]
def o_X8_draw : List (Nat × Op) := [(0, .inl (a_aload 1 0)), (1, .inl (a_aload 1 0)), (2, .inl (a_getI 8 13)), (5, .inl (a_i2l)), (6, .inl (a_push 3 (.long 1103515245))), (9, .inl (a_lbin (fun x y => x * y))), (10, .inl (a_push 3 (.long 12345))), (13, .inl (a_lbin (fun x y => x + y))), (14, .inl (a_push 3 (.long 2147483647))), (17, .inl (a_lbin (fun x y => x &&& y))), (18, .inl (a_l2i)), (19, .inl (a_putI 8 13)), (22, .inl (a_iload 1 1)), (23, .inl (a_if1 (fun x => decide (x ≤ 0)) 39)), (26, .inl (a_aload 1 0)), (27, .inl (a_getI 8 13)), (30, .inl (a_push 3 (.int 65536))), (33, .inl (a_div)), (34, .inl (a_iload 1 1)), (35, .inl (a_rem)), (36, .inl (a_goto 40)), (39, .inl (a_push 1 (.int 0))), (40, .inr (.inr 1))]
def o_X9_init_1 : List (Nat × Op) := [(0, .inl (a_aload 1 0)), (1, .inl (a_obj)), (4, .inl (a_aload 1 0)), (5, .inl (a_push 1 (.int 5))), (6, .inl (a_newP 1)), (8, .inl (a_putR 9 3)), (11, .inl (a_aload 1 0)), (12, .inl (a_push 1 (.int 5))), (13, .inl (a_newP 1)), (15, .inl (a_putR 9 4)), (18, .inl (a_aload 1 0)), (19, .inl (a_push 1 (.int 5))), (20, .inl (a_newP 1)), (22, .inl (a_putR 9 5)), (25, .inl (a_aload 1 0)), (26, .inl (a_push 2 (.int 7))), (28, .inl (a_newP 1)), (30, .inl (a_putR 9 7)), (33, .inl (a_aload 1 0)), (34, .inl (a_push 2 (.int 7))), (36, .inl (a_newP 1)), (38, .inl (a_putR 9 8)), (41, .inl (a_aload 1 0)), (42, .inl (a_push 2 (.int 22))), (44, .inl (a_newP 1)), (46, .inl (a_putR 9 9)), (49, .inl (a_aload 1 0)), (50, .inl (a_push 3 (.int 240))), (53, .inl (a_newP 1)), (55, .inl (a_putR 9 11)), (58, .inl (a_aload 1 0)), (59, .inl (a_push 1 (.int (-1)))), (60, .inl (a_putI 9 13)), (63, .inl (a_aload 1 0)), (64, .inl (a_push 1 (.int 5))), (65, .inl (a_newP 1)), (67, .inl (a_putR 9 20)), (70, .inl (a_aload 1 0)), (71, .inl (a_push 1 (.int 5))), (72, .inl (a_newP 1)), (74, .inl (a_putR 9 21)), (77, .inl (a_aload 1 0)), (78, .inl (a_push 1 (.int 5))), (79, .inl (a_newP 1)), (81, .inl (a_putR 9 22)), (84, .inl (a_aload 1 0)), (85, .inl (a_push 2 (.int 7))), (87, .inl (a_newP 1)), (89, .inl (a_putR 9 24)), (92, .inl (a_aload 1 0)), (93, .inl (a_push 2 (.int 7))), (95, .inl (a_newP 1)), (97, .inl (a_putR 9 25)), (100, .inl (a_aload 1 0)), (101, .inl (a_push 3 (.int 440))), (104, .inl (a_newP 1)), (106, .inl (a_putR 9 27)), (109, .inl (a_aload 1 0)), (110, .inl (a_push 2 (.int 7))), (112, .inl (a_newP 1))]
def o_X9_init_2 : List (Nat × Op) := [(114, .inl (a_putR 9 28)), (117, .inl (a_aload 1 0)), (118, .inl (a_push 2 (.int 7))), (120, .inl (a_newP 1)), (122, .inl (a_putR 9 29)), (125, .inl (a_aload 1 0)), (126, .inl (a_push 1 (.int 5))), (127, .inl (a_newP 1)), (129, .inl (a_putR 9 30)), (132, .inl (a_aload 1 0)), (133, .inl (a_push 2 (.int 7))), (135, .inl (a_newP 1)), (137, .inl (a_putR 9 31)), (140, .inl (a_aload 1 0)), (141, .inl (a_push 2 (.int 6))), (143, .inl (a_newP 1)), (145, .inl (a_putR 9 33)), (148, .inl (a_aload 1 0)), (149, .inl (a_push 2 (.int 6))), (151, .inl (a_newP 1)), (153, .inl (a_putR 9 34)), (156, .inl (a_aload 1 0)), (157, .inl (a_push 2 (.int 6))), (159, .inl (a_newP 2)), (161, .inl (a_putR 9 35)), (164, .inl (a_aload 1 0)), (165, .inl (a_push 2 (.int 15))), (167, .inl (a_newP 1)), (169, .inl (a_putR 9 37)), (172, .inl (a_aload 1 0)), (173, .inl (a_push 2 (.int 15))), (175, .inl (a_newP 1)), (177, .inl (a_putR 9 38)), (180, .inl (a_aload 1 0)), (181, .inl (a_push 2 (.int 46))), (183, .inl (a_newP 1)), (185, .inl (a_putR 9 39)), (188, .inl (a_aload 1 0)), (189, .inl (a_push 1 (.int 2))), (190, .inl (a_newP 2)), (192, .inl (a_putR 9 40)), (195, .inl (a_aload 1 0)), (196, .inl (a_push 1 (.int 0))), (197, .inl (a_putZ 9 0)), (200, .inr (.inr 0))]
def o_X9_init : List (Nat × Op) := o_X9_init_1 ++ (o_X9_init_2)
def o_X9_in : List (Nat × Op) := [(0, .inl (a_lload 1 0)), (1, .inl (a_lload 1 2)), (2, .inl (a_lcmp)), (3, .inl (a_if1 (fun x => decide (x < 0)) 17)), (6, .inl (a_lload 1 0)), (7, .inl (a_lload 2 4)), (9, .inl (a_lcmp)), (10, .inl (a_if1 (fun x => decide (0 < x)) 17)), (13, .inl (a_push 1 (.int 1))), (14, .inl (a_goto 18)), (17, .inl (a_push 1 (.int 0))), (18, .inr (.inr 2))]
def o_X9_has : List (Nat × Op) := [(0, .inl (a_iload 1 0)), (1, .inl (a_iload 1 1)), (2, .inl (a_bin (fun x y => x >>> (y &&& 31)))), (3, .inl (a_push 1 (.int 1))), (4, .inl (a_bin (fun x y => x &&& y))), (5, .inl (a_push 1 (.int 1))), (6, .inl (a_if2 (fun x y => decide (¬ x = y)) 13)), (9, .inl (a_push 1 (.int 1))), (10, .inl (a_goto 14)), (13, .inl (a_push 1 (.int 0))), (14, .inr (.inr 2))]
def o_X9_isChild : List (Nat × Op) := [(0, .inl (a_iload 1 1)), (1, .inl (a_i2l)), (2, .inl (a_push 1 (.long 0))), (3, .inl (a_aload 1 0)), (4, .inl (a_getI 9 2)), (7, .inl (a_push 1 (.int 1))), (8, .inl (a_bin (fun x y => x - y))), (9, .inl (a_i2l)), (10, .inr (.inl (117, 3))), (13, .inr (.inr 2))]
def o_X9_isDeed : List (Nat × Op) := [(0, .inl (a_iload 1 1)), (1, .inl (a_i2l)), (2, .inl (a_push 1 (.long 0))), (3, .inl (a_aload 1 0)), (4, .inl (a_getI 9 6)), (7, .inl (a_push 1 (.int 1))), (8, .inl (a_bin (fun x y => x - y))), (9, .inl (a_i2l)), (10, .inr (.inl (117, 3))), (13, .inr (.inr 2))]
def o_X9_feed : List (Nat × Op) := [(0, .inl (a_iload 1 1)), (1, .inl (a_i2l)), (2, .inl (a_push 1 (.long 0))), (3, .inl (a_push 3 (.long 255))), (6, .inr (.inl (117, 3))), (9, .inl (a_if1 (fun x => decide (¬ x = 0)) 15)), (12, .inl (a_push 2 (.int (-1000000002)))), (14, .inr (.inr 1)), (15, .inl (a_aload 1 0)), (16, .inl (a_getI 9 12)), (19, .inl (a_push 3 (.int 240))), (22, .inl (a_if2 (fun x y => decide (¬ x = y)) 28)), (25, .inl (a_push 2 (.int (-1000000004)))), (27, .inr (.inr 1)), (28, .inl (a_aload 1 0)), (29, .inl (a_getR 9 11)), (32, .inl (a_aload 1 0)), (33, .inl (a_getI 9 12)), (36, .inl (a_iload 1 1)), (37, .inl (a_iast)), (38, .inl (a_aload 1 0)), (39, .inl (a_dup)), (40, .inl (a_getI 9 12)), (43, .inl (a_push 1 (.int 1))), (44, .inl (a_bin (fun x y => x + y))), (45, .inl (a_putI 9 12)), (48, .inl (a_aload 1 0)), (49, .inl (a_getI 9 12)), (52, .inr (.inr 1))]
def o_X9_here : List (Nat × Op) := [(0, .inl (a_aload 1 0)), (1, .inl (a_getI 9 14)), (4, .inl (a_aload 1 0)), (5, .inl (a_getI 9 12)), (8, .inl (a_if2 (fun x y => decide (y ≤ x)) 38)), (11, .inl (a_aload 1 0)), (12, .inl (a_getR 9 11)), (15, .inl (a_aload 1 0)), (16, .inl (a_getI 9 14)), (19, .inl (a_iald)), (20, .inl (a_push 2 (.int 32))), (22, .inl (a_if2 (fun x y => decide (¬ x = y)) 38)), (25, .inl (a_aload 1 0)), (26, .inl (a_dup)), (27, .inl (a_getI 9 14)), (30, .inl (a_push 1 (.int 1))), (31, .inl (a_bin (fun x y => x + y))), (32, .inl (a_putI 9 14)), (35, .inl (a_goto 0)), (38, .inl (a_aload 1 0)), (39, .inl (a_getI 9 14)), (42, .inl (a_aload 1 0)), (43, .inl (a_getI 9 12)), (46, .inl (a_if2 (fun x y => decide (y ≤ x)) 61)), (49, .inl (a_aload 1 0)), (50, .inl (a_getR 9 11)), (53, .inl (a_aload 1 0)), (54, .inl (a_getI 9 14)), (57, .inl (a_iald)), (58, .inl (a_goto 62)), (61, .inl (a_push 1 (.int (-1)))), (62, .inr (.inr 1))]
def o_X9_fails : List (Nat × Op) := [(0, .inl (a_aload 1 0)), (1, .inl (a_iload 1 2)), (2, .inl (a_putI 9 13)), (5, .inl (a_iload 1 1)), (6, .inr (.inr 1))]
def o_X9_takeNumber_1 : List (Nat × Op) := [(0, .inl (a_aload 1 0)), (1, .inr (.inl (122, 1))), (4, .inl (a_istore 1 3)), (5, .inl (a_iload 1 3)), (6, .inl (a_i2l)), (7, .inl (a_push 3 (.long 48))), (10, .inl (a_push 3 (.long 57))), (13, .inr (.inl (117, 3))), (16, .inl (a_if1 (fun x => decide (¬ x = 0)) 29)), (19, .inl (a_aload 1 0)), (20, .inl (a_push 1 (.int 1))), (21, .inl (a_aload 1 0)), (22, .inl (a_getI 9 14)), (25, .inr (.inl (123, 3))), (28, .inr (.inr 1)), (29, .inl (a_aload 1 0)), (30, .inl (a_aload 1 0)), (31, .inl (a_getI 9 14)), (34, .inl (a_putI 9 16)), (37, .inl (a_aload 1 0)), (38, .inl (a_push 1 (.int 0))), (39, .inl (a_putI 9 15)), (42, .inl (a_aload 1 0)), (43, .inl (a_getI 9 14)), (46, .inl (a_aload 1 0)), (47, .inl (a_getI 9 12)), (50, .inl (a_if2 (fun x y => decide (y ≤ x)) 129)), (53, .inl (a_aload 1 0)), (54, .inl (a_getR 9 11)), (57, .inl (a_aload 1 0)), (58, .inl (a_getI 9 14)), (61, .inl (a_iald)), (62, .inl (a_i2l)), (63, .inl (a_push 3 (.long 48))), (66, .inl (a_push 3 (.long 57))), (69, .inr (.inl (117, 3))), (72, .inl (a_if1 (fun x => decide (x = 0)) 129)), (75, .inl (a_aload 1 0)), (76, .inl (a_aload 1 0)), (77, .inl (a_getI 9 15)), (80, .inl (a_push 3 (.int 10000))), (83, .inl (a_if2 (fun x y => decide (x ≤ y)) 93)), (86, .inl (a_aload 1 0)), (87, .inl (a_getI 9 15)), (90, .inl (a_goto 113)), (93, .inl (a_push 2 (.int 10))), (95, .inl (a_aload 1 0)), (96, .inl (a_getI 9 15)), (99, .inl (a_bin (fun x y => x * y))), (100, .inl (a_aload 1 0)), (101, .inl (a_getR 9 11)), (104, .inl (a_aload 1 0)), (105, .inl (a_getI 9 14)), (108, .inl (a_iald)), (109, .inl (a_bin (fun x y => x + y))), (110, .inl (a_push 2 (.int 48))), (112, .inl (a_bin (fun x y => x - y))), (113, .inl (a_putI 9 15)), (116, .inl (a_aload 1 0)), (117, .inl (a_dup))]
def o_X9_takeNumber_2 : List (Nat × Op) := [(118, .inl (a_getI 9 14)), (121, .inl (a_push 1 (.int 1))), (122, .inl (a_bin (fun x y => x + y))), (123, .inl (a_putI 9 14)), (126, .inl (a_goto 42)), (129, .inl (a_aload 1 0)), (130, .inl (a_getI 9 14)), (133, .inl (a_aload 1 0)), (134, .inl (a_getI 9 16)), (137, .inl (a_bin (fun x y => x - y))), (138, .inl (a_push 1 (.int 3))), (139, .inl (a_if2 (fun x y => decide (y < x)) 157)), (142, .inl (a_aload 1 0)), (143, .inl (a_getI 9 15)), (146, .inl (a_i2l)), (147, .inl (a_iload 1 1)), (148, .inl (a_i2l)), (149, .inl (a_iload 1 2)), (150, .inl (a_i2l)), (151, .inr (.inl (117, 3))), (154, .inl (a_if1 (fun x => decide (¬ x = 0)) 169)), (157, .inl (a_aload 1 0)), (158, .inl (a_push 1 (.int 2))), (159, .inl (a_aload 1 0)), (160, .inl (a_getI 9 16)), (163, .inr (.inl (123, 3))), (166, .inl (a_goto 170)), (169, .inl (a_push 1 (.int 0))), (170, .inr (.inr 1))]
def o_X9_takeNumber : List (Nat × Op) := o_X9_takeNumber_1 ++ (o_X9_takeNumber_2)
def o_X9_into : List (Nat × Op) := [(0, .inl (a_aload 1 0)), (1, .inl (a_iload 1 3)), (2, .inl (a_iload 2 4)), (4, .inr (.inl (124, 3))), (7, .inl (a_istore 2 5)), (9, .inl (a_aload 1 1)), (10, .inl (a_iload 1 2)), (11, .inl (a_aload 1 0)), (12, .inl (a_getI 9 15)), (15, .inl (a_iast)), (16, .inl (a_iload 2 5)), (18, .inr (.inr 1))]
def o_X9_takeBrook : List (Nat × Op) := [(0, .inl (a_aload 1 0)), (1, .inl (a_push 1 (.int 1))), (2, .inl (a_putZ 9 17)), (5, .inl (a_aload 1 0)), (6, .inl (a_push 1 (.int 0))), (7, .inl (a_push 3 (.int 999))), (10, .inr (.inl (124, 3))), (13, .inl (a_istore 1 1)), (14, .inl (a_aload 1 0)), (15, .inl (a_aload 1 0)), (16, .inl (a_getI 9 15)), (19, .inl (a_putI 9 18)), (22, .inl (a_iload 1 1)), (23, .inr (.inr 1))]
def o_X9_takeChild : List (Nat × Op) := [(0, .inl (a_aload 1 0)), (1, .inl (a_getI 9 19)), (4, .inl (a_istore 1 1)), (5, .inl (a_aload 1 0)), (6, .inl (a_dup)), (7, .inl (a_getI 9 19)), (10, .inl (a_push 1 (.int 1))), (11, .inl (a_bin (fun x y => x + y))), (12, .inl (a_putI 9 19)), (15, .inl (a_aload 1 0)), (16, .inl (a_getR 9 22)), (19, .inl (a_iload 1 1)), (20, .inl (a_push 1 (.int (-1)))), (21, .inl (a_iast)), (22, .inl (a_aload 1 0)), (23, .inl (a_aload 1 0)), (24, .inl (a_getR 9 20)), (27, .inl (a_iload 1 1)), (28, .inl (a_push 1 (.int 1))), (29, .inl (a_push 2 (.int 99))), (31, .inr (.inl (125, 5))), (34, .inl (a_istore 1 2)), (35, .inl (a_iload 1 2)), (36, .inl (a_if1 (fun x => decide (x ≤ 0)) 43)), (39, .inl (a_iload 1 2)), (40, .inl (a_goto 55)), (43, .inl (a_aload 1 0)), (44, .inl (a_aload 1 0)), (45, .inl (a_getR 9 21)), (48, .inl (a_iload 1 1)), (49, .inl (a_push 1 (.int 1))), (50, .inl (a_push 2 (.int 99))), (52, .inr (.inl (125, 5))), (55, .inr (.inr 1))]
def o_X9_takeDeed : List (Nat × Op) := [(0, .inl (a_aload 1 0)), (1, .inl (a_getI 9 23)), (4, .inl (a_istore 1 1)), (5, .inl (a_aload 1 0)), (6, .inl (a_dup)), (7, .inl (a_getI 9 23)), (10, .inl (a_push 1 (.int 1))), (11, .inl (a_bin (fun x y => x + y))), (12, .inl (a_putI 9 23)), (15, .inl (a_aload 1 0)), (16, .inl (a_aload 1 0)), (17, .inl (a_getR 9 24)), (20, .inl (a_iload 1 1)), (21, .inl (a_push 1 (.int 0))), (22, .inl (a_aload 1 0)), (23, .inl (a_getI 9 19)), (26, .inl (a_push 1 (.int 1))), (27, .inl (a_bin (fun x y => x - y))), (28, .inr (.inl (125, 5))), (31, .inl (a_istore 1 2)), (32, .inl (a_iload 1 2)), (33, .inl (a_if1 (fun x => decide (x ≤ 0)) 40)), (36, .inl (a_iload 1 2)), (37, .inl (a_goto 52)), (40, .inl (a_aload 1 0)), (41, .inl (a_aload 1 0)), (42, .inl (a_getR 9 25)), (45, .inl (a_iload 1 1)), (46, .inl (a_push 1 (.int 1))), (47, .inl (a_push 2 (.int 99))), (49, .inr (.inl (125, 5))), (52, .inr (.inr 1))]
def o_X9_takeHanded_1 : List (Nat × Op) := [(0, .inl (a_aload 1 0)), (1, .inl (a_push 1 (.int 0))), (2, .inl (a_aload 1 0)), (3, .inl (a_getI 9 19)), (6, .inl (a_push 1 (.int 1))), (7, .inl (a_bin (fun x y => x - y))), (8, .inr (.inl (124, 3))), (11, .inl (a_istore 1 1)), (12, .inl (a_aload 1 0)), (13, .inl (a_getI 9 15)), (16, .inl (a_istore 1 2)), (17, .inl (a_iload 1 1)), (18, .inl (a_if1 (fun x => decide (x ≤ 0)) 25)), (21, .inl (a_iload 1 1)), (22, .inl (a_goto 36)), (25, .inl (a_aload 1 0)), (26, .inl (a_push 1 (.int 0))), (27, .inl (a_aload 1 0)), (28, .inl (a_getI 9 19)), (31, .inl (a_push 1 (.int 1))), (32, .inl (a_bin (fun x y => x - y))), (33, .inr (.inl (124, 3))), (36, .inl (a_istore 1 1)), (37, .inl (a_iload 1 1)), (38, .inl (a_if1 (fun x => decide (x ≤ 0)) 43)), (41, .inl (a_iload 1 1)), (42, .inr (.inr 1)), (43, .inl (a_aload 1 0)), (44, .inl (a_getR 9 22)), (47, .inl (a_aload 1 0)), (48, .inl (a_getI 9 15)), (51, .inl (a_iald)), (52, .inl (a_push 1 (.int (-1)))), (53, .inl (a_if2 (fun x y => decide (x = y)) 60)), (56, .inl (a_push 1 (.int 1))), (57, .inl (a_goto 61)), (60, .inl (a_push 1 (.int 0))), (61, .inl (a_istore 1 3)), (62, .inl (a_iload 1 2)), (63, .inl (a_istore 2 4)), (65, .inl (a_iload 2 4)), (67, .inl (a_push 1 (.int (-1)))), (68, .inl (a_if2 (fun x y => decide (x = y)) 102)), (71, .inl (a_iload 1 3)), (72, .inl (a_if1 (fun x => decide (¬ x = 0)) 84)), (75, .inl (a_iload 2 4)), (77, .inl (a_aload 1 0)), (78, .inl (a_getI 9 15)), (81, .inl (a_if2 (fun x y => decide (¬ x = y)) 88)), (84, .inl (a_push 1 (.int 1))), (85, .inl (a_goto 89)), (88, .inl (a_push 1 (.int 0))), (89, .inl (a_istore 1 3)), (90, .inl (a_aload 1 0)), (91, .inl (a_getR 9 22)), (94, .inl (a_iload 2 4)), (96, .inl (a_iald)), (97, .inl (a_istore 2 4)), (99, .inl (a_goto 65)), (102, .inl (a_iload 1 3))]
def o_X9_takeHanded_2 : List (Nat × Op) := [(103, .inl (a_if1 (fun x => decide (x = 0)) 116)), (106, .inl (a_aload 1 0)), (107, .inl (a_push 1 (.int 4))), (108, .inl (a_aload 1 0)), (109, .inl (a_getI 9 16)), (112, .inr (.inl (123, 3))), (115, .inr (.inr 1)), (116, .inl (a_aload 1 0)), (117, .inl (a_getR 9 22)), (120, .inl (a_aload 1 0)), (121, .inl (a_getI 9 15)), (124, .inl (a_iload 1 2)), (125, .inl (a_iast)), (126, .inl (a_push 1 (.int 0))), (127, .inr (.inr 1))]
def o_X9_takeHanded : List (Nat × Op) := o_X9_takeHanded_1 ++ (o_X9_takeHanded_2)
def o_X9_takeClause_1 : List (Nat × Op) := [(0, .inl (a_aload 1 0)), (1, .inr (.inl (122, 1))), (4, .inl (a_istore 1 1)), (5, .inl (a_iload 1 1)), (6, .inl (a_push 2 (.int 98))), (8, .inl (a_if2 (fun x y => decide (¬ x = y)) 15)), (11, .inl (a_push 1 (.int 0))), (12, .inl (a_goto 46)), (15, .inl (a_iload 1 1)), (16, .inl (a_push 2 (.int 99))), (18, .inl (a_if2 (fun x y => decide (¬ x = y)) 25)), (21, .inl (a_push 1 (.int 1))), (22, .inl (a_goto 46)), (25, .inl (a_iload 1 1)), (26, .inl (a_push 2 (.int 100))), (28, .inl (a_if2 (fun x y => decide (¬ x = y)) 35)), (31, .inl (a_push 1 (.int 2))), (32, .inl (a_goto 46)), (35, .inl (a_iload 1 1)), (36, .inl (a_push 2 (.int 104))), (38, .inl (a_if2 (fun x y => decide (¬ x = y)) 45)), (41, .inl (a_push 1 (.int 3))), (42, .inl (a_goto 46)), (45, .inl (a_push 1 (.int (-1)))), (46, .inl (a_istore 1 2)), (47, .inl (a_iload 1 2)), (48, .inl (a_if1 (fun x => decide (x < 0)) 62)), (51, .inl (a_iload 1 2)), (52, .inl (a_if1 (fun x => decide (x ≤ 0)) 72)), (55, .inl (a_aload 1 0)), (56, .inl (a_getI 9 17)), (59, .inl (a_if1 (fun x => decide (¬ x = 0)) 72)), (62, .inl (a_aload 1 0)), (63, .inl (a_push 1 (.int 1))), (64, .inl (a_aload 1 0)), (65, .inl (a_getI 9 14)), (68, .inr (.inl (123, 3))), (71, .inr (.inr 1)), (72, .inl (a_iload 1 2)), (73, .inl (a_if1 (fun x => decide (¬ x = 0)) 83)), (76, .inl (a_aload 1 0)), (77, .inl (a_getI 9 17)), (80, .inl (a_goto 123)), (83, .inl (a_iload 1 2)), (84, .inl (a_push 1 (.int 1))), (85, .inl (a_if2 (fun x y => decide (¬ x = y)) 104)), (88, .inl (a_aload 1 0)), (89, .inl (a_getI 9 19)), (92, .inl (a_push 1 (.int 5))), (93, .inl (a_if2 (fun x y => decide (¬ x = y)) 100)), (96, .inl (a_push 1 (.int 1))), (97, .inl (a_goto 123)), (100, .inl (a_push 1 (.int 0))), (101, .inl (a_goto 123)), (104, .inl (a_iload 1 2)), (105, .inl (a_push 1 (.int 2))), (106, .inl (a_if2 (fun x y => decide (¬ x = y)) 122)), (109, .inl (a_aload 1 0)), (110, .inl (a_getI 9 23)), (113, .inl (a_push 2 (.int 7)))]
def o_X9_takeClause_2 : List (Nat × Op) := [(115, .inl (a_if2 (fun x y => decide (¬ x = y)) 122)), (118, .inl (a_push 1 (.int 1))), (119, .inl (a_goto 123)), (122, .inl (a_push 1 (.int 0))), (123, .inl (a_istore 1 3)), (124, .inl (a_iload 1 3)), (125, .inl (a_if1 (fun x => decide (x = 0)) 138)), (128, .inl (a_aload 1 0)), (129, .inl (a_push 1 (.int 3))), (130, .inl (a_aload 1 0)), (131, .inl (a_getI 9 14)), (134, .inr (.inl (123, 3))), (137, .inr (.inr 1)), (138, .inl (a_aload 1 0)), (139, .inl (a_dup)), (140, .inl (a_getI 9 14)), (143, .inl (a_push 1 (.int 1))), (144, .inl (a_bin (fun x y => x + y))), (145, .inl (a_putI 9 14)), (148, .inl (a_iload 1 2)), (149, .inl (a_if1 (fun x => decide (¬ x = 0)) 159)), (152, .inl (a_aload 1 0)), (153, .inr (.inl (126, 1))), (156, .inl (a_goto 187)), (159, .inl (a_iload 1 2)), (160, .inl (a_push 1 (.int 1))), (161, .inl (a_if2 (fun x y => decide (¬ x = y)) 171)), (164, .inl (a_aload 1 0)), (165, .inr (.inl (127, 1))), (168, .inl (a_goto 187)), (171, .inl (a_iload 1 2)), (172, .inl (a_push 1 (.int 2))), (173, .inl (a_if2 (fun x y => decide (¬ x = y)) 183)), (176, .inl (a_aload 1 0)), (177, .inr (.inl (128, 1))), (180, .inl (a_goto 187)), (183, .inl (a_aload 1 0)), (184, .inr (.inl (129, 1))), (187, .inl (a_istore 2 4)), (189, .inl (a_iload 2 4)), (191, .inl (a_if1 (fun x => decide (¬ x = 0)) 213)), (194, .inl (a_aload 1 0)), (195, .inr (.inl (122, 1))), (198, .inl (a_push 2 (.int 59))), (200, .inl (a_if2 (fun x y => decide (x = y)) 213)), (203, .inl (a_aload 1 0)), (204, .inl (a_push 1 (.int 1))), (205, .inl (a_aload 1 0)), (206, .inl (a_getI 9 14)), (209, .inr (.inl (123, 3))), (212, .inr (.inr 1)), (213, .inl (a_aload 1 0)), (214, .inl (a_dup)), (215, .inl (a_getI 9 14)), (218, .inl (a_push 1 (.int 1))), (219, .inl (a_bin (fun x y => x + y))), (220, .inl (a_putI 9 14)), (223, .inl (a_iload 2 4)), (225, .inr (.inr 1))]
def o_X9_takeClause : List (Nat × Op) := o_X9_takeClause_1 ++ (o_X9_takeClause_2)
def o_X9_takeRead_1 : List (Nat × Op) := [(0, .inl (a_aload 1 0)), (1, .inl (a_aload 1 0)), (2, .inl (a_getI 9 17)), (5, .inl (a_putZ 9 0)), (8, .inl (a_aload 1 0)), (9, .inl (a_aload 1 0)), (10, .inl (a_getI 9 18)), (13, .inl (a_putI 9 1)), (16, .inl (a_aload 1 0)), (17, .inl (a_aload 1 0)), (18, .inl (a_getI 9 19)), (21, .inl (a_putI 9 2)), (24, .inl (a_aload 1 0)), (25, .inl (a_aload 1 0)), (26, .inl (a_getI 9 23)), (29, .inl (a_putI 9 6)), (32, .inl (a_push 1 (.int 0))), (33, .inl (a_istore 1 1)), (34, .inl (a_iload 1 1)), (35, .inl (a_aload 1 0)), (36, .inl (a_getI 9 2)), (39, .inl (a_if2 (fun x y => decide (y ≤ x)) 84)), (42, .inl (a_aload 1 0)), (43, .inl (a_getR 9 3)), (46, .inl (a_iload 1 1)), (47, .inl (a_aload 1 0)), (48, .inl (a_getR 9 20)), (51, .inl (a_iload 1 1)), (52, .inl (a_iald)), (53, .inl (a_iast)), (54, .inl (a_aload 1 0)), (55, .inl (a_getR 9 4)), (58, .inl (a_iload 1 1)), (59, .inl (a_aload 1 0)), (60, .inl (a_getR 9 21)), (63, .inl (a_iload 1 1)), (64, .inl (a_iald)), (65, .inl (a_iast)), (66, .inl (a_aload 1 0)), (67, .inl (a_getR 9 5)), (70, .inl (a_iload 1 1)), (71, .inl (a_aload 1 0)), (72, .inl (a_getR 9 22)), (75, .inl (a_iload 1 1)), (76, .inl (a_iald)), (77, .inl (a_iast)), (78, .inl (a_iinc 1 1)), (81, .inl (a_goto 34)), (84, .inl (a_push 1 (.int 0))), (85, .inl (a_istore 1 1)), (86, .inl (a_iload 1 1)), (87, .inl (a_aload 1 0)), (88, .inl (a_getI 9 6)), (91, .inl (a_if2 (fun x y => decide (y ≤ x)) 124)), (94, .inl (a_aload 1 0)), (95, .inl (a_getR 9 7)), (98, .inl (a_iload 1 1)), (99, .inl (a_aload 1 0)), (100, .inl (a_getR 9 24)), (103, .inl (a_iload 1 1))]
def o_X9_takeRead_2 : List (Nat × Op) := [(104, .inl (a_iald)), (105, .inl (a_iast)), (106, .inl (a_aload 1 0)), (107, .inl (a_getR 9 8)), (110, .inl (a_iload 1 1)), (111, .inl (a_aload 1 0)), (112, .inl (a_getR 9 25)), (115, .inl (a_iload 1 1)), (116, .inl (a_iald)), (117, .inl (a_iast)), (118, .inl (a_iinc 1 1)), (121, .inl (a_goto 86)), (124, .inl (a_push 1 (.int 0))), (125, .inl (a_istore 1 1)), (126, .inl (a_iload 1 1)), (127, .inl (a_push 2 (.int 22))), (129, .inl (a_if2 (fun x y => decide (y ≤ x)) 145)), (132, .inl (a_aload 1 0)), (133, .inl (a_getR 9 9)), (136, .inl (a_iload 1 1)), (137, .inl (a_push 1 (.int 0))), (138, .inl (a_iast)), (139, .inl (a_iinc 1 1)), (142, .inl (a_goto 126)), (145, .inl (a_push 1 (.int 0))), (146, .inl (a_istore 1 1)), (147, .inl (a_iload 1 1)), (148, .inl (a_push 2 (.int 7))), (150, .inl (a_if2 (fun x y => decide (y ≤ x)) 169)), (153, .inl (a_aload 1 0)), (154, .inl (a_getR 9 9)), (157, .inl (a_push 2 (.int 7))), (159, .inl (a_iload 1 1)), (160, .inl (a_bin (fun x y => x + y))), (161, .inl (a_push 1 (.int (-1)))), (162, .inl (a_iast)), (163, .inl (a_iinc 1 1)), (166, .inl (a_goto 147)), (169, .inr (.inr 0))]
def o_X9_takeRead : List (Nat × Op) := o_X9_takeRead_1 ++ (o_X9_takeRead_2)
def o_X9_school_1 : List (Nat × Op) := [(0, .inl (a_aload 1 0)), (1, .inl (a_push 1 (.int (-1)))), (2, .inl (a_putI 9 13)), (5, .inl (a_aload 1 0)), (6, .inl (a_push 1 (.int 0))), (7, .inl (a_putI 9 14)), (10, .inl (a_aload 1 0)), (11, .inl (a_push 1 (.int 0))), (12, .inl (a_putZ 9 17)), (15, .inl (a_aload 1 0)), (16, .inl (a_push 1 (.int 0))), (17, .inl (a_putI 9 18)), (20, .inl (a_aload 1 0)), (21, .inl (a_push 1 (.int 0))), (22, .inl (a_putI 9 19)), (25, .inl (a_aload 1 0)), (26, .inl (a_push 1 (.int 0))), (27, .inl (a_putI 9 23)), (30, .inl (a_push 1 (.int 0))), (31, .inl (a_istore 1 1)), (32, .inl (a_iload 1 1)), (33, .inl (a_if1 (fun x => decide (¬ x = 0)) 51)), (36, .inl (a_aload 1 0)), (37, .inr (.inl (122, 1))), (40, .inl (a_if1 (fun x => decide (x < 0)) 51)), (43, .inl (a_aload 1 0)), (44, .inr (.inl (130, 1))), (47, .inl (a_istore 1 1)), (48, .inl (a_goto 32)), (51, .inl (a_aload 1 0)), (52, .inl (a_push 1 (.int 0))), (53, .inl (a_putI 9 12)), (56, .inl (a_iload 1 1)), (57, .inl (a_if1 (fun x => decide (x ≤ 0)) 65)), (60, .inl (a_push 2 (.int (-10)))), (62, .inl (a_iload 1 1)), (63, .inl (a_bin (fun x y => x - y))), (64, .inr (.inr 1)), (65, .inl (a_aload 1 0)), (66, .inr (.inl (131, 1))), (69, .inl (a_aload 1 0)), (70, .inl (a_push 1 (.int 0))), (71, .inl (a_putI 9 32)), (74, .inl (a_aload 1 0)), (75, .inl (a_push 1 (.int 0))), (76, .inl (a_putI 9 36)), (79, .inl (a_aload 1 0)), (80, .inl (a_push 1 (.int 0))), (81, .inl (a_putI 9 26)), (84, .inl (a_aload 1 0)), (85, .inl (a_getR 9 40)), (88, .inl (a_push 1 (.int 0))), (89, .inl (a_push 1 (.int 0))), (90, .inl (a_bast)), (91, .inl (a_aload 1 0)), (92, .inl (a_getR 9 40)), (95, .inl (a_push 1 (.int 1))), (96, .inl (a_push 1 (.int 0))), (97, .inl (a_bast)), (98, .inl (a_aload 1 0))]
def o_X9_school_2 : List (Nat × Op) := [(99, .inl (a_getI 9 2)), (102, .inr (.inr 1))]
def o_X9_school : List (Nat × Op) := o_X9_school_1 ++ (o_X9_school_2)
def o_X9_fault : List (Nat × Op) := [(0, .inl (a_aload 1 0)), (1, .inl (a_getI 9 13)), (4, .inr (.inr 1))]
def o_X9_isWith : List (Nat × Op) := [(0, .inl (a_aload 1 0)), (1, .inl (a_getR 9 9)), (4, .inl (a_iload 1 1)), (5, .inl (a_iald)), (6, .inl (a_iload 1 2)), (7, .inl (a_if2 (fun x y => decide (¬ x = y)) 27)), (10, .inl (a_aload 1 0)), (11, .inl (a_getR 9 9)), (14, .inl (a_push 2 (.int 7))), (16, .inl (a_iload 1 1)), (17, .inl (a_bin (fun x y => x + y))), (18, .inl (a_iald)), (19, .inl (a_iload 1 3)), (20, .inl (a_if2 (fun x y => decide (¬ x = y)) 27)), (23, .inl (a_push 1 (.int 1))), (24, .inl (a_goto 28)), (27, .inl (a_push 1 (.int 0))), (28, .inr (.inr 2))]
def o_X9_deedsWith : List (Nat × Op) := [(0, .inl (a_push 1 (.int 0))), (1, .inl (a_istore 1 3)), (2, .inl (a_push 1 (.int 0))), (3, .inl (a_istore 2 4)), (5, .inl (a_iload 2 4)), (7, .inl (a_aload 1 0)), (8, .inl (a_getI 9 6)), (11, .inl (a_if2 (fun x y => decide (y ≤ x)) 42)), (14, .inl (a_iload 1 3)), (15, .inl (a_aload 1 0)), (16, .inl (a_iload 2 4)), (18, .inl (a_iload 1 1)), (19, .inl (a_iload 1 2)), (20, .inr (.inl (134, 4))), (23, .inl (a_if1 (fun x => decide (x = 0)) 33)), (26, .inl (a_push 1 (.int 1))), (27, .inl (a_iload 2 4)), (29, .inl (a_bin (fun x y => x <<< (y &&& 31)))), (30, .inl (a_goto 34)), (33, .inl (a_push 1 (.int 0))), (34, .inl (a_bin (fun x y => x ||| y))), (35, .inl (a_istore 1 3)), (36, .inl (a_iinc 4 1)), (39, .inl (a_goto 5)), (42, .inl (a_iload 1 3)), (43, .inr (.inr 1))]
def o_X9_load : List (Nat × Op) := [(0, .inl (a_push 1 (.int 0))), (1, .inl (a_istore 1 2)), (2, .inl (a_push 1 (.int 0))), (3, .inl (a_istore 1 3)), (4, .inl (a_iload 1 3)), (5, .inl (a_aload 1 0)), (6, .inl (a_getI 9 6)), (9, .inl (a_if2 (fun x y => decide (y ≤ x)) 41)), (12, .inl (a_iload 1 2)), (13, .inl (a_aload 1 0)), (14, .inl (a_iload 1 3)), (15, .inl (a_push 1 (.int 1))), (16, .inl (a_iload 1 1)), (17, .inr (.inl (134, 4))), (20, .inl (a_if1 (fun x => decide (x = 0)) 32)), (23, .inl (a_aload 1 0)), (24, .inl (a_getR 9 8)), (27, .inl (a_iload 1 3)), (28, .inl (a_iald)), (29, .inl (a_goto 33)), (32, .inl (a_push 1 (.int 0))), (33, .inl (a_bin (fun x y => x + y))), (34, .inl (a_istore 1 2)), (35, .inl (a_iinc 3 1)), (38, .inl (a_goto 4)), (41, .inl (a_iload 1 2)), (42, .inr (.inr 1))]
def o_X9_minutes : List (Nat × Op) := [(0, .inl (a_aload 1 0)), (1, .inl (a_getR 9 4)), (4, .inl (a_iload 1 1)), (5, .inl (a_iald)), (6, .inl (a_aload 1 0)), (7, .inl (a_getR 9 4)), (10, .inl (a_iload 1 1)), (11, .inl (a_iald)), (12, .inl (a_aload 1 0)), (13, .inl (a_iload 1 1)), (14, .inr (.inl (136, 2))), (17, .inl (a_bin (fun x y => x * y))), (18, .inl (a_aload 1 0)), (19, .inl (a_getR 9 3)), (22, .inl (a_iload 1 1)), (23, .inl (a_iald)), (24, .inl (a_div)), (25, .inl (a_bin (fun x y => x + y))), (26, .inr (.inr 1))]
def o_X9_lamed : List (Nat × Op) := [(0, .inl (a_push 1 (.int 0))), (1, .inl (a_istore 1 1)), (2, .inl (a_push 1 (.int 0))), (3, .inl (a_istore 1 2)), (4, .inl (a_iload 1 2)), (5, .inl (a_aload 1 0)), (6, .inl (a_getI 9 2)), (9, .inl (a_if2 (fun x y => decide (y ≤ x)) 42)), (12, .inl (a_iload 1 1)), (13, .inl (a_aload 1 0)), (14, .inl (a_iload 1 2)), (15, .inr (.inl (136, 2))), (18, .inl (a_aload 1 0)), (19, .inl (a_getR 9 3)), (22, .inl (a_iload 1 2)), (23, .inl (a_iald)), (24, .inl (a_if2 (fun x y => decide (x ≤ y)) 33)), (27, .inl (a_push 1 (.int 1))), (28, .inl (a_iload 1 2)), (29, .inl (a_bin (fun x y => x <<< (y &&& 31)))), (30, .inl (a_goto 34)), (33, .inl (a_push 1 (.int 0))), (34, .inl (a_bin (fun x y => x ||| y))), (35, .inl (a_istore 1 1)), (36, .inl (a_iinc 2 1)), (39, .inl (a_goto 4)), (42, .inl (a_iload 1 1)), (43, .inr (.inr 1))]
def o_X9_lamedDays : List (Nat × Op) := [(0, .inl (a_push 1 (.int 0))), (1, .inl (a_istore 1 1)), (2, .inl (a_push 1 (.int 0))), (3, .inl (a_istore 1 2)), (4, .inl (a_iload 1 2)), (5, .inl (a_push 1 (.int 5))), (6, .inl (a_if2 (fun x y => decide (y ≤ x)) 27)), (9, .inl (a_iload 1 1)), (10, .inl (a_aload 1 0)), (11, .inl (a_getR 9 9)), (14, .inl (a_push 2 (.int 17))), (16, .inl (a_iload 1 2)), (17, .inl (a_bin (fun x y => x + y))), (18, .inl (a_iald)), (19, .inl (a_bin (fun x y => x + y))), (20, .inl (a_istore 1 1)), (21, .inl (a_iinc 2 1)), (24, .inl (a_goto 4)), (27, .inl (a_iload 1 1)), (28, .inr (.inr 1))]
def o_X9_made : List (Nat × Op) := [(0, .inl (a_push 1 (.int 0))), (1, .inl (a_istore 1 1)), (2, .inl (a_push 1 (.int 0))), (3, .inl (a_istore 1 2)), (4, .inl (a_iload 1 2)), (5, .inl (a_aload 1 0)), (6, .inl (a_getI 9 2)), (9, .inl (a_if2 (fun x y => decide (y ≤ x)) 95)), (12, .inl (a_push 1 (.int 0))), (13, .inl (a_istore 1 3)), (14, .inl (a_push 1 (.int 0))), (15, .inl (a_istore 2 4)), (17, .inl (a_iload 2 4)), (19, .inl (a_aload 1 0)), (20, .inl (a_getI 9 6)), (23, .inl (a_if2 (fun x y => decide (y ≤ x)) 68)), (26, .inl (a_iload 1 3)), (27, .inl (a_aload 1 0)), (28, .inl (a_iload 2 4)), (30, .inl (a_push 1 (.int 1))), (31, .inl (a_iload 1 2)), (32, .inr (.inl (134, 4))), (35, .inl (a_if1 (fun x => decide (x = 0)) 59)), (38, .inl (a_aload 1 0)), (39, .inl (a_getR 9 7)), (42, .inl (a_iload 2 4)), (44, .inl (a_iald)), (45, .inl (a_iload 1 2)), (46, .inl (a_if2 (fun x y => decide (¬ x = y)) 59)), (49, .inl (a_aload 1 0)), (50, .inl (a_getR 9 8)), (53, .inl (a_iload 2 4)), (55, .inl (a_iald)), (56, .inl (a_goto 60)), (59, .inl (a_push 1 (.int 0))), (60, .inl (a_bin (fun x y => x + y))), (61, .inl (a_istore 1 3)), (62, .inl (a_iinc 4 1)), (65, .inl (a_goto 17)), (68, .inl (a_iload 1 1)), (69, .inl (a_aload 1 0)), (70, .inl (a_iload 1 2)), (71, .inr (.inl (136, 2))), (74, .inl (a_iload 1 3)), (75, .inl (a_bin (fun x y => x - y))), (76, .inl (a_iload 1 3)), (77, .inl (a_if2 (fun x y => decide (x ≤ y)) 86)), (80, .inl (a_push 1 (.int 1))), (81, .inl (a_iload 1 2)), (82, .inl (a_bin (fun x y => x <<< (y &&& 31)))), (83, .inl (a_goto 87)), (86, .inl (a_push 1 (.int 0))), (87, .inl (a_bin (fun x y => x ||| y))), (88, .inl (a_istore 1 1)), (89, .inl (a_iinc 2 1)), (92, .inl (a_goto 4)), (95, .inl (a_iload 1 1)), (96, .inr (.inr 1))]
def o_X9_lastHome : List (Nat × Op) := [(0, .inl (a_push 1 (.int (-1)))), (1, .inl (a_istore 1 1)), (2, .inl (a_push 1 (.int 0))), (3, .inl (a_istore 1 2)), (4, .inl (a_iload 1 2)), (5, .inl (a_aload 1 0)), (6, .inl (a_getI 9 2)), (9, .inl (a_if2 (fun x y => decide (y ≤ x)) 41)), (12, .inl (a_iload 1 1)), (13, .inl (a_if1 (fun x => decide (x < 0)) 29)), (16, .inl (a_aload 1 0)), (17, .inl (a_iload 1 2)), (18, .inr (.inl (137, 2))), (21, .inl (a_aload 1 0)), (22, .inl (a_iload 1 1)), (23, .inr (.inl (137, 2))), (26, .inl (a_if2 (fun x y => decide (x ≤ y)) 33)), (29, .inl (a_iload 1 2)), (30, .inl (a_goto 34)), (33, .inl (a_iload 1 1)), (34, .inl (a_istore 1 1)), (35, .inl (a_iinc 2 1)), (38, .inl (a_goto 4)), (41, .inl (a_iload 1 1)), (42, .inr (.inr 1))]
def o_X9_told : List (Nat × Op) := [(0, .inl (a_iload 1 1)), (1, .inl (a_tsw 0 [72, 77, 82, 87, 92, 100, 108, 116, 121, 126, 131, 136, 141, 146] 151)), (72, .inl (a_aload 1 0)), (73, .inl (a_getI 9 1)), (76, .inr (.inr 1)), (77, .inl (a_aload 1 0)), (78, .inl (a_getI 9 2)), (81, .inr (.inr 1)), (82, .inl (a_aload 1 0)), (83, .inl (a_getI 9 6)), (86, .inr (.inr 1)), (87, .inl (a_aload 1 0)), (88, .inl (a_getI 9 12)), (91, .inr (.inr 1)), (92, .inl (a_aload 1 0)), (93, .inl (a_getR 9 9)), (96, .inl (a_push 2 (.int 14))), (98, .inl (a_iald)), (99, .inr (.inr 1)), (100, .inl (a_aload 1 0)), (101, .inl (a_getR 9 9)), (104, .inl (a_push 2 (.int 15))), (106, .inl (a_iald)), (107, .inr (.inr 1)), (108, .inl (a_aload 1 0)), (109, .inl (a_getR 9 9)), (112, .inl (a_push 2 (.int 16))), (114, .inl (a_iald)), (115, .inr (.inr 1)), (116, .inl (a_aload 1 0)), (117, .inr (.inl (138, 1))), (120, .inr (.inr 1)), (121, .inl (a_aload 1 0)), (122, .inr (.inl (139, 1))), (125, .inr (.inr 1)), (126, .inl (a_aload 1 0)), (127, .inr (.inl (140, 1))), (130, .inr (.inr 1)), (131, .inl (a_aload 1 0)), (132, .inr (.inl (141, 1))), (135, .inr (.inr 1)), (136, .inl (a_aload 1 0)), (137, .inl (a_getI 9 32)), (140, .inr (.inr 1)), (141, .inl (a_aload 1 0)), (142, .inl (a_getI 9 36)), (145, .inr (.inr 1)), (146, .inl (a_aload 1 0)), (147, .inl (a_getI 9 26)), (150, .inr (.inr 1)), (151, .inl (a_push 2 (.int (-1000000002)))), (153, .inr (.inr 1))]
def o_X9_child : List (Nat × Op) := [(0, .inl (a_aload 1 0)), (1, .inl (a_iload 1 1)), (2, .inr (.inl (119, 2))), (5, .inl (a_if1 (fun x => decide (¬ x = 0)) 11)), (8, .inl (a_push 2 (.int (-1000000001)))), (10, .inr (.inr 1)), (11, .inl (a_iload 1 2)), (12, .inl (a_tsw 0 [60, 67, 74, 80, 86, 93, 100, 110] 117)), (60, .inl (a_aload 1 0)), (61, .inl (a_getR 9 3)), (64, .inl (a_iload 1 1)), (65, .inl (a_iald)), (66, .inr (.inr 1)), (67, .inl (a_aload 1 0)), (68, .inl (a_getR 9 4)), (71, .inl (a_iload 1 1)), (72, .inl (a_iald)), (73, .inr (.inr 1)), (74, .inl (a_aload 1 0)), (75, .inl (a_iload 1 1)), (76, .inr (.inl (136, 2))), (79, .inr (.inr 1)), (80, .inl (a_aload 1 0)), (81, .inl (a_iload 1 1)), (82, .inr (.inl (137, 2))), (85, .inr (.inr 1)), (86, .inl (a_aload 1 0)), (87, .inl (a_push 1 (.int 1))), (88, .inl (a_iload 1 1)), (89, .inr (.inl (135, 3))), (92, .inr (.inr 1)), (93, .inl (a_aload 1 0)), (94, .inl (a_push 1 (.int 3))), (95, .inl (a_iload 1 1)), (96, .inr (.inl (135, 3))), (99, .inr (.inr 1)), (100, .inl (a_aload 1 0)), (101, .inl (a_getR 9 9)), (104, .inl (a_push 2 (.int 17))), (106, .inl (a_iload 1 1)), (107, .inl (a_bin (fun x y => x + y))), (108, .inl (a_iald)), (109, .inr (.inr 1)), (110, .inl (a_aload 1 0)), (111, .inl (a_getR 9 5)), (114, .inl (a_iload 1 1)), (115, .inl (a_iald)), (116, .inr (.inr 1)), (117, .inl (a_push 2 (.int (-1000000002)))), (119, .inr (.inr 1))]
def o_X9_deed : List (Nat × Op) := [(0, .inl (a_aload 1 0)), (1, .inl (a_iload 1 1)), (2, .inr (.inl (120, 2))), (5, .inl (a_if1 (fun x => decide (¬ x = 0)) 11)), (8, .inl (a_push 2 (.int (-1000000001)))), (10, .inr (.inr 1)), (11, .inl (a_iload 1 2)), (12, .inl (a_tsw 0 [44, 51, 58, 65] 75)), (44, .inl (a_aload 1 0)), (45, .inl (a_getR 9 7)), (48, .inl (a_iload 1 1)), (49, .inl (a_iald)), (50, .inr (.inr 1)), (51, .inl (a_aload 1 0)), (52, .inl (a_getR 9 8)), (55, .inl (a_iload 1 1)), (56, .inl (a_iald)), (57, .inr (.inr 1)), (58, .inl (a_aload 1 0)), (59, .inl (a_getR 9 9)), (62, .inl (a_iload 1 1)), (63, .inl (a_iald)), (64, .inr (.inr 1)), (65, .inl (a_aload 1 0)), (66, .inl (a_getR 9 9)), (69, .inl (a_push 2 (.int 7))), (71, .inl (a_iload 1 1)), (72, .inl (a_bin (fun x y => x + y))), (73, .inl (a_iald)), (74, .inr (.inr 1)), (75, .inl (a_push 2 (.int (-1000000002)))), (77, .inr (.inr 1))]
def o_X9_remember : List (Nat × Op) := [(0, .inl (a_aload 1 0)), (1, .inl (a_getI 9 26)), (4, .inl (a_push 2 (.int 20))), (6, .inl (a_if2 (fun x y => decide (¬ x = y)) 50)), (9, .inl (a_push 2 (.int 22))), (11, .inl (a_istore 1 1)), (12, .inl (a_iload 1 1)), (13, .inl (a_push 3 (.int 440))), (16, .inl (a_if2 (fun x y => decide (y ≤ x)) 40)), (19, .inl (a_aload 1 0)), (20, .inl (a_getR 9 27)), (23, .inl (a_iload 1 1)), (24, .inl (a_push 2 (.int 22))), (26, .inl (a_bin (fun x y => x - y))), (27, .inl (a_aload 1 0)), (28, .inl (a_getR 9 27)), (31, .inl (a_iload 1 1)), (32, .inl (a_iald)), (33, .inl (a_iast)), (34, .inl (a_iinc 1 1)), (37, .inl (a_goto 12)), (40, .inl (a_aload 1 0)), (41, .inl (a_dup)), (42, .inl (a_getI 9 26)), (45, .inl (a_push 1 (.int 1))), (46, .inl (a_bin (fun x y => x - y))), (47, .inl (a_putI 9 26)), (50, .inl (a_push 1 (.int 0))), (51, .inl (a_istore 1 1)), (52, .inl (a_iload 1 1)), (53, .inl (a_push 2 (.int 22))), (55, .inl (a_if2 (fun x y => decide (y ≤ x)) 84)), (58, .inl (a_aload 1 0)), (59, .inl (a_getR 9 27)), (62, .inl (a_push 2 (.int 22))), (64, .inl (a_aload 1 0)), (65, .inl (a_getI 9 26)), (68, .inl (a_bin (fun x y => x * y))), (69, .inl (a_iload 1 1)), (70, .inl (a_bin (fun x y => x + y))), (71, .inl (a_aload 1 0)), (72, .inl (a_getR 9 9)), (75, .inl (a_iload 1 1)), (76, .inl (a_iald)), (77, .inl (a_iast)), (78, .inl (a_iinc 1 1)), (81, .inl (a_goto 52)), (84, .inl (a_aload 1 0)), (85, .inl (a_dup)), (86, .inl (a_getI 9 26)), (89, .inl (a_push 1 (.int 1))), (90, .inl (a_bin (fun x y => x + y))), (91, .inl (a_putI 9 26)), (94, .inr (.inr 0))]
def o_X9_lay : List (Nat × Op) := [(0, .inl (a_aload 1 0)), (1, .inl (a_getR 9 9)), (4, .inl (a_iload 1 1)), (5, .inl (a_iload 1 2)), (6, .inl (a_iast)), (7, .inl (a_aload 1 0)), (8, .inl (a_getR 9 9)), (11, .inl (a_push 2 (.int 7))), (13, .inl (a_iload 1 1)), (14, .inl (a_bin (fun x y => x + y))), (15, .inl (a_iload 1 3)), (16, .inl (a_iast)), (17, .inr (.inr 0))]
def o_X9_doIt : List (Nat × Op) := [(0, .inl (a_aload 1 0)), (1, .inl (a_iload 1 1)), (2, .inr (.inl (120, 2))), (5, .inl (a_if1 (fun x => decide (¬ x = 0)) 11)), (8, .inl (a_push 2 (.int (-1000000001)))), (10, .inr (.inr 1)), (11, .inl (a_aload 1 0)), (12, .inl (a_getR 9 9)), (15, .inl (a_iload 1 1)), (16, .inl (a_iald)), (17, .inl (a_if1 (fun x => decide (x = 0)) 23)), (20, .inl (a_push 2 (.int (-1000000003)))), (22, .inr (.inr 1)), (23, .inl (a_aload 1 0)), (24, .inr (.inl (145, 1))), (27, .inl (a_aload 1 0)), (28, .inl (a_iload 1 1)), (29, .inl (a_push 1 (.int 1))), (30, .inl (a_aload 1 0)), (31, .inl (a_getR 9 7)), (34, .inl (a_iload 1 1)), (35, .inl (a_iald)), (36, .inr (.inl (146, 4))), (39, .inl (a_aload 1 0)), (40, .inl (a_aload 1 0)), (41, .inl (a_getR 9 7)), (44, .inl (a_iload 1 1)), (45, .inl (a_iald)), (46, .inr (.inl (136, 2))), (49, .inr (.inr 1))]
def o_X9_carry : List (Nat × Op) := [(0, .inl (a_aload 1 0)), (1, .inl (a_iload 1 1)), (2, .inr (.inl (120, 2))), (5, .inl (a_if1 (fun x => decide (x = 0)) 16)), (8, .inl (a_aload 1 0)), (9, .inl (a_iload 1 2)), (10, .inr (.inl (119, 2))), (13, .inl (a_if1 (fun x => decide (¬ x = 0)) 19)), (16, .inl (a_push 2 (.int (-1000000001)))), (18, .inr (.inr 1)), (19, .inl (a_aload 1 0)), (20, .inl (a_getR 9 9)), (23, .inl (a_iload 1 1)), (24, .inl (a_iald)), (25, .inl (a_push 1 (.int 1))), (26, .inl (a_if2 (fun x y => decide (¬ x = y)) 42)), (29, .inl (a_aload 1 0)), (30, .inl (a_getR 9 9)), (33, .inl (a_push 2 (.int 7))), (35, .inl (a_iload 1 1)), (36, .inl (a_bin (fun x y => x + y))), (37, .inl (a_iald)), (38, .inl (a_iload 1 2)), (39, .inl (a_if2 (fun x y => decide (¬ x = y)) 45)), (42, .inl (a_push 2 (.int (-1000000003)))), (44, .inr (.inr 1)), (45, .inl (a_aload 1 0)), (46, .inr (.inl (145, 1))), (49, .inl (a_aload 1 0)), (50, .inl (a_iload 1 1)), (51, .inl (a_push 1 (.int 1))), (52, .inl (a_iload 1 2)), (53, .inr (.inl (146, 4))), (56, .inl (a_aload 1 0)), (57, .inl (a_iload 1 2)), (58, .inr (.inl (136, 2))), (61, .inr (.inr 1))]
def o_X9_canSwap : List (Nat × Op) := [(0, .inl (a_aload 1 0)), (1, .inl (a_getR 9 9)), (4, .inl (a_iload 1 1)), (5, .inl (a_iald)), (6, .inl (a_push 1 (.int 1))), (7, .inl (a_if2 (fun x y => decide (¬ x = y)) 45)), (10, .inl (a_aload 1 0)), (11, .inl (a_getR 9 9)), (14, .inl (a_iload 1 2)), (15, .inl (a_iald)), (16, .inl (a_push 1 (.int 1))), (17, .inl (a_if2 (fun x y => decide (¬ x = y)) 45)), (20, .inl (a_aload 1 0)), (21, .inl (a_getR 9 9)), (24, .inl (a_push 2 (.int 7))), (26, .inl (a_iload 1 1)), (27, .inl (a_bin (fun x y => x + y))), (28, .inl (a_iald)), (29, .inl (a_aload 1 0)), (30, .inl (a_getR 9 9)), (33, .inl (a_push 2 (.int 7))), (35, .inl (a_iload 1 2)), (36, .inl (a_bin (fun x y => x + y))), (37, .inl (a_iald)), (38, .inl (a_if2 (fun x y => decide (x = y)) 45)), (41, .inl (a_push 1 (.int 1))), (42, .inl (a_goto 46)), (45, .inl (a_push 1 (.int 0))), (46, .inr (.inr 2))]
def o_X9_swap : List (Nat × Op) := [(0, .inl (a_aload 1 0)), (1, .inl (a_iload 1 1)), (2, .inr (.inl (120, 2))), (5, .inl (a_if1 (fun x => decide (x = 0)) 21)), (8, .inl (a_aload 1 0)), (9, .inl (a_iload 1 2)), (10, .inr (.inl (120, 2))), (13, .inl (a_if1 (fun x => decide (x = 0)) 21)), (16, .inl (a_iload 1 1)), (17, .inl (a_iload 1 2)), (18, .inl (a_if2 (fun x y => decide (¬ x = y)) 24)), (21, .inl (a_push 2 (.int (-1000000001)))), (23, .inr (.inr 1)), (24, .inl (a_aload 1 0)), (25, .inl (a_iload 1 1)), (26, .inl (a_iload 1 2)), (27, .inr (.inl (149, 3))), (30, .inl (a_if1 (fun x => decide (¬ x = 0)) 36)), (33, .inl (a_push 2 (.int (-1000000003)))), (35, .inr (.inr 1)), (36, .inl (a_aload 1 0)), (37, .inr (.inl (145, 1))), (40, .inl (a_aload 1 0)), (41, .inl (a_getR 9 9)), (44, .inl (a_push 2 (.int 7))), (46, .inl (a_iload 1 1)), (47, .inl (a_bin (fun x y => x + y))), (48, .inl (a_iald)), (49, .inl (a_istore 1 3)), (50, .inl (a_aload 1 0)), (51, .inl (a_getR 9 9)), (54, .inl (a_push 2 (.int 7))), (56, .inl (a_iload 1 1)), (57, .inl (a_bin (fun x y => x + y))), (58, .inl (a_aload 1 0)), (59, .inl (a_getR 9 9)), (62, .inl (a_push 2 (.int 7))), (64, .inl (a_iload 1 2)), (65, .inl (a_bin (fun x y => x + y))), (66, .inl (a_iald)), (67, .inl (a_iast)), (68, .inl (a_aload 1 0)), (69, .inl (a_getR 9 9)), (72, .inl (a_push 2 (.int 7))), (74, .inl (a_iload 1 2)), (75, .inl (a_bin (fun x y => x + y))), (76, .inl (a_iload 1 3)), (77, .inl (a_iast)), (78, .inl (a_push 1 (.int 1))), (79, .inr (.inr 1))]
def o_X9_canThrow : List (Nat × Op) := [(0, .inl (a_aload 1 0)), (1, .inl (a_getR 9 9)), (4, .inl (a_iload 1 1)), (5, .inl (a_iald)), (6, .inl (a_push 1 (.int 1))), (7, .inl (a_if2 (fun x y => decide (¬ x = y)) 35)), (10, .inl (a_aload 1 0)), (11, .inl (a_getR 9 9)), (14, .inl (a_push 2 (.int 15))), (16, .inl (a_iald)), (17, .inl (a_aload 1 0)), (18, .inl (a_getR 9 8)), (21, .inl (a_iload 1 1)), (22, .inl (a_iald)), (23, .inl (a_bin (fun x y => x + y))), (24, .inl (a_aload 1 0)), (25, .inl (a_getI 9 1)), (28, .inl (a_if2 (fun x y => decide (y < x)) 35)), (31, .inl (a_push 1 (.int 1))), (32, .inl (a_goto 36)), (35, .inl (a_push 1 (.int 0))), (36, .inr (.inr 2))]
def o_X9_throwNow : List (Nat × Op) := [(0, .inl (a_aload 1 0)), (1, .inl (a_iload 1 1)), (2, .inl (a_push 1 (.int 2))), (3, .inl (a_push 1 (.int (-1)))), (4, .inr (.inl (146, 4))), (7, .inl (a_aload 1 0)), (8, .inl (a_getR 9 9)), (11, .inl (a_push 2 (.int 15))), (13, .inl (a_dup2)), (14, .inl (a_iald)), (15, .inl (a_aload 1 0)), (16, .inl (a_getR 9 8)), (19, .inl (a_iload 1 1)), (20, .inl (a_iald)), (21, .inl (a_bin (fun x y => x + y))), (22, .inl (a_iast)), (23, .inl (a_aload 1 0)), (24, .inl (a_getR 9 9)), (27, .inl (a_push 2 (.int 16))), (29, .inl (a_aload 1 0)), (30, .inl (a_getR 9 9)), (33, .inl (a_push 2 (.int 16))), (35, .inl (a_iald)), (36, .inl (a_aload 1 0)), (37, .inl (a_getR 9 8)), (40, .inl (a_iload 1 1)), (41, .inl (a_iald)), (42, .inl (a_bin (fun x y => x + y))), (43, .inl (a_push 2 (.int 999999))), (45, .inl (a_if2 (fun x y => decide (y ≤ x)) 65)), (48, .inl (a_aload 1 0)), (49, .inl (a_getR 9 9)), (52, .inl (a_push 2 (.int 16))), (54, .inl (a_iald)), (55, .inl (a_aload 1 0)), (56, .inl (a_getR 9 8)), (59, .inl (a_iload 1 1)), (60, .inl (a_iald)), (61, .inl (a_bin (fun x y => x + y))), (62, .inl (a_goto 67)), (65, .inl (a_push 2 (.int 999999))), (67, .inl (a_iast)), (68, .inr (.inr 0))]
def o_X9_throwIt : List (Nat × Op) := [(0, .inl (a_aload 1 0)), (1, .inl (a_iload 1 1)), (2, .inr (.inl (120, 2))), (5, .inl (a_if1 (fun x => decide (¬ x = 0)) 11)), (8, .inl (a_push 2 (.int (-1000000001)))), (10, .inr (.inr 1)), (11, .inl (a_aload 1 0)), (12, .inl (a_iload 1 1)), (13, .inr (.inl (151, 2))), (16, .inl (a_if1 (fun x => decide (¬ x = 0)) 22)), (19, .inl (a_push 2 (.int (-1000000003)))), (21, .inr (.inr 1)), (22, .inl (a_aload 1 0)), (23, .inr (.inl (145, 1))), (26, .inl (a_aload 1 0)), (27, .inl (a_iload 1 1)), (28, .inr (.inl (152, 2))), (31, .inl (a_aload 1 0)), (32, .inl (a_getR 9 9)), (35, .inl (a_push 2 (.int 15))), (37, .inl (a_iald)), (38, .inr (.inr 1))]
def o_X9_goHome_1 : List (Nat × Op) := [(0, .inl (a_aload 1 0)), (1, .inr (.inl (138, 1))), (4, .inl (a_istore 1 1)), (5, .inl (a_push 1 (.int 0))), (6, .inl (a_istore 1 2)), (7, .inl (a_iload 1 2)), (8, .inl (a_aload 1 0)), (9, .inl (a_getI 9 2)), (12, .inl (a_if2 (fun x y => decide (y ≤ x)) 38)), (15, .inl (a_aload 1 0)), (16, .inl (a_getR 9 9)), (19, .inl (a_push 2 (.int 17))), (21, .inl (a_iload 1 2)), (22, .inl (a_bin (fun x y => x + y))), (23, .inl (a_dup2)), (24, .inl (a_iald)), (25, .inl (a_iload 1 1)), (26, .inl (a_iload 1 2)), (27, .inl (a_bin (fun x y => x >>> (y &&& 31)))), (28, .inl (a_push 1 (.int 1))), (29, .inl (a_bin (fun x y => x &&& y))), (30, .inl (a_bin (fun x y => x + y))), (31, .inl (a_iast)), (32, .inl (a_iinc 2 1)), (35, .inl (a_goto 7)), (38, .inl (a_push 1 (.int 0))), (39, .inl (a_istore 1 2)), (40, .inl (a_iload 1 2)), (41, .inl (a_aload 1 0)), (42, .inl (a_getI 9 6)), (45, .inl (a_if2 (fun x y => decide (y ≤ x)) 80)), (48, .inl (a_aload 1 0)), (49, .inl (a_getR 9 9)), (52, .inl (a_iload 1 2)), (53, .inl (a_aload 1 0)), (54, .inl (a_getR 9 9)), (57, .inl (a_iload 1 2)), (58, .inl (a_iald)), (59, .inl (a_push 1 (.int 1))), (60, .inl (a_if2 (fun x y => decide (¬ x = y)) 67)), (63, .inl (a_push 1 (.int 3))), (64, .inl (a_goto 73)), (67, .inl (a_aload 1 0)), (68, .inl (a_getR 9 9)), (71, .inl (a_iload 1 2)), (72, .inl (a_iald)), (73, .inl (a_iast)), (74, .inl (a_iinc 2 1)), (77, .inl (a_goto 40)), (80, .inl (a_aload 1 0)), (81, .inl (a_getR 9 9)), (84, .inl (a_push 2 (.int 14))), (86, .inl (a_dup2)), (87, .inl (a_iald)), (88, .inl (a_push 1 (.int 1))), (89, .inl (a_bin (fun x y => x + y))), (90, .inl (a_iast)), (91, .inl (a_aload 1 0)), (92, .inl (a_getR 9 9)), (95, .inl (a_push 2 (.int 15)))]
def o_X9_goHome_2 : List (Nat × Op) := [(97, .inl (a_push 1 (.int 0))), (98, .inl (a_iast)), (99, .inl (a_iload 1 1)), (100, .inr (.inr 1))]
def o_X9_goHome : List (Nat × Op) := o_X9_goHome_1 ++ (o_X9_goHome_2)
def o_X9_home : List (Nat × Op) := [(0, .inl (a_aload 1 0)), (1, .inl (a_getI 9 0)), (4, .inl (a_if1 (fun x => decide (¬ x = 0)) 10)), (7, .inl (a_push 2 (.int (-1000000003)))), (9, .inr (.inr 1)), (10, .inl (a_aload 1 0)), (11, .inl (a_getR 9 9)), (14, .inl (a_push 2 (.int 14))), (16, .inl (a_iald)), (17, .inl (a_push 3 (.int 9000))), (20, .inl (a_if2 (fun x y => decide (x ≤ y)) 26)), (23, .inl (a_push 2 (.int (-1000000004)))), (25, .inr (.inr 1)), (26, .inl (a_aload 1 0)), (27, .inr (.inl (145, 1))), (30, .inl (a_aload 1 0)), (31, .inr (.inl (154, 1))), (34, .inr (.inr 1))]
def o_X9_takeBack : List (Nat × Op) := [(0, .inl (a_aload 1 0)), (1, .inl (a_iload 1 1)), (2, .inr (.inl (120, 2))), (5, .inl (a_if1 (fun x => decide (¬ x = 0)) 11)), (8, .inl (a_push 2 (.int (-1000000001)))), (10, .inr (.inr 1)), (11, .inl (a_aload 1 0)), (12, .inl (a_getR 9 9)), (15, .inl (a_iload 1 1)), (16, .inl (a_iald)), (17, .inl (a_push 1 (.int 3))), (18, .inl (a_if2 (fun x y => decide (x = y)) 24)), (21, .inl (a_push 2 (.int (-1000000003)))), (23, .inr (.inr 1)), (24, .inl (a_aload 1 0)), (25, .inr (.inl (145, 1))), (28, .inl (a_aload 1 0)), (29, .inl (a_getR 9 9)), (32, .inl (a_push 2 (.int 7))), (34, .inl (a_iload 1 1)), (35, .inl (a_bin (fun x y => x + y))), (36, .inl (a_iald)), (37, .inl (a_istore 1 2)), (38, .inl (a_aload 1 0)), (39, .inl (a_iload 1 1)), (40, .inl (a_push 1 (.int 0))), (41, .inl (a_push 1 (.int (-1)))), (42, .inr (.inl (146, 4))), (45, .inl (a_iload 1 2)), (46, .inr (.inr 1))]
def o_X9_draw : List (Nat × Op) := [(0, .inl (a_aload 1 0)), (1, .inl (a_aload 1 0)), (2, .inl (a_getI 9 10)), (5, .inl (a_i2l)), (6, .inl (a_push 3 (.long 1103515245))), (9, .inl (a_lbin (fun x y => x * y))), (10, .inl (a_push 3 (.long 12345))), (13, .inl (a_lbin (fun x y => x + y))), (14, .inl (a_push 3 (.long 2147483648))), (17, .inl (a_lrem)), (18, .inl (a_l2i)), (19, .inl (a_putI 9 10)), (22, .inl (a_aload 1 0)), (23, .inl (a_getI 9 10)), (26, .inl (a_push 2 (.int 65536))), (28, .inl (a_div)), (29, .inl (a_iload 1 1)), (30, .inl (a_rem)), (31, .inr (.inr 1))]
def o_X9_chance_1 : List (Nat × Op) := [(0, .inl (a_aload 1 0)), (1, .inl (a_aload 1 0)), (2, .inl (a_getI 9 6)), (5, .inr (.inl (157, 2))), (8, .inl (a_istore 1 1)), (9, .inl (a_aload 1 0)), (10, .inl (a_push 1 (.int 4))), (11, .inr (.inl (157, 2))), (14, .inl (a_istore 1 2)), (15, .inl (a_iload 1 2)), (16, .inl (a_if1 (fun x => decide (¬ x = 0)) 43)), (19, .inl (a_aload 1 0)), (20, .inl (a_getR 9 9)), (23, .inl (a_iload 1 1)), (24, .inl (a_iald)), (25, .inl (a_if1 (fun x => decide (¬ x = 0)) 43)), (28, .inl (a_aload 1 0)), (29, .inl (a_iload 1 1)), (30, .inl (a_push 1 (.int 1))), (31, .inl (a_aload 1 0)), (32, .inl (a_getR 9 7)), (35, .inl (a_iload 1 1)), (36, .inl (a_iald)), (37, .inr (.inl (146, 4))), (40, .inl (a_goto 101)), (43, .inl (a_iload 1 2)), (44, .inl (a_push 1 (.int 1))), (45, .inl (a_if2 (fun x y => decide (¬ x = y)) 64)), (48, .inl (a_aload 1 0)), (49, .inl (a_iload 1 1)), (50, .inr (.inl (151, 2))), (53, .inl (a_if1 (fun x => decide (x = 0)) 64)), (56, .inl (a_aload 1 0)), (57, .inl (a_iload 1 1)), (58, .inr (.inl (152, 2))), (61, .inl (a_goto 101)), (64, .inl (a_iload 1 2)), (65, .inl (a_push 1 (.int 2))), (66, .inl (a_if2 (fun x y => decide (¬ x = y)) 101)), (69, .inl (a_aload 1 0)), (70, .inl (a_getR 9 9)), (73, .inl (a_iload 1 1)), (74, .inl (a_iald)), (75, .inl (a_push 1 (.int 1))), (76, .inl (a_if2 (fun x y => decide (¬ x = y)) 101)), (79, .inl (a_aload 1 0)), (80, .inl (a_iload 1 1)), (81, .inl (a_push 1 (.int 1))), (82, .inl (a_aload 1 0)), (83, .inl (a_getR 9 9)), (86, .inl (a_push 2 (.int 7))), (88, .inl (a_iload 1 1)), (89, .inl (a_bin (fun x y => x + y))), (90, .inl (a_iald)), (91, .inl (a_push 1 (.int 1))), (92, .inl (a_bin (fun x y => x + y))), (93, .inl (a_aload 1 0)), (94, .inl (a_getI 9 2)), (97, .inl (a_rem)), (98, .inr (.inl (146, 4)))]
def o_X9_chance_2 : List (Nat × Op) := [(101, .inl (a_iload 1 2)), (102, .inl (a_push 1 (.int 3))), (103, .inl (a_if2 (fun x y => decide (¬ x = y)) 113)), (106, .inl (a_aload 1 0)), (107, .inr (.inl (154, 1))), (110, .inl (a_goto 114)), (113, .inl (a_push 1 (.int 0))), (114, .inr (.inr 1))]
def o_X9_chance : List (Nat × Op) := o_X9_chance_1 ++ (o_X9_chance_2)
def o_X9_drift : List (Nat × Op) := [(0, .inl (a_iload 1 1)), (1, .inl (a_i2l)), (2, .inl (a_push 1 (.long 1))), (3, .inl (a_push 3 (.long 60))), (6, .inr (.inl (117, 3))), (9, .inl (a_if1 (fun x => decide (¬ x = 0)) 15)), (12, .inl (a_push 2 (.int (-1000000002)))), (14, .inr (.inr 1)), (15, .inl (a_aload 1 0)), (16, .inl (a_getI 9 0)), (19, .inl (a_if1 (fun x => decide (¬ x = 0)) 25)), (22, .inl (a_push 2 (.int (-1000000003)))), (24, .inr (.inr 1)), (25, .inl (a_aload 1 0)), (26, .inl (a_getR 9 9)), (29, .inl (a_push 2 (.int 14))), (31, .inl (a_iald)), (32, .inl (a_push 3 (.int 9000))), (35, .inl (a_if2 (fun x y => decide (x ≤ y)) 41)), (38, .inl (a_push 2 (.int (-1000000004)))), (40, .inr (.inr 1)), (41, .inl (a_aload 1 0)), (42, .inr (.inl (145, 1))), (45, .inl (a_push 1 (.int 0))), (46, .inl (a_istore 1 2)), (47, .inl (a_push 1 (.int 0))), (48, .inl (a_istore 1 3)), (49, .inl (a_iload 1 3)), (50, .inl (a_iload 1 1)), (51, .inl (a_if2 (fun x y => decide (y ≤ x)) 74)), (54, .inl (a_aload 1 0)), (55, .inl (a_getI 9 6)), (58, .inl (a_if1 (fun x => decide (x ≤ 0)) 74)), (61, .inl (a_iload 1 2)), (62, .inl (a_aload 1 0)), (63, .inr (.inl (158, 1))), (66, .inl (a_bin (fun x y => x ||| y))), (67, .inl (a_istore 1 2)), (68, .inl (a_iinc 3 1)), (71, .inl (a_goto 49)), (74, .inl (a_aload 1 0)), (75, .inl (a_getR 9 9)), (78, .inl (a_push 2 (.int 14))), (80, .inl (a_iald)), (81, .inr (.inr 1))]
def o_X9_undo : List (Nat × Op) := [(0, .inl (a_aload 1 0)), (1, .inl (a_getI 9 26)), (4, .inl (a_if1 (fun x => decide (¬ x = 0)) 10)), (7, .inl (a_push 2 (.int (-1000000003)))), (9, .inr (.inr 1)), (10, .inl (a_aload 1 0)), (11, .inl (a_dup)), (12, .inl (a_getI 9 26)), (15, .inl (a_push 1 (.int 1))), (16, .inl (a_bin (fun x y => x - y))), (17, .inl (a_putI 9 26)), (20, .inl (a_push 1 (.int 0))), (21, .inl (a_istore 1 1)), (22, .inl (a_iload 1 1)), (23, .inl (a_push 2 (.int 22))), (25, .inl (a_if2 (fun x y => decide (y ≤ x)) 54)), (28, .inl (a_aload 1 0)), (29, .inl (a_getR 9 9)), (32, .inl (a_iload 1 1)), (33, .inl (a_aload 1 0)), (34, .inl (a_getR 9 27)), (37, .inl (a_push 2 (.int 22))), (39, .inl (a_aload 1 0)), (40, .inl (a_getI 9 26)), (43, .inl (a_bin (fun x y => x * y))), (44, .inl (a_iload 1 1)), (45, .inl (a_bin (fun x y => x + y))), (46, .inl (a_iald)), (47, .inl (a_iast)), (48, .inl (a_iinc 1 1)), (51, .inl (a_goto 22)), (54, .inl (a_aload 1 0)), (55, .inl (a_getI 9 26)), (58, .inr (.inr 1))]
def o_X9_waysToGive : List (Nat × Op) := [(0, .inl (a_push 1 (.int 1))), (1, .inl (a_istore 1 1)), (2, .inl (a_push 1 (.int 0))), (3, .inl (a_istore 1 2)), (4, .inl (a_iload 1 2)), (5, .inl (a_aload 1 0)), (6, .inl (a_getI 9 6)), (9, .inl (a_if2 (fun x y => decide (y ≤ x)) 39)), (12, .inl (a_iload 1 1)), (13, .inl (a_aload 1 0)), (14, .inl (a_getR 9 9)), (17, .inl (a_iload 1 2)), (18, .inl (a_iald)), (19, .inl (a_push 1 (.int 1))), (20, .inl (a_if2 (fun x y => decide (¬ x = y)) 30)), (23, .inl (a_aload 1 0)), (24, .inl (a_getI 9 2)), (27, .inl (a_goto 31)), (30, .inl (a_push 1 (.int 1))), (31, .inl (a_bin (fun x y => x * y))), (32, .inl (a_istore 1 1)), (33, .inl (a_iinc 2 1)), (36, .inl (a_goto 4)), (39, .inl (a_iload 1 1)), (40, .inr (.inr 1))]
def o_X9_giveBy_1 : List (Nat × Op) := [(0, .inl (a_iload 1 1)), (1, .inl (a_istore 1 2)), (2, .inl (a_push 1 (.int 0))), (3, .inl (a_istore 1 3)), (4, .inl (a_push 1 (.int 0))), (5, .inl (a_istore 2 4)), (7, .inl (a_iload 2 4)), (9, .inl (a_push 1 (.int 5))), (10, .inl (a_if2 (fun x y => decide (y ≤ x)) 27)), (13, .inl (a_aload 1 0)), (14, .inl (a_getR 9 30)), (17, .inl (a_iload 2 4)), (19, .inl (a_push 1 (.int 0))), (20, .inl (a_iast)), (21, .inl (a_iinc 4 1)), (24, .inl (a_goto 7)), (27, .inl (a_aload 1 0)), (28, .inl (a_getI 9 6)), (31, .inl (a_push 1 (.int 1))), (32, .inl (a_bin (fun x y => x - y))), (33, .inl (a_istore 2 4)), (35, .inl (a_iload 2 4)), (37, .inl (a_if1 (fun x => decide (x < 0)) 135)), (40, .inl (a_aload 1 0)), (41, .inl (a_getR 9 28)), (44, .inl (a_iload 2 4)), (46, .inl (a_push 1 (.int (-1)))), (47, .inl (a_iast)), (48, .inl (a_aload 1 0)), (49, .inl (a_getR 9 9)), (52, .inl (a_iload 2 4)), (54, .inl (a_iald)), (55, .inl (a_push 1 (.int 1))), (56, .inl (a_if2 (fun x y => decide (¬ x = y)) 129)), (59, .inl (a_aload 1 0)), (60, .inl (a_getR 9 28)), (63, .inl (a_iload 2 4)), (65, .inl (a_iload 1 2)), (66, .inl (a_aload 1 0)), (67, .inl (a_getI 9 2)), (70, .inl (a_rem)), (71, .inl (a_iast)), (72, .inl (a_iload 1 2)), (73, .inl (a_aload 1 0)), (74, .inl (a_getI 9 2)), (77, .inl (a_div)), (78, .inl (a_istore 1 2)), (79, .inl (a_aload 1 0)), (80, .inl (a_getR 9 30)), (83, .inl (a_aload 1 0)), (84, .inl (a_getR 9 28)), (87, .inl (a_iload 2 4)), (89, .inl (a_iald)), (90, .inl (a_dup2)), (91, .inl (a_iald)), (92, .inl (a_aload 1 0)), (93, .inl (a_getR 9 8)), (96, .inl (a_iload 2 4)), (98, .inl (a_iald)), (99, .inl (a_bin (fun x y => x + y)))]
def o_X9_giveBy_2 : List (Nat × Op) := [(100, .inl (a_iast)), (101, .inl (a_iload 1 3)), (102, .inl (a_aload 1 0)), (103, .inl (a_getR 9 28)), (106, .inl (a_iload 2 4)), (108, .inl (a_iald)), (109, .inl (a_aload 1 0)), (110, .inl (a_getR 9 9)), (113, .inl (a_push 2 (.int 7))), (115, .inl (a_iload 2 4)), (117, .inl (a_bin (fun x y => x + y))), (118, .inl (a_iald)), (119, .inl (a_if2 (fun x y => decide (¬ x = y)) 126)), (122, .inl (a_push 1 (.int 0))), (123, .inl (a_goto 127)), (126, .inl (a_push 1 (.int 1))), (127, .inl (a_bin (fun x y => x + y))), (128, .inl (a_istore 1 3)), (129, .inl (a_iinc 4 (-1))), (132, .inl (a_goto 35)), (135, .inl (a_iload 1 3)), (136, .inr (.inr 1))]
def o_X9_giveBy : List (Nat × Op) := o_X9_giveBy_1 ++ (o_X9_giveBy_2)
def o_X9_isBorne : List (Nat × Op) := [(0, .inl (a_push 1 (.int 1))), (1, .inl (a_istore 1 1)), (2, .inl (a_push 1 (.int 0))), (3, .inl (a_istore 1 2)), (4, .inl (a_iload 1 2)), (5, .inl (a_aload 1 0)), (6, .inl (a_getI 9 2)), (9, .inl (a_if2 (fun x y => decide (y ≤ x)) 43)), (12, .inl (a_iload 1 1)), (13, .inl (a_if1 (fun x => decide (x = 0)) 35)), (16, .inl (a_aload 1 0)), (17, .inl (a_getR 9 30)), (20, .inl (a_iload 1 2)), (21, .inl (a_iald)), (22, .inl (a_aload 1 0)), (23, .inl (a_getR 9 3)), (26, .inl (a_iload 1 2)), (27, .inl (a_iald)), (28, .inl (a_if2 (fun x y => decide (y < x)) 35)), (31, .inl (a_push 1 (.int 1))), (32, .inl (a_goto 36)), (35, .inl (a_push 1 (.int 0))), (36, .inl (a_istore 1 1)), (37, .inl (a_iinc 2 1)), (40, .inl (a_goto 4)), (43, .inl (a_iload 1 1)), (44, .inr (.inr 2))]
def o_X9_greatest : List (Nat × Op) := [(0, .inl (a_push 1 (.int 0))), (1, .inl (a_istore 1 1)), (2, .inl (a_push 1 (.int 0))), (3, .inl (a_istore 1 2)), (4, .inl (a_iload 1 2)), (5, .inl (a_aload 1 0)), (6, .inl (a_getI 9 2)), (9, .inl (a_if2 (fun x y => decide (y ≤ x)) 39)), (12, .inl (a_aload 1 0)), (13, .inl (a_getR 9 30)), (16, .inl (a_iload 1 2)), (17, .inl (a_iald)), (18, .inl (a_iload 1 1)), (19, .inl (a_if2 (fun x y => decide (x ≤ y)) 31)), (22, .inl (a_aload 1 0)), (23, .inl (a_getR 9 30)), (26, .inl (a_iload 1 2)), (27, .inl (a_iald)), (28, .inl (a_goto 32)), (31, .inl (a_iload 1 1)), (32, .inl (a_istore 1 1)), (33, .inl (a_iinc 2 1)), (36, .inl (a_goto 4)), (39, .inl (a_iload 1 1)), (40, .inr (.inr 1))]
def o_X9_keepGiven : List (Nat × Op) := [(0, .inl (a_push 1 (.int 0))), (1, .inl (a_istore 1 1)), (2, .inl (a_iload 1 1)), (3, .inl (a_aload 1 0)), (4, .inl (a_getI 9 6)), (7, .inl (a_if2 (fun x y => decide (y ≤ x)) 28)), (10, .inl (a_aload 1 0)), (11, .inl (a_getR 9 29)), (14, .inl (a_iload 1 1)), (15, .inl (a_aload 1 0)), (16, .inl (a_getR 9 28)), (19, .inl (a_iload 1 1)), (20, .inl (a_iald)), (21, .inl (a_iast)), (22, .inl (a_iinc 1 1)), (25, .inl (a_goto 2)), (28, .inr (.inr 0))]
def o_X9_loads : List (Nat × Op) := [(0, .inl (a_iload 1 1)), (1, .inl (a_push 1 (.int (-1)))), (2, .inl (a_if2 (fun x y => decide (x = y)) 16)), (5, .inl (a_aload 1 0)), (6, .inl (a_iload 1 1)), (7, .inr (.inl (120, 2))), (10, .inl (a_if1 (fun x => decide (¬ x = 0)) 16)), (13, .inl (a_push 2 (.int (-1000000001)))), (15, .inr (.inr 1)), (16, .inl (a_push 2 (.int 100000))), (18, .inl (a_istore 1 2)), (19, .inl (a_push 1 (.int 0))), (20, .inl (a_istore 1 3)), (21, .inl (a_iload 1 3)), (22, .inl (a_aload 1 0)), (23, .inr (.inl (161, 1))), (26, .inl (a_if2 (fun x y => decide (y ≤ x)) 62)), (29, .inl (a_aload 1 0)), (30, .inl (a_iload 1 3)), (31, .inr (.inl (162, 2))), (34, .inl (a_istore 2 4)), (36, .inl (a_iload 2 4)), (38, .inl (a_iload 1 2)), (39, .inl (a_if2 (fun x y => decide (y ≤ x)) 56)), (42, .inl (a_aload 1 0)), (43, .inr (.inl (163, 1))), (46, .inl (a_if1 (fun x => decide (x = 0)) 56)), (49, .inl (a_iload 2 4)), (51, .inl (a_istore 1 2)), (52, .inl (a_aload 1 0)), (53, .inr (.inl (165, 1))), (56, .inl (a_iinc 3 1)), (59, .inl (a_goto 21)), (62, .inl (a_iload 1 2)), (63, .inl (a_push 2 (.int 100000))), (65, .inl (a_if2 (fun x y => decide (¬ x = y)) 72)), (68, .inl (a_push 1 (.int (-1)))), (69, .inl (a_goto 87)), (72, .inl (a_iload 1 1)), (73, .inl (a_push 1 (.int (-1)))), (74, .inl (a_if2 (fun x y => decide (¬ x = y)) 81)), (77, .inl (a_iload 1 2)), (78, .inl (a_goto 87)), (81, .inl (a_aload 1 0)), (82, .inl (a_getR 9 29)), (85, .inl (a_iload 1 1)), (86, .inl (a_iald)), (87, .inr (.inr 1))]
def o_X9_fair : List (Nat × Op) := [(0, .inl (a_iload 1 1)), (1, .inl (a_push 1 (.int (-1)))), (2, .inl (a_if2 (fun x y => decide (x = y)) 16)), (5, .inl (a_aload 1 0)), (6, .inl (a_iload 1 1)), (7, .inr (.inl (120, 2))), (10, .inl (a_if1 (fun x => decide (¬ x = 0)) 16)), (13, .inl (a_push 2 (.int (-1000000001)))), (15, .inr (.inr 1)), (16, .inl (a_aload 1 0)), (17, .inl (a_getI 9 2)), (20, .inl (a_if1 (fun x => decide (¬ x = 0)) 25)), (23, .inl (a_push 1 (.int (-1)))), (24, .inr (.inr 1)), (25, .inl (a_push 2 (.int 100000))), (27, .inl (a_istore 1 2)), (28, .inl (a_push 1 (.int 0))), (29, .inl (a_istore 1 3)), (30, .inl (a_iload 1 3)), (31, .inl (a_aload 1 0)), (32, .inr (.inl (161, 1))), (35, .inl (a_if2 (fun x y => decide (y ≤ x)) 73)), (38, .inl (a_aload 1 0)), (39, .inl (a_iload 1 3)), (40, .inr (.inl (162, 2))), (43, .inl (a_istore 2 4)), (45, .inl (a_iload 2 4)), (47, .inl (a_if1 (fun x => decide (x < 0)) 67)), (50, .inl (a_aload 1 0)), (51, .inr (.inl (164, 1))), (54, .inl (a_iload 1 2)), (55, .inl (a_if2 (fun x y => decide (y ≤ x)) 67)), (58, .inl (a_aload 1 0)), (59, .inr (.inl (164, 1))), (62, .inl (a_istore 1 2)), (63, .inl (a_aload 1 0)), (64, .inr (.inl (165, 1))), (67, .inl (a_iinc 3 1)), (70, .inl (a_goto 30)), (73, .inl (a_iload 1 1)), (74, .inl (a_push 1 (.int (-1)))), (75, .inl (a_if2 (fun x y => decide (¬ x = y)) 82)), (78, .inl (a_iload 1 2)), (79, .inl (a_goto 88)), (82, .inl (a_aload 1 0)), (83, .inl (a_getR 9 29)), (86, .inl (a_iload 1 1)), (87, .inl (a_iald)), (88, .inr (.inr 1))]
def o_X9_isLighter_1 : List (Nat × Op) := [(0, .inl (a_aload 1 0)), (1, .inl (a_iload 1 1)), (2, .inl (a_iload 1 2)), (3, .inr (.inl (149, 3))), (6, .inl (a_if1 (fun x => decide (¬ x = 0)) 11)), (9, .inl (a_push 1 (.int 0))), (10, .inr (.inr 2)), (11, .inl (a_aload 1 0)), (12, .inl (a_getR 9 9)), (15, .inl (a_push 2 (.int 7))), (17, .inl (a_iload 1 1)), (18, .inl (a_bin (fun x y => x + y))), (19, .inl (a_iald)), (20, .inl (a_istore 1 3)), (21, .inl (a_aload 1 0)), (22, .inl (a_getR 9 9)), (25, .inl (a_push 2 (.int 7))), (27, .inl (a_iload 1 2)), (28, .inl (a_bin (fun x y => x + y))), (29, .inl (a_iald)), (30, .inl (a_istore 2 4)), (32, .inl (a_aload 1 0)), (33, .inl (a_iload 1 3)), (34, .inr (.inl (136, 2))), (37, .inl (a_aload 1 0)), (38, .inl (a_getR 9 3)), (41, .inl (a_iload 1 3)), (42, .inl (a_iald)), (43, .inl (a_if2 (fun x y => decide (y < x)) 62)), (46, .inl (a_aload 1 0)), (47, .inl (a_iload 2 4)), (49, .inr (.inl (136, 2))), (52, .inl (a_aload 1 0)), (53, .inl (a_getR 9 3)), (56, .inl (a_iload 2 4)), (58, .inl (a_iald)), (59, .inl (a_if2 (fun x y => decide (x ≤ y)) 66)), (62, .inl (a_push 1 (.int 1))), (63, .inl (a_goto 67)), (66, .inl (a_push 1 (.int 0))), (67, .inl (a_istore 2 5)), (69, .inl (a_aload 1 0)), (70, .inl (a_iload 1 3)), (71, .inr (.inl (136, 2))), (74, .inl (a_aload 1 0)), (75, .inl (a_getR 9 8)), (78, .inl (a_iload 1 1)), (79, .inl (a_iald)), (80, .inl (a_bin (fun x y => x - y))), (81, .inl (a_aload 1 0)), (82, .inl (a_getR 9 8)), (85, .inl (a_iload 1 2)), (86, .inl (a_iald)), (87, .inl (a_bin (fun x y => x + y))), (88, .inl (a_aload 1 0)), (89, .inl (a_getR 9 3)), (92, .inl (a_iload 1 3)), (93, .inl (a_iald)), (94, .inl (a_if2 (fun x y => decide (y < x)) 127)), (97, .inl (a_aload 1 0))]
def o_X9_isLighter_2 : List (Nat × Op) := [(98, .inl (a_iload 2 4)), (100, .inr (.inl (136, 2))), (103, .inl (a_aload 1 0)), (104, .inl (a_getR 9 8)), (107, .inl (a_iload 1 2)), (108, .inl (a_iald)), (109, .inl (a_bin (fun x y => x - y))), (110, .inl (a_aload 1 0)), (111, .inl (a_getR 9 8)), (114, .inl (a_iload 1 1)), (115, .inl (a_iald)), (116, .inl (a_bin (fun x y => x + y))), (117, .inl (a_aload 1 0)), (118, .inl (a_getR 9 3)), (121, .inl (a_iload 2 4)), (123, .inl (a_iald)), (124, .inl (a_if2 (fun x y => decide (x ≤ y)) 131)), (127, .inl (a_push 1 (.int 1))), (128, .inl (a_goto 132)), (131, .inl (a_push 1 (.int 0))), (132, .inl (a_istore 2 6)), (134, .inl (a_iload 2 5)), (136, .inl (a_if1 (fun x => decide (x = 0)) 148)), (139, .inl (a_iload 2 6)), (141, .inl (a_if1 (fun x => decide (¬ x = 0)) 148)), (144, .inl (a_push 1 (.int 1))), (145, .inl (a_goto 149)), (148, .inl (a_push 1 (.int 0))), (149, .inr (.inr 2))]
def o_X9_isLighter : List (Nat × Op) := o_X9_isLighter_1 ++ (o_X9_isLighter_2)
def o_X9_lighter : List (Nat × Op) := [(0, .inl (a_push 1 (.int 0))), (1, .inl (a_istore 1 2)), (2, .inl (a_push 1 (.int 0))), (3, .inl (a_istore 1 3)), (4, .inl (a_iload 1 3)), (5, .inl (a_push 2 (.int 49))), (7, .inl (a_if2 (fun x y => decide (y ≤ x)) 72)), (10, .inl (a_iload 1 3)), (11, .inl (a_push 2 (.int 7))), (13, .inl (a_div)), (14, .inl (a_istore 2 4)), (16, .inl (a_iload 1 3)), (17, .inl (a_push 2 (.int 7))), (19, .inl (a_rem)), (20, .inl (a_istore 2 5)), (22, .inl (a_iload 2 4)), (24, .inl (a_iload 2 5)), (26, .inl (a_if2 (fun x y => decide (y ≤ x)) 66)), (29, .inl (a_iload 2 5)), (31, .inl (a_aload 1 0)), (32, .inl (a_getI 9 6)), (35, .inl (a_if2 (fun x y => decide (y ≤ x)) 66)), (38, .inl (a_aload 1 0)), (39, .inl (a_iload 2 4)), (41, .inl (a_iload 2 5)), (43, .inr (.inl (168, 3))), (46, .inl (a_if1 (fun x => decide (x = 0)) 66)), (49, .inl (a_iload 1 2)), (50, .inl (a_iload 1 1)), (51, .inl (a_if2 (fun x y => decide (¬ x = y)) 63)), (54, .inl (a_push 2 (.int 10))), (56, .inl (a_iload 2 4)), (58, .inl (a_bin (fun x y => x * y))), (59, .inl (a_iload 2 5)), (61, .inl (a_bin (fun x y => x + y))), (62, .inr (.inr 1)), (63, .inl (a_iinc 2 1)), (66, .inl (a_iinc 3 1)), (69, .inl (a_goto 4)), (72, .inl (a_iload 1 1)), (73, .inl (a_push 1 (.int (-1)))), (74, .inl (a_if2 (fun x y => decide (¬ x = y)) 81)), (77, .inl (a_iload 1 2)), (78, .inl (a_goto 82)), (81, .inl (a_push 1 (.int (-1)))), (82, .inr (.inr 1))]
def o_X9_weightOf : List (Nat × Op) := [(0, .inl (a_push 1 (.int 0))), (1, .inl (a_istore 1 2)), (2, .inl (a_push 1 (.int 0))), (3, .inl (a_istore 1 3)), (4, .inl (a_iload 1 3)), (5, .inl (a_aload 1 0)), (6, .inl (a_getI 9 6)), (9, .inl (a_if2 (fun x y => decide (y ≤ x)) 39)), (12, .inl (a_iload 1 2)), (13, .inl (a_iload 1 1)), (14, .inl (a_iload 1 3)), (15, .inr (.inl (118, 2))), (18, .inl (a_if1 (fun x => decide (x = 0)) 30)), (21, .inl (a_aload 1 0)), (22, .inl (a_getR 9 8)), (25, .inl (a_iload 1 3)), (26, .inl (a_iald)), (27, .inl (a_goto 31)), (30, .inl (a_push 1 (.int 0))), (31, .inl (a_bin (fun x y => x + y))), (32, .inl (a_istore 1 2)), (33, .inl (a_iinc 3 1)), (36, .inl (a_goto 4)), (39, .inl (a_iload 1 2)), (40, .inr (.inr 1))]
def o_X9_lookFor : List (Nat × Op) := [(0, .inl (a_push 1 (.int (-1)))), (1, .inl (a_istore 1 2)), (2, .inl (a_iload 1 1)), (3, .inl (a_istore 1 3)), (4, .inl (a_push 1 (.int 0))), (5, .inl (a_istore 2 4)), (7, .inl (a_iload 2 4)), (9, .inl (a_aload 1 0)), (10, .inl (a_getI 9 6)), (13, .inl (a_if2 (fun x y => decide (y ≤ x)) 88)), (16, .inl (a_aload 1 0)), (17, .inl (a_getR 9 31)), (20, .inl (a_iload 2 4)), (22, .inl (a_iald)), (23, .inl (a_iload 1 1)), (24, .inl (a_aload 1 0)), (25, .inl (a_getR 9 31)), (28, .inl (a_iload 2 4)), (30, .inl (a_iald)), (31, .inl (a_bin (fun x y => x - y))), (32, .inl (a_if2 (fun x y => decide (x ≤ y)) 45)), (35, .inl (a_aload 1 0)), (36, .inl (a_getR 9 31)), (39, .inl (a_iload 2 4)), (41, .inl (a_iald)), (42, .inl (a_goto 54)), (45, .inl (a_iload 1 1)), (46, .inl (a_aload 1 0)), (47, .inl (a_getR 9 31)), (50, .inl (a_iload 2 4)), (52, .inl (a_iald)), (53, .inl (a_bin (fun x y => x - y))), (54, .inl (a_istore 2 5)), (56, .inl (a_iload 2 5)), (58, .inl (a_iload 1 3)), (59, .inl (a_if2 (fun x y => decide (y ≤ x)) 67)), (62, .inl (a_iload 2 4)), (64, .inl (a_goto 68)), (67, .inl (a_iload 1 2)), (68, .inl (a_istore 1 2)), (69, .inl (a_iload 2 5)), (71, .inl (a_iload 1 3)), (72, .inl (a_if2 (fun x y => decide (y ≤ x)) 80)), (75, .inl (a_iload 2 5)), (77, .inl (a_goto 81)), (80, .inl (a_iload 1 3)), (81, .inl (a_istore 1 3)), (82, .inl (a_iinc 4 1)), (85, .inl (a_goto 7)), (88, .inl (a_iload 1 2)), (89, .inr (.inr 1))]
def o_X9_weighs_1 : List (Nat × Op) := [(0, .inl (a_iload 1 1)), (1, .inl (a_i2l)), (2, .inl (a_push 1 (.long 0))), (3, .inl (a_push 3 (.long 999))), (6, .inr (.inl (117, 3))), (9, .inl (a_if1 (fun x => decide (x = 0)) 24)), (12, .inl (a_iload 1 2)), (13, .inl (a_i2l)), (14, .inl (a_push 1 (.long 0))), (15, .inl (a_push 3 (.long 3))), (18, .inr (.inl (117, 3))), (21, .inl (a_if1 (fun x => decide (¬ x = 0)) 27)), (24, .inl (a_push 2 (.int (-1000000002)))), (26, .inr (.inr 1)), (27, .inl (a_push 1 (.int 0))), (28, .inl (a_istore 1 3)), (29, .inl (a_push 1 (.int (-1)))), (30, .inl (a_istore 2 4)), (32, .inl (a_push 1 (.int 1))), (33, .inl (a_aload 1 0)), (34, .inl (a_getI 9 6)), (37, .inl (a_bin (fun x y => x <<< (y &&& 31)))), (38, .inl (a_push 1 (.int 1))), (39, .inl (a_bin (fun x y => x - y))), (40, .inl (a_istore 2 5)), (42, .inl (a_push 1 (.int 0))), (43, .inl (a_istore 2 6)), (45, .inl (a_iload 2 6)), (47, .inl (a_push 2 (.int 7))), (49, .inl (a_if2 (fun x y => decide (y ≤ x)) 66)), (52, .inl (a_aload 1 0)), (53, .inl (a_getR 9 31)), (56, .inl (a_iload 2 6)), (58, .inl (a_push 1 (.int 0))), (59, .inl (a_iast)), (60, .inl (a_iinc 6 1)), (63, .inl (a_goto 45)), (66, .inl (a_push 1 (.int 0))), (67, .inl (a_istore 2 6)), (69, .inl (a_iload 2 6)), (71, .inl (a_push 1 (.int 1))), (72, .inl (a_aload 1 0)), (73, .inl (a_getI 9 6)), (76, .inl (a_bin (fun x y => x <<< (y &&& 31)))), (77, .inl (a_if2 (fun x y => decide (y ≤ x)) 154)), (80, .inl (a_aload 1 0)), (81, .inl (a_iload 2 6)), (83, .inr (.inl (170, 2))), (86, .inl (a_iload 1 1)), (87, .inl (a_if2 (fun x y => decide (¬ x = y)) 148)), (90, .inl (a_iload 1 3)), (91, .inl (a_if1 (fun x => decide (¬ x = 0)) 99)), (94, .inl (a_iload 2 6)), (96, .inl (a_goto 101)), (99, .inl (a_iload 2 4)), (101, .inl (a_istore 2 4)), (103, .inl (a_iload 2 5)), (105, .inl (a_iload 2 6)), (107, .inl (a_bin (fun x y => x &&& y))), (108, .inl (a_istore 2 5))]
def o_X9_weighs_2 : List (Nat × Op) := [(110, .inl (a_iinc 3 1)), (113, .inl (a_push 1 (.int 0))), (114, .inl (a_istore 2 7)), (116, .inl (a_iload 2 7)), (118, .inl (a_aload 1 0)), (119, .inl (a_getI 9 6)), (122, .inl (a_if2 (fun x y => decide (y ≤ x)) 148)), (125, .inl (a_aload 1 0)), (126, .inl (a_getR 9 31)), (129, .inl (a_iload 2 7)), (131, .inl (a_dup2)), (132, .inl (a_iald)), (133, .inl (a_iload 2 6)), (135, .inl (a_iload 2 7)), (137, .inl (a_bin (fun x y => x >>> (y &&& 31)))), (138, .inl (a_push 1 (.int 1))), (139, .inl (a_bin (fun x y => x &&& y))), (140, .inl (a_bin (fun x y => x + y))), (141, .inl (a_iast)), (142, .inl (a_iinc 7 1)), (145, .inl (a_goto 116)), (148, .inl (a_iinc 6 1)), (151, .inl (a_goto 69)), (154, .inl (a_iload 1 2)), (155, .inl (a_push 1 (.int 3))), (156, .inl (a_if2 (fun x y => decide (¬ x = y)) 165)), (159, .inl (a_aload 1 0)), (160, .inl (a_iload 1 3)), (161, .inr (.inl (171, 2))), (164, .inr (.inr 1)), (165, .inl (a_iload 1 2)), (166, .inl (a_if1 (fun x => decide (¬ x = 0)) 173)), (169, .inl (a_iload 1 3)), (170, .inl (a_goto 193)), (173, .inl (a_iload 1 2)), (174, .inl (a_push 1 (.int 1))), (175, .inl (a_if2 (fun x y => decide (¬ x = y)) 183)), (178, .inl (a_iload 2 4)), (180, .inl (a_goto 193)), (183, .inl (a_iload 1 3)), (184, .inl (a_if1 (fun x => decide (¬ x = 0)) 191)), (187, .inl (a_push 1 (.int 0))), (188, .inl (a_goto 193)), (191, .inl (a_iload 2 5)), (193, .inr (.inr 1))]
def o_X9_weighs : List (Nat × Op) := o_X9_weighs_1 ++ (o_X9_weighs_2)
def o_X9_firstOf : List (Nat × Op) := [(0, .inl (a_iload 1 1)), (1, .inl (a_istore 1 2)), (2, .inl (a_aload 1 0)), (3, .inl (a_getR 9 5)), (6, .inl (a_iload 1 2)), (7, .inl (a_iald)), (8, .inl (a_push 1 (.int (-1)))), (9, .inl (a_if2 (fun x y => decide (x = y)) 22)), (12, .inl (a_aload 1 0)), (13, .inl (a_getR 9 5)), (16, .inl (a_iload 1 2)), (17, .inl (a_iald)), (18, .inl (a_istore 1 2)), (19, .inl (a_goto 2)), (22, .inl (a_iload 1 2)), (23, .inr (.inr 1))]
def o_X9_handed : List (Nat × Op) := [(0, .inl (a_aload 1 0)), (1, .inl (a_iload 1 1)), (2, .inr (.inl (119, 2))), (5, .inl (a_if1 (fun x => decide (¬ x = 0)) 11)), (8, .inl (a_push 2 (.int (-1000000001)))), (10, .inr (.inr 1)), (11, .inl (a_iload 1 2)), (12, .inl (a_i2l)), (13, .inl (a_push 1 (.long 0))), (14, .inl (a_push 1 (.long 1))), (15, .inr (.inl (117, 3))), (18, .inl (a_if1 (fun x => decide (¬ x = 0)) 24)), (21, .inl (a_push 2 (.int (-1000000002)))), (23, .inr (.inr 1)), (24, .inl (a_push 1 (.int 0))), (25, .inl (a_istore 1 3)), (26, .inl (a_push 1 (.int 0))), (27, .inl (a_istore 2 4)), (29, .inl (a_iload 2 4)), (31, .inl (a_aload 1 0)), (32, .inl (a_getI 9 2)), (35, .inl (a_if2 (fun x y => decide (y ≤ x)) 69)), (38, .inl (a_iload 1 3)), (39, .inl (a_aload 1 0)), (40, .inl (a_iload 2 4)), (42, .inr (.inl (173, 2))), (45, .inl (a_aload 1 0)), (46, .inl (a_iload 1 1)), (47, .inr (.inl (173, 2))), (50, .inl (a_if2 (fun x y => decide (¬ x = y)) 60)), (53, .inl (a_push 1 (.int 1))), (54, .inl (a_iload 2 4)), (56, .inl (a_bin (fun x y => x <<< (y &&& 31)))), (57, .inl (a_goto 61)), (60, .inl (a_push 1 (.int 0))), (61, .inl (a_bin (fun x y => x ||| y))), (62, .inl (a_istore 1 3)), (63, .inl (a_iinc 4 1)), (66, .inl (a_goto 29)), (69, .inl (a_iload 1 2)), (70, .inl (a_if1 (fun x => decide (¬ x = 0)) 81)), (73, .inl (a_aload 1 0)), (74, .inl (a_iload 1 1)), (75, .inr (.inl (173, 2))), (78, .inl (a_goto 82)), (81, .inl (a_iload 1 3)), (82, .inr (.inr 1))]
def o_X9_light : List (Nat × Op) := [(0, .inl (a_iload 1 1)), (1, .inl (a_i2l)), (2, .inl (a_push 1 (.long 0))), (3, .inl (a_push 3 (.long 60))), (6, .inr (.inl (117, 3))), (9, .inl (a_if1 (fun x => decide (x = 0)) 24)), (12, .inl (a_iload 1 2)), (13, .inl (a_i2l)), (14, .inl (a_push 1 (.long 0))), (15, .inl (a_push 3 (.long 100))), (18, .inr (.inl (117, 3))), (21, .inl (a_if1 (fun x => decide (¬ x = 0)) 27)), (24, .inl (a_push 2 (.int (-1000000002)))), (26, .inr (.inr 1)), (27, .inl (a_push 3 (.long 1000000000))), (30, .inl (a_lstore 1 3)), (31, .inl (a_push 1 (.int 0))), (32, .inl (a_istore 2 5)), (34, .inl (a_iload 2 5)), (36, .inl (a_iload 1 1)), (37, .inl (a_if2 (fun x y => decide (y ≤ x)) 55)), (40, .inl (a_lload 1 3)), (41, .inl (a_iload 1 2)), (42, .inl (a_i2l)), (43, .inl (a_lbin (fun x y => x * y))), (44, .inl (a_push 3 (.long 100))), (47, .inl (a_ldiv)), (48, .inl (a_lstore 1 3)), (49, .inl (a_iinc 5 1)), (52, .inl (a_goto 34)), (55, .inl (a_lload 1 3)), (56, .inl (a_l2i)), (57, .inr (.inr 1))]
def o_X9_see : List (Nat × Op) := [(0, .inl (a_aload 1 0)), (1, .inl (a_iload 1 1)), (2, .inr (.inl (119, 2))), (5, .inl (a_if1 (fun x => decide (x = 0)) 16)), (8, .inl (a_aload 1 0)), (9, .inl (a_iload 1 2)), (10, .inr (.inl (119, 2))), (13, .inl (a_if1 (fun x => decide (¬ x = 0)) 19)), (16, .inl (a_push 2 (.int (-1000000001)))), (18, .inr (.inr 1)), (19, .inl (a_aload 1 0)), (20, .inl (a_getI 9 32)), (23, .inl (a_push 2 (.int 6))), (25, .inl (a_if2 (fun x y => decide (¬ x = y)) 31)), (28, .inl (a_push 2 (.int (-1000000004)))), (30, .inr (.inr 1)), (31, .inl (a_aload 1 0)), (32, .inl (a_getR 9 33)), (35, .inl (a_aload 1 0)), (36, .inl (a_getI 9 32)), (39, .inl (a_iload 1 1)), (40, .inl (a_iast)), (41, .inl (a_aload 1 0)), (42, .inl (a_getR 9 34)), (45, .inl (a_aload 1 0)), (46, .inl (a_getI 9 32)), (49, .inl (a_iload 1 2)), (50, .inl (a_iast)), (51, .inl (a_aload 1 0)), (52, .inl (a_getR 9 35)), (55, .inl (a_aload 1 0)), (56, .inl (a_getI 9 32)), (59, .inl (a_iload 1 3)), (60, .inl (a_bast)), (61, .inl (a_aload 1 0)), (62, .inl (a_dup)), (63, .inl (a_getI 9 32)), (66, .inl (a_push 1 (.int 1))), (67, .inl (a_bin (fun x y => x + y))), (68, .inl (a_putI 9 32)), (71, .inl (a_aload 1 0)), (72, .inl (a_getI 9 32)), (75, .inr (.inr 1))]
def o_X9_lies : List (Nat × Op) := [(0, .inl (a_push 1 (.int 0))), (1, .inl (a_istore 1 3)), (2, .inl (a_push 1 (.int 0))), (3, .inl (a_istore 2 4)), (5, .inl (a_iload 2 4)), (7, .inl (a_aload 1 0)), (8, .inl (a_getI 9 6)), (11, .inl (a_if2 (fun x y => decide (y ≤ x)) 52)), (14, .inl (a_iload 1 3)), (15, .inl (a_if1 (fun x => decide (¬ x = 0)) 40)), (18, .inl (a_aload 1 0)), (19, .inl (a_iload 2 4)), (21, .inl (a_push 1 (.int 3))), (22, .inl (a_iload 1 1)), (23, .inr (.inl (134, 4))), (26, .inl (a_if1 (fun x => decide (x = 0)) 44)), (29, .inl (a_aload 1 0)), (30, .inl (a_getR 9 7)), (33, .inl (a_iload 2 4)), (35, .inl (a_iald)), (36, .inl (a_iload 1 2)), (37, .inl (a_if2 (fun x y => decide (¬ x = y)) 44)), (40, .inl (a_push 1 (.int 1))), (41, .inl (a_goto 45)), (44, .inl (a_push 1 (.int 0))), (45, .inl (a_istore 1 3)), (46, .inl (a_iinc 4 1)), (49, .inl (a_goto 5)), (52, .inl (a_iload 1 3)), (53, .inr (.inr 2))]
def o_X9_hold : List (Nat × Op) := [(0, .inl (a_push 1 (.int 1))), (1, .inl (a_istore 1 1)), (2, .inl (a_push 1 (.int 0))), (3, .inl (a_istore 1 2)), (4, .inl (a_iload 1 2)), (5, .inl (a_aload 1 0)), (6, .inl (a_getI 9 32)), (9, .inl (a_if2 (fun x y => decide (y ≤ x)) 53)), (12, .inl (a_iload 1 1)), (13, .inl (a_if1 (fun x => decide (x = 0)) 45)), (16, .inl (a_aload 1 0)), (17, .inl (a_aload 1 0)), (18, .inl (a_getR 9 33)), (21, .inl (a_iload 1 2)), (22, .inl (a_iald)), (23, .inl (a_aload 1 0)), (24, .inl (a_getR 9 34)), (27, .inl (a_iload 1 2)), (28, .inl (a_iald)), (29, .inr (.inl (177, 3))), (32, .inl (a_aload 1 0)), (33, .inl (a_getR 9 35)), (36, .inl (a_iload 1 2)), (37, .inl (a_bald)), (38, .inl (a_if2 (fun x y => decide (¬ x = y)) 45)), (41, .inl (a_push 1 (.int 1))), (42, .inl (a_goto 46)), (45, .inl (a_push 1 (.int 0))), (46, .inl (a_istore 1 1)), (47, .inl (a_iinc 2 1)), (50, .inl (a_goto 4)), (53, .inl (a_iload 1 1)), (54, .inl (a_if1 (fun x => decide (x = 0)) 61)), (57, .inl (a_push 1 (.int 1))), (58, .inl (a_goto 62)), (61, .inl (a_push 1 (.int 0))), (62, .inr (.inr 1))]
def o_X9_write : List (Nat × Op) := [(0, .inl (a_aload 1 0)), (1, .inl (a_iload 1 1)), (2, .inr (.inl (119, 2))), (5, .inl (a_if1 (fun x => decide (¬ x = 0)) 11)), (8, .inl (a_push 2 (.int (-1000000001)))), (10, .inr (.inr 1)), (11, .inl (a_iload 1 2)), (12, .inl (a_i2l)), (13, .inl (a_push 1 (.long 0))), (14, .inl (a_push 3 (.long 999))), (17, .inr (.inl (117, 3))), (20, .inl (a_if1 (fun x => decide (¬ x = 0)) 26)), (23, .inl (a_push 2 (.int (-1000000002)))), (25, .inr (.inr 1)), (26, .inl (a_aload 1 0)), (27, .inl (a_getI 9 36)), (30, .inl (a_push 2 (.int 15))), (32, .inl (a_if2 (fun x y => decide (¬ x = y)) 38)), (35, .inl (a_push 2 (.int (-1000000004)))), (37, .inr (.inr 1)), (38, .inl (a_aload 1 0)), (39, .inl (a_getR 9 37)), (42, .inl (a_aload 1 0)), (43, .inl (a_getI 9 36)), (46, .inl (a_iload 1 1)), (47, .inl (a_iast)), (48, .inl (a_aload 1 0)), (49, .inl (a_getR 9 38)), (52, .inl (a_aload 1 0)), (53, .inl (a_getI 9 36)), (56, .inl (a_iload 1 2)), (57, .inl (a_iast)), (58, .inl (a_aload 1 0)), (59, .inl (a_dup)), (60, .inl (a_getI 9 36)), (63, .inl (a_push 1 (.int 1))), (64, .inl (a_bin (fun x y => x + y))), (65, .inl (a_putI 9 36)), (68, .inl (a_aload 1 0)), (69, .inl (a_getI 9 36)), (72, .inr (.inr 1))]
def o_X9_tear : List (Nat × Op) := [(0, .inl (a_aload 1 0)), (1, .inl (a_getI 9 32)), (4, .inl (a_aload 1 0)), (5, .inl (a_getI 9 36)), (8, .inl (a_bin (fun x y => x + y))), (9, .inl (a_istore 1 1)), (10, .inl (a_aload 1 0)), (11, .inl (a_push 1 (.int 0))), (12, .inl (a_putI 9 32)), (15, .inl (a_aload 1 0)), (16, .inl (a_push 1 (.int 0))), (17, .inl (a_putI 9 36)), (20, .inl (a_iload 1 1)), (21, .inr (.inr 1))]
def o_X9_judge : List (Nat × Op) := [(0, .inl (a_push 1 (.int 0))), (1, .inl (a_istore 1 1)), (2, .inl (a_iload 1 1)), (3, .inl (a_aload 1 0)), (4, .inl (a_getI 9 36)), (7, .inl (a_if2 (fun x y => decide (y ≤ x)) 37)), (10, .inl (a_aload 1 0)), (11, .inl (a_aload 1 0)), (12, .inl (a_getR 9 37)), (15, .inl (a_iload 1 1)), (16, .inl (a_iald)), (17, .inr (.inl (136, 2))), (20, .inl (a_aload 1 0)), (21, .inl (a_getR 9 38)), (24, .inl (a_iload 1 1)), (25, .inl (a_iald)), (26, .inl (a_if2 (fun x y => decide (x = y)) 31)), (29, .inl (a_iload 1 1)), (30, .inr (.inr 1)), (31, .inl (a_iinc 1 1)), (34, .inl (a_goto 2)), (37, .inl (a_push 1 (.int (-1)))), (38, .inr (.inr 1))]
def o_X9_seed : List (Nat × Op) := [(0, .inl (a_iload 1 1)), (1, .inl (a_if1 (fun x => decide (0 ≤ x)) 7)), (4, .inl (a_push 2 (.int (-1000000002)))), (6, .inr (.inr 1)), (7, .inl (a_aload 1 0)), (8, .inl (a_getI 9 10)), (11, .inl (a_istore 1 2)), (12, .inl (a_aload 1 0)), (13, .inl (a_iload 1 1)), (14, .inl (a_putI 9 10)), (17, .inl (a_iload 1 2)), (18, .inr (.inr 1))]
def o_X9_keep : List (Nat × Op) := [(0, .inl (a_iload 1 1)), (1, .inl (a_i2l)), (2, .inl (a_push 1 (.long 0))), (3, .inl (a_push 1 (.long 1))), (4, .inr (.inl (117, 3))), (7, .inl (a_if1 (fun x => decide (¬ x = 0)) 13)), (10, .inl (a_push 2 (.int (-1000000001)))), (12, .inr (.inr 1)), (13, .inl (a_push 1 (.int 0))), (14, .inl (a_istore 1 2)), (15, .inl (a_iload 1 2)), (16, .inl (a_push 2 (.int 22))), (18, .inl (a_if2 (fun x y => decide (y ≤ x)) 44)), (21, .inl (a_aload 1 0)), (22, .inl (a_getR 9 39)), (25, .inl (a_push 2 (.int 23))), (27, .inl (a_iload 1 1)), (28, .inl (a_bin (fun x y => x * y))), (29, .inl (a_iload 1 2)), (30, .inl (a_bin (fun x y => x + y))), (31, .inl (a_aload 1 0)), (32, .inl (a_getR 9 9)), (35, .inl (a_iload 1 2)), (36, .inl (a_iald)), (37, .inl (a_iast)), (38, .inl (a_iinc 2 1)), (41, .inl (a_goto 15)), (44, .inl (a_aload 1 0)), (45, .inl (a_getR 9 39)), (48, .inl (a_push 2 (.int 23))), (50, .inl (a_iload 1 1)), (51, .inl (a_bin (fun x y => x * y))), (52, .inl (a_push 2 (.int 22))), (54, .inl (a_bin (fun x y => x + y))), (55, .inl (a_aload 1 0)), (56, .inl (a_getI 9 10)), (59, .inl (a_iast)), (60, .inl (a_aload 1 0)), (61, .inl (a_getR 9 40)), (64, .inl (a_iload 1 1)), (65, .inl (a_push 1 (.int 1))), (66, .inl (a_bast)), (67, .inl (a_aload 1 0)), (68, .inl (a_push 1 (.int 0))), (69, .inl (a_putI 9 26)), (72, .inl (a_push 1 (.int 1))), (73, .inr (.inr 1))]
def o_X9_goBack : List (Nat × Op) := [(0, .inl (a_iload 1 1)), (1, .inl (a_i2l)), (2, .inl (a_push 1 (.long 0))), (3, .inl (a_push 1 (.long 1))), (4, .inr (.inl (117, 3))), (7, .inl (a_if1 (fun x => decide (¬ x = 0)) 13)), (10, .inl (a_push 2 (.int (-1000000001)))), (12, .inr (.inr 1)), (13, .inl (a_aload 1 0)), (14, .inl (a_getR 9 40)), (17, .inl (a_iload 1 1)), (18, .inl (a_bald)), (19, .inl (a_if1 (fun x => decide (¬ x = 0)) 25)), (22, .inl (a_push 2 (.int (-1000000003)))), (24, .inr (.inr 1)), (25, .inl (a_push 1 (.int 0))), (26, .inl (a_istore 1 2)), (27, .inl (a_iload 1 2)), (28, .inl (a_push 2 (.int 22))), (30, .inl (a_if2 (fun x y => decide (y ≤ x)) 56)), (33, .inl (a_aload 1 0)), (34, .inl (a_getR 9 9)), (37, .inl (a_iload 1 2)), (38, .inl (a_aload 1 0)), (39, .inl (a_getR 9 39)), (42, .inl (a_push 2 (.int 23))), (44, .inl (a_iload 1 1)), (45, .inl (a_bin (fun x y => x * y))), (46, .inl (a_iload 1 2)), (47, .inl (a_bin (fun x y => x + y))), (48, .inl (a_iald)), (49, .inl (a_iast)), (50, .inl (a_iinc 2 1)), (53, .inl (a_goto 27)), (56, .inl (a_aload 1 0)), (57, .inl (a_aload 1 0)), (58, .inl (a_getR 9 39)), (61, .inl (a_push 2 (.int 23))), (63, .inl (a_iload 1 1)), (64, .inl (a_bin (fun x y => x * y))), (65, .inl (a_push 2 (.int 22))), (67, .inl (a_bin (fun x y => x + y))), (68, .inl (a_iald)), (69, .inl (a_putI 9 10)), (72, .inl (a_aload 1 0)), (73, .inl (a_push 1 (.int 0))), (74, .inl (a_putI 9 26)), (77, .inl (a_push 1 (.int 1))), (78, .inr (.inr 1))]
def o_JM_max : List (Nat × Op) := [(0, .inl (a_iload 1 0)), (1, .inl (a_iload 1 1)), (2, .inl (a_if2 (fun x y => decide (x < y)) 9)), (5, .inl (a_iload 1 0)), (6, .inl (a_goto 10)), (9, .inl (a_iload 1 1)), (10, .inr (.inr 1))]
def o_JM_min : List (Nat × Op) := [(0, .inl (a_iload 1 0)), (1, .inl (a_iload 1 1)), (2, .inl (a_if2 (fun x y => decide (y < x)) 9)), (5, .inl (a_iload 1 0)), (6, .inl (a_goto 10)), (9, .inl (a_iload 1 1)), (10, .inr (.inr 1))]
def o_JA_fill : List (Nat × Op) := [(0, .inl (a_push 1 (.int 0))), (1, .inl (a_istore 1 2)), (2, .inl (a_aload 1 0)), (3, .inl (a_alen)), (4, .inl (a_istore 1 3)), (5, .inl (a_iload 1 2)), (6, .inl (a_iload 1 3)), (7, .inl (a_if2 (fun x y => decide (y ≤ x)) 20)), (10, .inl (a_aload 1 0)), (11, .inl (a_iload 1 2)), (12, .inl (a_iload 1 1)), (13, .inl (a_iast)), (14, .inl (a_iinc 2 1)), (17, .inl (a_goto 5)), (20, .inr (.inr 0))]
def o_L_law_1 : List (Nat × Op) := [(0, .inl (a_new 8 14)), (3, .inl (a_dup)), (4, .inr (.inl (83, 1))), (7, .inl (a_astore 1 1)), (8, .inl (a_new 9 41)), (11, .inl (a_dup)), (12, .inr (.inl (116, 1))), (15, .inl (a_astore 1 2)), (16, .inl (a_push 1 (.int 0))), (17, .inl (a_istore 1 3)), (18, .inl (a_iload 1 3)), (19, .inl (a_aload 1 0)), (20, .inl (a_alen)), (21, .inl (a_push 1 (.int 4))), (22, .inl (a_bin (fun x y => x - y))), (23, .inl (a_if2 (fun x y => decide (y < x)) 856)), (26, .inl (a_aload 1 0)), (27, .inl (a_iload 1 3)), (28, .inl (a_iald)), (29, .inl (a_push 2 (.int 31))), (31, .inl (a_bin (fun x y => x &&& y))), (32, .inl (a_tsw 0 [160, 183, 196, 209, 232, 265, 298, 321, 354, 387, 410, 423, 446, 469, 482, 505, 528, 551, 584, 617, 650, 709, 722, 755, 768, 781, 804, 827] 850)), (160, .inl (a_aload 1 1)), (161, .inl (a_aload 1 0)), (162, .inl (a_iload 1 3)), (163, .inl (a_push 1 (.int 1))), (164, .inl (a_bin (fun x y => x + y))), (165, .inl (a_iald)), (166, .inr (.inl (84, 2))), (169, .inl (a_aload 1 2)), (170, .inl (a_aload 1 0)), (171, .inl (a_iload 1 3)), (172, .inl (a_push 1 (.int 1))), (173, .inl (a_bin (fun x y => x + y))), (174, .inl (a_iald)), (175, .inr (.inl (121, 2))), (178, .inl (a_if2 (fun x y => decide (x = y)) 850)), (181, .inl (a_push 1 (.int 0))), (182, .inr (.inr 2)), (183, .inl (a_aload 1 1)), (184, .inr (.inl (85, 1))), (187, .inl (a_aload 1 2)), (188, .inr (.inl (132, 1))), (191, .inl (a_if2 (fun x y => decide (x = y)) 850)), (194, .inl (a_push 1 (.int 0))), (195, .inr (.inr 2)), (196, .inl (a_aload 1 1)), (197, .inr (.inl (86, 1))), (200, .inl (a_aload 1 2)), (201, .inr (.inl (133, 1))), (204, .inl (a_if2 (fun x y => decide (x = y)) 850)), (207, .inl (a_push 1 (.int 0))), (208, .inr (.inr 2)), (209, .inl (a_aload 1 1)), (210, .inl (a_aload 1 0)), (211, .inl (a_iload 1 3)), (212, .inl (a_push 1 (.int 1))), (213, .inl (a_bin (fun x y => x + y))), (214, .inl (a_iald)), (215, .inr (.inl (87, 2)))]
def o_L_law_2 : List (Nat × Op) := [(218, .inl (a_aload 1 2)), (219, .inl (a_aload 1 0)), (220, .inl (a_iload 1 3)), (221, .inl (a_push 1 (.int 1))), (222, .inl (a_bin (fun x y => x + y))), (223, .inl (a_iald)), (224, .inr (.inl (142, 2))), (227, .inl (a_if2 (fun x y => decide (x = y)) 850)), (230, .inl (a_push 1 (.int 0))), (231, .inr (.inr 2)), (232, .inl (a_aload 1 1)), (233, .inl (a_aload 1 0)), (234, .inl (a_iload 1 3)), (235, .inl (a_push 1 (.int 1))), (236, .inl (a_bin (fun x y => x + y))), (237, .inl (a_iald)), (238, .inl (a_aload 1 0)), (239, .inl (a_iload 1 3)), (240, .inl (a_push 1 (.int 2))), (241, .inl (a_bin (fun x y => x + y))), (242, .inl (a_iald)), (243, .inr (.inl (88, 3))), (246, .inl (a_aload 1 2)), (247, .inl (a_aload 1 0)), (248, .inl (a_iload 1 3)), (249, .inl (a_push 1 (.int 1))), (250, .inl (a_bin (fun x y => x + y))), (251, .inl (a_iald)), (252, .inl (a_aload 1 0)), (253, .inl (a_iload 1 3)), (254, .inl (a_push 1 (.int 2))), (255, .inl (a_bin (fun x y => x + y))), (256, .inl (a_iald)), (257, .inr (.inl (143, 3))), (260, .inl (a_if2 (fun x y => decide (x = y)) 850)), (263, .inl (a_push 1 (.int 0))), (264, .inr (.inr 2)), (265, .inl (a_aload 1 1)), (266, .inl (a_aload 1 0)), (267, .inl (a_iload 1 3)), (268, .inl (a_push 1 (.int 1))), (269, .inl (a_bin (fun x y => x + y))), (270, .inl (a_iald)), (271, .inl (a_aload 1 0)), (272, .inl (a_iload 1 3)), (273, .inl (a_push 1 (.int 2))), (274, .inl (a_bin (fun x y => x + y))), (275, .inl (a_iald)), (276, .inr (.inl (89, 3))), (279, .inl (a_aload 1 2)), (280, .inl (a_aload 1 0)), (281, .inl (a_iload 1 3)), (282, .inl (a_push 1 (.int 1))), (283, .inl (a_bin (fun x y => x + y))), (284, .inl (a_iald)), (285, .inl (a_aload 1 0)), (286, .inl (a_iload 1 3)), (287, .inl (a_push 1 (.int 2))), (288, .inl (a_bin (fun x y => x + y))), (289, .inl (a_iald))]
def o_L_law_3 : List (Nat × Op) := [(290, .inr (.inl (144, 3))), (293, .inl (a_if2 (fun x y => decide (x = y)) 850)), (296, .inl (a_push 1 (.int 0))), (297, .inr (.inr 2)), (298, .inl (a_aload 1 1)), (299, .inl (a_aload 1 0)), (300, .inl (a_iload 1 3)), (301, .inl (a_push 1 (.int 1))), (302, .inl (a_bin (fun x y => x + y))), (303, .inl (a_iald)), (304, .inr (.inl (90, 2))), (307, .inl (a_aload 1 2)), (308, .inl (a_aload 1 0)), (309, .inl (a_iload 1 3)), (310, .inl (a_push 1 (.int 1))), (311, .inl (a_bin (fun x y => x + y))), (312, .inl (a_iald)), (313, .inr (.inl (147, 2))), (316, .inl (a_if2 (fun x y => decide (x = y)) 850)), (319, .inl (a_push 1 (.int 0))), (320, .inr (.inr 2)), (321, .inl (a_aload 1 1)), (322, .inl (a_aload 1 0)), (323, .inl (a_iload 1 3)), (324, .inl (a_push 1 (.int 1))), (325, .inl (a_bin (fun x y => x + y))), (326, .inl (a_iald)), (327, .inl (a_aload 1 0)), (328, .inl (a_iload 1 3)), (329, .inl (a_push 1 (.int 2))), (330, .inl (a_bin (fun x y => x + y))), (331, .inl (a_iald)), (332, .inr (.inl (91, 3))), (335, .inl (a_aload 1 2)), (336, .inl (a_aload 1 0)), (337, .inl (a_iload 1 3)), (338, .inl (a_push 1 (.int 1))), (339, .inl (a_bin (fun x y => x + y))), (340, .inl (a_iald)), (341, .inl (a_aload 1 0)), (342, .inl (a_iload 1 3)), (343, .inl (a_push 1 (.int 2))), (344, .inl (a_bin (fun x y => x + y))), (345, .inl (a_iald)), (346, .inr (.inl (148, 3))), (349, .inl (a_if2 (fun x y => decide (x = y)) 850)), (352, .inl (a_push 1 (.int 0))), (353, .inr (.inr 2)), (354, .inl (a_aload 1 1)), (355, .inl (a_aload 1 0)), (356, .inl (a_iload 1 3)), (357, .inl (a_push 1 (.int 1))), (358, .inl (a_bin (fun x y => x + y))), (359, .inl (a_iald)), (360, .inl (a_aload 1 0)), (361, .inl (a_iload 1 3)), (362, .inl (a_push 1 (.int 2))), (363, .inl (a_bin (fun x y => x + y))), (364, .inl (a_iald)), (365, .inr (.inl (92, 3)))]
def o_L_law_4 : List (Nat × Op) := [(368, .inl (a_aload 1 2)), (369, .inl (a_aload 1 0)), (370, .inl (a_iload 1 3)), (371, .inl (a_push 1 (.int 1))), (372, .inl (a_bin (fun x y => x + y))), (373, .inl (a_iald)), (374, .inl (a_aload 1 0)), (375, .inl (a_iload 1 3)), (376, .inl (a_push 1 (.int 2))), (377, .inl (a_bin (fun x y => x + y))), (378, .inl (a_iald)), (379, .inr (.inl (150, 3))), (382, .inl (a_if2 (fun x y => decide (x = y)) 850)), (385, .inl (a_push 1 (.int 0))), (386, .inr (.inr 2)), (387, .inl (a_aload 1 1)), (388, .inl (a_aload 1 0)), (389, .inl (a_iload 1 3)), (390, .inl (a_push 1 (.int 1))), (391, .inl (a_bin (fun x y => x + y))), (392, .inl (a_iald)), (393, .inr (.inl (93, 2))), (396, .inl (a_aload 1 2)), (397, .inl (a_aload 1 0)), (398, .inl (a_iload 1 3)), (399, .inl (a_push 1 (.int 1))), (400, .inl (a_bin (fun x y => x + y))), (401, .inl (a_iald)), (402, .inr (.inl (153, 2))), (405, .inl (a_if2 (fun x y => decide (x = y)) 850)), (408, .inl (a_push 1 (.int 0))), (409, .inr (.inr 2)), (410, .inl (a_aload 1 1)), (411, .inr (.inl (94, 1))), (414, .inl (a_aload 1 2)), (415, .inr (.inl (155, 1))), (418, .inl (a_if2 (fun x y => decide (x = y)) 850)), (421, .inl (a_push 1 (.int 0))), (422, .inr (.inr 2)), (423, .inl (a_aload 1 1)), (424, .inl (a_aload 1 0)), (425, .inl (a_iload 1 3)), (426, .inl (a_push 1 (.int 1))), (427, .inl (a_bin (fun x y => x + y))), (428, .inl (a_iald)), (429, .inr (.inl (95, 2))), (432, .inl (a_aload 1 2)), (433, .inl (a_aload 1 0)), (434, .inl (a_iload 1 3)), (435, .inl (a_push 1 (.int 1))), (436, .inl (a_bin (fun x y => x + y))), (437, .inl (a_iald)), (438, .inr (.inl (156, 2))), (441, .inl (a_if2 (fun x y => decide (x = y)) 850)), (444, .inl (a_push 1 (.int 0))), (445, .inr (.inr 2)), (446, .inl (a_aload 1 1)), (447, .inl (a_aload 1 0)), (448, .inl (a_iload 1 3)), (449, .inl (a_push 1 (.int 1)))]
def o_L_law_5 : List (Nat × Op) := [(450, .inl (a_bin (fun x y => x + y))), (451, .inl (a_iald)), (452, .inr (.inl (96, 2))), (455, .inl (a_aload 1 2)), (456, .inl (a_aload 1 0)), (457, .inl (a_iload 1 3)), (458, .inl (a_push 1 (.int 1))), (459, .inl (a_bin (fun x y => x + y))), (460, .inl (a_iald)), (461, .inr (.inl (159, 2))), (464, .inl (a_if2 (fun x y => decide (x = y)) 850)), (467, .inl (a_push 1 (.int 0))), (468, .inr (.inr 2)), (469, .inl (a_aload 1 1)), (470, .inr (.inl (97, 1))), (473, .inl (a_aload 1 2)), (474, .inr (.inl (160, 1))), (477, .inl (a_if2 (fun x y => decide (x = y)) 850)), (480, .inl (a_push 1 (.int 0))), (481, .inr (.inr 2)), (482, .inl (a_aload 1 1)), (483, .inl (a_aload 1 0)), (484, .inl (a_iload 1 3)), (485, .inl (a_push 1 (.int 1))), (486, .inl (a_bin (fun x y => x + y))), (487, .inl (a_iald)), (488, .inr (.inl (98, 2))), (491, .inl (a_aload 1 2)), (492, .inl (a_aload 1 0)), (493, .inl (a_iload 1 3)), (494, .inl (a_push 1 (.int 1))), (495, .inl (a_bin (fun x y => x + y))), (496, .inl (a_iald)), (497, .inr (.inl (166, 2))), (500, .inl (a_if2 (fun x y => decide (x = y)) 850)), (503, .inl (a_push 1 (.int 0))), (504, .inr (.inr 2)), (505, .inl (a_aload 1 1)), (506, .inl (a_aload 1 0)), (507, .inl (a_iload 1 3)), (508, .inl (a_push 1 (.int 1))), (509, .inl (a_bin (fun x y => x + y))), (510, .inl (a_iald)), (511, .inr (.inl (99, 2))), (514, .inl (a_aload 1 2)), (515, .inl (a_aload 1 0)), (516, .inl (a_iload 1 3)), (517, .inl (a_push 1 (.int 1))), (518, .inl (a_bin (fun x y => x + y))), (519, .inl (a_iald)), (520, .inr (.inl (167, 2))), (523, .inl (a_if2 (fun x y => decide (x = y)) 850)), (526, .inl (a_push 1 (.int 0))), (527, .inr (.inr 2)), (528, .inl (a_aload 1 1)), (529, .inl (a_aload 1 0)), (530, .inl (a_iload 1 3)), (531, .inl (a_push 1 (.int 1))), (532, .inl (a_bin (fun x y => x + y))), (533, .inl (a_iald))]
def o_L_law_6 : List (Nat × Op) := [(534, .inr (.inl (100, 2))), (537, .inl (a_aload 1 2)), (538, .inl (a_aload 1 0)), (539, .inl (a_iload 1 3)), (540, .inl (a_push 1 (.int 1))), (541, .inl (a_bin (fun x y => x + y))), (542, .inl (a_iald)), (543, .inr (.inl (169, 2))), (546, .inl (a_if2 (fun x y => decide (x = y)) 850)), (549, .inl (a_push 1 (.int 0))), (550, .inr (.inr 2)), (551, .inl (a_aload 1 1)), (552, .inl (a_aload 1 0)), (553, .inl (a_iload 1 3)), (554, .inl (a_push 1 (.int 1))), (555, .inl (a_bin (fun x y => x + y))), (556, .inl (a_iald)), (557, .inl (a_aload 1 0)), (558, .inl (a_iload 1 3)), (559, .inl (a_push 1 (.int 2))), (560, .inl (a_bin (fun x y => x + y))), (561, .inl (a_iald)), (562, .inr (.inl (101, 3))), (565, .inl (a_aload 1 2)), (566, .inl (a_aload 1 0)), (567, .inl (a_iload 1 3)), (568, .inl (a_push 1 (.int 1))), (569, .inl (a_bin (fun x y => x + y))), (570, .inl (a_iald)), (571, .inl (a_aload 1 0)), (572, .inl (a_iload 1 3)), (573, .inl (a_push 1 (.int 2))), (574, .inl (a_bin (fun x y => x + y))), (575, .inl (a_iald)), (576, .inr (.inl (172, 3))), (579, .inl (a_if2 (fun x y => decide (x = y)) 850)), (582, .inl (a_push 1 (.int 0))), (583, .inr (.inr 2)), (584, .inl (a_aload 1 1)), (585, .inl (a_aload 1 0)), (586, .inl (a_iload 1 3)), (587, .inl (a_push 1 (.int 1))), (588, .inl (a_bin (fun x y => x + y))), (589, .inl (a_iald)), (590, .inl (a_aload 1 0)), (591, .inl (a_iload 1 3)), (592, .inl (a_push 1 (.int 2))), (593, .inl (a_bin (fun x y => x + y))), (594, .inl (a_iald)), (595, .inr (.inl (102, 3))), (598, .inl (a_aload 1 2)), (599, .inl (a_aload 1 0)), (600, .inl (a_iload 1 3)), (601, .inl (a_push 1 (.int 1))), (602, .inl (a_bin (fun x y => x + y))), (603, .inl (a_iald)), (604, .inl (a_aload 1 0)), (605, .inl (a_iload 1 3)), (606, .inl (a_push 1 (.int 2))), (607, .inl (a_bin (fun x y => x + y)))]
def o_L_law_7 : List (Nat × Op) := [(608, .inl (a_iald)), (609, .inr (.inl (174, 3))), (612, .inl (a_if2 (fun x y => decide (x = y)) 850)), (615, .inl (a_push 1 (.int 0))), (616, .inr (.inr 2)), (617, .inl (a_aload 1 1)), (618, .inl (a_aload 1 0)), (619, .inl (a_iload 1 3)), (620, .inl (a_push 1 (.int 1))), (621, .inl (a_bin (fun x y => x + y))), (622, .inl (a_iald)), (623, .inl (a_aload 1 0)), (624, .inl (a_iload 1 3)), (625, .inl (a_push 1 (.int 2))), (626, .inl (a_bin (fun x y => x + y))), (627, .inl (a_iald)), (628, .inr (.inl (103, 3))), (631, .inl (a_aload 1 2)), (632, .inl (a_aload 1 0)), (633, .inl (a_iload 1 3)), (634, .inl (a_push 1 (.int 1))), (635, .inl (a_bin (fun x y => x + y))), (636, .inl (a_iald)), (637, .inl (a_aload 1 0)), (638, .inl (a_iload 1 3)), (639, .inl (a_push 1 (.int 2))), (640, .inl (a_bin (fun x y => x + y))), (641, .inl (a_iald)), (642, .inr (.inl (175, 3))), (645, .inl (a_if2 (fun x y => decide (x = y)) 850)), (648, .inl (a_push 1 (.int 0))), (649, .inr (.inr 2)), (650, .inl (a_aload 1 1)), (651, .inl (a_aload 1 0)), (652, .inl (a_iload 1 3)), (653, .inl (a_push 1 (.int 1))), (654, .inl (a_bin (fun x y => x + y))), (655, .inl (a_iald)), (656, .inl (a_aload 1 0)), (657, .inl (a_iload 1 3)), (658, .inl (a_push 1 (.int 2))), (659, .inl (a_bin (fun x y => x + y))), (660, .inl (a_iald)), (661, .inl (a_aload 1 0)), (662, .inl (a_iload 1 3)), (663, .inl (a_push 1 (.int 3))), (664, .inl (a_bin (fun x y => x + y))), (665, .inl (a_iald)), (666, .inl (a_if1 (fun x => decide (x = 0)) 673)), (669, .inl (a_push 1 (.int 1))), (670, .inl (a_goto 674)), (673, .inl (a_push 1 (.int 0))), (674, .inr (.inl (104, 4))), (677, .inl (a_aload 1 2)), (678, .inl (a_aload 1 0)), (679, .inl (a_iload 1 3)), (680, .inl (a_push 1 (.int 1))), (681, .inl (a_bin (fun x y => x + y))), (682, .inl (a_iald)), (683, .inl (a_aload 1 0))]
def o_L_law_8 : List (Nat × Op) := [(684, .inl (a_iload 1 3)), (685, .inl (a_push 1 (.int 2))), (686, .inl (a_bin (fun x y => x + y))), (687, .inl (a_iald)), (688, .inl (a_aload 1 0)), (689, .inl (a_iload 1 3)), (690, .inl (a_push 1 (.int 3))), (691, .inl (a_bin (fun x y => x + y))), (692, .inl (a_iald)), (693, .inl (a_if1 (fun x => decide (x = 0)) 700)), (696, .inl (a_push 1 (.int 1))), (697, .inl (a_goto 701)), (700, .inl (a_push 1 (.int 0))), (701, .inr (.inl (176, 4))), (704, .inl (a_if2 (fun x y => decide (x = y)) 850)), (707, .inl (a_push 1 (.int 0))), (708, .inr (.inr 2)), (709, .inl (a_aload 1 1)), (710, .inr (.inl (105, 1))), (713, .inl (a_aload 1 2)), (714, .inr (.inl (178, 1))), (717, .inl (a_if2 (fun x y => decide (x = y)) 850)), (720, .inl (a_push 1 (.int 0))), (721, .inr (.inr 2)), (722, .inl (a_aload 1 1)), (723, .inl (a_aload 1 0)), (724, .inl (a_iload 1 3)), (725, .inl (a_push 1 (.int 1))), (726, .inl (a_bin (fun x y => x + y))), (727, .inl (a_iald)), (728, .inl (a_aload 1 0)), (729, .inl (a_iload 1 3)), (730, .inl (a_push 1 (.int 2))), (731, .inl (a_bin (fun x y => x + y))), (732, .inl (a_iald)), (733, .inr (.inl (106, 3))), (736, .inl (a_aload 1 2)), (737, .inl (a_aload 1 0)), (738, .inl (a_iload 1 3)), (739, .inl (a_push 1 (.int 1))), (740, .inl (a_bin (fun x y => x + y))), (741, .inl (a_iald)), (742, .inl (a_aload 1 0)), (743, .inl (a_iload 1 3)), (744, .inl (a_push 1 (.int 2))), (745, .inl (a_bin (fun x y => x + y))), (746, .inl (a_iald)), (747, .inr (.inl (179, 3))), (750, .inl (a_if2 (fun x y => decide (x = y)) 850)), (753, .inl (a_push 1 (.int 0))), (754, .inr (.inr 2)), (755, .inl (a_aload 1 1)), (756, .inr (.inl (107, 1))), (759, .inl (a_aload 1 2)), (760, .inr (.inl (180, 1))), (763, .inl (a_if2 (fun x y => decide (x = y)) 850)), (766, .inl (a_push 1 (.int 0))), (767, .inr (.inr 2)), (768, .inl (a_aload 1 1)), (769, .inr (.inl (108, 1)))]
def o_L_law_9 : List (Nat × Op) := [(772, .inl (a_aload 1 2)), (773, .inr (.inl (181, 1))), (776, .inl (a_if2 (fun x y => decide (x = y)) 850)), (779, .inl (a_push 1 (.int 0))), (780, .inr (.inr 2)), (781, .inl (a_aload 1 1)), (782, .inl (a_aload 1 0)), (783, .inl (a_iload 1 3)), (784, .inl (a_push 1 (.int 1))), (785, .inl (a_bin (fun x y => x + y))), (786, .inl (a_iald)), (787, .inr (.inl (109, 2))), (790, .inl (a_aload 1 2)), (791, .inl (a_aload 1 0)), (792, .inl (a_iload 1 3)), (793, .inl (a_push 1 (.int 1))), (794, .inl (a_bin (fun x y => x + y))), (795, .inl (a_iald)), (796, .inr (.inl (182, 2))), (799, .inl (a_if2 (fun x y => decide (x = y)) 850)), (802, .inl (a_push 1 (.int 0))), (803, .inr (.inr 2)), (804, .inl (a_aload 1 1)), (805, .inl (a_aload 1 0)), (806, .inl (a_iload 1 3)), (807, .inl (a_push 1 (.int 1))), (808, .inl (a_bin (fun x y => x + y))), (809, .inl (a_iald)), (810, .inr (.inl (110, 2))), (813, .inl (a_aload 1 2)), (814, .inl (a_aload 1 0)), (815, .inl (a_iload 1 3)), (816, .inl (a_push 1 (.int 1))), (817, .inl (a_bin (fun x y => x + y))), (818, .inl (a_iald)), (819, .inr (.inl (183, 2))), (822, .inl (a_if2 (fun x y => decide (x = y)) 850)), (825, .inl (a_push 1 (.int 0))), (826, .inr (.inr 2)), (827, .inl (a_aload 1 1)), (828, .inl (a_aload 1 0)), (829, .inl (a_iload 1 3)), (830, .inl (a_push 1 (.int 1))), (831, .inl (a_bin (fun x y => x + y))), (832, .inl (a_iald)), (833, .inr (.inl (111, 2))), (836, .inl (a_aload 1 2)), (837, .inl (a_aload 1 0)), (838, .inl (a_iload 1 3)), (839, .inl (a_push 1 (.int 1))), (840, .inl (a_bin (fun x y => x + y))), (841, .inl (a_iald)), (842, .inr (.inl (184, 2))), (845, .inl (a_if2 (fun x y => decide (x = y)) 850)), (848, .inl (a_push 1 (.int 0))), (849, .inr (.inr 2)), (850, .inl (a_iinc 3 4)), (853, .inl (a_goto 18)), (856, .inl (a_push 1 (.int 1))), (857, .inr (.inr 2))]
def o_L_law : List (Nat × Op) := o_L_law_1 ++ (o_L_law_2 ++ (o_L_law_3 ++ (o_L_law_4 ++ (o_L_law_5 ++ (o_L_law_6 ++ (o_L_law_7 ++ (o_L_law_8 ++ (o_L_law_9))))))))
def opsL : List (List (Nat × Op)) := [o_X0_init, o_X0_wipe, o_X0_days, o_X0_takenThisDay, o_X0_takenInAll, o_X0_lamedDays, o_X0_stageOf, o_X0_placeOf, o_X0_isInSatchel, o_X0_loadOf, o_X0_isLamed, o_X0_lamedSet, o_X0_lamedDaysOfAll, o_X0_minutesHome, o_X0_lastHome, o_X0_madeSet, o_X0_ownLoadOf, o_X0_deedSet, o_X0_liesOnTable, o_X0_canBeDone, o_X0_canBeCarried, o_X0_canBeThrown, o_X0_areInUnlikeSatchels, o_X0_isLightenedBySwap, o_X0_putInOwnSatchel, o_X0_putInSatchel, o_X0_changePlaces, o_X0_putInBrook, o_X0_putNowhere, o_X0_allGoHome, o_X1_init, o_X1_take, o_X1_giveTo, o_X2_init, o_X2_forget, o_X2_leastCost, o_X2_childFor, o_X2_solve, o_X2_haveHoldersChanged, o_X2_holderNow, o_X2_place, o_X3_init, o_X3_push, o_X3_pop, o_X3_wipe, o_X4_init, o_X4_readText, o_X4_faultPlace, o_X4_readClause, o_X4_readBrook, o_X4_readChild, o_X4_readDeed, o_X4_readHanding, o_X4_takeWord, o_X4_readEnd, o_X4_readNumber, o_X4_isFigure, o_X4_skipBlanks, o_X4_letter, o_X4_fail, o_X5_init, o_X5_wipe, o_X5_copyFrom, o_X5_addChild, o_X5_addDeed, o_X5_hasChild, o_X5_hasDeed, o_X5_childAfter, o_X5_canHandDown, o_X5_hasItFrom, o_X5_firstOf, o_X5_allWithFirst, o_X6_init, o_X6_tryAllSets, o_X6_bestToLookFor, o_X6_weightOf, o_X6_count, o_X7_init, o_X7_wipe, o_X7_addSeen, o_X7_addEntry, o_X7_firstUntrue, o_X7_firstWrong, o_X8_init, o_X8_feed, o_X8_school, o_X8_fault, o_X8_told, o_X8_child, o_X8_deed, o_X8_doIt, o_X8_carry, o_X8_swap, o_X8_throwIt, o_X8_home, o_X8_takeBack, o_X8_drift, o_X8_undo, o_X8_loads, o_X8_fair, o_X8_lighter, o_X8_weighs, o_X8_handed, o_X8_light, o_X8_see, o_X8_hold, o_X8_write, o_X8_tear, o_X8_judge, o_X8_seed, o_X8_keep, o_X8_goBack, o_X8_beginAnew, o_X8_packed, o_X8_driftOnce, o_X8_draw, o_X9_init, o_X9_in, o_X9_has, o_X9_isChild, o_X9_isDeed, o_X9_feed, o_X9_here, o_X9_fails, o_X9_takeNumber, o_X9_into, o_X9_takeBrook, o_X9_takeChild, o_X9_takeDeed, o_X9_takeHanded, o_X9_takeClause, o_X9_takeRead, o_X9_school, o_X9_fault, o_X9_isWith, o_X9_deedsWith, o_X9_load, o_X9_minutes, o_X9_lamed, o_X9_lamedDays, o_X9_made, o_X9_lastHome, o_X9_told, o_X9_child, o_X9_deed, o_X9_remember, o_X9_lay, o_X9_doIt, o_X9_carry, o_X9_canSwap, o_X9_swap, o_X9_canThrow, o_X9_throwNow, o_X9_throwIt, o_X9_goHome, o_X9_home, o_X9_takeBack, o_X9_draw, o_X9_chance, o_X9_drift, o_X9_undo, o_X9_waysToGive, o_X9_giveBy, o_X9_isBorne, o_X9_greatest, o_X9_keepGiven, o_X9_loads, o_X9_fair, o_X9_isLighter, o_X9_lighter, o_X9_weightOf, o_X9_lookFor, o_X9_weighs, o_X9_firstOf, o_X9_handed, o_X9_light, o_X9_see, o_X9_lies, o_X9_hold, o_X9_write, o_X9_tear, o_X9_judge, o_X9_seed, o_X9_keep, o_X9_goBack, o_JM_max, o_JM_min, o_JA_fill, o_L_law]
def ops (j : Nat) : List (Nat × Op) := opsL.getD j []
def mtJ (j : Nat) : MethodName × ByteArray × Nat × Option FieldType := mt.getD j (⟨"", "", ""⟩, .empty, 0, none)
/-- 0: no receiver; 1: makes one; ci + 2: its receiver is of kind ci -/
def kJ (j : Nat) : Nat := ([1, 2, 2, 2, 2, 2, 2, 2, 2, 2, 2, 2, 2, 2, 2, 2, 2, 2, 2, 2, 2, 2, 2, 2, 2, 2, 2, 2, 2, 2, 1, 3, 3, 1, 4, 4, 4, 4, 4, 4, 4, 1, 5, 5, 5, 1, 6, 6, 6, 6, 6, 6, 6, 6, 6, 6, 6, 6, 6, 6, 1, 7, 7, 7, 7, 7, 7, 7, 7, 7, 7, 7, 1, 8, 8, 8, 8, 1, 9, 9, 9, 9, 9, 1, 10, 10, 10, 10, 10, 10, 10, 10, 10, 10, 10, 10, 10, 10, 10, 10, 10, 10, 10, 10, 10, 10, 10, 10, 10, 10, 10, 10, 10, 10, 10, 10, 1, 0, 0, 11, 11, 11, 11, 11, 11, 11, 11, 11, 11, 11, 11, 11, 11, 11, 11, 11, 11, 11, 11, 11, 11, 11, 11, 11, 11, 11, 11, 11, 11, 11, 11, 11, 11, 11, 11, 11, 11, 11, 11, 11, 11, 11, 11, 11, 11, 11, 11, 11, 11, 11, 11, 11, 11, 11, 11, 11, 11, 11, 11, 11, 11, 11, 11, 11, 11, 0, 0, 0, 0] : List Nat).getD j 0
end
section
/-! THE SMALL MACHINE RUNS: T d j mc ms st Q: method j, now at st, comes to its end with Q, by calls at most d deep, making at most mc cells of ms places -/
abbrev Post : Type := Option Int32 → List SC → AH → Prop
def expA : List Value → List Value
  | [] => []
  | .long x :: r => .long x :: un_ :: expA r
  | .double x :: r => .double x :: un_ :: expA r
  | v :: r => v :: expA r
def entL (n : Nat) (args : List Value) : List Value := expA args ++ List.replicate (n - (expA args).length) un_
def entS (j : Nat) (args : List Value) (G : List SC) (h : AH) : St := (0, entL (mtJ j).2.2.1 args, [], G, h)
def rets (k : Nat) (S : List Value) : Option (Option Int32) := match k, S with
  | 0, [] => some none
  | 1, [.int v] => some (some v)
  | 2, [.int v] => if v = 0 ∨ v = 1 then some (some v) else none
  | _, _ => none
def pv (v : Option Int32) (S : List Value) : List Value := match v with
  | none => S
  | some x => .int x :: S
def lk : List (Nat × Op) → Nat → Option Op
  | [], _ => none
  | (k, o) :: r, pc => bif Nat.beq k pc then some o else lk r pc
/-- the receiver of a call, and the room for its arguments -/
def rcv (j n : Nat) (S : List Value) (G : List SC) : Bool := Nat.ble (expA (S.take n).reverse).length (mtJ j).2.2.1 && (match kJ j with
  | 0 => true
  | 1 => (match S[n - 1]? with
    | some (.ref _) => true
    | _ => false)
  | ci + 2 => (match S[n - 1]? with
    | some (.ref a) => (match G[a]? with
      | some (0, c, _) => Nat.beq c ci
      | _ => false)
    | _ => false))
def TT (Tc : Nat → Nat → Nat → St → Post → Prop) (j mc ms : Nat) (st : St) (Q : Post) : Prop :=
  ∀ P : Nat → Nat → St → Prop,
    (∀ mc ms pc L S G h k v, lk (ops j) pc = some (.inr (.inr k)) → rets k S = some v → Q v G h → P mc ms (pc, L, S, G, h)) →
    (∀ mc ms pc L S G h act st' a b, lk (ops j) pc = some (.inl act) → act pc L S G h = some (st', a, b) → P mc ms st' → P (mc + a) (ms + b) (pc, L, S, G, h)) →
    (∀ mc ms mc1 ms1 pc L S G h j' n Q1, lk (ops j) pc = some (.inr (.inl (j', n))) → n ≤ S.length → rcv j' n S G = true → ((S.drop n).map fun v => v.category).sum ≤ 8 → Tc j' mc1 ms1 (entS j' (S.take n).reverse G h) Q1 →
      (∀ v G' h', Q1 v G' h' → P mc ms (pc + 3, L, pv v (S.drop n), G', h')) → P (mc + mc1) (ms + ms1) (pc, L, S, G, h)) →
    P mc ms st
def T : Nat → Nat → Nat → Nat → St → Post → Prop
  | 0 => TT (fun _ _ _ _ _ => False)
  | d + 1 => TT (T d)
theorem TT_ret {Tc : Nat → Nat → Nat → St → Post → Prop} {j mc ms pc : Nat} {L S : List Value} {G : List SC} {h : AH} {Q : Post} {k : Nat} {v : Option Int32} (h1 : lk (ops j) pc = some (.inr (.inr k))) (h2 : rets k S = some v) (h3 : Q v G h) : TT Tc j mc ms (pc, L, S, G, h) Q :=
  fun _ r _ _ => r _ _ _ _ _ _ _ _ _ h1 h2 h3
theorem TT_step {Tc : Nat → Nat → Nat → St → Post → Prop} {j mc ms pc : Nat} {L S : List Value} {G : List SC} {h : AH} {Q : Post} {act : Act} {st' : St} {a b : Nat} (h1 : lk (ops j) pc = some (.inl act)) (h2 : act pc L S G h = some (st', a, b)) (k : TT Tc j mc ms st' Q) : TT Tc j (mc + a) (ms + b) (pc, L, S, G, h) Q :=
  fun P r s c => s _ _ _ _ _ _ _ _ _ _ _ h1 h2 (k P r s c)
theorem TT_call {Tc : Nat → Nat → Nat → St → Post → Prop} {j mc ms mc1 ms1 pc : Nat} {L S : List Value} {G : List SC} {h : AH} {Q Q1 : Post} {j' n : Nat} (h1 : lk (ops j) pc = some (.inr (.inl (j', n)))) (h2 : n ≤ S.length) (hrc : rcv j' n S G = true) (h3 : ((S.drop n).map fun v => v.category).sum ≤ 8) (hc : Tc j' mc1 ms1 (entS j' (S.take n).reverse G h) Q1)
    (k : ∀ v G' h', Q1 v G' h' → TT Tc j mc ms (pc + 3, L, pv v (S.drop n), G', h') Q) : TT Tc j (mc + mc1) (ms + ms1) (pc, L, S, G, h) Q :=
  fun P r s c => c _ _ _ _ _ _ _ _ _ _ _ _ h1 h2 hrc h3 hc (fun v G' h' q => k v G' h' q P r s c)
theorem TT_mono {Tc Td : Nat → Nat → Nat → St → Post → Prop} (hT : ∀ j mc ms st Q, Tc j mc ms st Q → Td j mc ms st Q) {j mc ms : Nat} {st : St} {Q : Post} (h : TT Tc j mc ms st Q) : TT Td j mc ms st Q :=
  fun P r s c => h P r s (fun mc ms mc1 ms1 pc L S G h j' n Q1 h1 h2 hrc h3 hc k => c mc ms mc1 ms1 pc L S G h j' n Q1 h1 h2 hrc h3 (hT _ _ _ _ _ hc) k)
theorem T_up : ∀ {d : Nat} {j mc ms : Nat} {st : St} {Q : Post}, T d j mc ms st Q → T (d + 1) j mc ms st Q
  | 0, _, _, _, _, _, h => TT_mono (fun _ _ _ _ _ h => h.elim) h
  | _ + 1, _, _, _, _, _, h => TT_mono (fun _ _ _ _ _ h => T_up h) h
theorem T_le {d d' : Nat} (hd : d ≤ d') {j mc ms : Nat} {st : St} {Q : Post} (h : T d j mc ms st Q) : T d' j mc ms st Q := by
  obtain ⟨k, rfl⟩ := Nat.exists_eq_add_of_le hd
  induction k with
  | zero => exact h
  | succ k ih => exact T_up (ih (Nat.le_add_right _ _))
theorem T_ret {d j mc ms pc : Nat} {L S : List Value} {G : List SC} {h : AH} {Q : Post} {k : Nat} {v : Option Int32} (h1 : lk (ops j) pc = some (.inr (.inr k))) (h2 : rets k S = some v) (h3 : Q v G h) : T d j mc ms (pc, L, S, G, h) Q := by
  cases d <;> exact TT_ret h1 h2 h3
theorem T_step {d j mc ms pc : Nat} {L S : List Value} {G : List SC} {h : AH} {Q : Post} {act : Act} {st' : St} {a b : Nat} (h1 : lk (ops j) pc = some (.inl act)) (h2 : act pc L S G h = some (st', a, b)) (k : T d j mc ms st' Q) : T d j (mc + a) (ms + b) (pc, L, S, G, h) Q := by
  cases d <;> exact TT_step h1 h2 k
theorem T_call {d d' j mc ms mc1 ms1 pc : Nat} {L S : List Value} {G : List SC} {h : AH} {Q Q1 : Post} {j' n : Nat} (hd : d' ≤ d) (h1 : lk (ops j) pc = some (.inr (.inl (j', n)))) (h2 : n ≤ S.length) (hrc : rcv j' n S G = true) (h3 : ((S.drop n).map fun v => v.category).sum ≤ 8) (hc : T d' j' mc1 ms1 (entS j' (S.take n).reverse G h) Q1)
    (k : ∀ v G' h', Q1 v G' h' → T (d + 1) j mc ms (pc + 3, L, pv v (S.drop n), G', h') Q) : T (d + 1) j (mc + mc1) (ms + ms1) (pc, L, S, G, h) Q := TT_call h1 h2 hrc h3 (T_le hd hc) k
theorem T_post {d j mc ms : Nat} {st : St} {Q Q' : Post} (hQ : ∀ v G h, Q v G h → Q' v G h) (h : T d j mc ms st Q) : T d j mc ms st Q' := by
  cases d <;> exact fun P r s c => h P (fun _ _ _ _ _ _ _ _ _ a b q => r _ _ _ _ _ _ _ _ _ a b (hQ _ _ _ q)) s c
/-- n plain steps -/
def stp (j : Nat) (st : St) : Option St := match lk (ops j) st.1 with
  | some (.inl act) => (match act st.1 st.2.1 st.2.2.1 st.2.2.2.1 st.2.2.2.2 with
    | some (st', 0, 0) => some st'
    | _ => none)
  | _ => none
def runA (j : Nat) : Nat → St → Option St
  | 0, st => some st
  | n + 1, st => match stp j st with
    | some st' => runA j n st'
    | none => none
theorem T_run {d j mc ms : Nat} {Q : Post} : ∀ (n : Nat) {st st' : St}, runA j n st = some st' → T d j mc ms st' Q → T d j mc ms st Q
  | 0, st, st', h, k => by
    cases h
    exact k
  | n + 1, st, st', h, k => by
    simp only [runA] at h
    split at h
    · rename_i s1 hs
      have k1 := T_run n h k
      obtain ⟨pc, L, S, G, hh⟩ := st
      simp only [stp] at hs
      split at hs
      · rename_i act h1
        split at hs
        · rename_i s2 h2
          cases hs
          exact T_step (a := 0) (b := 0) h1 h2 k1
        · cases hs
      · cases hs
    · cases h
theorem T_stp {d j mc ms : Nat} {Q : Post} {st st' : St} (h : stp j st = some st') (k : T d j mc ms st' Q) : T d j mc ms st Q := by
  refine T_run 1 (st' := st') ?_ k
  simp only [runA, h]
/-- a test: both ways -/
theorem T_if {d j mc ms : Nat} {Q : Post} {st : St} {c : Prop} [Decidable c] {t f : Nat} {L S : List Value} {G : List SC} {h : AH} (hs : stp j st = some (cond (decide c) t f, L, S, G, h)) (kt : c → T d j mc ms (t, L, S, G, h) Q) (kf : ¬ c → T d j mc ms (f, L, S, G, h) Q) : T d j mc ms st Q := by
  refine T_stp hs ?_
  by_cases hc : c
  · rw [decide_eq_true hc]; exact kt hc
  · rw [decide_eq_false hc]; exact kf hc
theorem T_ift {d j mc ms : Nat} {Q : Post} {st : St} {c : Prop} [Decidable c] {t f : Nat} {L S : List Value} {G : List SC} {h : AH} (hs : stp j st = some (cond (decide c) t f, L, S, G, h)) (hc : c) (kt : T d j mc ms (t, L, S, G, h) Q) : T d j mc ms st Q := by
  refine T_stp hs ?_
  rw [decide_eq_true hc]; exact kt
theorem T_iff {d j mc ms : Nat} {Q : Post} {st : St} {c : Prop} [Decidable c] {t f : Nat} {L S : List Value} {G : List SC} {h : AH} (hs : stp j st = some (cond (decide c) t f, L, S, G, h)) (hc : ¬ c) (kf : T d j mc ms (f, L, S, G, h) Q) : T d j mc ms st Q := by
  refine T_stp hs ?_
  rw [decide_eq_false hc]; exact kf
/-- a loop, counted up -/
theorem T_loop {d j mc ms : Nat} {Q : Post} (F : Nat → St) (n : Nat) (hb : ∀ k, k < n → T d j mc ms (F (k + 1)) Q → T d j mc ms (F k) Q) (hx : T d j mc ms (F n) Q) : T d j mc ms (F 0) Q := by
  have key : ∀ i, i ≤ n → T d j mc ms (F (n - i)) Q := by
    intro i
    induction i with
    | zero => intro _; exact hx
    | succ i ih =>
      intro hi
      have := ih (by omega)
      refine hb (n - (i + 1)) (by omega) ?_
      rw [show n - (i + 1) + 1 = n - i by omega]
      exact this
  have := key n (Nat.le_refl n)
  rw [Nat.sub_self] at this
  exact this
end
section
/-! WHAT THE SMALL MACHINE'S CELLS ARE IN THE LARGE ONE -/
def wsG : List Cond := lw_tbl.filter goodWord
theorem wsG_in {w : Cond} (i : Nat) (h : lw_tbl[i]? = some w) (g : goodWord w = true) : w ∈ wsG := List.mem_filter.mpr ⟨List.mem_of_getElem? h, g⟩
theorem wsG_good : GoodIn wsG wsG := fun _ h => ⟨h, good_of_word (List.mem_filter.mp h).2⟩
abbrev Ev : Type := (Nat → ClassId) × (Nat → Nat → Nat) × (ClassId × ClassId × ClassId × ClassId) × Nat × Nat
abbrev evB (E : Ev) : Nat := E.2.2.2.2
def ad (E : Ev) : Nat → Nat
  | 0 => E.2.2.2.1
  | k + 1 => E.2.2.2.2 + k
def cv (E : Ev) : Value → Value
  | .ref k => .ref (ad E k)
  | v => v
def isRf : FieldType → Bool
  | .int => false
  | .boolean => false
  | _ => true
def fty (ci k : Nat) : FieldType := ftab.getD ci (fun _ => .int) k
def fvl (E : Ev) (ci : Nat) (rs : List (Option Nat)) (g : Nat → Int32) (j : Nat) : Value := if isRf (fty ci j) = true then va_rf ((rs.getD j none).map (ad E)) else .int (g j)
def cellAt (E : Ev) (k : Nat) (c : SC) (g : Nat → Int32) (H : Heap) : Prop := match c with
  | (0, ci, rs) => ∃ r, cls[ci]? = some r ∧ t_OB (ad E k) (E.1 ci) r.2.2 (E.2.1 ci) H (fvl E ci rs g)
  | (1, n, _) => H[ad E k]? = some (arrV E.2.2.1.1 n (fun j => .int (g j)))
  | (2, n, _) => H[ad E k]? = some (arrV E.2.2.1.2.1 n (fun j => .int (g j)))
  | (3, n, rs) => H[ad E k]? = some (arrV E.2.2.1.2.2.1 n (fun j => va_rf ((rs.getD j none).map (ad E))))
  | (4, n, _) => ∃ scr : Cell, H[ad E k]? = some scr ∧ scr.cls = E.2.2.1.2.2.2 ∧ (∀ k', scr.vm ≠ .statics k') ∧ scr.vm ≠ .unknown ∧ scr.slots.size = n ∧ ∀ j : Nat, j < n → scr.slots[j]? = some (.int (g j))
  | _ => False
def CN (E : Ev) (G : List SC) (h : AH) (H : Heap) : Prop := H.size + 1 = evB E + G.length ∧ E.2.2.2.1 < evB E ∧ (∃ n, G[0]? = some (4, n, [])) ∧ ∀ k c, G[k]? = some c → cellAt E k c (h k) H
def tys0 (E : Ev) : List (ClassId × FieldType) := [(E.2.2.1.1, .int), (E.2.2.1.2.1, .boolean), (E.2.2.1.2.2.1, .object "SatchelSins$Image")]
theorem cellAt.kept {E : Ev} {k : Nat} {c : SC} {g : Nat → Int32} {H H' : Heap} (h : cellAt E k c g H) (e : H'[ad E k]? = H[ad E k]?) : cellAt E k c g H' := by
  obtain ⟨t, n, rs⟩ := c
  match t, h with
  | 0, h => obtain ⟨r, h1, h2⟩ := h; exact ⟨r, h1, h2.kept e⟩
  | 1, h => exact e.trans h
  | 2, h => exact e.trans h
  | 3, h => exact e.trans h
  | 4, h => obtain ⟨scr, h1, h2⟩ := h; exact ⟨scr, e.trans h1, h2⟩
theorem cellAt.lt {E : Ev} {k : Nat} {c : SC} {g : Nat → Int32} {H : Heap} (h : cellAt E k c g H) : ad E k < H.size := by
  obtain ⟨t, n, rs⟩ := c
  match t, h with
  | 0, h => obtain ⟨r, h1, cell, h2, -⟩ := h; exact (Array.getElem?_eq_some_iff.mp h2).1
  | 1, h => exact (Array.getElem?_eq_some_iff.mp h).1
  | 2, h => exact (Array.getElem?_eq_some_iff.mp h).1
  | 3, h => exact (Array.getElem?_eq_some_iff.mp h).1
  | 4, h => obtain ⟨scr, h1, h2⟩ := h; exact (Array.getElem?_eq_some_iff.mp h1).1
theorem ad_inj {E : Ev} (hb : E.2.2.2.1 < evB E) : ∀ {a b : Nat}, ad E a = ad E b → a = b
  | 0, 0, _ => rfl
  | 0, b + 1, h => by simp only [ad] at h; simp only [evB] at hb; omega
  | a + 1, 0, h => by simp only [ad] at h; simp only [evB] at hb; omega
  | a + 1, b + 1, h => by simp only [ad] at h; omega
theorem CN.pos {E : Ev} {G : List SC} {h : AH} {H : Heap} (hN : CN E G h H) {k : Nat} {c : SC} (hk : G[k]? = some c) (hc : c.1 ≠ 4) : evB E ≤ ad E k := by
  obtain ⟨-, -, ⟨n, h0⟩, -⟩ := hN
  cases k with
  | zero => rw [h0] at hk; cases hk; exact absurd rfl hc
  | succ k => simp only [ad, evB]; omega
/-- one cell is written -/
theorem CN.upd {E : Ev} {G : List SC} {h h' : AH} {H H' : Heap} (hN : CN E G h H) {k : Nat} {c c' : SC} (hk : G[k]? = some c) (hc : c.1 ≠ 4) (z : H'.size = H.size) (oq : ∀ q : Nat, q ≠ ad E k → H'[q]? = H[q]?) (hh : ∀ i, i ≠ k → h' i = h i) (hn : cellAt E k c' (h' k) H') : CN E (G.set k c') h' H' := by
  have hlt : k < G.length := (List.getElem?_eq_some_iff.mp hk).1
  obtain ⟨h1, h2, ⟨n, h3⟩, h4⟩ := hN
  refine ⟨by rw [z, List.length_set]; exact h1, h2, ⟨n, ?_⟩, fun i ci hi => ?_⟩
  · have hk0 : k ≠ 0 := by
      intro e
      subst e
      rw [h3] at hk
      cases hk
      exact hc rfl
    rw [List.getElem?_set_ne hk0]
    exact h3
  · by_cases e : i = k
    · subst e
      rw [List.getElem?_set_self hlt] at hi
      cases hi
      exact hn
    · rw [List.getElem?_set_ne (Ne.symm e)] at hi
      rw [hh i e]
      exact (h4 i ci hi).kept (oq _ (fun q => e (ad_inj h2 q)))
theorem set_same {α : Type} {l : List α} {k : Nat} {c : α} (h : l[k]? = some c) : l.set k c = l := by
  have hlt := (List.getElem?_eq_some_iff.mp h).1
  apply List.ext_getElem?
  intro i
  by_cases e : i = k
  · subst e
    rw [List.getElem?_set_self hlt, h]
  · rw [List.getElem?_set_ne (Ne.symm e)]
theorem CN.upd0 {E : Ev} {G : List SC} {h h' : AH} {H H' : Heap} (hN : CN E G h H) {k : Nat} {c : SC} (hk : G[k]? = some c) (hc : c.1 ≠ 4) (z : H'.size = H.size) (oq : ∀ q : Nat, q ≠ ad E k → H'[q]? = H[q]?) (hh : ∀ i, i ≠ k → h' i = h i) (hn : cellAt E k c (h' k) H') : CN E G h' H' := by
  have := hN.upd hk hc z oq hh hn
  rwa [set_same hk] at this
/-- a cell is made -/
theorem CN.push {E : Ev} {G : List SC} {h h' : AH} {H H' : Heap} (hN : CN E G h H) {c : SC} (z : H'.size = H.size + 1) (oq : ∀ q : Nat, q < H.size → H'[q]? = H[q]?) (hh : ∀ i, i ≠ G.length → h' i = h i) (hn : cellAt E G.length c (h' G.length) H') : CN E (G ++ [c]) h' H' := by
  obtain ⟨h1, h2, ⟨n, h3⟩, h4⟩ := hN
  have hp : 0 < G.length := (List.getElem?_eq_some_iff.mp h3).1
  refine ⟨by rw [z, List.length_append, List.length_singleton]; omega, h2, ⟨n, by rw [List.getElem?_append_left hp]; exact h3⟩, fun i ci hi => ?_⟩
  by_cases e : i < G.length
  · rw [List.getElem?_append_left e] at hi
    rw [hh i (Nat.ne_of_lt e)]
    exact (h4 i ci hi).kept (oq _ (h4 i ci hi).lt)
  · have hl : i < (G ++ [c]).length := (List.getElem?_eq_some_iff.mp hi).1
    rw [List.length_append, List.length_singleton] at hl
    have e2 : i = G.length := by omega
    subst e2
    rw [List.getElem?_append_right (Nat.le_refl _), Nat.sub_self] at hi
    cases hi
    exact hn
theorem CN.new_ad {E : Ev} {G : List SC} {h : AH} {H : Heap} (hN : CN E G h H) : ad E G.length = H.size := by
  obtain ⟨h1, h2, ⟨n, h3⟩, h4⟩ := hN
  have hp : 0 < G.length := (List.getElem?_eq_some_iff.mp h3).1
  obtain ⟨k, hk⟩ : ∃ k, G.length = k + 1 := ⟨G.length - 1, by omega⟩
  rw [hk] at h1 ⊢
  simp only [ad, evB] at *
  omega
abbrev FS (E : Ev) (H0 H : Heap) (locs : List Loc) : Prop := va_S (fun q => evB E ≤ q) H0 H locs
theorem FS.push {E : Ev} {H0 H H' : Heap} {locs : List Loc} (h : FS E H0 H locs) (z : H'.size = H.size + 1) (oq : ∀ q : Nat, q < H.size → H'[q]? = H[q]?) : FS E H0 H' locs := by
  obtain ⟨h1, h2, h3⟩ := h
  exact ⟨by omega, fun q hq hA => (oq q (by omega)).trans (h2 q hq hA), h3⟩
/-- what the tables say, at any state of the run -/
def nst : List Cond := [Cond.methodLinkNest "SatchelSins" 19 ⟨"SatchelSins$Roll", "<init>", "()V"⟩ "SatchelSins", Cond.methodLinkNest "SatchelSins" 47 ⟨"SatchelSins$Past", "<init>", "()V"⟩ "SatchelSins", Cond.methodLinkNest "SatchelSins" 79 ⟨"SatchelSins$Slate", "<init>", "()V"⟩ "SatchelSins", Cond.methodLinkNest "SatchelSins" 84 ⟨"SatchelSins$Image", "<init>", "()V"⟩ "SatchelSins"]
def KN (E : Ev) (U : State) : Prop := va_K (E.1, E.2.1) cls (tys0 E) U ∧ (∀ w ∈ nst, va_Nw w U) ∧ va_AO "SatchelSins$Image" U ∧ ∃ (kA : Class) (comp : ClassId), U.vm.classes[E.2.2.1.2.2.2]? = some kA ∧ kA.kind = .array comp .int
theorem KN.warm {E : Ev} {s U : State} (hW : s.WarmedH U.vm) (h : KN E s) : KN E U := by
  obtain ⟨h1, h2, h3, kA, comp, h4, h5⟩ := h
  obtain ⟨k', hk', he⟩ := hW.alike.2.2 _ _ h4
  refine ⟨h1.moved hW.alike, fun w hw => ?_, h3.moved hW.alike, k', comp, hk', by rw [he]; exact h5⟩
  have h := h2 w hw
  simp only [nst, List.mem_cons, List.not_mem_nil, or_false] at hw
  rcases hw with rfl | rfl | rfl | rfl <;> exact va_Nw.warmM hW h
theorem KN.same {E : Ev} {s U : State} (hv : s.vm = U.vm) (h : KN E s) : KN E U := by
  obtain ⟨h1, h2, h3, kA, comp, h4, h5⟩ := h
  have ha : s.vm.Alike U.vm := by rw [hv]; exact Vm.Alike.refl _
  refine ⟨h1.moved ha, fun w hw => ?_, h3.moved ha, kA, comp, by rw [← hv]; exact h4, h5⟩
  have h := h2 w hw
  simp only [nst, List.mem_cons, List.not_mem_nil, or_false] at hw
  rcases hw with rfl | rfl | rfl | rfl <;> exact va_Nw.same rfl hv h
/-- the locals -/
def lvl (E : Ev) (L : List Value) : List (Nat × Value) := L.zipIdx.filterMap (fun q => if isSet q.1 = true then some (q.2, cv E q.1) else none)
theorem lvl_mem {E : Ev} {L : List Value} {q : Nat × Value} : q ∈ lvl E L ↔ ∃ v, L[q.1]? = some v ∧ isSet v = true ∧ q.2 = cv E v := by
  obtain ⟨i, w⟩ := q
  simp only [lvl, List.mem_filterMap]
  constructor
  · rintro ⟨⟨v, k⟩, h1, h2⟩
    have h3 := List.mem_zipIdx_iff_getElem?.mp h1
    simp only at h2 h3
    split at h2
    · rename_i hs
      cases h2
      exact ⟨v, h3, hs, rfl⟩
    · cases h2
  · rintro ⟨v, h1, h2, h3⟩
    refine ⟨(v, i), List.mem_zipIdx_iff_getElem?.mpr h1, ?_⟩
    simp only at h3 ⊢
    rw [if_pos h2, h3]
def LV (E : Ev) (ls : Array Slot) (n : Nat) (L : List Value) : Prop := lv_has ls n (lvl E L) ∧ L.length = n
theorem LV.at {E : Ev} {ls : Array Slot} {n : Nat} {L : List Value} (h : LV E ls n L) {i : Nat} {v : Value} (hi : L[i]? = some v) (hs : isSet v = true) : ls[i]? = some (.val (cv E v)) := h.1.2.2 (i, cv E v) (lvl_mem.mpr ⟨v, hi, hs, rfl⟩)
theorem cv_cat (E : Ev) (v : Value) : (cv E v).category = v.category := by cases v <;> rfl
theorem cutOk_spec {L : List Value} {i j : Nat} (h : cutOk L i = true) (hj : j + 1 = i) {v : Value} (hv : L[j]? = some v) : v.category = 1 := by
  subst hj
  simp only [cutOk, hv] at h
  cases v <;> first | rfl | cases h
theorem LV.set1 {E : Ev} {ls ls' : Array Slot} {n : Nat} {L : List Value} {i : Nat} {v : Value} (h : LV E ls n L) (hc : cutOk L i = true) (hi : i < L.length)
    (h' : lv_has ls' n ((i, cv E v) :: (lvl E L).filter (fun q => !(q.1 == i) && !(q.1 + 1 == i && q.2.category == 2)))) : LV E ls' n (L.set i v) := by
  refine ⟨⟨h'.1, h'.2.1, fun q hq => ?_⟩, by rw [List.length_set]; exact h.2⟩
  obtain ⟨w, h1, h2, h3⟩ := lvl_mem.mp hq
  by_cases e : q.1 = i
  · rw [e, List.getElem?_set_self hi] at h1
    cases h1
    have := h'.2.2 (i, cv E v) List.mem_cons_self
    rw [e, h3]
    exact this
  · rw [List.getElem?_set_ne (Ne.symm e)] at h1
    refine h'.2.2 q (List.mem_cons_of_mem _ (List.mem_filter.mpr ⟨lvl_mem.mpr ⟨w, h1, h2, h3⟩, ?_⟩))
    have e1 : (q.1 == i) = false := by simp [e]
    rw [e1]
    by_cases e2 : q.1 + 1 = i
    · have := cutOk_spec hc e2 h1
      rw [h3, cv_cat, this]
      simp
    · have : (q.1 + 1 == i) = false := by simp [e2]
      simp [this]
theorem LV.set2 {E : Ev} {ls ls' : Array Slot} {n : Nat} {L : List Value} {i : Nat} {v : Value} (h : LV E ls n L) (hc : cutOk L i = true) (hi : i + 1 < L.length)
    (h' : lv_has ls' n ((i, cv E v) :: (lvl E L).filter (fun q => !(q.1 == i) && (!(q.1 == i + 1) && !(q.1 + 1 == i && q.2.category == 2))))) : LV E ls' n ((L.set i v).set (i + 1) un_) := by
  refine ⟨⟨h'.1, h'.2.1, fun q hq => ?_⟩, by rw [List.length_set, List.length_set]; exact h.2⟩
  obtain ⟨w, h1, h2, h3⟩ := lvl_mem.mp hq
  by_cases e0 : q.1 = i + 1
  · rw [e0, List.getElem?_set_self (by rw [List.length_set]; exact hi)] at h1
    cases h1
    cases h2
  rw [List.getElem?_set_ne (Ne.symm e0)] at h1
  by_cases e : q.1 = i
  · rw [e, List.getElem?_set_self (by omega)] at h1
    cases h1
    have := h'.2.2 (i, cv E v) List.mem_cons_self
    rw [e, h3]
    exact this
  · rw [List.getElem?_set_ne (Ne.symm e)] at h1
    refine h'.2.2 q (List.mem_cons_of_mem _ (List.mem_filter.mpr ⟨lvl_mem.mpr ⟨w, h1, h2, h3⟩, ?_⟩))
    have e1 : (q.1 == i) = false := by simp [e]
    have e3 : (q.1 == i + 1) = false := by simp [e0]
    rw [e1, e3]
    by_cases e2 : q.1 + 1 = i
    · have := cutOk_spec hc e2 h1
      rw [h3, cv_cat, this]
      simp
    · have : (q.1 + 1 == i) = false := by simp [e2]
      simp [this]
def lvArgsA : Nat → List Value → List (Nat × Value) := lv_args
/-- a method's ground: the machine, the code, the words, the room -/
def Cx (E : Ev) (j : Nat) (p : Program) (R : Room) (s : State) (m : MethodId) (args : Array Value) (meth : Method) (c : Code) : Prop :=
  p.tables.exec = Jvm.exec ∧ c.code = (mtJ j).2.1 ∧ c.maxLocals = (mtJ j).2.2.1 ∧ s.vm.findClass (mtJ j).1.cls = some m.cls ∧ (∀ w ∈ wsG, w.before args s = true) ∧ KN E s ∧ evB E ≤ s.heap.size ∧ (1 ≤ R.frames ∧ 100 ≤ R.locals) ∧ meth.name = (mtJ j).1.name
def SndA (j pc : Nat) (act : Act) : Prop := ∀ (E : Ev) (p : Program) (l : Launch) (e : Env) (R : Room) (s : State) (m : MethodId) (args : Array Value) (below : List Frame) (meth : Method) (c : Code) (H : Heap) (locs : List Loc) (cells slots : Nat) (Q : State → Prop) (ls : Array Slot) (L S : List Value) (G : List SC) (h : AH) (st' : St) (a b : Nat),
  Cx E j p R s m args meth c → act pc L S G h = some (st', a, b) → CN E G h H → FS E s.heap H locs → LV E ls (mtJ j).2.2.1 L → cells + a ≤ R.cells → slots + b ≤ R.slots →
  (∀ (H' : Heap) (locs' : List Loc) (ls' : Array Slot), CN E st'.2.2.2.1 st'.2.2.2.2 H' → FS E s.heap H' locs' → LV E ls' (mtJ j).2.2.1 st'.2.1 → W p l e R s m args below meth c H' locs' (cells + a) (slots + b) Q (F0 m st'.1 ls' (st'.2.2.1.map (cv E)))) →
  W p l e R s m args below meth c H locs cells slots Q (F0 m pc ls (S.map (cv E)))
end
section
/-! EACH PLAIN INSTRUCTION OF THE SMALL MACHINE IS ONE OF THE LARGE ONE -/
section AA
variable {j pc : Nat}
theorem s_iconst {n : Int} {v : Int32} (hd : decode (mtJ j).2.1 pc = .ok (.iconst n, 1)) (hv : Int32.ofInt n = v) : SndA j pc (a_push 1 (.int v)) := by
  intro E p l e R s m args below meth c H locs cells slots Q ls L S G h st' a b C ha hN hS hL hc hs kk
  obtain ⟨hx, hb, -⟩ := C
  cases ha
  exact lv_iconst hx hb hd hv (kk H locs ls hN hS hL)
theorem s_bipush {n : Int} {v : Int32} (hd : decode (mtJ j).2.1 pc = .ok (.bipush n, 2)) (hv : (Int8.ofInt n).toInt32 = v) : SndA j pc (a_push 2 (.int v)) := by
  intro E p l e R s m args below meth c H locs cells slots Q ls L S G h st' a b C ha hN hS hL hc hs kk
  obtain ⟨hx, hb, -⟩ := C
  cases ha
  exact lv_bipush hx hb hd hv (kk H locs ls hN hS hL)
theorem s_sipush {n : Int} {v : Int32} (hd : decode (mtJ j).2.1 pc = .ok (.sipush n, 3)) (hv : (Int16.ofInt n).toInt32 = v) : SndA j pc (a_push 3 (.int v)) := by
  intro E p l e R s m args below meth c H locs cells slots Q ls L S G h st' a b C ha hN hS hL hc hs kk
  obtain ⟨hx, hb, -⟩ := C
  cases ha
  exact lv_sipush hx hb hd hv (kk H locs ls hN hS hL)
theorem s_lconst {n : Fin 2} {v : Int64} (hd : decode (mtJ j).2.1 pc = .ok (.lconst n, 1)) (hv : Int64.ofNat (n : Nat) = v) : SndA j pc (a_push 1 (.long v)) := by
  intro E p l e R s m args below meth c H locs cells slots Q ls L S G h st' a b C ha hN hS hL hc hs kk
  obtain ⟨hx, hb, -⟩ := C
  cases ha
  exact lv_lconst hx hb hd hv (kk H locs ls hN hS hL)
theorem s_ldc {i : Nat} {v : Int32} (hd : decode (mtJ j).2.1 pc = .ok (.ldc i, 2)) {own : String} (ho : (mtJ j).1.cls = own) (hw : Cond.constant own i v ∈ wsG) : SndA j pc (a_push 2 (.int v)) := by
  intro E p l e R s m args below meth c H locs cells slots Q ls L S G h st' a b C ha hN hS hL hc hs kk
  obtain ⟨hx, hb, -, hown, hts, -⟩ := C
  cases ha
  rw [ho] at hown
  exact lv_ldc hx hb hown (hts _ hw) hd (kk H locs ls hN hS hL)
theorem s_ldcw {i : Nat} {v : Int32} (hd : decode (mtJ j).2.1 pc = .ok (.ldc_w i, 3)) {own : String} (ho : (mtJ j).1.cls = own) (hw : Cond.constant own i v ∈ wsG) : SndA j pc (a_push 3 (.int v)) := by
  intro E p l e R s m args below meth c H locs cells slots Q ls L S G h st' a b C ha hN hS hL hc hs kk
  obtain ⟨hx, hb, -, hown, hts, -⟩ := C
  cases ha
  rw [ho] at hown
  exact lv_ldcw hx hb hown (hts _ hw) hd (kk H locs ls hN hS hL)
theorem s_ldc2 {i : Nat} {v : Int64} (hd : decode (mtJ j).2.1 pc = .ok (.ldc2_w i, 3)) {own : String} (ho : (mtJ j).1.cls = own) (hw : Cond.constantLong own i v ∈ wsG) : SndA j pc (a_push 3 (.long v)) := by
  intro E p l e R s m args below meth c H locs cells slots Q ls L S G h st' a b C ha hN hS hL hc hs kk
  obtain ⟨hx, hb, -, hown, hts, -⟩ := C
  cases ha
  rw [ho] at hown
  exact lv_ldc2 hx hb hown (hts _ hw) hd (kk H locs ls hN hS hL)
theorem s_iload_n {k : Fin 4} {i : Nat} (hd : decode (mtJ j).2.1 pc = .ok (.iload_n k, 1)) (hi : (k : Nat) = i) : SndA j pc (a_iload 1 i) := by
  intro E p l e R s m args below meth c H locs cells slots Q ls L S G h st' a b C ha hN hS hL hc hs kk
  obtain ⟨hx, hb, -⟩ := C
  simp only [a_iload] at ha
  split at ha
  · rename_i x hx'
    cases ha
    exact lv_iload_n hx hb hd hi (hL.at hx' rfl) (kk H locs ls hN hS hL)
  · cases ha
theorem s_iload {i : Nat} (hd : decode (mtJ j).2.1 pc = .ok (.iload i, 2)) : SndA j pc (a_iload 2 i) := by
  intro E p l e R s m args below meth c H locs cells slots Q ls L S G h st' a b C ha hN hS hL hc hs kk
  obtain ⟨hx, hb, -⟩ := C
  simp only [a_iload] at ha
  split at ha
  · rename_i x hx'
    cases ha
    exact lv_iload hx hb hd (hL.at hx' rfl) (kk H locs ls hN hS hL)
  · cases ha
theorem s_lload_n {k : Fin 4} {i : Nat} (hd : decode (mtJ j).2.1 pc = .ok (.lload_n k, 1)) (hi : (k : Nat) = i) : SndA j pc (a_lload 1 i) := by
  intro E p l e R s m args below meth c H locs cells slots Q ls L S G h st' a b C ha hN hS hL hc hs kk
  obtain ⟨hx, hb, -⟩ := C
  simp only [a_lload] at ha
  split at ha
  · rename_i x hx'
    cases ha
    exact lv_lload_n hx hb hd hi (hL.at hx' rfl) (kk H locs ls hN hS hL)
  · cases ha
theorem s_lload {i : Nat} (hd : decode (mtJ j).2.1 pc = .ok (.lload i, 2)) : SndA j pc (a_lload 2 i) := by
  intro E p l e R s m args below meth c H locs cells slots Q ls L S G h st' a b C ha hN hS hL hc hs kk
  obtain ⟨hx, hb, -⟩ := C
  simp only [a_lload] at ha
  split at ha
  · rename_i x hx'
    cases ha
    exact lv_lload hx hb hd (hL.at hx' rfl) (kk H locs ls hN hS hL)
  · cases ha
theorem s_aload_n {k : Fin 4} {i : Nat} (hd : decode (mtJ j).2.1 pc = .ok (.aload_n k, 1)) (hi : (k : Nat) = i) : SndA j pc (a_aload 1 i) := by
  intro E p l e R s m args below meth c H locs cells slots Q ls L S G h st' a b C ha hN hS hL hc hs kk
  obtain ⟨hx, hb, -⟩ := C
  simp only [a_aload] at ha
  split at ha
  · rename_i x hx'
    cases ha
    exact lv_aload_n hx hb hd hi (hL.at hx' rfl) (kk H locs ls hN hS hL)
  · cases ha
theorem s_istore_n {k : Fin 4} {i : Nat} (hd : decode (mtJ j).2.1 pc = .ok (.istore_n k, 1)) (hi : (k : Nat) = i) : SndA j pc (a_istore 1 i) := by
  intro E p l e R s m args below meth c H locs cells slots Q ls L S G h st' a b C ha hN hS hL hc hs kk
  obtain ⟨hx, hb, -⟩ := C
  simp only [a_istore] at ha
  split at ha
  · split at ha
    · rename_i hi2
      cases ha
      exact lv_istore_n hx hb hd hi hL.1 (by rw [← hL.2]; exact hi2.1) rfl (fun ls' hl' => kk H locs ls' hN hS (hL.set1 hi2.2 hi2.1 hl'))
    · cases ha
  · cases ha
theorem s_istore {i : Nat} (hd : decode (mtJ j).2.1 pc = .ok (.istore i, 2)) : SndA j pc (a_istore 2 i) := by
  intro E p l e R s m args below meth c H locs cells slots Q ls L S G h st' a b C ha hN hS hL hc hs kk
  obtain ⟨hx, hb, -⟩ := C
  simp only [a_istore] at ha
  split at ha
  · split at ha
    · rename_i hi2
      cases ha
      exact lv_istore hx hb hd hL.1 (by rw [← hL.2]; exact hi2.1) rfl (fun ls' hl' => kk H locs ls' hN hS (hL.set1 hi2.2 hi2.1 hl'))
    · cases ha
  · cases ha
theorem s_lstore_n {k : Fin 4} {i : Nat} (hd : decode (mtJ j).2.1 pc = .ok (.lstore_n k, 1)) (hi : (k : Nat) = i) : SndA j pc (a_lstore 1 i) := by
  intro E p l e R s m args below meth c H locs cells slots Q ls L S G h st' a b C ha hN hS hL hc hs kk
  obtain ⟨hx, hb, -⟩ := C
  simp only [a_lstore] at ha
  split at ha
  · split at ha
    · rename_i hi2
      cases ha
      exact lv_lstore_n hx hb hd hi hL.1 (by rw [← hL.2]; exact hi2.1) rfl (fun ls' hl' => kk H locs ls' hN hS (hL.set2 hi2.2 hi2.1 hl'))
    · cases ha
  · cases ha
theorem s_astore_n {k : Fin 4} {i : Nat} (hd : decode (mtJ j).2.1 pc = .ok (.astore_n k, 1)) (hi : (k : Nat) = i) : SndA j pc (a_astore 1 i) := by
  intro E p l e R s m args below meth c H locs cells slots Q ls L S G h st' a b C ha hN hS hL hc hs kk
  obtain ⟨hx, hb, -⟩ := C
  simp only [a_astore] at ha
  split at ha
  · rename_i x S'
    split at ha
    · rename_i hi2
      cases ha
      exact lv_astore_n (x := ad E x) hx hb hd hi hL.1 (by rw [← hL.2]; exact hi2.1) rfl (fun ls' hl' => kk H locs ls' hN hS (hL.set1 (v := .ref x) hi2.2 hi2.1 hl'))
    · cases ha
  · cases ha
theorem s_iinc {i : Nat} {n : Int} {v : Int32} (hd : decode (mtJ j).2.1 pc = .ok (.iinc i n, 3)) (hv : Int32.ofInt n = v) : SndA j pc (a_iinc i v) := by
  intro E p l e R s m args below meth c H locs cells slots Q ls L S G h st' a b C ha hN hS hL hc hs kk
  obtain ⟨hx, hb, -⟩ := C
  simp only [a_iinc] at ha
  split at ha
  · rename_i x hx'
    split at ha
    · rename_i hi2
      cases ha
      have hlt : i < L.length := (List.getElem?_eq_some_iff.mp hx').1
      obtain ⟨q, hq⟩ := List.getElem?_of_mem (lvl_mem (E := E) (L := L) (q := (i, .int x)) |>.mpr ⟨.int x, hx', rfl, rfl⟩)
      exact lv_iinc (v := x + v) hx hb hd hL.1 hq (by rw [hv]) (by rw [← hL.2]; exact hlt) rfl (fun ls' hl' => kk H locs ls' hN hS (hL.set1 (v := .int (x + v)) hi2 hlt hl'))
    · cases ha
  · cases ha
theorem s_iadd (hd : decode (mtJ j).2.1 pc = .ok (.iadd, 1)) : SndA j pc (a_bin (fun x y => x + y)) := by
  intro E p l e R s m args below meth c H locs cells slots Q ls L S G h st' a b C ha hN hS hL hc hs kk
  obtain ⟨hx, hb, -⟩ := C
  simp only [a_bin] at ha
  split at ha
  · cases ha
    exact lv_iadd hx hb hd (kk H locs ls hN hS hL)
  · cases ha
theorem s_isub (hd : decode (mtJ j).2.1 pc = .ok (.isub, 1)) : SndA j pc (a_bin (fun x y => x - y)) := by
  intro E p l e R s m args below meth c H locs cells slots Q ls L S G h st' a b C ha hN hS hL hc hs kk
  obtain ⟨hx, hb, -⟩ := C
  simp only [a_bin] at ha
  split at ha
  · cases ha
    exact lv_isub hx hb hd (kk H locs ls hN hS hL)
  · cases ha
theorem s_imul (hd : decode (mtJ j).2.1 pc = .ok (.imul, 1)) : SndA j pc (a_bin (fun x y => x * y)) := by
  intro E p l e R s m args below meth c H locs cells slots Q ls L S G h st' a b C ha hN hS hL hc hs kk
  obtain ⟨hx, hb, -⟩ := C
  simp only [a_bin] at ha
  split at ha
  · cases ha
    exact lv_imul hx hb hd (kk H locs ls hN hS hL)
  · cases ha
theorem s_iand (hd : decode (mtJ j).2.1 pc = .ok (.iand, 1)) : SndA j pc (a_bin (fun x y => x &&& y)) := by
  intro E p l e R s m args below meth c H locs cells slots Q ls L S G h st' a b C ha hN hS hL hc hs kk
  obtain ⟨hx, hb, -⟩ := C
  simp only [a_bin] at ha
  split at ha
  · cases ha
    exact lv_iand hx hb hd (kk H locs ls hN hS hL)
  · cases ha
theorem s_ior (hd : decode (mtJ j).2.1 pc = .ok (.ior, 1)) : SndA j pc (a_bin (fun x y => x ||| y)) := by
  intro E p l e R s m args below meth c H locs cells slots Q ls L S G h st' a b C ha hN hS hL hc hs kk
  obtain ⟨hx, hb, -⟩ := C
  simp only [a_bin] at ha
  split at ha
  · cases ha
    exact lv_ior hx hb hd (kk H locs ls hN hS hL)
  · cases ha
theorem s_ishl (hd : decode (mtJ j).2.1 pc = .ok (.ishl, 1)) : SndA j pc (a_bin (fun x y => x <<< (y &&& 31))) := by
  intro E p l e R s m args below meth c H locs cells slots Q ls L S G h st' a b C ha hN hS hL hc hs kk
  obtain ⟨hx, hb, -⟩ := C
  simp only [a_bin] at ha
  split at ha
  · cases ha
    exact lv_ishl hx hb hd (kk H locs ls hN hS hL)
  · cases ha
theorem s_ishr (hd : decode (mtJ j).2.1 pc = .ok (.ishr, 1)) : SndA j pc (a_bin (fun x y => x >>> (y &&& 31))) := by
  intro E p l e R s m args below meth c H locs cells slots Q ls L S G h st' a b C ha hN hS hL hc hs kk
  obtain ⟨hx, hb, -⟩ := C
  simp only [a_bin] at ha
  split at ha
  · cases ha
    exact lv_ishr hx hb hd (kk H locs ls hN hS hL)
  · cases ha
theorem s_idiv (hd : decode (mtJ j).2.1 pc = .ok (.idiv, 1)) : SndA j pc a_div := by
  intro E p l e R s m args below meth c H locs cells slots Q ls L S G h st' a b C ha hN hS hL hc hs kk
  obtain ⟨hx, hb, -⟩ := C
  simp only [a_div] at ha
  split at ha
  · split at ha
    · cases ha
    · rename_i hne
      cases ha
      exact lv_idiv hx hb hd hne (kk H locs ls hN hS hL)
  · cases ha
theorem s_irem (hd : decode (mtJ j).2.1 pc = .ok (.irem, 1)) : SndA j pc a_rem := by
  intro E p l e R s m args below meth c H locs cells slots Q ls L S G h st' a b C ha hN hS hL hc hs kk
  obtain ⟨hx, hb, -⟩ := C
  simp only [a_rem] at ha
  split at ha
  · split at ha
    · cases ha
    · rename_i hne
      cases ha
      exact lv_irem hx hb hd hne (kk H locs ls hN hS hL)
  · cases ha
theorem s_ladd (hd : decode (mtJ j).2.1 pc = .ok (.ladd, 1)) : SndA j pc (a_lbin (fun x y => x + y)) := by
  intro E p l e R s m args below meth c H locs cells slots Q ls L S G h st' a b C ha hN hS hL hc hs kk
  obtain ⟨hx, hb, -⟩ := C
  simp only [a_lbin] at ha
  split at ha
  · cases ha
    exact lv_ladd hx hb hd (kk H locs ls hN hS hL)
  · cases ha
theorem s_lmul (hd : decode (mtJ j).2.1 pc = .ok (.lmul, 1)) : SndA j pc (a_lbin (fun x y => x * y)) := by
  intro E p l e R s m args below meth c H locs cells slots Q ls L S G h st' a b C ha hN hS hL hc hs kk
  obtain ⟨hx, hb, -⟩ := C
  simp only [a_lbin] at ha
  split at ha
  · cases ha
    exact lv_lmul hx hb hd (kk H locs ls hN hS hL)
  · cases ha
theorem s_land (hd : decode (mtJ j).2.1 pc = .ok (.land, 1)) : SndA j pc (a_lbin (fun x y => x &&& y)) := by
  intro E p l e R s m args below meth c H locs cells slots Q ls L S G h st' a b C ha hN hS hL hc hs kk
  obtain ⟨hx, hb, -⟩ := C
  simp only [a_lbin] at ha
  split at ha
  · cases ha
    exact lv_land hx hb hd (kk H locs ls hN hS hL)
  · cases ha
theorem s_ldiv (hd : decode (mtJ j).2.1 pc = .ok (.ldiv, 1)) : SndA j pc a_ldiv := by
  intro E p l e R s m args below meth c H locs cells slots Q ls L S G h st' a b C ha hN hS hL hc hs kk
  obtain ⟨hx, hb, -⟩ := C
  simp only [a_ldiv] at ha
  split at ha
  · split at ha
    · cases ha
    · rename_i hne
      cases ha
      exact lv_ldiv hx hb hd hne (kk H locs ls hN hS hL)
  · cases ha
theorem s_lrem (hd : decode (mtJ j).2.1 pc = .ok (.lrem, 1)) : SndA j pc a_lrem := by
  intro E p l e R s m args below meth c H locs cells slots Q ls L S G h st' a b C ha hN hS hL hc hs kk
  obtain ⟨hx, hb, -⟩ := C
  simp only [a_lrem] at ha
  split at ha
  · split at ha
    · cases ha
    · rename_i hne
      cases ha
      exact lv_lrem hx hb hd hne (kk H locs ls hN hS hL)
  · cases ha
theorem s_i2l (hd : decode (mtJ j).2.1 pc = .ok (.i2l, 1)) : SndA j pc a_i2l := by
  intro E p l e R s m args below meth c H locs cells slots Q ls L S G h st' a b C ha hN hS hL hc hs kk
  obtain ⟨hx, hb, -⟩ := C
  simp only [a_i2l] at ha
  split at ha
  · cases ha
    exact lv_i2l hx hb hd rfl (kk H locs ls hN hS hL)
  · cases ha
theorem s_l2i (hd : decode (mtJ j).2.1 pc = .ok (.l2i, 1)) : SndA j pc a_l2i := by
  intro E p l e R s m args below meth c H locs cells slots Q ls L S G h st' a b C ha hN hS hL hc hs kk
  obtain ⟨hx, hb, -⟩ := C
  simp only [a_l2i] at ha
  split at ha
  · cases ha
    exact lv_l2i hx hb hd rfl (kk H locs ls hN hS hL)
  · cases ha
theorem s_lcmp (hd : decode (mtJ j).2.1 pc = .ok (.lcmp, 1)) : SndA j pc a_lcmp := by
  intro E p l e R s m args below meth c H locs cells slots Q ls L S G h st' a b C ha hN hS hL hc hs kk
  obtain ⟨hx, hb, -⟩ := C
  simp only [a_lcmp] at ha
  split at ha
  · cases ha
    exact W.lcmp hx hb hd (kk H locs ls hN hS hL)
  · cases ha
theorem s_dup (hd : decode (mtJ j).2.1 pc = .ok (.dup, 1)) : SndA j pc a_dup := by
  intro E p l e R s m args below meth c H locs cells slots Q ls L S G h st' a b C ha hN hS hL hc hs kk
  obtain ⟨hx, hb, -⟩ := C
  simp only [a_dup] at ha
  split at ha
  · cases ha
    exact lv_dup hx hb hd rfl (kk H locs ls hN hS hL)
  · cases ha
    exact lv_dup hx hb hd rfl (kk H locs ls hN hS hL)
  · cases ha
theorem s_dup2 (hd : decode (mtJ j).2.1 pc = .ok (.dup2, 1)) : SndA j pc a_dup2 := by
  intro E p l e R s m args below meth c H locs cells slots Q ls L S G h st' a b C ha hN hS hL hc hs kk
  obtain ⟨hx, hb, -⟩ := C
  simp only [a_dup2] at ha
  split at ha
  · cases ha
    exact lv_dup2_11 hx hb hd rfl rfl (kk H locs ls hN hS hL)
  · cases ha
theorem s_pop (hd : decode (mtJ j).2.1 pc = .ok (.pop, 1)) : SndA j pc a_pop := by
  intro E p l e R s m args below meth c H locs cells slots Q ls L S G h st' a b C ha hN hS hL hc hs kk
  obtain ⟨hx, hb, -⟩ := C
  simp only [a_pop] at ha
  split at ha
  · cases ha
    exact lv_pop hx hb hd rfl (kk H locs ls hN hS hL)
  · cases ha
theorem s_goto {off : Int} {t : Nat} (hd : decode (mtJ j).2.1 pc = .ok (.goto off, 3)) (ht : (pc : Int) + off = (t : Int)) : SndA j pc (a_goto t) := by
  intro E p l e R s m args below meth c H locs cells slots Q ls L S G h st' a b C ha hN hS hL hc hs kk
  obtain ⟨hx, hb, -⟩ := C
  cases ha
  exact lv_goto hx hb hd ht (kk H locs ls hN hS hL)
theorem s_if_eq {off : Int} {t : Nat} (hd : decode (mtJ j).2.1 pc = .ok (.ifCond .eq off, 3)) (ht : (pc : Int) + off = (t : Int)) : SndA j pc (a_if1 (fun x => decide (x = 0)) t) := by
  intro E p l e R s m args below meth c H locs cells slots Q ls L S G h st' a b C ha hN hS hL hc hs kk
  obtain ⟨hx, hb, -⟩ := C
  simp only [a_if1] at ha
  split at ha
  · rename_i x S'
    cases ha
    have kk := kk H locs ls hN hS hL
    refine lv_if_eq hx hb hd ht (fun q => ?_) (fun q => ?_)
    · first | (rw [decide_eq_true q] at kk; exact kk) | (simp only [q] at kk; simpa using kk)
    · first | (rw [decide_eq_false q] at kk; exact kk) | (simp only [q] at kk; simpa using kk)
  · cases ha
theorem s_if_ne {off : Int} {t : Nat} (hd : decode (mtJ j).2.1 pc = .ok (.ifCond .ne off, 3)) (ht : (pc : Int) + off = (t : Int)) : SndA j pc (a_if1 (fun x => decide (¬ x = 0)) t) := by
  intro E p l e R s m args below meth c H locs cells slots Q ls L S G h st' a b C ha hN hS hL hc hs kk
  obtain ⟨hx, hb, -⟩ := C
  simp only [a_if1] at ha
  split at ha
  · rename_i x S'
    cases ha
    have kk := kk H locs ls hN hS hL
    refine lv_if_ne hx hb hd ht (fun q => ?_) (fun q => ?_)
    · first | (rw [decide_eq_true q] at kk; exact kk) | (simp only [q] at kk; simpa using kk)
    · first | (rw [decide_eq_false q] at kk; exact kk) | (simp only [q] at kk; simpa using kk)
  · cases ha
theorem s_if_lt {off : Int} {t : Nat} (hd : decode (mtJ j).2.1 pc = .ok (.ifCond .lt off, 3)) (ht : (pc : Int) + off = (t : Int)) : SndA j pc (a_if1 (fun x => decide (x < 0)) t) := by
  intro E p l e R s m args below meth c H locs cells slots Q ls L S G h st' a b C ha hN hS hL hc hs kk
  obtain ⟨hx, hb, -⟩ := C
  simp only [a_if1] at ha
  split at ha
  · rename_i x S'
    cases ha
    have kk := kk H locs ls hN hS hL
    refine lv_if_lt hx hb hd ht (fun q => ?_) (fun q => ?_)
    · first | (rw [decide_eq_true q] at kk; exact kk) | (simp only [q] at kk; simpa using kk)
    · first | (rw [decide_eq_false q] at kk; exact kk) | (simp only [q] at kk; simpa using kk)
  · cases ha
theorem s_if_ge {off : Int} {t : Nat} (hd : decode (mtJ j).2.1 pc = .ok (.ifCond .ge off, 3)) (ht : (pc : Int) + off = (t : Int)) : SndA j pc (a_if1 (fun x => decide (0 ≤ x)) t) := by
  intro E p l e R s m args below meth c H locs cells slots Q ls L S G h st' a b C ha hN hS hL hc hs kk
  obtain ⟨hx, hb, -⟩ := C
  simp only [a_if1] at ha
  split at ha
  · rename_i x S'
    cases ha
    have kk := kk H locs ls hN hS hL
    refine lv_if_ge hx hb hd ht (fun q => ?_) (fun q => ?_)
    · first | (rw [decide_eq_true q] at kk; exact kk) | (simp only [q] at kk; simpa using kk)
    · first | (rw [decide_eq_false q] at kk; exact kk) | (simp only [q] at kk; simpa using kk)
  · cases ha
theorem s_if_gt {off : Int} {t : Nat} (hd : decode (mtJ j).2.1 pc = .ok (.ifCond .gt off, 3)) (ht : (pc : Int) + off = (t : Int)) : SndA j pc (a_if1 (fun x => decide (0 < x)) t) := by
  intro E p l e R s m args below meth c H locs cells slots Q ls L S G h st' a b C ha hN hS hL hc hs kk
  obtain ⟨hx, hb, -⟩ := C
  simp only [a_if1] at ha
  split at ha
  · rename_i x S'
    cases ha
    have kk := kk H locs ls hN hS hL
    refine lv_if_gt hx hb hd ht (fun q => ?_) (fun q => ?_)
    · first | (rw [decide_eq_true q] at kk; exact kk) | (simp only [q] at kk; simpa using kk)
    · first | (rw [decide_eq_false q] at kk; exact kk) | (simp only [q] at kk; simpa using kk)
  · cases ha
theorem s_if_le {off : Int} {t : Nat} (hd : decode (mtJ j).2.1 pc = .ok (.ifCond .le off, 3)) (ht : (pc : Int) + off = (t : Int)) : SndA j pc (a_if1 (fun x => decide (x ≤ 0)) t) := by
  intro E p l e R s m args below meth c H locs cells slots Q ls L S G h st' a b C ha hN hS hL hc hs kk
  obtain ⟨hx, hb, -⟩ := C
  simp only [a_if1] at ha
  split at ha
  · rename_i x S'
    cases ha
    have kk := kk H locs ls hN hS hL
    refine lv_if_le hx hb hd ht (fun q => ?_) (fun q => ?_)
    · first | (rw [decide_eq_true q] at kk; exact kk) | (simp only [q] at kk; simpa using kk)
    · first | (rw [decide_eq_false q] at kk; exact kk) | (simp only [q] at kk; simpa using kk)
  · cases ha
theorem s_icmp_eq {off : Int} {t : Nat} (hd : decode (mtJ j).2.1 pc = .ok (.if_icmp .eq off, 3)) (ht : (pc : Int) + off = (t : Int)) : SndA j pc (a_if2 (fun x y => decide (x = y)) t) := by
  intro E p l e R s m args below meth c H locs cells slots Q ls L S G h st' a b C ha hN hS hL hc hs kk
  obtain ⟨hx, hb, -⟩ := C
  simp only [a_if2] at ha
  split at ha
  · rename_i y x S'
    cases ha
    have kk := kk H locs ls hN hS hL
    refine lv_icmp_eq hx hb hd ht (fun q => ?_) (fun q => ?_)
    · first | (rw [decide_eq_true q] at kk; exact kk) | (simp only [q] at kk; simpa using kk)
    · first | (rw [decide_eq_false q] at kk; exact kk) | (simp only [q] at kk; simpa using kk)
  · cases ha
theorem s_icmp_ne {off : Int} {t : Nat} (hd : decode (mtJ j).2.1 pc = .ok (.if_icmp .ne off, 3)) (ht : (pc : Int) + off = (t : Int)) : SndA j pc (a_if2 (fun x y => decide (¬ x = y)) t) := by
  intro E p l e R s m args below meth c H locs cells slots Q ls L S G h st' a b C ha hN hS hL hc hs kk
  obtain ⟨hx, hb, -⟩ := C
  simp only [a_if2] at ha
  split at ha
  · rename_i y x S'
    cases ha
    have kk := kk H locs ls hN hS hL
    refine lv_icmp_ne hx hb hd ht (fun q => ?_) (fun q => ?_)
    · first | (rw [decide_eq_true q] at kk; exact kk) | (simp only [q] at kk; simpa using kk)
    · first | (rw [decide_eq_false q] at kk; exact kk) | (simp only [q] at kk; simpa using kk)
  · cases ha
theorem s_icmp_lt {off : Int} {t : Nat} (hd : decode (mtJ j).2.1 pc = .ok (.if_icmp .lt off, 3)) (ht : (pc : Int) + off = (t : Int)) : SndA j pc (a_if2 (fun x y => decide (x < y)) t) := by
  intro E p l e R s m args below meth c H locs cells slots Q ls L S G h st' a b C ha hN hS hL hc hs kk
  obtain ⟨hx, hb, -⟩ := C
  simp only [a_if2] at ha
  split at ha
  · rename_i y x S'
    cases ha
    have kk := kk H locs ls hN hS hL
    refine lv_icmp_lt hx hb hd ht (fun q => ?_) (fun q => ?_)
    · first | (rw [decide_eq_true q] at kk; exact kk) | (simp only [q] at kk; simpa using kk)
    · first | (rw [decide_eq_false q] at kk; exact kk) | (simp only [q] at kk; simpa using kk)
  · cases ha
theorem s_icmp_ge {off : Int} {t : Nat} (hd : decode (mtJ j).2.1 pc = .ok (.if_icmp .ge off, 3)) (ht : (pc : Int) + off = (t : Int)) : SndA j pc (a_if2 (fun x y => decide (y ≤ x)) t) := by
  intro E p l e R s m args below meth c H locs cells slots Q ls L S G h st' a b C ha hN hS hL hc hs kk
  obtain ⟨hx, hb, -⟩ := C
  simp only [a_if2] at ha
  split at ha
  · rename_i y x S'
    cases ha
    have kk := kk H locs ls hN hS hL
    refine lv_icmp_ge hx hb hd ht (fun q => ?_) (fun q => ?_)
    · first | (rw [decide_eq_true q] at kk; exact kk) | (simp only [q] at kk; simpa using kk)
    · first | (rw [decide_eq_false q] at kk; exact kk) | (simp only [q] at kk; simpa using kk)
  · cases ha
theorem s_icmp_gt {off : Int} {t : Nat} (hd : decode (mtJ j).2.1 pc = .ok (.if_icmp .gt off, 3)) (ht : (pc : Int) + off = (t : Int)) : SndA j pc (a_if2 (fun x y => decide (y < x)) t) := by
  intro E p l e R s m args below meth c H locs cells slots Q ls L S G h st' a b C ha hN hS hL hc hs kk
  obtain ⟨hx, hb, -⟩ := C
  simp only [a_if2] at ha
  split at ha
  · rename_i y x S'
    cases ha
    have kk := kk H locs ls hN hS hL
    refine lv_icmp_gt hx hb hd ht (fun q => ?_) (fun q => ?_)
    · first | (rw [decide_eq_true q] at kk; exact kk) | (simp only [q] at kk; simpa using kk)
    · first | (rw [decide_eq_false q] at kk; exact kk) | (simp only [q] at kk; simpa using kk)
  · cases ha
theorem s_icmp_le {off : Int} {t : Nat} (hd : decode (mtJ j).2.1 pc = .ok (.if_icmp .le off, 3)) (ht : (pc : Int) + off = (t : Int)) : SndA j pc (a_if2 (fun x y => decide (x ≤ y)) t) := by
  intro E p l e R s m args below meth c H locs cells slots Q ls L S G h st' a b C ha hN hS hL hc hs kk
  obtain ⟨hx, hb, -⟩ := C
  simp only [a_if2] at ha
  split at ha
  · rename_i y x S'
    cases ha
    have kk := kk H locs ls hN hS hL
    refine lv_icmp_le hx hb hd ht (fun q => ?_) (fun q => ?_)
    · first | (rw [decide_eq_true q] at kk; exact kk) | (simp only [q] at kk; simpa using kk)
    · first | (rw [decide_eq_false q] at kk; exact kk) | (simp only [q] at kk; simpa using kk)
  · cases ha
end AA
end
section
/-! INSTRUCTIONS THAT READ OR WRITE CELLS, AND SWITCHES -/
section HH
variable {j pc : Nat}
theorem s_tsw {dflt lo hi : Int} {offs : Array Int} {len : Nat} {ts : List Nat} {d : Nat} (hd : decode (mtJ j).2.1 pc = .ok (.tableswitch dflt lo hi offs, len)) (h1 : hi = lo + ts.length - 1) (h2 : (pc : Int) + dflt = (d : Int)) (h3 : offs.toList.map (fun o => (pc : Int) + o) = ts.map (fun t : Nat => (t : Int))) : SndA j pc (a_tsw lo ts d) := by
  intro E p l e R s m args below meth c H locs cells slots Q ls L S G h st' a b C ha hN hS hL hc hs kk
  obtain ⟨hx, hb, -⟩ := C
  simp only [a_tsw] at ha
  split at ha
  · rename_i x S'
    cases ha
    have kk := kk H locs ls hN hS hL
    simp only [tsw] at kk
    by_cases q : x.toInt < lo ∨ lo + ts.length - 1 < x.toInt
    · rw [if_pos q] at kk
      exact lv_tableOut hx hb hd (by rw [h1]; exact q) h2 kk
    · rw [if_neg q] at kk
      have q1 : ¬ x.toInt < lo := fun z => q (Or.inl z)
      have q2 : ¬ lo + ts.length - 1 < x.toInt := fun z => q (Or.inr z)
      have hlt : (x.toInt - lo).toNat < ts.length := by omega
      have e1 : (ts.map (fun t : Nat => (t : Int)))[(x.toInt - lo).toNat]? = some ((ts.getD (x.toInt - lo).toNat d : Nat) : Int) := by
        rw [List.getElem?_map, List.getD_eq_getElem?_getD, List.getElem?_eq_getElem hlt]
        rfl
      rw [← h3, List.getElem?_map] at e1
      cases ho : offs.toList[(x.toInt - lo).toNat]? with
      | none => rw [ho] at e1; cases e1
      | some off =>
        rw [ho] at e1
        exact lv_tableIn hx hb hd q1 (by rw [h1]; exact q2) (by rw [← Array.getElem?_toList]; exact ho) (Option.some.inj e1) kk
  · cases ha
theorem lsw_off {x : Int32} {pc : Nat} {dflt : Int} {d : Nat} (h2 : (pc : Int) + dflt = (d : Int)) : ∀ (l : List (Int × Int)) (ps : List (Int × Nat)), l.map (fun q => (q.1, (pc : Int) + q.2)) = ps.map (fun q => (q.1, (q.2 : Int))) → (pc : Int) + Op.lookupswitch.offset l dflt x.toInt = (lsw d x ps : Int)
  | [], [], _ => h2
  | [], _ :: _, h => by cases h
  | _ :: _, [], h => by cases h
  | (a, o) :: l, (b, t) :: ps, h => by
    simp only [List.map_cons, List.cons.injEq, Prod.mk.injEq] at h
    obtain ⟨⟨h4, h5⟩, h6⟩ := h
    subst h4
    rw [Op.lookupswitch.offset_cons]
    simp only [lsw]
    by_cases q : a = x.toInt
    · rw [if_pos q, if_pos q]; exact h5
    · rw [if_neg q, if_neg q]; exact lsw_off h2 l ps h6
theorem s_lsw {dflt : Int} {pr : Array (Int × Int)} {len : Nat} {ps : List (Int × Nat)} {d : Nat} (hd : decode (mtJ j).2.1 pc = .ok (.lookupswitch dflt pr, len)) (h1 : (pr.toList.zip (pr.toList.drop 1)).all (fun (a, next) => a.1 < next.1) = true) (h2 : (pc : Int) + dflt = (d : Int)) (h3 : pr.toList.map (fun q => (q.1, (pc : Int) + q.2)) = ps.map (fun q => (q.1, (q.2 : Int)))) : SndA j pc (a_lsw ps d) := by
  intro E p l e R s m args below meth c H locs cells slots Q ls L S G h st' a b C ha hN hS hL hc hs kk
  obtain ⟨hx, hb, -⟩ := C
  simp only [a_lsw] at ha
  split at ha
  · rename_i x S'
    cases ha
    exact lv_lookup hx hb hd h1 rfl (lsw_off h2 _ _ h3) (kk H locs ls hN hS hL)
  · cases ha
/-- what is known of the kind ci of objects -/
def ClOk (ci : Nat) (C : String) (T : u_T) (N : Nat) : Prop := cls[ci]? = some (C, T, N) ∧ (∀ w ∈ u_ws C T N, w ∈ wsG) ∧ (∀ k, k < N → parseFieldDescriptor (T k).2.2.1 = some (fty ci k)) ∧ ∀ a, a < N → ∀ b, b < N → a ≠ b → (T a).2.1 ≠ (T b).2.1
theorem s_get {C : String} {T : u_T} {N ci k idx : Nat} (K : ClOk ci C T N) (hk : k < N) (hd : decode (mtJ j).2.1 pc = .ok (.getfield idx, 3)) {own : String} (ho : (mtJ j).1.cls = own) (hw : Cond.fieldLink own idx (T k).1 (T k).2.1 (T k).2.2.1 ∈ wsG)
    {E : Ev} {p : Program} {l : Launch} {e : Env} {R : Room} {s : State} {m : MethodId} {args : Array Value} {below : List Frame} {meth : Method} {c : Code} {H : Heap} {locs : List Loc} {cells slots : Nat} {Q : State → Prop} {ls : Array Slot} {G : List SC} {h : AH} {a : Nat} {rs : List (Option Nat)} {rest : List Value} (C0 : Cx E j p R s m args meth c) (hN : CN E G h H) (hG : G[a]? = some (0, ci, rs))
    (kk : W p l e R s m args below meth c H locs cells slots Q (F0 m (pc + 3) ls (fvl E ci rs (h a) k :: rest))) : W p l e R s m args below meth c H locs cells slots Q (F0 m pc ls (.ref (ad E a) :: rest)) := by
  obtain ⟨hx, hb, -, hown, hts, hK, -⟩ := C0
  obtain ⟨k1, k2, k3, k4⟩ := K
  obtain ⟨r, h1, cell, q1, q2, q3, q4⟩ := hN.2.2.2 a _ hG
  have hr : r = (C, T, N) := Option.some.inj (h1.symm.trans k1)
  subst hr
  obtain ⟨hSl, hfc, kC, hkC, hkind⟩ := hK.1.1 ci _ k1
  obtain ⟨cf, kf, fi, f, hi, hsl⟩ := hSl k hk
  rw [ho] at hown
  refine W.getf hx hb hown (hts _ hw) hi (u_facts hfc hkC (u_lays hts k2 hk) hi).1 q1 (by rw [q3]; exact fun h => by cases h) (v := fvl E ci rs (h a) k) ?_ rfl rfl hd kk
  rw [hsl, q4 k hk]
theorem s_getI {C : String} {T : u_T} {N ci k idx : Nat} (K : ClOk ci C T N) (hk : k < N) (hd : decode (mtJ j).2.1 pc = .ok (.getfield idx, 3)) {own : String} (ho : (mtJ j).1.cls = own) (hw : Cond.fieldLink own idx (T k).1 (T k).2.1 (T k).2.2.1 ∈ wsG) (hr : isRf (fty ci k) = false) : SndA j pc (a_getI ci k) := by
  intro E p l e R s m args below meth c H locs cells slots Q ls L S G h st' a b C ha hN hS hL hc hs kk
  simp only [a_getI] at ha
  split at ha
  · split at ha
    · rename_i o S' _ c0 rs hG
      split at ha
      · rename_i hci
        subst hci
        cases ha
        refine s_get K hk hd ho hw C hN hG ?_
        have e1 : fvl E c0 rs (h o) k = .int (h o k) := by simp [fvl, hr]
        rw [e1]
        exact kk H locs ls hN hS hL
      · cases ha
    · cases ha
  · cases ha
theorem s_getR {C : String} {T : u_T} {N ci k idx : Nat} (K : ClOk ci C T N) (hk : k < N) (hd : decode (mtJ j).2.1 pc = .ok (.getfield idx, 3)) {own : String} (ho : (mtJ j).1.cls = own) (hw : Cond.fieldLink own idx (T k).1 (T k).2.1 (T k).2.2.1 ∈ wsG) (hr : isRf (fty ci k) = true) : SndA j pc (a_getR ci k) := by
  intro E p l e R s m args below meth c H locs cells slots Q ls L S G h st' a b C ha hN hS hL hc hs kk
  simp only [a_getR] at ha
  split at ha
  · split at ha
    · rename_i o S' _ c0 rs hG
      split at ha
      · rename_i hci
        subst hci
        split at ha
        · rename_i b0 hb0
          cases ha
          refine s_get K hk hd ho hw C hN hG ?_
          have e1 : fvl E c0 rs (h o) k = .ref (ad E b0) := by simp [fvl, hr, List.getD_eq_getElem?_getD, hb0, va_rf]
          rw [e1]
          exact kk H locs ls hN hS hL
        · cases ha
      · cases ha
    · cases ha
  · cases ha
theorem apartK {C : String} {T : u_T} {N ci : Nat} (K : ClOk ci C T N) {E : Ev} {s : State} {args : Array Value} (hts : ∀ w ∈ wsG, w.before args s = true) (hK : KN E s) : ∀ x y, x < N → y < N → x ≠ y → (E.2.1 ci) x ≠ (E.2.1 ci) y :=
  va_apart (own := C) (D := (E.1, E.2.1)) hts K.2.1 (fty ci) K.2.2.1 K.2.2.2 hK.1 K.1
/-- a write of a field, final or not -/
theorem s_put {C : String} {T : u_T} {N ci k idx : Nat} (K : ClOk ci C T N) (hk : k < N) (hd : decode (mtJ j).2.1 pc = .ok (.putfield idx, 3)) {own : String} (ho : (mtJ j).1.cls = own) (hw : Cond.fieldLink own idx (T k).1 (T k).2.1 (T k).2.2.1 ∈ wsG) (hfin : (T k).2.2.2 = false ∨ ((T k).2.2.2 = true ∧ (mtJ j).1.name = "<init>" ∧ (T k).1 = own))
    {E : Ev} {p : Program} {l : Launch} {e : Env} {R : Room} {s : State} {m : MethodId} {args : Array Value} {below : List Frame} {meth : Method} {c : Code} {H : Heap} {locs : List Loc} {cells slots : Nat} {Q : State → Prop} {ls : Array Slot} {G : List SC} {h h' : AH} {a : Nat} {rs rs' : List (Option Nat)} {v : Value} {rest : List Value} (C0 : Cx E j p R s m args meth c) (hN : CN E G h H) (hS : FS E s.heap H locs) (hG : G[a]? = some (0, ci, rs))
    (hn : narrow (fty ci k) v = v) (hfit : fits (fty ci k) v = true) (hh : ∀ i, i ≠ a → h' i = h i) (hv : ∀ q, q < N → updV (fvl E ci rs (h a)) k v q = fvl E ci rs' (h' a) q)
    (kk : ∀ H' locs', CN E (G.set a (0, ci, rs')) h' H' → FS E s.heap H' locs' → W p l e R s m args below meth c H' locs' cells slots Q (F0 m (pc + 3) ls rest)) : W p l e R s m args below meth c H locs cells slots Q (F0 m pc ls (v :: .ref (ad E a) :: rest)) := by
  obtain ⟨hx, hb, -, hown, hts, hK, -, -, hnm⟩ := C0
  have hap := apartK K hts hK
  obtain ⟨k1, k2, k3, k4⟩ := K
  obtain ⟨r, h1, cell, q1, q2, q3, q4⟩ := hN.2.2.2 a _ hG
  have hr : r = (C, T, N) := Option.some.inj (h1.symm.trans k1)
  subst hr
  obtain ⟨hSl, hfc, kC, hkC, hkind⟩ := hK.1.1 ci _ k1
  obtain ⟨cf, kf, fi, f, hi, hsl⟩ := hSl k hk
  rw [ho] at hown
  have hlay := hts _ (k2 _ (u_in_lay hk))
  have hst := (u_facts hfc hkC (u_lays hts k2 hk) hi).1
  have hlt : f.slot < cell.slots.size := by rw [hsl]; exact k2_hasslot (q4 k hk)
  have goal : ∀ H' : Heap, H'[ad E a]? = some (cell.setSlot f.slot v) → H'.size = H.size → (∀ q, q ≠ ad E a → H'[q]? = H[q]?) → W p l e R s m args below meth c H' (locs ++ [⟨ad E a, f.slot⟩]) cells slots Q (F0 m (pc + 3) ls rest) := by
    intro H' e1 e2 e3
    rw [hsl] at e1
    refine kk H' _ (hN.upd hG (by simp) e2 e3 hh ⟨_, k1, ?_⟩) (hS.put e2 e3 (hN.pos hG (by simp)))
    exact t_OB.to (V := updV (fvl E ci rs (h a)) k v) ⟨_, e1, q2, q3, t_set q4 hap hk v⟩ hv
  rcases hfin with hfin | ⟨hfin, hini, hdecl⟩
  · unfold u_lay at hlay
    rw [if_neg (by rw [hfin]; decide)] at hlay
    have h6 := u_store hfc hkC hkind hlay hi (k3 k hk) hn hfit
    exact W.putK hx hb (f := f) ⟨hown, hts _ hw, ⟨_, _, _, hi⟩, hst⟩ (by rw [q2]; exact h6) q1 q3 hlt rfl rfl hd goal
  · unfold u_lay at hlay
    rw [if_pos hfin] at hlay
    have hcf : m.cls = cf := by
      obtain ⟨_, _, c', _, _, _, -, -, hf', -, -, -, hown2, -⟩ := Cond.laysFinal_spec hlay
      have e1 : c' = cf := by have := hi.symm.trans hf'; simp at this; exact this.1.symm
      rw [hdecl] at hown2
      rw [← e1]; exact Option.some.inj (hown.symm.trans hown2)
    have h6 := u_fits hfc hkC hkind (Or.inr hlay) hi (k3 k hk) hn hfit
    exact W.putFinK hx hb hown (hts _ hw) hi hst hcf (hnm.trans hini) (by rw [q2]; exact h6) q1 q3 hlt rfl rfl hd goal
theorem st_ne {h : AH} {a k : Nat} {x : Int32} : ∀ i, i ≠ a → st_ h a k x i = h i := by
  intro i hi
  funext b
  simp [st_, hi]
theorem fvl_st {E : Ev} {ci k a : Nat} {rs : List (Option Nat)} {h : AH} {x : Int32} (hr : isRf (fty ci k) = false) : ∀ q, updV (fvl E ci rs (h a)) k (.int x) q = fvl E ci rs (st_ h a k x a) q := by
  intro q
  by_cases e : q = k
  · subst e
    simp [updV, fvl, hr, st_]
  · simp [updV, fvl, e, st_]
theorem s_putI {C : String} {T : u_T} {N ci k idx : Nat} (K : ClOk ci C T N) (hk : k < N) (hd : decode (mtJ j).2.1 pc = .ok (.putfield idx, 3)) {own : String} (ho : (mtJ j).1.cls = own) (hw : Cond.fieldLink own idx (T k).1 (T k).2.1 (T k).2.2.1 ∈ wsG) (hfin : (T k).2.2.2 = false ∨ ((T k).2.2.2 = true ∧ (mtJ j).1.name = "<init>" ∧ (T k).1 = own)) (hr : fty ci k = .int) : SndA j pc (a_putI ci k) := by
  intro E p l e R s m args below meth c H locs cells slots Q ls L S G h st' a b C ha hN hS hL hc hs kk
  simp only [a_putI] at ha
  split at ha
  · split at ha
    · rename_i x o S' _ c0 rs hG
      split at ha
      · rename_i hci
        subst hci
        cases ha
        refine s_put K hk hd ho hw hfin (h' := st_ h o k x) (rs' := rs) (v := .int x) C hN hS hG (by rw [hr]; rfl) (by rw [hr]; rfl) st_ne (fun q _ => fvl_st (by rw [hr]; rfl) q) (fun H' locs' hN' hS' => ?_)
        rw [set_same hG] at hN'
        exact kk H' locs' ls hN' hS' hL
      · cases ha
    · cases ha
  · cases ha
theorem s_putZ {C : String} {T : u_T} {N ci k idx : Nat} (K : ClOk ci C T N) (hk : k < N) (hd : decode (mtJ j).2.1 pc = .ok (.putfield idx, 3)) {own : String} (ho : (mtJ j).1.cls = own) (hw : Cond.fieldLink own idx (T k).1 (T k).2.1 (T k).2.2.1 ∈ wsG) (hfin : (T k).2.2.2 = false ∨ ((T k).2.2.2 = true ∧ (mtJ j).1.name = "<init>" ∧ (T k).1 = own)) (hr : fty ci k = .boolean) : SndA j pc (a_putZ ci k) := by
  intro E p l e R s m args below meth c H locs cells slots Q ls L S G h st' a b C ha hN hS hL hc hs kk
  simp only [a_putZ] at ha
  split at ha
  · split at ha
    · rename_i x o S' _ c0 rs hG
      split at ha
      · rename_i hci
        obtain ⟨hci, hx01⟩ := hci
        subst hci
        cases ha
        refine s_put K hk hd ho hw hfin (h' := st_ h o k x) (rs' := rs) (v := .int x) C hN hS hG (by rw [hr]; rcases hx01 with rfl | rfl <;> rfl) (by rw [hr]; rcases hx01 with rfl | rfl <;> rfl) st_ne (fun q _ => fvl_st (by rw [hr]; rfl) q) (fun H' locs' hN' hS' => ?_)
        rw [set_same hG] at hN'
        exact kk H' locs' ls hN' hS' hL
      · cases ha
    · cases ha
  · cases ha
theorem s_putR {C : String} {T : u_T} {N ci k idx : Nat} (K : ClOk ci C T N) (hk : k < N) (hd : decode (mtJ j).2.1 pc = .ok (.putfield idx, 3)) {own : String} (ho : (mtJ j).1.cls = own) (hw : Cond.fieldLink own idx (T k).1 (T k).2.1 (T k).2.2.1 ∈ wsG) (hfin : (T k).2.2.2 = false ∨ ((T k).2.2.2 = true ∧ (mtJ j).1.name = "<init>" ∧ (T k).1 = own)) (hr : isRf (fty ci k) = true) (hn : ∀ q, narrow (fty ci k) (.ref q) = .ref q) (hft : ∀ q, fits (fty ci k) (.ref q) = true) : SndA j pc (a_putR ci k) := by
  intro E p l e R s m args below meth c H locs cells slots Q ls L S G h st' a b C ha hN hS hL hc hs kk
  simp only [a_putR] at ha
  split at ha
  · split at ha
    · rename_i x o S' _ c0 rs hG
      split at ha
      · rename_i hci
        obtain ⟨hci, hkl⟩ := hci
        subst hci
        cases ha
        refine s_put K hk hd ho hw hfin (h' := h) (rs' := rs.set k (some x)) (v := .ref (ad E x)) C hN hS hG (hn _) (hft _) (fun _ _ => rfl) (fun q _ => ?_) (fun H' locs' hN' hS' => kk H' locs' ls hN' hS' hL)
        by_cases e : q = k
        · subst e
          simp [updV, fvl, hr, List.getD_eq_getElem?_getD, List.getElem?_set_self hkl, va_rf]
        · simp [updV, fvl, e, List.getD_eq_getElem?_getD, List.getElem?_set_ne (Ne.symm e)]
      · cases ha
    · cases ha
  · cases ha
end HH
end
section
/-! ROWS OF NUMBERS, NEW CELLS, COPIES -/
section RR
variable {j pc : Nat}
theorem arrI {E : Ev} {s : State} (hK : KN E s) (n : Nat) (z : Nat → Value) : s.isArrayOf (arrV E.2.2.1.1 n z) .int := (hK.1.2 0 (E.2.2.1.1, .int) rfl).1 n z
theorem arrZ {E : Ev} {s : State} (hK : KN E s) (n : Nat) (z : Nat → Value) : s.isArrayOf (arrV E.2.2.1.2.1 n z) .boolean := (hK.1.2 1 (E.2.2.1.2.1, .boolean) rfl).1 n z
theorem arrO {E : Ev} {s : State} (hK : KN E s) (n : Nat) (z : Nat → Value) : s.isArrayOf (arrV E.2.2.1.2.2.1 n z) (.object "SatchelSins$Image") := (hK.1.2 2 (E.2.2.1.2.2.1, .object "SatchelSins$Image") rfl).1 n z
theorem arrS {E : Ev} {s : State} (hK : KN E s) {scr : Cell} (h1 : scr.cls = E.2.2.1.2.2.2) (h2 : ∀ k', scr.vm ≠ .statics k') : s.isArrayOf scr .int := by
  obtain ⟨-, -, -, kA, comp, h4, h5⟩ := hK
  exact ⟨h2, kA, by rw [h1]; exact h4, comp, h5⟩
theorem inb {i : Int32} {n : Nat} (h : ¬ (i < 0 ∨ n ≤ i.toNatClampNeg)) : i.toNatClampNeg < n := Nat.not_le.mp fun q => h (Or.inr q)
theorem s_iald (hd : decode (mtJ j).2.1 pc = .ok (.iaload, 1)) : SndA j pc a_iald := by
  intro E p l e R s m args below meth c H locs cells slots Q ls L S G h st' a b C ha hN hS hL hc hs kk
  obtain ⟨hx, hb, -, hown, hts, hK, -⟩ := C
  simp only [a_iald] at ha
  split at ha
  · split at ha
    · rename_i i o S' _ n _ hG
      split at ha
      · cases ha
      · rename_i hi
        cases ha
        have hc0 : H[ad E o]? = some (arrV E.2.2.1.1 n (fun j => .int (h o j))) := hN.2.2.2 o _ hG
        exact W.iald (v := .int (h o i.toNatClampNeg)) hx hb hc0 (arrI hK _ _) (fun q => by cases q) (by rw [arrV_size]; exact hi) (by rw [arrV_read _ _ (inb hi)]) rfl rfl hd (kk H locs ls hN hS hL)
    · rename_i i o S' _ n _ hG
      split at ha
      · cases ha
      · rename_i hi
        cases ha
        obtain ⟨scr, g1, g2, g3, g4, g5, g6⟩ := hN.2.2.2 o _ hG
        exact W.iald (v := .int (h o i.toNatClampNeg)) hx hb g1 (arrS hK g2 g3) g4 (by rw [g5]; exact hi) (g6 _ (inb hi)) rfl rfl hd (kk H locs ls hN hS hL)
    · cases ha
  · cases ha
theorem s_bald (hd : decode (mtJ j).2.1 pc = .ok (.baload, 1)) : SndA j pc a_bald := by
  intro E p l e R s m args below meth c H locs cells slots Q ls L S G h st' a b C ha hN hS hL hc hs kk
  obtain ⟨hx, hb, -, hown, hts, hK, -⟩ := C
  simp only [a_bald] at ha
  split at ha
  · split at ha
    · rename_i i o S' _ n _ hG
      split at ha
      · cases ha
      · rename_i hi
        cases ha
        have hc0 : H[ad E o]? = some (arrV E.2.2.1.2.1 n (fun j => .int (h o j))) := hN.2.2.2 o _ hG
        exact W.zald (v := .int (h o i.toNatClampNeg)) hx hb hc0 (arrZ hK _ _) (fun q => by cases q) (by rw [arrV_size]; exact hi) (by rw [arrV_read _ _ (inb hi)]) rfl rfl hd (kk H locs ls hN hS hL)
    · cases ha
  · cases ha
theorem s_aald (hd : decode (mtJ j).2.1 pc = .ok (.aaload, 1)) : SndA j pc a_aald := by
  intro E p l e R s m args below meth c H locs cells slots Q ls L S G h st' a b C ha hN hS hL hc hs kk
  obtain ⟨hx, hb, -, hown, hts, hK, -⟩ := C
  simp only [a_aald] at ha
  split at ha
  · split at ha
    · rename_i i o S' _ n rs hG
      split at ha
      · cases ha
      · rename_i hi
        split at ha
        · rename_i b0 hb0
          cases ha
          have hc0 : H[ad E o]? = some (arrV E.2.2.1.2.2.1 n (fun j => va_rf ((rs.getD j none).map (ad E)))) := hN.2.2.2 o _ hG
          exact W.aald (v := .ref (ad E b0)) hx hb hc0 (arrO hK _ _) rfl (fun q => by cases q) (by rw [arrV_size]; exact hi) (by rw [arrV_read _ _ (inb hi), List.getD_eq_getElem?_getD, hb0]; rfl) rfl rfl hd (kk H locs ls hN hS hL)
        · cases ha
    · cases ha
  · cases ha
theorem s_alen (hd : decode (mtJ j).2.1 pc = .ok (.arraylength, 1)) : SndA j pc a_alen := by
  intro E p l e R s m args below meth c H locs cells slots Q ls L S G h st' a b C ha hN hS hL hc hs kk
  obtain ⟨hx, hb, -, hown, hts, hK, -⟩ := C
  simp only [a_alen] at ha
  split at ha
  · split at ha
    · rename_i o S' _ t n rs hG
      split at ha
      · cases ha
      · rename_i hi
        cases ha
        have kk := kk H locs ls hN hS hL
        have hcell := hN.2.2.2 o _ hG
        match t, hi, hcell with
        | 0, hi, _ => exact absurd (Or.inl rfl) hi
        | 1, _, hcell => exact W.alen hx hb hcell (arrI hK _ _) (by rw [arrV_size]) rfl rfl hd kk
        | 2, _, hcell => exact W.alen hx hb hcell (arrZ hK _ _) (by rw [arrV_size]) rfl rfl hd kk
        | 3, _, hcell => exact W.alen hx hb hcell (arrO hK _ _) (by rw [arrV_size]) rfl rfl hd kk
        | 4, _, hcell =>
          obtain ⟨scr, g1, g2, g3, g4, g5, g6⟩ := hcell
          exact W.alen hx hb g1 (arrS hK g2 g3) (by rw [g5]) rfl rfl hd kk
        | t + 5, hi, _ => exact absurd (Or.inr (by omega)) hi
    · cases ha
  · cases ha
theorem s_iast (hd : decode (mtJ j).2.1 pc = .ok (.iastore, 1)) : SndA j pc a_iast := by
  intro E p l e R s m args below meth c H locs cells slots Q ls L S G h st' a b C ha hN hS hL hc hs kk
  obtain ⟨hx, hb, -, hown, hts, hK, -⟩ := C
  simp only [a_iast] at ha
  split at ha
  · split at ha
    · rename_i x i o S' _ n rs hG
      split at ha
      · cases ha
      · rename_i hi
        cases ha
        have hc0 : H[ad E o]? = some (arrV E.2.2.1.1 n (fun j => .int (h o j))) := hN.2.2.2 o _ hG
        refine W.iast hx hb hc0 (arrI hK _ _) (fun q => by cases q) (by rw [arrV_size]; exact hi) rfl rfl hd fun H1 e1 z oq => ?_
        refine kk H1 _ ls (hN.upd0 hG (by simp) z oq st_ne ?_) (hS.put z oq (hN.pos hG (by simp))) hL
        show H1[ad E o]? = some (arrV _ _ _)
        rw [e1, arrV_store]
        congr 2
        funext q
        by_cases hq : q = i.toNatClampNeg
        · subst hq
          simp [updV, st_]
        · simp [updV, st_, hq]
    · cases ha
  · cases ha
theorem s_bast (hd : decode (mtJ j).2.1 pc = .ok (.bastore, 1)) : SndA j pc a_bast := by
  intro E p l e R s m args below meth c H locs cells slots Q ls L S G h st' a b C ha hN hS hL hc hs kk
  obtain ⟨hx, hb, -, hown, hts, hK, -⟩ := C
  simp only [a_bast] at ha
  split at ha
  · split at ha
    · rename_i x i o S' _ n rs hG
      split at ha
      · cases ha
      · rename_i hi
        cases ha
        have hi1 : ¬ (i < 0 ∨ n ≤ i.toNatClampNeg) := fun q => hi (Or.inl q)
        have hx01 : x = 0 ∨ x = 1 := Classical.not_not.mp (fun q => hi (Or.inr q))
        have hc0 : H[ad E o]? = some (arrV E.2.2.1.2.1 n (fun j => .int (h o j))) := hN.2.2.2 o _ hG
        refine W.zast hx hb hc0 (arrZ hK _ _) (fun q => by cases q) (by rw [arrV_size]; exact hi1) rfl rfl hd fun H1 e1 z oq => ?_
        have e2 : narrow .boolean (.int x) = .int x := by rcases hx01 with rfl | rfl <;> rfl
        rw [e2] at e1
        refine kk H1 _ ls (hN.upd0 hG (by simp) z oq st_ne ?_) (hS.put z oq (hN.pos hG (by simp))) hL
        show H1[ad E o]? = some (arrV _ _ _)
        rw [e1, arrV_store]
        congr 2
        funext q
        by_cases hq : q = i.toNatClampNeg
        · subst hq
          simp [updV, st_]
        · simp [updV, st_, hq]
    · cases ha
  · cases ha
theorem s_aast (hd : decode (mtJ j).2.1 pc = .ok (.aastore, 1)) (hci : cls[1]? = some ("SatchelSins$Image", TX1, 3)) : SndA j pc (a_aast 1) := by
  intro E p l e R s m args below meth c H locs cells slots Q ls L S G h st' a b C ha hN hS hL hc hs kk
  obtain ⟨hx, hb, -, hown, hts, hK, -⟩ := C
  simp only [a_aast] at ha
  split at ha
  · split at ha
    · rename_i b0 i o S' _ n rs hG
      split at ha
      · cases ha
      · rename_i hi
        split at ha
        · rename_i _ c0 rs2 hG2
          split at ha
          · rename_i hc1
            subst hc1
            cases ha
            have hi1 : ¬ (i < 0 ∨ n ≤ i.toNatClampNeg) := fun q => hi (Or.inl q)
            have hrl : i.toNatClampNeg < rs.length := Nat.not_le.mp (fun q => hi (Or.inr q))
            have hc0 : H[ad E o]? = some (arrV E.2.2.1.2.2.1 n (fun j => va_rf ((rs.getD j none).map (ad E)))) := hN.2.2.2 o _ hG
            obtain ⟨r', hr', cellV, g1, g2, g3, -⟩ := hN.2.2.2 b0 _ hG2
            have hcls := (hK.1.1 1 _ hci).2
            obtain ⟨kA, comp, k1, k2, k3, -⟩ := (hK.1.2 2 (E.2.2.1.2.2.1, .object "SatchelSins$Image") rfl).2
            have hcomp : comp = E.1 1 := Option.some.inj (k3.symm.trans hcls.1)
            subst hcomp
            obtain ⟨kC, hkC, -⟩ := hcls.2
            refine W.aast hx hb hc0 (fun q h => by cases h) (fun h => by cases h) k1 k2 rfl hkC ⟨fun q => hi1 (Or.inl q), by rw [arrV_size]; exact inb hi1⟩ g1 (fun q h => by rw [g3] at h; cases h) (by rw [g2]; exact hkC) (by rw [g2]; exact va_assign hcls) rfl rfl hd fun H1 e1 z oq => ?_
            refine kk H1 _ ls (hN.upd hG (by simp) z oq (fun _ _ => rfl) ?_) (hS.put z oq (hN.pos hG (by simp))) hL
            show H1[ad E o]? = some (arrV _ _ _)
            rw [e1, arrV_store]
            congr 2
            funext q
            by_cases hq : q = i.toNatClampNeg
            · subst hq
              simp [updV, List.getD_eq_getElem?_getD, List.getElem?_set_self hrl, va_rf]
            · simp [updV, hq, List.getD_eq_getElem?_getD, List.getElem?_set_ne (Ne.symm hq)]
          · cases ha
        · cases ha
    · cases ha
  · cases ha
theorem sc_ne {h : AH} {a : Nat} {f : Nat → Int32} : ∀ i, i ≠ a → sc_ h a f i = h i := by
  intro i hi
  funext b
  simp [sc_, hi]
theorem sc_self {h : AH} {a : Nat} {f : Nat → Int32} : sc_ h a f a = f := by
  funext b
  simp [sc_]
theorem dflt_fvl (E : Ev) (ci N : Nat) (q : Nat) (hty : isRf (fty ci q) = false → defaultValue (fty ci q) = .int 0) (hty2 : isRf (fty ci q) = true → defaultValue (fty ci q) = .null) : defaultValue (fty ci q) = fvl E ci (List.replicate N none) (fun _ => 0) q := by
  by_cases e : isRf (fty ci q) = true
  · rw [hty2 e]
    simp [fvl, e, List.getD_eq_getElem?_getD, List.getElem?_replicate]
    split <;> rfl
  · have e' : isRf (fty ci q) = false := by simpa using e
    rw [hty e']
    simp [fvl, e']
def okTy : FieldType → Bool
  | .int => true
  | .boolean => true
  | .object _ => true
  | .array _ => true
  | _ => false
theorem s_new {C : String} {T : u_T} {N ci idx : Nat} (K : ClOk ci C T N) (hd : decode (mtJ j).2.1 pc = .ok (.new idx, 3)) {own : String} (ho : (mtJ j).1.cls = own) (hw1 : Cond.classLink own idx C ∈ wsG) (hw2 : Cond.instantiable C N ∈ wsG) (hw3 : Cond.initialized C ∈ wsG) (hT : ∀ q, q < N → okTy (fty ci q) = true) : SndA j pc (a_new ci N) := by
  intro E p l e R s m args below meth c H locs cells slots Q ls L S G h st' a b C0 ha hN hS hL hc hs kk
  obtain ⟨hx, hb, -, hown, hts, hK, -⟩ := C0
  cases ha
  rw [ho] at hown
  obtain ⟨k1, k2, k3, k4⟩ := K
  have hKn := hK.1.1 ci _ k1
  refine W.newcK hx hb hown (hts _ hw1) (hts _ hw2) (hts _ hw3) rfl hd hc hs hKn.2.1 rfl fun H1 kC hkC e1 z1 o1 => ?_
  have hsz := hN.new_ad
  have kk := kk H1 locs ls (hN.push (h' := sc_ h G.length (fun _ => 0)) z1 o1 sc_ne ?_) (FS.push hS z1 o1) hL
  · simp only [List.map_cons, cv, hsz] at kk
    exact kk
  · refine ⟨_, k1, ?_⟩
    rw [sc_self, hsz]
    refine (u_born (fty ci) hts k2 hKn hkC e1 k3).to (fun q hqN => dflt_fvl E ci N q (fun hq => ?_) (fun hq => ?_))
    · have ht := hT q hqN
      cases hz : fty ci q <;> rw [hz] at hq ht <;> first | rfl | exact absurd hq (by simp [isRf])
    · have ht := hT q hqN
      cases hz : fty ci q <;> rw [hz] at hq ht <;> first | rfl | exact absurd hq (by decide) | exact absurd ht (by decide)
theorem s_newI (hd : decode (mtJ j).2.1 pc = .ok (.newarray .int, 2)) (hw : Cond.arrayClass .int ∈ wsG) : SndA j pc (a_newP 1) := by
  intro E p l e R s m args below meth c H locs cells slots Q ls L S G h st' a b C0 ha hN hS hL hc hs kk
  obtain ⟨hx, hb, -, hown, hts, hK, -⟩ := C0
  simp only [a_newP] at ha
  split at ha
  · rename_i n S'
    split at ha
    · cases ha
    · rename_i hn
      cases ha
      have hn0 : ¬ n < 0 := fun q => hn (Or.inl q)
      have hn1 : n.toNatClampNeg ≤ 1000 := Nat.not_lt.mp (fun q => hn (Or.inr q))
      have hsz := hN.new_ad
      refine va_newaK (atype := .int) hx hb (hts _ hw) rfl hd rfl hn0 rfl (by show n.toNatClampNeg * 4 ≤ _; omega) hc hs rfl fun H1 cA e1 z1 o1 hAr hNm => ?_
      have hcA : cA = E.2.2.1.1 := Option.some.inj (hNm.symm.trans (hK.1.2 0 (E.2.2.1.1, .int) rfl).2)
      subst hcA
      have kk := kk H1 locs ls (hN.push (h' := sc_ h G.length (fun _ => 0)) z1 o1 sc_ne ?_) (FS.push hS z1 o1) hL
      · simp only [List.map_cons, cv, hsz] at kk
        exact kk
      · show H1[ad E G.length]? = some (arrV _ _ _)
        rw [hsz, sc_self]
        exact e1
  · cases ha
theorem s_newZ (hd : decode (mtJ j).2.1 pc = .ok (.newarray .boolean, 2)) (hw : Cond.arrayClass .boolean ∈ wsG) : SndA j pc (a_newP 2) := by
  intro E p l e R s m args below meth c H locs cells slots Q ls L S G h st' a b C0 ha hN hS hL hc hs kk
  obtain ⟨hx, hb, -, hown, hts, hK, -⟩ := C0
  simp only [a_newP] at ha
  split at ha
  · rename_i n S'
    split at ha
    · cases ha
    · rename_i hn
      cases ha
      have hn0 : ¬ n < 0 := fun q => hn (Or.inl q)
      have hn1 : n.toNatClampNeg ≤ 1000 := Nat.not_lt.mp (fun q => hn (Or.inr q))
      have hsz := hN.new_ad
      refine va_newaK (atype := .boolean) hx hb (hts _ hw) rfl hd rfl hn0 rfl (by show n.toNatClampNeg * 1 ≤ _; omega) hc hs rfl fun H1 cA e1 z1 o1 hAr hNm => ?_
      have hcA : cA = E.2.2.1.2.1 := Option.some.inj (hNm.symm.trans (hK.1.2 1 (E.2.2.1.2.1, .boolean) rfl).2)
      subst hcA
      have kk := kk H1 locs ls (hN.push (h' := sc_ h G.length (fun _ => 0)) z1 o1 sc_ne ?_) (FS.push hS z1 o1) hL
      · simp only [List.map_cons, cv, hsz] at kk
        exact kk
      · show H1[ad E G.length]? = some (arrV _ _ _)
        rw [hsz, sc_self]
        exact e1
  · cases ha
theorem s_newO {idx : Nat} (hd : decode (mtJ j).2.1 pc = .ok (.anewarray idx, 3)) {own : String} (ho : (mtJ j).1.cls = own) (hw : Cond.classLink own idx "SatchelSins$Image" ∈ wsG) : SndA j pc a_newO := by
  intro E p l e R s m args below meth c H locs cells slots Q ls L S G h st' a b C0 ha hN hS hL hc hs kk
  obtain ⟨hx, hb, -, hown, hts, hK, -⟩ := C0
  rw [ho] at hown
  simp only [a_newO] at ha
  split at ha
  · rename_i n S'
    split at ha
    · cases ha
    · rename_i hn
      cases ha
      have hn0 : ¬ n < 0 := fun q => hn (Or.inl q)
      have hn1 : n.toNatClampNeg ≤ 1000 := Nat.not_lt.mp (fun q => hn (Or.inr q))
      have hsz := hN.new_ad
      refine W.anew hx hb hown (hts _ hw) (va_AO.use hK.2.2.1) rfl hd rfl hn0 (by omega) hc hs fun cA kA comp f1 f2 f3 f4 => ?_
      generalize hH1 : H.push ({ cls := cA, slots := Array.replicate n.toNatClampNeg .null, vm := .none } : Cell) = H1
      have z1 : H1.size = H.size + 1 := by rw [← hH1, Array.size_push]
      have e1 : H1[H.size]? = some (arrV cA n.toNatClampNeg (fun _ => .null)) := by rw [← hH1, Array.getElem?_push_size, ← arrV_new]
      have o1 : ∀ q : Nat, q < H.size → H1[q]? = H[q]? := fun q hq => by rw [← hH1, Array.getElem?_push, if_neg (Nat.ne_of_lt hq)]
      obtain ⟨kA', comp', -, -, -, k4⟩ := (hK.1.2 2 (E.2.2.1.2.2.1, .object "SatchelSins$Image") rfl).2
      have hcA : cA = E.2.2.1.2.2.1 := Option.some.inj (f1.symm.trans k4)
      subst hcA
      have kk := kk H1 locs ls (hN.push (h' := h) z1 o1 (fun _ _ => rfl) ?_) (FS.push hS z1 o1) hL
      · simp only [List.map_cons, cv, hsz] at kk
        exact kk
      · show H1[ad E G.length]? = some (arrV _ _ _)
        rw [hsz, e1]
        congr 2
        funext q
        rw [List.getD_eq_getElem?_getD, List.getElem?_replicate]
        split <;> rfl
  · cases ha
theorem s_obj {idx : Nat} (hd : decode (mtJ j).2.1 pc = .ok (.invokespecial idx, 3)) {own : String} (ho : (mtJ j).1.cls = own) (hw1 : Cond.methodLink own idx Lib.objectInit ∈ wsG) (hw2 : Cond.instanceMethod Lib.objectInit ∈ wsG) (hw3 : Cond.code Lib.objectInit ⟨#[0xb1]⟩ 1 none ∈ wsG) : SndA j pc a_obj := by
  intro E p l e R s m args below meth c H locs cells slots Q ls L S G h st' a b C0 ha hN hS hL hc hs kk
  obtain ⟨hx, hb, hml, hown, hts, hK, -, hR, -⟩ := C0
  rw [ho] at hown
  simp only [a_obj] at ha
  split at ha
  · rename_i o S'
    split at ha
    · cases ha
    · rename_i hq
      cases ha
      have hcat : ((S'.map (cv E)).map fun v => v.category).sum = (S'.map fun v => v.category).sum := by
        rw [List.map_map]
        congr 1
        apply List.map_congr_left
        intro v _
        exact cv_cat E v
      refine W.objInit (a := ad E o) (rest := S'.map (cv E)) hx hb hown (hts _ hw1) (hts _ hw2) (hts _ hw3) rfl (by rw [hml]; exact hL.1.1) rfl hd hR.1 ?_ (kk H locs ls hN hS hL)
      rw [hcat]
      show 2 * 0 + _ + 12 ≤ _
      omega
  · cases ha
theorem s_copy {idx : Nat} (hd : decode (mtJ j).2.1 pc = .ok (.invokestatic idx, 3)) {own : String} (ho : (mtJ j).1.cls = own) (hw1 : Cond.methodLink own idx arraycopyName ∈ wsG) (hw2 : Cond.native arraycopyName ∈ wsG) (hw3 : Cond.static arraycopyName ∈ wsG) (hw4 : Cond.initialized "java/lang/System" ∈ wsG) : SndA j pc a_copy := by
  intro E p l e R s m args below meth c H locs cells slots Q ls L S G h st' a b C0 ha hN hS hL hc hs kk
  obtain ⟨hx, hb, hml, hown, hts, hK, -, hR, -⟩ := C0
  rw [ho] at hown
  simp only [a_copy] at ha
  split at ha
  · split at ha
    · rename_i n dp b0 sp a0 S' _ _ na _ nb _ hGa hGb
      split at ha
      · cases ha
      · rename_i hq
        cases ha
        have hn0 : ¬ n < 0 := fun q => hq (Or.inl (Or.inl q))
        have hd0 : ¬ dp < 0 := fun q => hq (Or.inl (Or.inr (Or.inl q)))
        have hs0 : ¬ sp < 0 := fun q => hq (Or.inl (Or.inr (Or.inr q)))
        have h4 : sp.toNatClampNeg + n.toNatClampNeg ≤ na := Nat.not_lt.mp (fun q => hq (Or.inr (Or.inl (Or.inl q))))
        have h5 : dp.toNatClampNeg + n.toNatClampNeg ≤ nb := Nat.not_lt.mp (fun q => hq (Or.inr (Or.inl (Or.inr q))))
        have h8 : (S'.map fun v => v.category).sum ≤ 8 := Nat.not_lt.mp (fun q => hq (Or.inr (Or.inr q)))
        have hcat : ((S'.map (cv E)).map fun v => v.category).sum = (S'.map fun v => v.category).sum := by
          rw [List.map_map]
          congr 1
          apply List.map_congr_left
          intro v _
          exact cv_cat E v
        have hc0 : H[ad E a0]? = some (arrV E.2.2.1.1 na (fun j => .int (h a0 j))) := hN.2.2.2 a0 _ hGa
        have hc1 : H[ad E b0]? = some (arrV E.2.2.1.1 nb (fun j => .int (h b0 j))) := hN.2.2.2 b0 _ hGb
        have nn : ∀ z : Int32, ¬ z < 0 → z.toInt = (z.toNatClampNeg : Int) := by
          intro z hz
          have hz0 : (0 : Int) ≤ z.toInt := by
            have := Int32.not_lt.mp hz
            simpa using Int32.le_iff_toInt_le.mp this
          show z.toInt = ((z.toInt.toNat : Nat) : Int)
          omega
        obtain ⟨-, k0, hk0, cm0, hkk0⟩ := arrI hK na (fun j => .int (h a0 j))
        intro T hT X
        obtain ⟨vm', X', step⟩ := X.arraycopy hx hown (hts _ hw1) (hts _ hw2) (hts _ hw3) (hts _ hw4) (src := ad E a0) (dst := ad E b0) (cs := arrV E.2.2.1.1 na (fun j => .int (h a0 j))) (cd := arrV E.2.2.1.1 nb (fun j => .int (h b0 j))) (srcPos := sp) (destPos := dp) (n := n) (by rw [hT]; exact hc0) (by rw [hT]; exact hc1)
          (fun _ h => by cases h) (fun _ h => by cases h) (fun h => by cases h) (fun h => by cases h) hk0 hk0 hkk0 hkk0 (by simp [refKind]) hs0 hd0 hn0
          (by rw [nn sp hs0, nn n hn0, arrV_size]; omega)
          (by rw [nn dp hd0, nn n hn0, arrV_size]; omega)
          (fun vm₁ _ i hi => by
            have e : (arrV E.2.2.1.1 na (fun j => .int (h a0 j))).slots.getD (sp.toNatClampNeg + i) .null = .int (h a0 (sp.toNatClampNeg + i)) := by
              rw [Array.getD_eq_getD_getElem?, arrV_read _ _ (by omega)]
              rfl
            refine ⟨?_, ?_⟩
            · rw [e]
              rfl
            · rw [e]
              exact trivial)
          (g := F0 m pc ls ((.int n :: .int dp :: .ref b0 :: .int sp :: .ref a0 :: S').map (cv E))) rfl (by rw [hml]; exact hL.1.1) (rest := S'.map (cv E)) rfl (by rw [hb]; exact hd) hR.1 (by
            rw [hcat]
            have : nativeFrameWords "java/lang/System" "arraycopy" 5 + 11 ≤ 80 := by decide +kernel
            show 2 * 0 + _ + _ ≤ _
            omega)
        have e1 : copied (arrV E.2.2.1.1 na (fun j => .int (h a0 j))) (arrV E.2.2.1.1 nb (fun j => .int (h b0 j))) sp dp n = arrV E.2.2.1.1 nb (fun j => .int (va_cpy (h a0) (h b0) sp.toNatClampNeg dp.toNatClampNeg n.toNatClampNeg j)) := va_copied (fun z => .int z) _ _ (h a0) (h b0) h4
        rw [e1] at X' step
        have hl : ad E b0 < H.size := (Array.getElem?_eq_some_iff.mp hc1).1
        generalize hH1 : H.setIfInBounds (ad E b0) (arrV E.2.2.1.1 nb (fun j => .int (va_cpy (h a0) (h b0) sp.toNatClampNeg dp.toNatClampNeg n.toNatClampNeg j))) = H1
        have oq : ∀ q : Nat, q ≠ ad E b0 → H1[q]? = H[q]? := fun q hq => by rw [← hH1]; simp [Array.getElem?_setIfInBounds, Ne.symm hq]
        have z : H1.size = H.size := by rw [← hH1]; simp
        have e2 : H1[ad E b0]? = some (arrV E.2.2.1.1 nb (fun j => .int (va_cpy (h a0) (h b0) sp.toNatClampNeg dp.toNatClampNeg n.toNatClampNeg j))) := by rw [← hH1]; simp [Array.getElem?_setIfInBounds, hl]
        obtain ⟨t, a1, b1⟩ := kk H1 _ ls (hN.upd0 (h' := sc_ h b0 (va_cpy (h a0) (h b0) sp.toNatClampNeg dp.toNatClampNeg n.toNatClampNeg)) hGb (by simp) z oq sc_ne (by rw [sc_self]; exact e2))
          ⟨by rw [z]; exact hS.1, fun q g1 g2 => by
            rw [oq q (fun e => g2 (by rw [e]; exact hN.pos hGb (by simp)))]
            exact hS.2.1 q g1 g2, fun q hq => by
            rcases List.mem_append.mp hq with h | h
            · exact hS.2.2 q h
            · obtain ⟨z, -, hz⟩ := List.mem_map.mp h
              rw [← hz]
              exact hN.pos hGb (by simp)⟩ hL _ (by rw [← hH1, ← hT]; rfl) X'
        exact ⟨t, step t a1, b1⟩
    · cases ha
  · cases ha
end RR
end
section
/-! CALLS, AND THE WHOLE: what the small machine does, the large one does -/
def wsJ (j : Nat) : List Cond := Cond.code (mtJ j).1 (mtJ j).2.1 (mtJ j).2.2.1 (mtJ j).2.2.2 :: wsG
abbrev rmD (d mc ms : Nat) : Room := { frames := d + 1, cells := mc, slots := ms, locals := 100 * (d + 1) }
def MOk (j : Nat) : Prop := Cond.code (mtJ j).1 (mtJ j).2.1 (mtJ j).2.2.1 (mtJ j).2.2.2 ∈ wsG ∧ Cond.initialized (mtJ j).1.cls ∈ wsG ∧ ((mtJ j).1.cls ≠ "java/lang/invoke/MethodHandle" ∧ (mtJ j).1.cls ≠ "java/lang/invoke/VarHandle") ∧ plainName (mtJ j).1.cls = true ∧ (mtJ j).2.2.1 ≤ 60
theorem wsJ_good {j : Nat} (h : MOk j) : GoodIn wsG (wsJ j) := by
  intro w hw
  rcases List.mem_cons.mp hw with e | e
  · rw [e]; exact wsG_good _ h.1
  · exact wsG_good _ e
def PcS (E : Ev) (args : List Value) (G : List SC) (h : AH) : Array Value → State → Prop := va_Pc (args.map (cv E)) (fun U => CN E G h U.heap ∧ KN E U ∧ evB E ≤ U.heap.size)
def QcS (E : Ev) (Q : Post) : Array Value → State → Outcome → State → Prop := fun _ st o t => (∃ v G' h', o = .returned (v.map Value.int) ∧ Q v G' h' ∧ CN E G' h' t.heap ∧ KN E t) ∧ va_F (fun q => evB E ≤ q) st t
theorem PcS_blind (E : Ev) (args : List Value) (G : List SC) (h : AH) : FrameBlind (PcS E args G h) := by
  intro a U g mk q
  obtain ⟨h1, h2, h3, h4⟩ := q
  exact ⟨h1, h2, KN.same (s := U) (U := U.calling g mk a) rfl h3, h4⟩
section CC
variable {p : Program} {l : Launch} {e : Env} {R : Room} {s : State} {m : MethodId} {args : Array Value} {below : List Frame} {meth : Method} {c : Code} {H : Heap} {locs : List Loc} {cells slots : Nat} {Q : State → Prop}
theorem callW {E : Ev} {Q1 : Post} {pc mc ms : Nat} {ls : Array Slot} {st0 rest : List Value} {a : Array Value} (hr : va_Run p l e R s m args below meth c H locs cells slots mc ms (F0 m pc ls st0) rest (QcS E Q1 a) (fun q => evB E ≤ q)) (hS : FS E s.heap H locs)
    (kk : ∀ v G' h' H' locs', Q1 v G' h' → CN E G' h' H' → FS E s.heap H' locs' → W p l e R s m args below meth c H' locs' (cells + mc) (slots + ms) Q (F0 m (pc + 3) ls ((v.map Value.int).toList ++ rest))) : W p l e R s m args below meth c H locs cells slots Q (F0 m pc ls st0) := by
  intro T hT X
  obtain ⟨v, st₀, t, T', L, h0, X', hL, e1, e2, ⟨⟨v', G', h', hv, hq, hN, hK⟩, hz, hk⟩, st⟩ := hr T hT X
  cases hv
  rw [h0] at hz hk
  rw [← e1] at hN hz hk
  obtain ⟨t2, a1, b1⟩ := kk v' G' h' T'.heap (locs ++ L) hq hN ⟨Nat.le_trans hS.1 hz, fun q h1 h2 => by rw [hk q (Nat.lt_of_lt_of_le h1 hS.1) h2]; exact hS.2.1 q h1 h2, fun q hq => by
      rcases List.mem_append.mp hq with h | h
      · exact hS.2.2 q h
      · exact hL q h⟩ T' rfl X'
  exact ⟨t2, st t2 a1, b1⟩
end CC
def SndC (j pc j' n : Nat) : Prop := ∀ (E : Ev) (p : Program) (l : Launch) (e : Env) (R : Room) (s : State) (m : MethodId) (args : Array Value) (below : List Frame) (meth : Method) (c : Code) (H : Heap) (locs : List Loc) (cells slots : Nat) (ls : Array Slot) (L S : List Value) (G : List SC) (h : AH) (d mc ms : Nat) (Q1 : Post),
  Cx E j p R s m args meth c → Met l (mtJ j').1 (wsJ j') (rmD d mc ms) (PcS E (S.take n).reverse G h) (QcS E Q1) mc ms (fun q => evB E ≤ q) → n ≤ S.length → rcv j' n S G = true → ((S.drop n).map fun v => v.category).sum ≤ 8 → CN E G h H → FS E s.heap H locs → LV E ls (mtJ j).2.2.1 L →
  d + 2 ≤ R.frames → 100 * (d + 2) ≤ R.locals → cells + mc ≤ R.cells → slots + ms ≤ R.slots →
  va_Run p l e R s m args below meth c H locs cells slots mc ms (F0 m pc ls (S.map (cv E))) ((S.drop n).map (cv E)) (QcS E Q1 ((S.take n).reverse.map (cv E)).toArray) (fun q => evB E ≤ q)
theorem cat_sum (E : Ev) (S : List Value) : ((S.map (cv E)).map fun v => v.category).sum = (S.map fun v => v.category).sum := by
  rw [List.map_map]
  congr 1
  apply List.map_congr_left
  intro v _
  exact cv_cat E v
/-- the arguments with their receiver first -/
theorem rcv_split {S : List Value} {n a : Nat} (hn : n + 1 ≤ S.length) (ha : S[n + 1 - 1]? = some (.ref a)) : ∃ As : List Value, (S.take (n + 1)).reverse = .ref a :: As ∧ As.length = n ∧ S = As.reverse ++ .ref a :: S.drop (n + 1) := by
  rw [Nat.add_sub_cancel] at ha
  refine ⟨(S.take n).reverse, ?_, by rw [List.length_reverse, List.length_take]; omega, ?_⟩
  · rw [List.take_succ, ha]
    simp
  · rw [List.reverse_reverse]
    have hlt : n < S.length := by omega
    have : S[n] = .ref a := by
      have := List.getElem?_eq_getElem hlt
      rw [this] at ha
      exact Option.some.inj ha
    rw [← this, List.getElem_cons_drop, List.take_append_drop]
theorem s_callV {j pc j' n ci idx : Nat} {C : String} {T : u_T} {N : Nat} (hci : cls[ci]? = some (C, T, N)) (M : MOk j') (hk : kJ j' = ci + 2) (hC : (mtJ j').1.cls = C) (hd : decode (mtJ j).2.1 pc = .ok (.invokevirtual idx, 3)) {own : String} (ho : (mtJ j).1.cls = own)
    (hw1 : Cond.methodLink own idx (mtJ j').1 ∈ wsG) (hw2 : Cond.instanceMethod (mtJ j').1 ∈ wsG) (hw3 : Cond.selects C (mtJ j').1 (mtJ j').1 ∈ wsG) (hw4 : Cond.initialized C ∈ wsG) (hn : (parseMethodDescriptor (mtJ j').1.desc).map (fun d => d.parameters.length) = some n) : SndC j pc j' (n + 1) := by
  intro E p l e R s m args below meth c H locs cells slots ls L S G h d mc ms Q1 C0 hM hlen hrc h8 hN hS hL hR1 hR2 hc hs
  obtain ⟨hx, hb, hml, hown, hts, hK, -⟩ := C0
  rw [ho] at hown
  simp only [rcv, hk, Bool.and_eq_true] at hrc
  obtain ⟨-, hrc⟩ := hrc
  split at hrc
  · rename_i a0 ha0
    split at hrc
    · rename_i _ c0 rs hG
      have hcc := Nat.eq_of_beq_eq_true hrc
      subst hcc
      obtain ⟨As, e1, e2, e3⟩ := rcv_split hlen ha0
      obtain ⟨r, h1, cell, q1, q2, q3, q4⟩ := hN.2.2.2 a0 _ hG
      have hr : r = (C, T, N) := Option.some.inj (h1.symm.trans hci)
      have cw : CallW R s args own C idx (mtJ j').1 (mtJ j').2.1 (mtJ j').2.2.1 (mtJ j').2.2.2 (wsJ j') (rmD d mc ms) mc ms n := by
        refine cwV n hts ?_ rfl rfl rfl ⟨hC, M.2.2.1.1, M.2.2.1.2, hn⟩ ⟨hR1, by have := M.2.2.2.2; show 8 + ((mtJ j').2.2.1 + 11) + 100 * (d + 1) ≤ _; omega⟩
        intro w hw
        rcases List.mem_append.mp hw with h | h
        · simp only [List.mem_cons, List.not_mem_nil, or_false] at h
          rcases h with rfl | rfl | rfl | rfl
          · exact wsG_good _ hw1
          · exact wsG_good _ hw2
          · exact wsG_good _ hw3
          · exact wsG_good _ hw4
        · exact wsJ_good M w h
      rw [e1] at hM ⊢
      have hst : S.map (cv E) = (As.map (cv E)).reverse ++ .ref (ad E a0) :: (S.drop (n + 1)).map (cv E) := by
        rw [← List.map_reverse]
        conv => lhs; rw [e3]
        rw [List.map_append]
        rfl
      refine va_runV (b := ad E a0) (As := As.map (cv E)) (cc := (mtJ j).2.1) (nL := (mtJ j).2.2.1) (Ts := wsG) ⟨hx, hb, hml, hown, hts⟩ hM cw ⟨PcS_blind _ _ _ _, ⟨cell, q1, by rw [q3]; rfl, ?_⟩, fun U hU hW => ⟨rfl, by rw [hU]; exact hN, hK.warm hW, ?_⟩⟩ rfl (by rw [List.length_map]; exact e2) hL.1.1 hst ?_ hd ⟨hc, hs⟩
      · rw [q2]
        exact (hK.1.1 c0 _ hci).2.1
      · rw [hU]
        have := hN.1
        have h0 : 0 < G.length := (List.getElem?_eq_some_iff.mp hN.2.2.1.choose_spec).1
        omega
      · rw [cat_sum]
        show 2 * 0 + _ ≤ _
        omega
    · cases hrc
  · cases hrc
theorem heap_base {E : Ev} {G : List SC} {h : AH} {H : Heap} (hN : CN E G h H) : evB E ≤ H.size := by
  have := hN.1
  have h0 : 0 < G.length := (List.getElem?_eq_some_iff.mp hN.2.2.1.choose_spec).1
  omega
theorem s_callS {j pc j' n idx : Nat} (M : MOk j') (hk : kJ j' = 0) (hd : decode (mtJ j).2.1 pc = .ok (.invokestatic idx, 3)) {own : String} (ho : (mtJ j).1.cls = own)
    (hw1 : Cond.methodLink own idx (mtJ j').1 ∈ wsG) (hw2 : Cond.static (mtJ j').1 ∈ wsG) (hn : (parseMethodDescriptor (mtJ j').1.desc).map (fun d => d.parameters.length) = some n) : SndC j pc j' n := by
  intro E p l e R s m args below meth c H locs cells slots ls L S G h d mc ms Q1 C0 hM hlen hrc h8 hN hS hL hR1 hR2 hc hs
  obtain ⟨hx, hb, hml, hown, hts, hK, -⟩ := C0
  rw [ho] at hown
  have cw : CallB R s args own idx (mtJ j').1 (mtJ j').2.1 (mtJ j').2.2.1 (mtJ j').2.2.2 (wsJ j') (rmD d mc ms) mc ms n ∧ (Cond.static (mtJ j').1).before args s = true := by
    refine va_cwS n hts ?_ rfl rfl rfl ⟨M.2.2.1.1, M.2.2.1.2, hn⟩ ⟨hR1, by have := M.2.2.2.2; show 8 + ((mtJ j').2.2.1 + 11) + 100 * (d + 1) ≤ _; omega⟩
    intro w hw
    rcases List.mem_append.mp hw with h | h
    · simp only [List.mem_cons, List.not_mem_nil, or_false] at h
      rcases h with rfl | rfl | rfl
      · exact wsG_good _ hw1
      · exact wsG_good _ hw2
      · exact wsG_good _ M.2.1
    · exact wsJ_good M w h
  have hst : S.map (cv E) = ((S.take n).reverse.map (cv E)).reverse ++ (S.drop n).map (cv E) := by
    rw [List.map_reverse, List.reverse_reverse, ← List.map_append, List.take_append_drop]
  refine va_runS (As := (S.take n).reverse.map (cv E)) (cc := (mtJ j).2.1) (nL := (mtJ j).2.2.1) (Ts := wsG) ⟨hx, hb, hml, hown, hts⟩ hM cw ⟨PcS_blind _ _ _ _, fun U hU hW => ⟨rfl, by rw [hU]; exact hN, hK.warm hW, by rw [hU]; exact heap_base hN⟩⟩ rfl (by rw [List.length_map, List.length_reverse, List.length_take]; omega) hL.1.1 hst ?_ hd ⟨hc, hs⟩
  rw [cat_sum]
  show 2 * 0 + _ ≤ _
  omega
theorem s_callI {j pc j' n idx : Nat} (M : MOk j') (hk : kJ j' = 1) (hr : (mtJ j').2.2.2 = none) (hi : (mtJ j').1.name = "<init>") (hd : decode (mtJ j).2.1 pc = .ok (.invokespecial idx, 3)) {own : String} (ho : (mtJ j).1.cls = own)
    (hw1 : Cond.methodLink own idx (mtJ j').1 ∈ wsG) (hw2 : Cond.instanceMethod (mtJ j').1 ∈ wsG) (hn : (parseMethodDescriptor (mtJ j').1.desc).map (fun d => d.parameters.length) = some n) : SndC j pc j' (n + 1) := by
  intro E p l e R s m args below meth c H locs cells slots ls L S G h d mc ms Q1 C0 hM hlen hrc h8 hN hS hL hR1 hR2 hc hs
  obtain ⟨hx, hb, hml, hown, hts, hK, -⟩ := C0
  rw [ho] at hown
  simp only [rcv, hk, Bool.and_eq_true] at hrc
  obtain ⟨-, hrc⟩ := hrc
  split at hrc
  · rename_i a0 ha0
    obtain ⟨As, e1, e2, e3⟩ := rcv_split hlen ha0
    have hws : wsJ j' = Cond.code (mtJ j').1 (mtJ j').2.1 (mtJ j').2.2.1 none :: wsG := by rw [wsJ, hr]
    have cw : CallB R s args own idx (mtJ j').1 (mtJ j').2.1 (mtJ j').2.2.1 none (wsJ j') (rmD d mc ms) mc ms n ∧ (mtJ j').1.name = "<init>" ∧ (Cond.instanceMethod (mtJ j').1).before args s = true :=
      cwI n hts (wsJ_good M) hws rfl rfl (hts _ M.2.1) (hts _ hw1) (hts _ hw2) hi ⟨M.2.2.1.1, M.2.2.1.2, hn⟩ ⟨hR1, by have := M.2.2.2.2; show 8 + ((mtJ j').2.2.1 + 11) + 100 * (d + 1) ≤ _; omega⟩
    rw [e1] at hM ⊢
    have hst : S.map (cv E) = (As.map (cv E)).reverse ++ .ref (ad E a0) :: (S.drop (n + 1)).map (cv E) := by
      rw [← List.map_reverse]
      conv => lhs; rw [e3]
      rw [List.map_append]
      rfl
    refine va_runI (b := ad E a0) (As := As.map (cv E)) (cc := (mtJ j).2.1) (nL := (mtJ j).2.2.1) (Ts := wsG) ⟨hx, hb, hml, hown, hts⟩ hM cw ⟨PcS_blind _ _ _ _, fun U hU hW => ⟨rfl, by rw [hU]; exact hN, hK.warm hW, by rw [hU]; exact heap_base hN⟩⟩ rfl (by rw [List.length_map]; exact e2) hL.1.1 hst ?_ hd ⟨hc, hs⟩
    rw [cat_sum]
    show 2 * 0 + _ ≤ _
    omega
  · cases hrc
theorem s_callIN {j pc j' n idx : Nat} {host : String} (M : MOk j') (hk : kJ j' = 1) (hr : (mtJ j').2.2.2 = none) (hi : (mtJ j').1.name = "<init>") (hd : decode (mtJ j).2.1 pc = .ok (.invokespecial idx, 3)) {own : String} (ho : (mtJ j).1.cls = own)
    (hw1 : Cond.methodLinkNest own idx (mtJ j').1 host ∈ nst) (hw2 : Cond.instanceMethod (mtJ j').1 ∈ wsG) (hn : (parseMethodDescriptor (mtJ j').1.desc).map (fun d => d.parameters.length) = some n) : SndC j pc j' (n + 1) := by
  intro E p l e R s m args below meth c H locs cells slots ls L S G h d mc ms Q1 C0 hM hlen hrc h8 hN hS hL hR1 hR2 hc hs
  obtain ⟨hx, hb, hml, hown, hts, hK, -⟩ := C0
  rw [ho] at hown
  simp only [rcv, hk, Bool.and_eq_true] at hrc
  obtain ⟨-, hrc⟩ := hrc
  split at hrc
  · rename_i a0 ha0
    obtain ⟨As, e1, e2, e3⟩ := rcv_split hlen ha0
    have hws : wsJ j' = Cond.code (mtJ j').1 (mtJ j').2.1 (mtJ j').2.2.1 none :: wsG := by rw [wsJ, hr]
    have cw : va_CN R s args own idx (mtJ j').1 host (mtJ j').2.1 (mtJ j').2.2.1 none (wsJ j') (rmD d mc ms) mc ms n :=
      va_cnB n hts (wsJ_good M) hws rfl rfl (hK.2.1 _ hw1) (hts _ M.2.1) ⟨M.2.2.1.1, M.2.2.1.2, hn⟩ ⟨hR1, by have := M.2.2.2.2; show 8 + ((mtJ j').2.2.1 + 11) + 100 * (d + 1) ≤ _; omega⟩
    rw [e1] at hM ⊢
    have hst : S.map (cv E) = (As.map (cv E)).reverse ++ .ref (ad E a0) :: (S.drop (n + 1)).map (cv E) := by
      rw [← List.map_reverse]
      conv => lhs; rw [e3]
      rw [List.map_append]
      rfl
    refine va_runIN (b := ad E a0) (As := As.map (cv E)) (cc := (mtJ j).2.1) (nL := (mtJ j).2.2.1) (Ts := wsG) ⟨hx, hb, hml, hown, hts⟩ hM ⟨cw, hi, hts _ hw2⟩ ⟨PcS_blind _ _ _ _, fun U hU hW => ⟨rfl, by rw [hU]; exact hN, hK.warm hW, by rw [hU]; exact heap_base hN⟩⟩ rfl (by rw [List.length_map]; exact e2) hL.1.1 hst ?_ hd ⟨hc, hs⟩
    rw [cat_sum]
    show 2 * 0 + _ ≤ _
    omega
  · cases hrc
end
section
/-! THE WALK: T of the small machine gives W of the large one, and Met of every method -/
def SndR (j pc k : Nat) : Prop := (k = 0 ∧ decode (mtJ j).2.1 pc = .ok (.return_, 1) ∧ (mtJ j).2.2.2 = none) ∨ (k = 1 ∧ decode (mtJ j).2.1 pc = .ok (.ireturn, 1) ∧ (mtJ j).2.2.2 = some .int) ∨ (k = 2 ∧ decode (mtJ j).2.1 pc = .ok (.ireturn, 1) ∧ (mtJ j).2.2.2 = some .boolean)
def SndO (j pc : Nat) (o : Op) : Prop := match o with
  | .inl act => SndA j pc act
  | .inr (.inl (j', n)) => SndC j pc j' n ∧ MOk j'
  | .inr (.inr k) => SndR j pc k
theorem lk_mem : ∀ {l : List (Nat × Op)} {pc : Nat} {o : Op}, lk l pc = some o → (pc, o) ∈ l
  | [], _, _, h => by cases h
  | (k, o') :: r, pc, o, h => by
    simp only [lk] at h
    by_cases e : Nat.beq k pc = true
    · rw [e] at h
      have e2 := Nat.eq_of_beq_eq_true e
      cases h
      subst e2
      exact List.mem_cons_self
    · rw [Bool.not_eq_true] at e
      rw [e] at h
      exact List.mem_cons_of_mem _ (lk_mem h)
theorem pv_map (E : Ev) (v : Option Int32) (S : List Value) : (pv v S).map (cv E) = (v.map Value.int).toList ++ S.map (cv E) := by
  cases v <;> rfl
def SndAll : Prop := ∀ j pc o, lk (ops j) pc = some o → SndO j pc o
abbrev MetJ (l : Launch) (E : Ev) (d j mc ms : Nat) (args : List Value) (G : List SC) (h : AH) (Q : Post) : Prop := Met l (mtJ j).1 (wsJ j) (rmD d mc ms) (PcS E args G h) (QcS E Q) mc ms (fun q => evB E ≤ q)
theorem walkT (A : SndAll) {E : Ev} {p : Program} {l : Launch} {e : Env} {R : Room} {s : State} {m : MethodId} {args : Array Value} {below : List Frame} {meth : Method} {c : Code} {j d mc ms MC MS : Nat} {st : St} {Q : Post} {QW : State → Prop} {Tc : Nat → Nat → Nat → St → Post → Prop} (C0 : Cx E j p R s m args meth c) (hMC : MC ≤ R.cells) (hMS : MS ≤ R.slots) (hF : d + 1 ≤ R.frames) (hLo : 100 * (d + 1) ≤ R.locals)
    (hcal : ∀ j' mc1 ms1 as G h Q1, MOk j' → (expA as).length ≤ (mtJ j').2.2.1 → Tc j' mc1 ms1 (entS j' as G h) Q1 → ∃ d', d' + 1 ≤ d ∧ MetJ l E d' j' mc1 ms1 as G h Q1)
    (hret : ∀ pc k v S G h H locs cells slots ls, SndR j pc k → rets k S = some v → Q v G h → CN E G h H → FS E s.heap H locs → cells ≤ MC → slots ≤ MS → W p l e R s m args below meth c H locs cells slots QW (F0 m pc ls (S.map (cv E))))
    (hT : TT Tc j mc ms st Q) : ∀ (H : Heap) (locs : List Loc) (cells slots : Nat) (ls : Array Slot), CN E st.2.2.2.1 st.2.2.2.2 H → FS E s.heap H locs → LV E ls (mtJ j).2.2.1 st.2.1 → cells + mc ≤ MC → slots + ms ≤ MS → W p l e R s m args below meth c H locs cells slots QW (F0 m st.1 ls (st.2.2.1.map (cv E))) := by
  refine hT (fun mc ms st => ∀ (H : Heap) (locs : List Loc) (cells slots : Nat) (ls : Array Slot), CN E st.2.2.2.1 st.2.2.2.2 H → FS E s.heap H locs → LV E ls (mtJ j).2.2.1 st.2.1 → cells + mc ≤ MC → slots + ms ≤ MS → W p l e R s m args below meth c H locs cells slots QW (F0 m st.1 ls (st.2.2.1.map (cv E)))) ?_ ?_ ?_
  · intro mc ms pc L S G h k v h1 h2 h3 H locs cells slots ls hN hS hL hc hs
    exact hret pc k v S G h H locs cells slots ls (A j pc _ h1) h2 h3 hN hS (by omega) (by omega)
  · intro mc ms pc L S G h act st' a b h1 h2 ih H locs cells slots ls hN hS hL hc hs
    exact (A j pc _ h1) E p l e R s m args below meth c H locs cells slots QW ls L S G h st' a b C0 h2 hN hS hL (by omega) (by omega) (fun H' locs' ls' hN' hS' hL' => ih H' locs' (cells + a) (slots + b) ls' hN' hS' hL' (by omega) (by omega))
  · intro mc ms mc1 ms1 pc L S G h j' n Q1 h1 h2 hrc h3 hc1 ih H locs cells slots ls hN hS hL hc hs
    obtain ⟨hC, hM⟩ := A j pc _ h1
    have hlen : (expA (S.take n).reverse).length ≤ (mtJ j').2.2.1 := by
      simp only [rcv, Bool.and_eq_true] at hrc
      exact Nat.le_of_ble_eq_true hrc.1
    obtain ⟨d', hd', hMet⟩ := hcal j' mc1 ms1 _ G h Q1 hM hlen hc1
    refine callW (hC E p l e R s m args below meth c H locs cells slots ls L S G h d' mc1 ms1 Q1 C0 hMet h2 hrc h3 hN hS hL (by omega) (by omega) (by omega) (by omega)) hS (fun v G' h' H' locs' q hN' hS' => ?_)
    have := ih v G' h' q H' locs' (cells + mc1) (slots + ms1) ls hN' hS' hL (by omega) (by omega)
    simp only at this
    rw [pv_map] at this
    exact this
theorem entry_LV {E : Ev} {as : List Value} {n : Nat} (hn : (expA as).length ≤ n) : ∃ ls, LV E ls n (entL n as) ∧ ∀ m : MethodId, entryFrame m (as.map (cv E)).toArray n = F0 m 0 ls [] := by
  have hlen : ∀ as : List Value, (lg_sl (as.map (cv E))).length = (expA as).length := by
    intro as
    induction as with
    | nil => rfl
    | cons v r ih =>
      have e : lg_sl ((v :: r).map (cv E)) = (if (cv E v).category = 2 then [.val (cv E v), .second] else [.val (cv E v)]) ++ lg_sl (r.map (cv E)) := rfl
      rw [e, List.length_append, ih, cv_cat]
      cases v <;> simp [expA, Value.category] <;> omega
  refine ⟨_, ⟨?_, ?_⟩, fun m => lg_entry_eq m (as.map (cv E)) n⟩
  · have h0 := lv_entry (as.map (cv E)) (n := n) (by rw [hlen]; exact hn)
    refine ⟨h0.1, h0.2.1, fun q hq => h0.2.2 q ?_⟩
    have key : ∀ (as : List Value) (i k : Nat) (v : Value), (expA as ++ List.replicate k un_)[i]? = some v → isSet v = true → ∀ b, (b + i, cv E v) ∈ lv_args b (as.map (cv E)) := by
      intro as
      induction as with
      | nil =>
        intro i k v h1 h2 b
        simp only [expA, List.nil_append, List.getElem?_replicate] at h1
        split at h1
        · cases h1; cases h2
        · cases h1
      | cons w r ih =>
        intro i k v h1 h2 b
        have e : lv_args b ((w :: r).map (cv E)) = (b, cv E w) :: lv_args (if (cv E w).category = 2 then b + 2 else b + 1) (r.map (cv E)) := rfl
        rw [e, cv_cat]
        by_cases hw : w.category = 2
        · rw [if_pos hw]
          have e2 : expA (w :: r) = w :: un_ :: expA r := by
            cases w <;> first | rfl | (simp [Value.category] at hw)
          rw [e2] at h1
          match i, h1 with
          | 0, h1 =>
            simp only [List.cons_append, List.getElem?_cons_zero, Option.some.injEq] at h1
            subst h1
            exact List.mem_cons_self
          | 1, h1 =>
            simp only [List.cons_append, List.getElem?_cons_succ, List.getElem?_cons_zero, Option.some.injEq] at h1
            subst h1
            cases h2
          | i + 2, h1 =>
            simp only [List.cons_append, List.getElem?_cons_succ] at h1
            have := ih i k v h1 h2 (b + 2)
            rw [show b + (i + 2) = b + 2 + i by omega]
            exact List.mem_cons_of_mem _ this
        · rw [if_neg hw]
          have e2 : expA (w :: r) = w :: expA r := by
            cases w <;> first | rfl | (simp [Value.category] at hw)
          rw [e2] at h1
          match i, h1 with
          | 0, h1 =>
            simp only [List.cons_append, List.getElem?_cons_zero, Option.some.injEq] at h1
            subst h1
            exact List.mem_cons_self
          | i + 1, h1 =>
            simp only [List.cons_append, List.getElem?_cons_succ] at h1
            have := ih i k v h1 h2 (b + 1)
            rw [show b + (i + 1) = b + 1 + i by omega]
            exact List.mem_cons_of_mem _ this
    obtain ⟨v, h1, h2, h3⟩ := lvl_mem.mp hq
    have := key as q.1 _ v h1 h2 0
    rw [Nat.zero_add, ← h3] at this
    exact this
  · simp only [entL, List.length_append, List.length_replicate]
    omega
theorem metJ1 (A : SndAll) (l : Launch) (E : Ev) {d j mc ms : Nat} {as : List Value} {G : List SC} {h : AH} {Q : Post} {Tc : Nat → Nat → Nat → St → Post → Prop} (M : MOk j) (hlen : (expA as).length ≤ (mtJ j).2.2.1)
    (hcal : ∀ j' mc1 ms1 as G h Q1, MOk j' → (expA as).length ≤ (mtJ j').2.2.1 → Tc j' mc1 ms1 (entS j' as G h) Q1 → ∃ d', d' + 1 ≤ d ∧ MetJ l E d' j' mc1 ms1 as G h Q1) (hT : TT Tc j mc ms (entS j as G h) Q) : MetJ l E d j mc ms as G h Q := by
  refine Met.ofW (cc := (mtJ j).2.1) (maxL := (mtJ j).2.2.1) (ret := (mtJ j).2.2.2) M.2.2.2.1 rfl ?_
  intro p e s m args below meth c s₁ B hml hv
  obtain ⟨rfl, hN, hK, hB⟩ := hv
  have hx := B.exec
  have hb := B.bytes
  have hr := B.returns
  have hts0 := atoms_spec (ws := wsJ j) B.pre
  have hts : ∀ w ∈ wsG, w.before (as.map (cv E)).toArray s = true := fun w hw => hts0 w (List.mem_cons_of_mem _ hw)
  have hown : s.vm.findClass (mtJ j).1.cls = some m.cls := findClass_of_methodNamed B.named
  have hlocks := B.notSynchronized
  have hin : meth.name = (mtJ j).1.name := (name_of_methodNamed B.named B.method).1
  have C0 : Cx E j p (rmD d mc ms) s m (as.map (cv E)).toArray meth c := ⟨hx, hb, hml, hown, hts, hK, hB, ⟨by show 1 ≤ d + 1; omega, by show 100 ≤ 100 * (d + 1); omega⟩, hin⟩
  obtain ⟨ls, hL, hent⟩ := entry_LV (E := E) hlen
  rw [hent m]
  refine walkT A (MC := mc) (MS := ms) C0 (Nat.le_refl _) (Nat.le_refl _) (Nat.le_refl _) (Nat.le_refl _) hcal ?_ hT s.heap [] 0 0 ls hN va_S.rf hL (by omega) (by omega)
  intro pc k v S G' h' H locs cells slots ls hR hv hq hN' hS hc hs
  refine W.widen (k := mc) (n := ms) hc hs ?_
  have post : ∀ t : State, t.heap = H → s.WarmedH t.vm → QcS E Q (as.map (cv E)).toArray s (.returned (v.map Value.int)) t := fun t ht hW => ⟨⟨v, G', h', rfl, hq, by rw [ht]; exact hN', hK.warm hW⟩, hS.F ht⟩
  rcases hR with ⟨rfl, hd, h4⟩ | ⟨rfl, hd, h4⟩ | ⟨rfl, hd, h4⟩
  · match S, hv with
    | [], hv =>
      cases hv
      exact W.vret hx hb (by rw [hr]; exact h4) post hS.2.2 hd
  · match S, hv with
    | [.int x], hv =>
      cases hv
      exact W.iret hx hb (by rw [hr]; exact h4) post hS.2.2 hd
  · match S, hv with
    | [.int x], hv =>
      simp only [rets] at hv
      split at hv
      · rename_i hx01
        cases hv
        exact W.zret (ty := .boolean) hx hb (by rw [hr]; exact h4) (by rcases hx01 with rfl | rfl <;> rfl) post hS.2.2 hd
      · cases hv
theorem metJ (A : SndAll) (l : Launch) (E : Ev) : ∀ (d j mc ms : Nat) (as : List Value) (G : List SC) (h : AH) (Q : Post), MOk j → (expA as).length ≤ (mtJ j).2.2.1 → T d j mc ms (entS j as G h) Q → MetJ l E d j mc ms as G h Q := by
  intro d
  induction d with
  | zero =>
    intro j mc ms as G h Q M hlen hT
    exact metJ1 A l E (Tc := fun _ _ _ _ _ => False) M hlen (fun _ _ _ _ _ _ _ _ _ hc => hc.elim) hT
  | succ d ih =>
    intro j mc ms as G h Q M hlen hT
    exact metJ1 A l E (Tc := T d) M hlen (fun j' mc1 ms1 as G h Q1 M1 hl hc => ⟨d, Nat.le_refl _, ih j' mc1 ms1 as G h Q1 M1 hl hc⟩) hT
end
