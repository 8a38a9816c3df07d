-- ===== PART A: goes FIRST, ahead of the names: the tables' words, and 'selects' of the private methods out of them =====
/-- a private method of a class that the tables say can be made, by its rows of tables_1 -/
def lw_okq (q : MethodName × Nat) : Prop := (q.1.cls ≠ "java/lang/invoke/MethodHandle" ∧ q.1.cls ≠ "java/lang/invoke/VarHandle") ∧ Cond.instantiable q.1.cls q.2 ∈ tables_1 ∧ Cond.privateMethod q.1 ∈ tables_1 ∧ Cond.instanceMethod q.1 ∈ tables_1
theorem lw_p0 : lw_okq (⟨"TrueLedger", "versionAt", "(I)LTrueLedger$Version;"⟩, 14) := ⟨⟨by decide +kernel, by decide +kernel⟩, List.mem_of_getElem? (i := 22) (by decide +kernel), List.mem_of_getElem? (i := 298) (by decide +kernel), List.mem_of_getElem? (i := 299) (by decide +kernel)⟩
theorem lw_p1 : lw_okq (⟨"TrueLedger$Version", "findFault", "()I"⟩, 10) := ⟨⟨by decide +kernel, by decide +kernel⟩, List.mem_of_getElem? (i := 163) (by decide +kernel), List.mem_of_getElem? (i := 325) (by decide +kernel), List.mem_of_getElem? (i := 326) (by decide +kernel)⟩
theorem lw_p2 : lw_okq (⟨"TrueLedger$Version", "readLines", "()V"⟩, 10) := ⟨⟨by decide +kernel, by decide +kernel⟩, List.mem_of_getElem? (i := 163) (by decide +kernel), List.mem_of_getElem? (i := 421) (by decide +kernel), List.mem_of_getElem? (i := 422) (by decide +kernel)⟩
theorem lw_p3 : lw_okq (⟨"TrueLedger", "setMix", "(III)Z"⟩, 14) := ⟨⟨by decide +kernel, by decide +kernel⟩, List.mem_of_getElem? (i := 22) (by decide +kernel), List.mem_of_getElem? (i := 447) (by decide +kernel), List.mem_of_getElem? (i := 448) (by decide +kernel)⟩
theorem lw_p4 : lw_okq (⟨"TrueLedger", "sheetAt", "(I)LTrueLedger$Sheet;"⟩, 14) := ⟨⟨by decide +kernel, by decide +kernel⟩, List.mem_of_getElem? (i := 22) (by decide +kernel), List.mem_of_getElem? (i := 457) (by decide +kernel), List.mem_of_getElem? (i := 458) (by decide +kernel)⟩
theorem lw_p5 : lw_okq (⟨"TrueLedger", "endOfRun", "([III)I"⟩, 14) := ⟨⟨by decide +kernel, by decide +kernel⟩, List.mem_of_getElem? (i := 22) (by decide +kernel), List.mem_of_getElem? (i := 469) (by decide +kernel), List.mem_of_getElem? (i := 470) (by decide +kernel)⟩
theorem lw_p6 : lw_okq (⟨"TrueLedger$Mix", "act", "(I)V"⟩, 4) := ⟨⟨by decide +kernel, by decide +kernel⟩, List.mem_of_getElem? (i := 207) (by decide +kernel), List.mem_of_getElem? (i := 486) (by decide +kernel), List.mem_of_getElem? (i := 487) (by decide +kernel)⟩
theorem lw_p7 : lw_okq (⟨"TrueLedger", "seekParting", "(III)I"⟩, 14) := ⟨⟨by decide +kernel, by decide +kernel⟩, List.mem_of_getElem? (i := 22) (by decide +kernel), List.mem_of_getElem? (i := 501) (by decide +kernel), List.mem_of_getElem? (i := 502) (by decide +kernel)⟩
theorem lw_p8 : lw_okq (⟨"TrueLedger$Search", "slotOf", "(I)I"⟩, 6) := ⟨⟨by decide +kernel, by decide +kernel⟩, List.mem_of_getElem? (i := 36) (by decide +kernel), List.mem_of_getElem? (i := 514) (by decide +kernel), List.mem_of_getElem? (i := 515) (by decide +kernel)⟩
theorem lw_p9 : lw_okq (⟨"TrueLedger$Search", "keep", "(IIII)V"⟩, 6) := ⟨⟨by decide +kernel, by decide +kernel⟩, List.mem_of_getElem? (i := 36) (by decide +kernel), List.mem_of_getElem? (i := 519) (by decide +kernel), List.mem_of_getElem? (i := 520) (by decide +kernel)⟩
theorem lw_p10 : lw_okq (⟨"TrueLedger$Search", "goOnFrom", "(LTrueLedger$Mix;IZ)I"⟩, 6) := ⟨⟨by decide +kernel, by decide +kernel⟩, List.mem_of_getElem? (i := 36) (by decide +kernel), List.mem_of_getElem? (i := 528) (by decide +kernel), List.mem_of_getElem? (i := 529) (by decide +kernel)⟩
theorem lw_p11 : lw_okq (⟨"TrueLedger$Search", "tellRow", "(III)V"⟩, 6) := ⟨⟨by decide +kernel, by decide +kernel⟩, List.mem_of_getElem? (i := 36) (by decide +kernel), List.mem_of_getElem? (i := 540) (by decide +kernel), List.mem_of_getElem? (i := 541) (by decide +kernel)⟩
theorem lw_p12 : lw_okq (⟨"TrueLedger$Mender", "tellChoices", "(I)I"⟩, 1) := ⟨⟨by decide +kernel, by decide +kernel⟩, List.mem_of_getElem? (i := 63) (by decide +kernel), List.mem_of_getElem? (i := 563) (by decide +kernel), List.mem_of_getElem? (i := 564) (by decide +kernel)⟩
theorem lw_p13 : lw_okq (⟨"TrueLedger$Mender", "ruleOut", "(III)V"⟩, 1) := ⟨⟨by decide +kernel, by decide +kernel⟩, List.mem_of_getElem? (i := 63) (by decide +kernel), List.mem_of_getElem? (i := 574) (by decide +kernel), List.mem_of_getElem? (i := 575) (by decide +kernel)⟩
theorem lw_p14 : lw_okq (⟨"TrueLedger", "counterAt", "(I)LTrueLedger$Counter;"⟩, 14) := ⟨⟨by decide +kernel, by decide +kernel⟩, List.mem_of_getElem? (i := 22) (by decide +kernel), List.mem_of_getElem? (i := 650) (by decide +kernel), List.mem_of_getElem? (i := 651) (by decide +kernel)⟩
theorem lw_p15 : lw_okq (⟨"TrueLedger", "finding", "(I)I"⟩, 14) := ⟨⟨by decide +kernel, by decide +kernel⟩, List.mem_of_getElem? (i := 22) (by decide +kernel), List.mem_of_getElem? (i := 654) (by decide +kernel), List.mem_of_getElem? (i := 655) (by decide +kernel)⟩
def lw_privs_1 : List (MethodName × Nat) := [(⟨"TrueLedger", "versionAt", "(I)LTrueLedger$Version;"⟩, 14), (⟨"TrueLedger$Version", "findFault", "()I"⟩, 10), (⟨"TrueLedger$Version", "readLines", "()V"⟩, 10), (⟨"TrueLedger", "setMix", "(III)Z"⟩, 14), (⟨"TrueLedger", "sheetAt", "(I)LTrueLedger$Sheet;"⟩, 14), (⟨"TrueLedger", "endOfRun", "([III)I"⟩, 14), (⟨"TrueLedger$Mix", "act", "(I)V"⟩, 4), (⟨"TrueLedger", "seekParting", "(III)I"⟩, 14), (⟨"TrueLedger$Search", "slotOf", "(I)I"⟩, 6), (⟨"TrueLedger$Search", "keep", "(IIII)V"⟩, 6), (⟨"TrueLedger$Search", "goOnFrom", "(LTrueLedger$Mix;IZ)I"⟩, 6), (⟨"TrueLedger$Search", "tellRow", "(III)V"⟩, 6), (⟨"TrueLedger$Mender", "tellChoices", "(I)I"⟩, 1), (⟨"TrueLedger$Mender", "ruleOut", "(III)V"⟩, 1), (⟨"TrueLedger", "counterAt", "(I)LTrueLedger$Counter;"⟩, 14), (⟨"TrueLedger", "finding", "(I)I"⟩, 14)]
theorem lw_r1 : ∀ q ∈ lw_privs_1, lw_okq q := List.forall_mem_cons.mpr ⟨lw_p0, List.forall_mem_cons.mpr ⟨lw_p1, List.forall_mem_cons.mpr ⟨lw_p2, List.forall_mem_cons.mpr ⟨lw_p3, List.forall_mem_cons.mpr ⟨lw_p4, List.forall_mem_cons.mpr ⟨lw_p5, List.forall_mem_cons.mpr ⟨lw_p6, List.forall_mem_cons.mpr ⟨lw_p7, List.forall_mem_cons.mpr ⟨lw_p8, List.forall_mem_cons.mpr ⟨lw_p9, List.forall_mem_cons.mpr ⟨lw_p10, List.forall_mem_cons.mpr ⟨lw_p11, List.forall_mem_cons.mpr ⟨lw_p12, List.forall_mem_cons.mpr ⟨lw_p13, List.forall_mem_cons.mpr ⟨lw_p14, List.forall_mem_cons.mpr ⟨lw_p15, fun _ h => absurd h List.not_mem_nil⟩⟩⟩⟩⟩⟩⟩⟩⟩⟩⟩⟩⟩⟩⟩⟩
theorem lw_p16 : lw_okq (⟨"TrueLedger", "judge", "(LTrueLedger$Counter;)V"⟩, 14) := ⟨⟨by decide +kernel, by decide +kernel⟩, List.mem_of_getElem? (i := 22) (by decide +kernel), List.mem_of_getElem? (i := 698) (by decide +kernel), List.mem_of_getElem? (i := 699) (by decide +kernel)⟩
theorem lw_p17 : lw_okq (⟨"TrueLedger$Filler", "begin", "(LTrueLedger$Counter;)V"⟩, 12) := ⟨⟨by decide +kernel, by decide +kernel⟩, List.mem_of_getElem? (i := 73) (by decide +kernel), List.mem_of_getElem? (i := 706) (by decide +kernel), List.mem_of_getElem? (i := 707) (by decide +kernel)⟩
theorem lw_p18 : lw_okq (⟨"TrueLedger$Filler", "postFromAfar", "(I)V"⟩, 12) := ⟨⟨by decide +kernel, by decide +kernel⟩, List.mem_of_getElem? (i := 73) (by decide +kernel), List.mem_of_getElem? (i := 711) (by decide +kernel), List.mem_of_getElem? (i := 712) (by decide +kernel)⟩
theorem lw_p19 : lw_okq (⟨"TrueLedger$Filler", "addPosted", "(II)V"⟩, 12) := ⟨⟨by decide +kernel, by decide +kernel⟩, List.mem_of_getElem? (i := 73) (by decide +kernel), List.mem_of_getElem? (i := 718) (by decide +kernel), List.mem_of_getElem? (i := 719) (by decide +kernel)⟩
theorem lw_p20 : lw_okq (⟨"TrueLedger$Filler", "findLikeEvents", "(LTrueLedger$Version;)V"⟩, 12) := ⟨⟨by decide +kernel, by decide +kernel⟩, List.mem_of_getElem? (i := 73) (by decide +kernel), List.mem_of_getElem? (i := 722) (by decide +kernel), List.mem_of_getElem? (i := 723) (by decide +kernel)⟩
theorem lw_p21 : lw_okq (⟨"TrueLedger$Filler", "likeFill", "(I)I"⟩, 12) := ⟨⟨by decide +kernel, by decide +kernel⟩, List.mem_of_getElem? (i := 73) (by decide +kernel), List.mem_of_getElem? (i := 729) (by decide +kernel), List.mem_of_getElem? (i := 730) (by decide +kernel)⟩
theorem lw_p22 : lw_okq (⟨"TrueLedger$Filler", "causesOfRow", "(ILTrueLedger$Counter;LTrueLedger$Mix;)I"⟩, 12) := ⟨⟨by decide +kernel, by decide +kernel⟩, List.mem_of_getElem? (i := 73) (by decide +kernel), List.mem_of_getElem? (i := 733) (by decide +kernel), List.mem_of_getElem? (i := 734) (by decide +kernel)⟩
theorem lw_p23 : lw_okq (⟨"TrueLedger$Filler", "give", "(I)V"⟩, 12) := ⟨⟨by decide +kernel, by decide +kernel⟩, List.mem_of_getElem? (i := 73) (by decide +kernel), List.mem_of_getElem? (i := 737) (by decide +kernel), List.mem_of_getElem? (i := 738) (by decide +kernel)⟩
theorem lw_p24 : lw_okq (⟨"TrueLedger$Filler", "shiftOf", "(I)I"⟩, 12) := ⟨⟨by decide +kernel, by decide +kernel⟩, List.mem_of_getElem? (i := 73) (by decide +kernel), List.mem_of_getElem? (i := 741) (by decide +kernel), List.mem_of_getElem? (i := 742) (by decide +kernel)⟩
theorem lw_p25 : lw_okq (⟨"TrueLedger$Filler", "runPlain", "(LTrueLedger$Mix;)V"⟩, 12) := ⟨⟨by decide +kernel, by decide +kernel⟩, List.mem_of_getElem? (i := 73) (by decide +kernel), List.mem_of_getElem? (i := 745) (by decide +kernel), List.mem_of_getElem? (i := 746) (by decide +kernel)⟩
theorem lw_p26 : lw_okq (⟨"TrueLedger$Filler", "runPosted", "(LTrueLedger$Mix;)V"⟩, 12) := ⟨⟨by decide +kernel, by decide +kernel⟩, List.mem_of_getElem? (i := 73) (by decide +kernel), List.mem_of_getElem? (i := 750) (by decide +kernel), List.mem_of_getElem? (i := 751) (by decide +kernel)⟩
theorem lw_p27 : lw_okq (⟨"TrueLedger$Filler", "isPostedTo", "(I)Z"⟩, 12) := ⟨⟨by decide +kernel, by decide +kernel⟩, List.mem_of_getElem? (i := 73) (by decide +kernel), List.mem_of_getElem? (i := 754) (by decide +kernel), List.mem_of_getElem? (i := 755) (by decide +kernel)⟩
theorem lw_p28 : lw_okq (⟨"TrueLedger$Filler", "fewestPages", "(I)I"⟩, 12) := ⟨⟨by decide +kernel, by decide +kernel⟩, List.mem_of_getElem? (i := 73) (by decide +kernel), List.mem_of_getElem? (i := 758) (by decide +kernel), List.mem_of_getElem? (i := 759) (by decide +kernel)⟩
theorem lw_p29 : lw_okq (⟨"TrueLedger$Filler", "settles", "(II)Z"⟩, 12) := ⟨⟨by decide +kernel, by decide +kernel⟩, List.mem_of_getElem? (i := 73) (by decide +kernel), List.mem_of_getElem? (i := 764) (by decide +kernel), List.mem_of_getElem? (i := 765) (by decide +kernel)⟩
theorem lw_p30 : lw_okq (⟨"TrueLedger$Counter", "holdsAt", "(ILTrueLedger$Counter;I)Z"⟩, 13) := ⟨⟨by decide +kernel, by decide +kernel⟩, List.mem_of_getElem? (i := 581) (by decide +kernel), List.mem_of_getElem? (i := 792) (by decide +kernel), List.mem_of_getElem? (i := 793) (by decide +kernel)⟩
theorem lw_p31 : lw_okq (⟨"TrueLedger", "owedOn", "(II)I"⟩, 14) := ⟨⟨by decide +kernel, by decide +kernel⟩, List.mem_of_getElem? (i := 22) (by decide +kernel), List.mem_of_getElem? (i := 815) (by decide +kernel), List.mem_of_getElem? (i := 816) (by decide +kernel)⟩
def lw_privs_2 : List (MethodName × Nat) := [(⟨"TrueLedger", "judge", "(LTrueLedger$Counter;)V"⟩, 14), (⟨"TrueLedger$Filler", "begin", "(LTrueLedger$Counter;)V"⟩, 12), (⟨"TrueLedger$Filler", "postFromAfar", "(I)V"⟩, 12), (⟨"TrueLedger$Filler", "addPosted", "(II)V"⟩, 12), (⟨"TrueLedger$Filler", "findLikeEvents", "(LTrueLedger$Version;)V"⟩, 12), (⟨"TrueLedger$Filler", "likeFill", "(I)I"⟩, 12), (⟨"TrueLedger$Filler", "causesOfRow", "(ILTrueLedger$Counter;LTrueLedger$Mix;)I"⟩, 12), (⟨"TrueLedger$Filler", "give", "(I)V"⟩, 12), (⟨"TrueLedger$Filler", "shiftOf", "(I)I"⟩, 12), (⟨"TrueLedger$Filler", "runPlain", "(LTrueLedger$Mix;)V"⟩, 12), (⟨"TrueLedger$Filler", "runPosted", "(LTrueLedger$Mix;)V"⟩, 12), (⟨"TrueLedger$Filler", "isPostedTo", "(I)Z"⟩, 12), (⟨"TrueLedger$Filler", "fewestPages", "(I)I"⟩, 12), (⟨"TrueLedger$Filler", "settles", "(II)Z"⟩, 12), (⟨"TrueLedger$Counter", "holdsAt", "(ILTrueLedger$Counter;I)Z"⟩, 13), (⟨"TrueLedger", "owedOn", "(II)I"⟩, 14)]
theorem lw_r2 : ∀ q ∈ lw_privs_2, lw_okq q := List.forall_mem_cons.mpr ⟨lw_p16, List.forall_mem_cons.mpr ⟨lw_p17, List.forall_mem_cons.mpr ⟨lw_p18, List.forall_mem_cons.mpr ⟨lw_p19, List.forall_mem_cons.mpr ⟨lw_p20, List.forall_mem_cons.mpr ⟨lw_p21, List.forall_mem_cons.mpr ⟨lw_p22, List.forall_mem_cons.mpr ⟨lw_p23, List.forall_mem_cons.mpr ⟨lw_p24, List.forall_mem_cons.mpr ⟨lw_p25, List.forall_mem_cons.mpr ⟨lw_p26, List.forall_mem_cons.mpr ⟨lw_p27, List.forall_mem_cons.mpr ⟨lw_p28, List.forall_mem_cons.mpr ⟨lw_p29, List.forall_mem_cons.mpr ⟨lw_p30, List.forall_mem_cons.mpr ⟨lw_p31, fun _ h => absurd h List.not_mem_nil⟩⟩⟩⟩⟩⟩⟩⟩⟩⟩⟩⟩⟩⟩⟩⟩
theorem lw_p32 : lw_okq (⟨"TrueLedger", "enqueue", "(II)V"⟩, 14) := ⟨⟨by decide +kernel, by decide +kernel⟩, List.mem_of_getElem? (i := 22) (by decide +kernel), List.mem_of_getElem? (i := 857) (by decide +kernel), List.mem_of_getElem? (i := 858) (by decide +kernel)⟩
theorem lw_p33 : lw_okq (⟨"TrueLedger", "isBefore", "(II)Z"⟩, 14) := ⟨⟨by decide +kernel, by decide +kernel⟩, List.mem_of_getElem? (i := 22) (by decide +kernel), List.mem_of_getElem? (i := 861) (by decide +kernel), List.mem_of_getElem? (i := 862) (by decide +kernel)⟩
theorem lw_p34 : lw_okq (⟨"TrueLedger", "costOfQueue", "(I)I"⟩, 14) := ⟨⟨by decide +kernel, by decide +kernel⟩, List.mem_of_getElem? (i := 22) (by decide +kernel), List.mem_of_getElem? (i := 865) (by decide +kernel), List.mem_of_getElem? (i := 866) (by decide +kernel)⟩
theorem lw_p35 : lw_okq (⟨"TrueLedger", "countBytes", "()I"⟩, 14) := ⟨⟨by decide +kernel, by decide +kernel⟩, List.mem_of_getElem? (i := 22) (by decide +kernel), List.mem_of_getElem? (i := 922) (by decide +kernel), List.mem_of_getElem? (i := 923) (by decide +kernel)⟩
theorem lw_p36 : lw_okq (⟨"TrueLedger", "countLogged", "()I"⟩, 14) := ⟨⟨by decide +kernel, by decide +kernel⟩, List.mem_of_getElem? (i := 22) (by decide +kernel), List.mem_of_getElem? (i := 926) (by decide +kernel), List.mem_of_getElem? (i := 927) (by decide +kernel)⟩
theorem lw_p37 : lw_okq (⟨"TrueLedger", "countShort", "()I"⟩, 14) := ⟨⟨by decide +kernel, by decide +kernel⟩, List.mem_of_getElem? (i := 22) (by decide +kernel), List.mem_of_getElem? (i := 930) (by decide +kernel), List.mem_of_getElem? (i := 931) (by decide +kernel)⟩
theorem lw_p38 : lw_okq (⟨"TrueLedgerModel", "faultOf", "(I)I"⟩, 48) := ⟨⟨by decide +kernel, by decide +kernel⟩, List.mem_of_getElem? (i := 945) (by decide +kernel), List.mem_of_getElem? (i := 1115) (by decide +kernel), List.mem_of_getElem? (i := 1116) (by decide +kernel)⟩
theorem lw_p39 : lw_okq (⟨"TrueLedgerModel", "reads", "(I)V"⟩, 48) := ⟨⟨by decide +kernel, by decide +kernel⟩, List.mem_of_getElem? (i := 945) (by decide +kernel), List.mem_of_getElem? (i := 1119) (by decide +kernel), List.mem_of_getElem? (i := 1120) (by decide +kernel)⟩
theorem lw_p40 : lw_okq (⟨"TrueLedgerModel", "noLines", "(I)V"⟩, 48) := ⟨⟨by decide +kernel, by decide +kernel⟩, List.mem_of_getElem? (i := 945) (by decide +kernel), List.mem_of_getElem? (i := 1123) (by decide +kernel), List.mem_of_getElem? (i := 1124) (by decide +kernel)⟩
theorem lw_p41 : lw_okq (⟨"TrueLedgerModel", "part", "()V"⟩, 48) := ⟨⟨by decide +kernel, by decide +kernel⟩, List.mem_of_getElem? (i := 945) (by decide +kernel), List.mem_of_getElem? (i := 1127) (by decide +kernel), List.mem_of_getElem? (i := 1128) (by decide +kernel)⟩
theorem lw_p42 : lw_okq (⟨"TrueLedgerModel", "byteNow", "()I"⟩, 48) := ⟨⟨by decide +kernel, by decide +kernel⟩, List.mem_of_getElem? (i := 945) (by decide +kernel), List.mem_of_getElem? (i := 1131) (by decide +kernel), List.mem_of_getElem? (i := 1132) (by decide +kernel)⟩
theorem lw_p43 : lw_okq (⟨"TrueLedgerModel", "mode", "()I"⟩, 48) := ⟨⟨by decide +kernel, by decide +kernel⟩, List.mem_of_getElem? (i := 945) (by decide +kernel), List.mem_of_getElem? (i := 1138) (by decide +kernel), List.mem_of_getElem? (i := 1139) (by decide +kernel)⟩
theorem lw_p44 : lw_okq (⟨"TrueLedgerModel", "act", "()V"⟩, 48) := ⟨⟨by decide +kernel, by decide +kernel⟩, List.mem_of_getElem? (i := 945) (by decide +kernel), List.mem_of_getElem? (i := 1142) (by decide +kernel), List.mem_of_getElem? (i := 1143) (by decide +kernel)⟩
theorem lw_p45 : lw_okq (⟨"TrueLedgerModel", "actsOf", "(II)I"⟩, 48) := ⟨⟨by decide +kernel, by decide +kernel⟩, List.mem_of_getElem? (i := 945) (by decide +kernel), List.mem_of_getElem? (i := 1153) (by decide +kernel), List.mem_of_getElem? (i := 1154) (by decide +kernel)⟩
theorem lw_p46 : lw_okq (⟨"TrueLedgerModel", "differOf", "(II)I"⟩, 48) := ⟨⟨by decide +kernel, by decide +kernel⟩, List.mem_of_getElem? (i := 945) (by decide +kernel), List.mem_of_getElem? (i := 1161) (by decide +kernel), List.mem_of_getElem? (i := 1162) (by decide +kernel)⟩
theorem lw_p47 : lw_okq (⟨"TrueLedgerModel", "areLike", "(III)Z"⟩, 48) := ⟨⟨by decide +kernel, by decide +kernel⟩, List.mem_of_getElem? (i := 945) (by decide +kernel), List.mem_of_getElem? (i := 1165) (by decide +kernel), List.mem_of_getElem? (i := 1166) (by decide +kernel)⟩
def lw_privs_3 : List (MethodName × Nat) := [(⟨"TrueLedger", "enqueue", "(II)V"⟩, 14), (⟨"TrueLedger", "isBefore", "(II)Z"⟩, 14), (⟨"TrueLedger", "costOfQueue", "(I)I"⟩, 14), (⟨"TrueLedger", "countBytes", "()I"⟩, 14), (⟨"TrueLedger", "countLogged", "()I"⟩, 14), (⟨"TrueLedger", "countShort", "()I"⟩, 14), (⟨"TrueLedgerModel", "faultOf", "(I)I"⟩, 48), (⟨"TrueLedgerModel", "reads", "(I)V"⟩, 48), (⟨"TrueLedgerModel", "noLines", "(I)V"⟩, 48), (⟨"TrueLedgerModel", "part", "()V"⟩, 48), (⟨"TrueLedgerModel", "byteNow", "()I"⟩, 48), (⟨"TrueLedgerModel", "mode", "()I"⟩, 48), (⟨"TrueLedgerModel", "act", "()V"⟩, 48), (⟨"TrueLedgerModel", "actsOf", "(II)I"⟩, 48), (⟨"TrueLedgerModel", "differOf", "(II)I"⟩, 48), (⟨"TrueLedgerModel", "areLike", "(III)Z"⟩, 48)]
theorem lw_r3 : ∀ q ∈ lw_privs_3, lw_okq q := List.forall_mem_cons.mpr ⟨lw_p32, List.forall_mem_cons.mpr ⟨lw_p33, List.forall_mem_cons.mpr ⟨lw_p34, List.forall_mem_cons.mpr ⟨lw_p35, List.forall_mem_cons.mpr ⟨lw_p36, List.forall_mem_cons.mpr ⟨lw_p37, List.forall_mem_cons.mpr ⟨lw_p38, List.forall_mem_cons.mpr ⟨lw_p39, List.forall_mem_cons.mpr ⟨lw_p40, List.forall_mem_cons.mpr ⟨lw_p41, List.forall_mem_cons.mpr ⟨lw_p42, List.forall_mem_cons.mpr ⟨lw_p43, List.forall_mem_cons.mpr ⟨lw_p44, List.forall_mem_cons.mpr ⟨lw_p45, List.forall_mem_cons.mpr ⟨lw_p46, List.forall_mem_cons.mpr ⟨lw_p47, fun _ h => absurd h List.not_mem_nil⟩⟩⟩⟩⟩⟩⟩⟩⟩⟩⟩⟩⟩⟩⟩⟩
theorem lw_p48 : lw_okq (⟨"TrueLedgerModel", "mixes", "(III)V"⟩, 48) := ⟨⟨by decide +kernel, by decide +kernel⟩, List.mem_of_getElem? (i := 945) (by decide +kernel), List.mem_of_getElem? (i := 1183) (by decide +kernel), List.mem_of_getElem? (i := 1184) (by decide +kernel)⟩
theorem lw_p49 : lw_okq (⟨"TrueLedgerModel", "begins", "()V"⟩, 48) := ⟨⟨by decide +kernel, by decide +kernel⟩, List.mem_of_getElem? (i := 945) (by decide +kernel), List.mem_of_getElem? (i := 1187) (by decide +kernel), List.mem_of_getElem? (i := 1188) (by decide +kernel)⟩
theorem lw_p50 : lw_okq (⟨"TrueLedgerModel", "goes", "(I)V"⟩, 48) := ⟨⟨by decide +kernel, by decide +kernel⟩, List.mem_of_getElem? (i := 945) (by decide +kernel), List.mem_of_getElem? (i := 1191) (by decide +kernel), List.mem_of_getElem? (i := 1192) (by decide +kernel)⟩
theorem lw_p51 : lw_okq (⟨"TrueLedgerModel", "sets", "(II)V"⟩, 48) := ⟨⟨by decide +kernel, by decide +kernel⟩, List.mem_of_getElem? (i := 945) (by decide +kernel), List.mem_of_getElem? (i := 1195) (by decide +kernel), List.mem_of_getElem? (i := 1196) (by decide +kernel)⟩
theorem lw_p52 : lw_okq (⟨"TrueLedgerModel", "partsBy", "(I)I"⟩, 48) := ⟨⟨by decide +kernel, by decide +kernel⟩, List.mem_of_getElem? (i := 945) (by decide +kernel), List.mem_of_getElem? (i := 1203) (by decide +kernel), List.mem_of_getElem? (i := 1204) (by decide +kernel)⟩
theorem lw_p53 : lw_okq (⟨"TrueLedgerModel", "doesPart", "(II)Z"⟩, 48) := ⟨⟨by decide +kernel, by decide +kernel⟩, List.mem_of_getElem? (i := 945) (by decide +kernel), List.mem_of_getElem? (i := 1207) (by decide +kernel), List.mem_of_getElem? (i := 1208) (by decide +kernel)⟩
theorem lw_p54 : lw_okq (⟨"TrueLedgerModel", "isCounter", "(I)Z"⟩, 48) := ⟨⟨by decide +kernel, by decide +kernel⟩, List.mem_of_getElem? (i := 945) (by decide +kernel), List.mem_of_getElem? (i := 1230) (by decide +kernel), List.mem_of_getElem? (i := 1231) (by decide +kernel)⟩
theorem lw_p55 : lw_okq (⟨"TrueLedgerModel", "meets", "(I)I"⟩, 48) := ⟨⟨by decide +kernel, by decide +kernel⟩, List.mem_of_getElem? (i := 945) (by decide +kernel), List.mem_of_getElem? (i := 1234) (by decide +kernel), List.mem_of_getElem? (i := 1235) (by decide +kernel)⟩
theorem lw_p56 : lw_okq (⟨"TrueLedgerModel", "aboutOf", "(II)I"⟩, 48) := ⟨⟨by decide +kernel, by decide +kernel⟩, List.mem_of_getElem? (i := 945) (by decide +kernel), List.mem_of_getElem? (i := 1246) (by decide +kernel), List.mem_of_getElem? (i := 1247) (by decide +kernel)⟩
theorem lw_p57 : lw_okq (⟨"TrueLedgerModel", "lostMany", "(I)I"⟩, 48) := ⟨⟨by decide +kernel, by decide +kernel⟩, List.mem_of_getElem? (i := 945) (by decide +kernel), List.mem_of_getElem? (i := 1250) (by decide +kernel), List.mem_of_getElem? (i := 1251) (by decide +kernel)⟩
theorem lw_p58 : lw_okq (⟨"TrueLedgerModel", "isShort", "(I)Z"⟩, 48) := ⟨⟨by decide +kernel, by decide +kernel⟩, List.mem_of_getElem? (i := 945) (by decide +kernel), List.mem_of_getElem? (i := 1254) (by decide +kernel), List.mem_of_getElem? (i := 1255) (by decide +kernel)⟩
theorem lw_p59 : lw_okq (⟨"TrueLedgerModel", "fillMany", "(I)I"⟩, 48) := ⟨⟨by decide +kernel, by decide +kernel⟩, List.mem_of_getElem? (i := 945) (by decide +kernel), List.mem_of_getElem? (i := 1270) (by decide +kernel), List.mem_of_getElem? (i := 1271) (by decide +kernel)⟩
theorem lw_p60 : lw_okq (⟨"TrueLedgerModel", "causesBy", "(II)I"⟩, 48) := ⟨⟨by decide +kernel, by decide +kernel⟩, List.mem_of_getElem? (i := 945) (by decide +kernel), List.mem_of_getElem? (i := 1274) (by decide +kernel), List.mem_of_getElem? (i := 1275) (by decide +kernel)⟩
theorem lw_p61 : lw_okq (⟨"TrueLedgerModel", "isClear", "(II)Z"⟩, 48) := ⟨⟨by decide +kernel, by decide +kernel⟩, List.mem_of_getElem? (i := 945) (by decide +kernel), List.mem_of_getElem? (i := 1278) (by decide +kernel), List.mem_of_getElem? (i := 1279) (by decide +kernel)⟩
theorem lw_p62 : lw_okq (⟨"TrueLedgerModel", "filledBy", "(II)V"⟩, 48) := ⟨⟨by decide +kernel, by decide +kernel⟩, List.mem_of_getElem? (i := 945) (by decide +kernel), List.mem_of_getElem? (i := 1282) (by decide +kernel), List.mem_of_getElem? (i := 1283) (by decide +kernel)⟩
theorem lw_p63 : lw_okq (⟨"TrueLedgerModel", "goesAll", "(III)V"⟩, 48) := ⟨⟨by decide +kernel, by decide +kernel⟩, List.mem_of_getElem? (i := 945) (by decide +kernel), List.mem_of_getElem? (i := 1286) (by decide +kernel), List.mem_of_getElem? (i := 1287) (by decide +kernel)⟩
def lw_privs_4 : List (MethodName × Nat) := [(⟨"TrueLedgerModel", "mixes", "(III)V"⟩, 48), (⟨"TrueLedgerModel", "begins", "()V"⟩, 48), (⟨"TrueLedgerModel", "goes", "(I)V"⟩, 48), (⟨"TrueLedgerModel", "sets", "(II)V"⟩, 48), (⟨"TrueLedgerModel", "partsBy", "(I)I"⟩, 48), (⟨"TrueLedgerModel", "doesPart", "(II)Z"⟩, 48), (⟨"TrueLedgerModel", "isCounter", "(I)Z"⟩, 48), (⟨"TrueLedgerModel", "meets", "(I)I"⟩, 48), (⟨"TrueLedgerModel", "aboutOf", "(II)I"⟩, 48), (⟨"TrueLedgerModel", "lostMany", "(I)I"⟩, 48), (⟨"TrueLedgerModel", "isShort", "(I)Z"⟩, 48), (⟨"TrueLedgerModel", "fillMany", "(I)I"⟩, 48), (⟨"TrueLedgerModel", "causesBy", "(II)I"⟩, 48), (⟨"TrueLedgerModel", "isClear", "(II)Z"⟩, 48), (⟨"TrueLedgerModel", "filledBy", "(II)V"⟩, 48), (⟨"TrueLedgerModel", "goesAll", "(III)V"⟩, 48)]
theorem lw_r4 : ∀ q ∈ lw_privs_4, lw_okq q := List.forall_mem_cons.mpr ⟨lw_p48, List.forall_mem_cons.mpr ⟨lw_p49, List.forall_mem_cons.mpr ⟨lw_p50, List.forall_mem_cons.mpr ⟨lw_p51, List.forall_mem_cons.mpr ⟨lw_p52, List.forall_mem_cons.mpr ⟨lw_p53, List.forall_mem_cons.mpr ⟨lw_p54, List.forall_mem_cons.mpr ⟨lw_p55, List.forall_mem_cons.mpr ⟨lw_p56, List.forall_mem_cons.mpr ⟨lw_p57, List.forall_mem_cons.mpr ⟨lw_p58, List.forall_mem_cons.mpr ⟨lw_p59, List.forall_mem_cons.mpr ⟨lw_p60, List.forall_mem_cons.mpr ⟨lw_p61, List.forall_mem_cons.mpr ⟨lw_p62, List.forall_mem_cons.mpr ⟨lw_p63, fun _ h => absurd h List.not_mem_nil⟩⟩⟩⟩⟩⟩⟩⟩⟩⟩⟩⟩⟩⟩⟩⟩
theorem lw_p64 : lw_okq (⟨"TrueLedgerModel", "isFromAfar", "(I)Z"⟩, 48) := ⟨⟨by decide +kernel, by decide +kernel⟩, List.mem_of_getElem? (i := 945) (by decide +kernel), List.mem_of_getElem? (i := 1293) (by decide +kernel), List.mem_of_getElem? (i := 1294) (by decide +kernel)⟩
theorem lw_p65 : lw_okq (⟨"TrueLedgerModel", "settles", "(II)Z"⟩, 48) := ⟨⟨by decide +kernel, by decide +kernel⟩, List.mem_of_getElem? (i := 945) (by decide +kernel), List.mem_of_getElem? (i := 1305) (by decide +kernel), List.mem_of_getElem? (i := 1306) (by decide +kernel)⟩
theorem lw_p66 : lw_okq (⟨"TrueLedgerModel", "comesIn", "(III)Z"⟩, 48) := ⟨⟨by decide +kernel, by decide +kernel⟩, List.mem_of_getElem? (i := 945) (by decide +kernel), List.mem_of_getElem? (i := 1313) (by decide +kernel), List.mem_of_getElem? (i := 1314) (by decide +kernel)⟩
theorem lw_p67 : lw_okq (⟨"TrueLedgerModel", "owedAll", "(I)I"⟩, 48) := ⟨⟨by decide +kernel, by decide +kernel⟩, List.mem_of_getElem? (i := 945) (by decide +kernel), List.mem_of_getElem? (i := 1329) (by decide +kernel), List.mem_of_getElem? (i := 1330) (by decide +kernel)⟩
theorem lw_p68 : lw_okq (⟨"TrueLedgerModel", "owedOn", "(II)I"⟩, 48) := ⟨⟨by decide +kernel, by decide +kernel⟩, List.mem_of_getElem? (i := 945) (by decide +kernel), List.mem_of_getElem? (i := 1333) (by decide +kernel), List.mem_of_getElem? (i := 1334) (by decide +kernel)⟩
theorem lw_p69 : lw_okq (⟨"TrueLedgerModel", "isOwed", "(I)Z"⟩, 48) := ⟨⟨by decide +kernel, by decide +kernel⟩, List.mem_of_getElem? (i := 945) (by decide +kernel), List.mem_of_getElem? (i := 1337) (by decide +kernel), List.mem_of_getElem? (i := 1338) (by decide +kernel)⟩
theorem lw_p70 : lw_okq (⟨"TrueLedgerModel", "standsOn", "(I)I"⟩, 48) := ⟨⟨by decide +kernel, by decide +kernel⟩, List.mem_of_getElem? (i := 945) (by decide +kernel), List.mem_of_getElem? (i := 1354) (by decide +kernel), List.mem_of_getElem? (i := 1355) (by decide +kernel)⟩
theorem lw_p71 : lw_okq (⟨"TrueLedgerModel", "daysOfSet", "(I)I"⟩, 48) := ⟨⟨by decide +kernel, by decide +kernel⟩, List.mem_of_getElem? (i := 945) (by decide +kernel), List.mem_of_getElem? (i := 1366) (by decide +kernel), List.mem_of_getElem? (i := 1367) (by decide +kernel)⟩
theorem lw_p72 : lw_okq (⟨"TrueLedgerModel", "costBy", "(III)I"⟩, 48) := ⟨⟨by decide +kernel, by decide +kernel⟩, List.mem_of_getElem? (i := 945) (by decide +kernel), List.mem_of_getElem? (i := 1370) (by decide +kernel), List.mem_of_getElem? (i := 1371) (by decide +kernel)⟩
theorem lw_p73 : lw_okq (⟨"TrueLedgerModel", "lacks", "(III)I"⟩, 48) := ⟨⟨by decide +kernel, by decide +kernel⟩, List.mem_of_getElem? (i := 945) (by decide +kernel), List.mem_of_getElem? (i := 1386) (by decide +kernel), List.mem_of_getElem? (i := 1387) (by decide +kernel)⟩
theorem lw_p74 : lw_okq (⟨"TrueLedgerModel", "lay", "(III)V"⟩, 48) := ⟨⟨by decide +kernel, by decide +kernel⟩, List.mem_of_getElem? (i := 945) (by decide +kernel), List.mem_of_getElem? (i := 1390) (by decide +kernel), List.mem_of_getElem? (i := 1391) (by decide +kernel)⟩
def lw_privs_5 : List (MethodName × Nat) := [(⟨"TrueLedgerModel", "isFromAfar", "(I)Z"⟩, 48), (⟨"TrueLedgerModel", "settles", "(II)Z"⟩, 48), (⟨"TrueLedgerModel", "comesIn", "(III)Z"⟩, 48), (⟨"TrueLedgerModel", "owedAll", "(I)I"⟩, 48), (⟨"TrueLedgerModel", "owedOn", "(II)I"⟩, 48), (⟨"TrueLedgerModel", "isOwed", "(I)Z"⟩, 48), (⟨"TrueLedgerModel", "standsOn", "(I)I"⟩, 48), (⟨"TrueLedgerModel", "daysOfSet", "(I)I"⟩, 48), (⟨"TrueLedgerModel", "costBy", "(III)I"⟩, 48), (⟨"TrueLedgerModel", "lacks", "(III)I"⟩, 48), (⟨"TrueLedgerModel", "lay", "(III)V"⟩, 48)]
theorem lw_r5 : ∀ q ∈ lw_privs_5, lw_okq q := List.forall_mem_cons.mpr ⟨lw_p64, List.forall_mem_cons.mpr ⟨lw_p65, List.forall_mem_cons.mpr ⟨lw_p66, List.forall_mem_cons.mpr ⟨lw_p67, List.forall_mem_cons.mpr ⟨lw_p68, List.forall_mem_cons.mpr ⟨lw_p69, List.forall_mem_cons.mpr ⟨lw_p70, List.forall_mem_cons.mpr ⟨lw_p71, List.forall_mem_cons.mpr ⟨lw_p72, List.forall_mem_cons.mpr ⟨lw_p73, List.forall_mem_cons.mpr ⟨lw_p74, fun _ h => absurd h List.not_mem_nil⟩⟩⟩⟩⟩⟩⟩⟩⟩⟩⟩
def lw_privs : List (MethodName × Nat) := lw_privs_1 ++ (lw_privs_2 ++ (lw_privs_3 ++ (lw_privs_4 ++ (lw_privs_5))))
def lw_tbl : List Cond := k2_sels lw_privs ++ tables_1
theorem lw_privs_ok : ∀ q ∈ lw_privs, lw_okq q := by
  show ∀ q ∈ lw_privs_1 ++ (lw_privs_2 ++ (lw_privs_3 ++ (lw_privs_4 ++ (lw_privs_5)))), lw_okq q
  exact List.forall_mem_append.mpr ⟨lw_r1, List.forall_mem_append.mpr ⟨lw_r2, List.forall_mem_append.mpr ⟨lw_r3, List.forall_mem_append.mpr ⟨lw_r4, lw_r5⟩⟩⟩⟩

def RX0 : String := "TrueLedger$Counter"
def TX0 : u_T := fun k => match k with
  | 0 => ("TrueLedger$Counter", "version", "I", true)
  | 1 => ("TrueLedger$Counter", "events", "[I", true)
  | 2 => ("TrueLedger$Counter", "length", "I", false)
  | 3 => ("TrueLedger$Counter", "lost", "I", false)
  | 4 => ("TrueLedger$Counter", "drawer", "I", false)
  | 5 => ("TrueLedger$Counter", "ledger", "I", false)
  | 6 => ("TrueLedger$Counter", "pageCost", "I", false)
  | 7 => ("TrueLedger$Counter", "days", "I", false)
  | 8 => ("TrueLedger$Counter", "weight", "I", false)
  | 9 => ("TrueLedger$Counter", "tally", "[I", true)
  | 10 => ("TrueLedger$Counter", "allCauses", "I", false)
  | 11 => ("TrueLedger$Counter", "pagesToRead", "I", false)
  | _ => ("TrueLedger$Counter", "judgedAt", "I", false)
def tyX0 : Nat → FieldType := fun k => match k with
  | 0 => .int
  | 1 => .array .int
  | 2 => .int
  | 3 => .int
  | 4 => .int
  | 5 => .int
  | 6 => .int
  | 7 => .int
  | 8 => .int
  | 9 => .array .int
  | 10 => .int
  | 11 => .int
  | _ => .int
abbrev wsX00 : List Cond := u_ws RX0 TX0 13
theorem nmX0 : ∀ a, a < 13 → ∀ b, b < 13 → a ≠ b → (TX0 a).2.1 ≠ (TX0 b).2.1 := by decide +kernel
theorem tyX0_ok : ∀ k, k < 13 → parseFieldDescriptor (TX0 k).2.2.1 = some (tyX0 k) := by decide +kernel
abbrev cX0_init : ByteArray := prog_2_method_1_code
def yX0_init : MethodName := ⟨RX0, "<init>", "(I)V"⟩
abbrev cX0_takeLog : ByteArray := prog_2_method_2_code
def yX0_takeLog : MethodName := ⟨RX0, "takeLog", "(LTrueLedger$Sheet;I)I"⟩
abbrev cX0_isShort : ByteArray := prog_2_method_3_code
def yX0_isShort : MethodName := ⟨RX0, "isShort", "()Z"⟩
abbrev cX0_told : ByteArray := prog_2_method_4_code
def yX0_told : MethodName := ⟨RX0, "told", "(I)I"⟩
abbrev cX0_change : ByteArray := prog_2_method_5_code
def yX0_change : MethodName := ⟨RX0, "change", "(II)I"⟩
abbrev cX0_hasLostFrom : ByteArray := prog_2_method_6_code
def yX0_hasLostFrom : MethodName := ⟨RX0, "hasLostFrom", "(I)Z"⟩
abbrev cX0_holdsEndOf : ByteArray := prog_2_method_7_code
def yX0_holdsEndOf : MethodName := ⟨RX0, "holdsEndOf", "(LTrueLedger$Counter;I)Z"⟩
abbrev cX0_holdsAt : ByteArray := prog_2_method_8_code
def yX0_holdsAt : MethodName := ⟨RX0, "holdsAt", "(ILTrueLedger$Counter;I)Z"⟩
def RX1 : String := "TrueLedger$Court"
def TX1 : u_T := fun k => match k with
  | 0 => ("TrueLedger$Court", "allOf", "[I", true)
  | 1 => ("TrueLedger$Court", "oneOf", "[I", true)
  | 2 => ("TrueLedger$Court", "size", "I", false)
  | _ => ("TrueLedger$Court", "grounds", "I", false)
def tyX1 : Nat → FieldType := fun k => match k with
  | 0 => .array .int
  | 1 => .array .int
  | 2 => .int
  | _ => .int
abbrev wsX10 : List Cond := u_ws RX1 TX1 4
theorem nmX1 : ∀ a, a < 4 → ∀ b, b < 4 → a ≠ b → (TX1 a).2.1 ≠ (TX1 b).2.1 := by decide +kernel
theorem tyX1_ok : ∀ k, k < 4 → parseFieldDescriptor (TX1 k).2.2.1 = some (tyX1 k) := by decide +kernel
abbrev cX1_init : ByteArray := prog_3_method_1_code
def yX1_init : MethodName := ⟨RX1, "<init>", "()V"⟩
abbrev cX1_add : ByteArray := prog_3_method_2_code
def yX1_add : MethodName := ⟨RX1, "add", "(II)I"⟩
abbrev cX1_ledBackTo : ByteArray := prog_3_method_3_code
def yX1_ledBackTo : MethodName := ⟨RX1, "ledBackTo", "(I)I"⟩
def RX2 : String := "TrueLedger$Filler"
def TX2 : u_T := fun k => match k with
  | 0 => ("TrueLedger$Filler", "row", "[I", true)
  | 1 => ("TrueLedger$Filler", "lostAt", "[I", true)
  | 2 => ("TrueLedger$Filler", "plain", "[I", true)
  | 3 => ("TrueLedger$Filler", "posted", "[[I", true)
  | 4 => ("TrueLedger$Filler", "postedCount", "[I", true)
  | 5 => ("TrueLedger$Filler", "likeEvent", "[I", true)
  | 6 => ("TrueLedger$Filler", "causesOfFill", "[B", true)
  | 7 => ("TrueLedger$Filler", "causesOfCell", "[B", true)
  | 8 => ("TrueLedger$Filler", "length", "I", false)
  | 9 => ("TrueLedger$Filler", "lost", "I", false)
  | 10 => ("TrueLedger$Filler", "plainUpTo", "I", false)
  | _ => ("TrueLedger$Filler", "postedUpTo", "I", false)
def tyX2 : Nat → FieldType := fun k => match k with
  | 0 => .array .int
  | 1 => .array .int
  | 2 => .array .int
  | 3 => .array (.array .int)
  | 4 => .array .int
  | 5 => .array .int
  | 6 => .array .byte
  | 7 => .array .byte
  | 8 => .int
  | 9 => .int
  | 10 => .int
  | _ => .int
abbrev wsX20 : List Cond := u_ws RX2 TX2 12
theorem nmX2 : ∀ a, a < 12 → ∀ b, b < 12 → a ≠ b → (TX2 a).2.1 ≠ (TX2 b).2.1 := by decide +kernel
theorem tyX2_ok : ∀ k, k < 12 → parseFieldDescriptor (TX2 k).2.2.1 = some (tyX2 k) := by decide +kernel
abbrev cX2_init : ByteArray := prog_4_method_1_code
def yX2_init : MethodName := ⟨RX2, "<init>", "()V"⟩
abbrev cX2_judge : ByteArray := prog_4_method_2_code
def yX2_judge : MethodName := ⟨RX2, "judge", "(LTrueLedger$Counter;LTrueLedger$Mix;)V"⟩
abbrev cX2_begin : ByteArray := prog_4_method_3_code
def yX2_begin : MethodName := ⟨RX2, "begin", "(LTrueLedger$Counter;)V"⟩
abbrev cX2_findLikeEvents : ByteArray := prog_4_method_4_code
def yX2_findLikeEvents : MethodName := ⟨RX2, "findLikeEvents", "(LTrueLedger$Version;)V"⟩
abbrev cX2_likeFill : ByteArray := prog_4_method_5_code
def yX2_likeFill : MethodName := ⟨RX2, "likeFill", "(I)I"⟩
abbrev cX2_shiftOf : ByteArray := prog_4_method_6_code
def yX2_shiftOf : MethodName := ⟨RX2, "shiftOf", "(I)I"⟩
abbrev cX2_give : ByteArray := prog_4_method_7_code
def yX2_give : MethodName := ⟨RX2, "give", "(I)V"⟩
abbrev cX2_causesOfRow : ByteArray := prog_4_method_8_code
def yX2_causesOfRow : MethodName := ⟨RX2, "causesOfRow", "(ILTrueLedger$Counter;LTrueLedger$Mix;)I"⟩
abbrev cX2_runPlain : ByteArray := prog_4_method_9_code
def yX2_runPlain : MethodName := ⟨RX2, "runPlain", "(LTrueLedger$Mix;)V"⟩
abbrev cX2_runPosted : ByteArray := prog_4_method_10_code
def yX2_runPosted : MethodName := ⟨RX2, "runPosted", "(LTrueLedger$Mix;)V"⟩
abbrev cX2_postFromAfar : ByteArray := prog_4_method_11_code
def yX2_postFromAfar : MethodName := ⟨RX2, "postFromAfar", "(I)V"⟩
abbrev cX2_addPosted : ByteArray := prog_4_method_12_code
def yX2_addPosted : MethodName := ⟨RX2, "addPosted", "(II)V"⟩
abbrev cX2_isPostedTo : ByteArray := prog_4_method_13_code
def yX2_isPostedTo : MethodName := ⟨RX2, "isPostedTo", "(I)Z"⟩
abbrev cX2_fewestPages : ByteArray := prog_4_method_14_code
def yX2_fewestPages : MethodName := ⟨RX2, "fewestPages", "(I)I"⟩
abbrev cX2_settles : ByteArray := prog_4_method_15_code
def yX2_settles : MethodName := ⟨RX2, "settles", "(II)Z"⟩
def RX3 : String := "TrueLedger$Mender"
def TX3 : u_T := fun k => match k with
  | _ => ("TrueLedger$Mender", "choices", "[I", true)
def tyX3 : Nat → FieldType := fun k => match k with
  | _ => .array .int
abbrev wsX30 : List Cond := u_ws RX3 TX3 1
theorem nmX3 : ∀ a, a < 1 → ∀ b, b < 1 → a ≠ b → (TX3 a).2.1 ≠ (TX3 b).2.1 := by decide +kernel
theorem tyX3_ok : ∀ k, k < 1 → parseFieldDescriptor (TX3 k).2.2.1 = some (tyX3 k) := by decide +kernel
abbrev cX3_init : ByteArray := prog_5_method_1_code
def yX3_init : MethodName := ⟨RX3, "<init>", "()V"⟩
abbrev cX3_fewestLines : ByteArray := prog_5_method_2_code
def yX3_fewestLines : MethodName := ⟨RX3, "fewestLines", "(LTrueLedger$Mix;LTrueLedger$Search;I)I"⟩
abbrev cX3_tellChoices : ByteArray := prog_5_method_3_code
def yX3_tellChoices : MethodName := ⟨RX3, "tellChoices", "(I)I"⟩
abbrev cX3_ruleOut : ByteArray := prog_5_method_4_code
def yX3_ruleOut : MethodName := ⟨RX3, "ruleOut", "(III)V"⟩
def RX4 : String := "TrueLedger$Mix"
def TX4 : u_T := fun k => match k with
  | 0 => ("TrueLedger$Mix", "registers", "[I", true)
  | 1 => ("TrueLedger$Mix", "first", "LTrueLedger$Version;", false)
  | 2 => ("TrueLedger$Mix", "second", "LTrueLedger$Version;", false)
  | _ => ("TrueLedger$Mix", "secondLines", "I", false)
def tyX4 : Nat → FieldType := fun k => match k with
  | 0 => .array .int
  | 1 => .object "TrueLedger$Version"
  | 2 => .object "TrueLedger$Version"
  | _ => .int
abbrev wsX40 : List Cond := u_ws RX4 TX4 4
theorem nmX4 : ∀ a, a < 4 → ∀ b, b < 4 → a ≠ b → (TX4 a).2.1 ≠ (TX4 b).2.1 := by decide +kernel
theorem tyX4_ok : ∀ k, k < 4 → parseFieldDescriptor (TX4 k).2.2.1 = some (tyX4 k) := by decide +kernel
abbrev cX4_init : ByteArray := prog_6_method_1_code
def yX4_init : MethodName := ⟨RX4, "<init>", "(LTrueLedger$Version;)V"⟩
abbrev cX4_set : ByteArray := prog_6_method_2_code
def yX4_set : MethodName := ⟨RX4, "set", "(LTrueLedger$Version;LTrueLedger$Version;I)V"⟩
abbrev cX4_lineOf : ByteArray := prog_6_method_3_code
def yX4_lineOf : MethodName := ⟨RX4, "lineOf", "(II)I"⟩
abbrev cX4_after : ByteArray := prog_6_method_4_code
def yX4_after : MethodName := ⟨RX4, "after", "(II)I"⟩
abbrev cX4_act : ByteArray := prog_6_method_5_code
def yX4_act : MethodName := ⟨RX4, "act", "(I)V"⟩
def RX5 : String := "TrueLedger$Paid"
def TX5 : u_T := fun k => match k with
  | 0 => ("TrueLedger$Paid", "payers", "[I", true)
  | 1 => ("TrueLedger$Paid", "paidOn", "[I", true)
  | 2 => ("TrueLedger$Paid", "paidCoins", "[I", true)
  | 3 => ("TrueLedger$Paid", "size", "I", false)
  | _ => ("TrueLedger$Paid", "interest", "I", false)
def tyX5 : Nat → FieldType := fun k => match k with
  | 0 => .array .int
  | 1 => .array .int
  | 2 => .array .int
  | 3 => .int
  | _ => .int
abbrev wsX50 : List Cond := u_ws RX5 TX5 5
theorem nmX5 : ∀ a, a < 5 → ∀ b, b < 5 → a ≠ b → (TX5 a).2.1 ≠ (TX5 b).2.1 := by decide +kernel
theorem tyX5_ok : ∀ k, k < 5 → parseFieldDescriptor (TX5 k).2.2.1 = some (tyX5 k) := by decide +kernel
abbrev cX5_init : ByteArray := prog_7_method_1_code
def yX5_init : MethodName := ⟨RX5, "<init>", "()V"⟩
abbrev cX5_add : ByteArray := prog_7_method_2_code
def yX5_add : MethodName := ⟨RX5, "add", "(III)I"⟩
abbrev cX5_hasAny : ByteArray := prog_7_method_3_code
def yX5_hasAny : MethodName := ⟨RX5, "hasAny", "(II)Z"⟩
abbrev cX5_withInterest : ByteArray := prog_7_method_4_code
def yX5_withInterest : MethodName := ⟨RX5, "withInterest", "(II)I"⟩
def RX6 : String := "TrueLedger$Search"
def TX6 : u_T := fun k => match k with
  | 0 => ("TrueLedger$Search", "keys", "[I", true)
  | 1 => ("TrueLedger$Search", "parents", "[I", true)
  | 2 => ("TrueLedger$Search", "lastEvents", "[I", true)
  | 3 => ("TrueLedger$Search", "slots", "[I", true)
  | 4 => ("TrueLedger$Search", "row", "[I", true)
  | _ => ("TrueLedger$Search", "kept", "I", false)
def tyX6 : Nat → FieldType := fun k => match k with
  | 0 => .array .int
  | 1 => .array .int
  | 2 => .array .int
  | 3 => .array .int
  | 4 => .array .int
  | _ => .int
abbrev wsX60 : List Cond := u_ws RX6 TX6 6
theorem nmX6 : ∀ a, a < 6 → ∀ b, b < 6 → a ≠ b → (TX6 a).2.1 ≠ (TX6 b).2.1 := by decide +kernel
theorem tyX6_ok : ∀ k, k < 6 → parseFieldDescriptor (TX6 k).2.2.1 = some (tyX6 k) := by decide +kernel
abbrev cX6_init : ByteArray := prog_8_method_1_code
def yX6_init : MethodName := ⟨RX6, "<init>", "()V"⟩
abbrev cX6_find : ByteArray := prog_8_method_2_code
def yX6_find : MethodName := ⟨RX6, "find", "(LTrueLedger$Mix;I)I"⟩
abbrev cX6_linesOfRow : ByteArray := prog_8_method_3_code
def yX6_linesOfRow : MethodName := ⟨RX6, "linesOfRow", "(LTrueLedger$Mix;I)I"⟩
abbrev cX6_goOnFrom : ByteArray := prog_8_method_4_code
def yX6_goOnFrom : MethodName := ⟨RX6, "goOnFrom", "(LTrueLedger$Mix;IZ)I"⟩
abbrev cX6_partsByBalance : ByteArray := prog_8_method_5_code
def yX6_partsByBalance : MethodName := ⟨RX6, "partsByBalance", "(LTrueLedger$Mix;II)Z"⟩
abbrev cX6_tellRow : ByteArray := prog_8_method_6_code
def yX6_tellRow : MethodName := ⟨RX6, "tellRow", "(III)V"⟩
abbrev cX6_keep : ByteArray := prog_8_method_7_code
def yX6_keep : MethodName := ⟨RX6, "keep", "(IIII)V"⟩
abbrev cX6_slotOf : ByteArray := prog_8_method_8_code
def yX6_slotOf : MethodName := ⟨RX6, "slotOf", "(I)I"⟩
abbrev cX6_keyOf : ByteArray := prog_8_method_9_code
def yX6_keyOf : MethodName := ⟨RX6, "keyOf", "(II)I"⟩
abbrev cX6_stateOf : ByteArray := prog_8_method_10_code
def yX6_stateOf : MethodName := ⟨RX6, "stateOf", "(I)I"⟩
abbrev cX6_drawerOf : ByteArray := prog_8_method_11_code
def yX6_drawerOf : MethodName := ⟨RX6, "drawerOf", "(I)I"⟩
def RX7 : String := "TrueLedger$Sheet"
def TX7 : u_T := fun k => match k with
  | 0 => ("TrueLedger$Sheet", "items", "[I", true)
  | 1 => ("TrueLedger$Sheet", "isLost", "Z", false)
  | 2 => ("TrueLedger$Sheet", "type", "I", false)
  | _ => ("TrueLedger$Sheet", "length", "I", false)
def tyX7 : Nat → FieldType := fun k => match k with
  | 0 => .array .int
  | 1 => .boolean
  | 2 => .int
  | _ => .int
abbrev wsX70 : List Cond := u_ws RX7 TX7 4
theorem nmX7 : ∀ a, a < 4 → ∀ b, b < 4 → a ≠ b → (TX7 a).2.1 ≠ (TX7 b).2.1 := by decide +kernel
theorem tyX7_ok : ∀ k, k < 4 → parseFieldDescriptor (TX7 k).2.2.1 = some (tyX7 k) := by decide +kernel
abbrev cX7_init : ByteArray := prog_9_method_1_code
def yX7_init : MethodName := ⟨RX7, "<init>", "()V"⟩
abbrev cX7_renew : ByteArray := prog_9_method_2_code
def yX7_renew : MethodName := ⟨RX7, "renew", "(II)V"⟩
abbrev cX7_findingAt : ByteArray := prog_9_method_3_code
def yX7_findingAt : MethodName := ⟨RX7, "findingAt", "(II)I"⟩
abbrev cX7_store : ByteArray := prog_9_method_4_code
def yX7_store : MethodName := ⟨RX7, "store", "(II)V"⟩
abbrev cX7_hasItems : ByteArray := prog_9_method_5_code
def yX7_hasItems : MethodName := ⟨RX7, "hasItems", "(II)Z"⟩
abbrev cX7_holdsEvent : ByteArray := prog_9_method_6_code
def yX7_holdsEvent : MethodName := ⟨RX7, "holdsEvent", "(I)Z"⟩
abbrev cX7_countEvents : ByteArray := prog_9_method_7_code
def yX7_countEvents : MethodName := ⟨RX7, "countEvents", "(I)I"⟩
def RX8 : String := "TrueLedger$Version"
def TX8 : u_T := fun k => match k with
  | 0 => ("TrueLedger$Version", "text", "[I", true)
  | 1 => ("TrueLedger$Version", "codes", "[I", true)
  | 2 => ("TrueLedger$Version", "firstCode", "[I", true)
  | 3 => ("TrueLedger$Version", "actCount", "[I", true)
  | 4 => ("TrueLedger$Version", "actsFrom", "[I", true)
  | 5 => ("TrueLedger$Version", "actsTo", "[I", true)
  | 6 => ("TrueLedger$Version", "length", "I", false)
  | 7 => ("TrueLedger$Version", "faultPlace", "I", false)
  | 8 => ("TrueLedger$Version", "revision", "I", false)
  | _ => ("TrueLedger$Version", "isRead", "Z", false)
def tyX8 : Nat → FieldType := fun k => match k with
  | 0 => .array .int
  | 1 => .array .int
  | 2 => .array .int
  | 3 => .array .int
  | 4 => .array .int
  | 5 => .array .int
  | 6 => .int
  | 7 => .int
  | 8 => .int
  | _ => .boolean
abbrev wsX80 : List Cond := u_ws RX8 TX8 10
theorem nmX8 : ∀ a, a < 10 → ∀ b, b < 10 → a ≠ b → (TX8 a).2.1 ≠ (TX8 b).2.1 := by decide +kernel
theorem tyX8_ok : ∀ k, k < 10 → parseFieldDescriptor (TX8 k).2.2.1 = some (tyX8 k) := by decide +kernel
abbrev cX8_init : ByteArray := prog_10_method_1_code
def yX8_init : MethodName := ⟨RX8, "<init>", "()V"⟩
abbrev cX8_append : ByteArray := prog_10_method_2_code
def yX8_append : MethodName := ⟨RX8, "append", "(I)I"⟩
abbrev cX8_empty : ByteArray := prog_10_method_3_code
def yX8_empty : MethodName := ⟨RX8, "empty", "()I"⟩
abbrev cX8_read : ByteArray := prog_10_method_4_code
def yX8_read : MethodName := ⟨RX8, "read", "()V"⟩
abbrev cX8_tellsAlike : ByteArray := prog_10_method_5_code
def yX8_tellsAlike : MethodName := ⟨RX8, "tellsAlike", "(ILTrueLedger$Version;I)Z"⟩
abbrev cX8_findFault : ByteArray := prog_10_method_6_code
def yX8_findFault : MethodName := ⟨RX8, "findFault", "()I"⟩
abbrev cX8_stepBehind : ByteArray := prog_10_method_7_code
def yX8_stepBehind : MethodName := ⟨RX8, "stepBehind", "(II)I"⟩
abbrev cX8_readLines : ByteArray := prog_10_method_8_code
def yX8_readLines : MethodName := ⟨RX8, "readLines", "()V"⟩
abbrev cX8_valueOf : ByteArray := prog_10_method_9_code
def yX8_valueOf : MethodName := ⟨RX8, "valueOf", "(I)I"⟩
def RX9 : String := "TrueLedger"
def TX9 : u_T := fun k => match k with
  | 0 => ("TrueLedger", "versions", "[LTrueLedger$Version;", true)
  | 1 => ("TrueLedger", "counters", "[LTrueLedger$Counter;", true)
  | 2 => ("TrueLedger", "sheets", "[LTrueLedger$Sheet;", true)
  | 3 => ("TrueLedger", "queue", "[I", true)
  | 4 => ("TrueLedger", "mix", "LTrueLedger$Mix;", true)
  | 5 => ("TrueLedger", "search", "LTrueLedger$Search;", true)
  | 6 => ("TrueLedger", "mender", "LTrueLedger$Mender;", true)
  | 7 => ("TrueLedger", "filler", "LTrueLedger$Filler;", true)
  | 8 => ("TrueLedger", "paid", "LTrueLedger$Paid;", true)
  | 9 => ("TrueLedger", "court", "LTrueLedger$Court;", true)
  | 10 => ("TrueLedger", "counterCount", "I", false)
  | 11 => ("TrueLedger", "latestFinding", "I", false)
  | 12 => ("TrueLedger", "soughtMix", "I", false)
  | _ => ("TrueLedger", "partingLength", "I", false)
def tyX9 : Nat → FieldType := fun k => match k with
  | 0 => .array (.object "TrueLedger$Version")
  | 1 => .array (.object "TrueLedger$Counter")
  | 2 => .array (.object "TrueLedger$Sheet")
  | 3 => .array .int
  | 4 => .object "TrueLedger$Mix"
  | 5 => .object "TrueLedger$Search"
  | 6 => .object "TrueLedger$Mender"
  | 7 => .object "TrueLedger$Filler"
  | 8 => .object "TrueLedger$Paid"
  | 9 => .object "TrueLedger$Court"
  | 10 => .int
  | 11 => .int
  | 12 => .int
  | _ => .int
abbrev wsX90 : List Cond := u_ws RX9 TX9 14
theorem nmX9 : ∀ a, a < 14 → ∀ b, b < 14 → a ≠ b → (TX9 a).2.1 ≠ (TX9 b).2.1 := by decide +kernel
theorem tyX9_ok : ∀ k, k < 14 → parseFieldDescriptor (TX9 k).2.2.1 = some (tyX9 k) := by decide +kernel
abbrev cX9_init : ByteArray := prog_1_method_1_code
def yX9_init : MethodName := ⟨RX9, "<init>", "()V"⟩
abbrev cX9_type : ByteArray := prog_1_method_2_code
def yX9_type : MethodName := ⟨RX9, "type", "(II)I"⟩
abbrev cX9_wipe : ByteArray := prog_1_method_3_code
def yX9_wipe : MethodName := ⟨RX9, "wipe", "(I)I"⟩
abbrev cX9_fault : ByteArray := prog_1_method_4_code
def yX9_fault : MethodName := ⟨RX9, "fault", "(I)I"⟩
abbrev cX9_acts : ByteArray := prog_1_method_5_code
def yX9_acts : MethodName := ⟨RX9, "acts", "(II)I"⟩
abbrev cX9_differ : ByteArray := prog_1_method_6_code
def yX9_differ : MethodName := ⟨RX9, "differ", "(II)I"⟩
abbrev cX9_run : ByteArray := prog_1_method_7_code
def yX9_run : MethodName := ⟨RX9, "run", "(IIIIII)I"⟩
abbrev cX9_parting : ByteArray := prog_1_method_8_code
def yX9_parting : MethodName := ⟨RX9, "parting", "(III)I"⟩
abbrev cX9_event : ByteArray := prog_1_method_9_code
def yX9_event : MethodName := ⟨RX9, "event", "(IIII)I"⟩
abbrev cX9_mended : ByteArray := prog_1_method_10_code
def yX9_mended : MethodName := ⟨RX9, "mended", "(II)I"⟩
abbrev cX9_versionAt : ByteArray := prog_1_method_11_code
def yX9_versionAt : MethodName := ⟨RX9, "versionAt", "(I)LTrueLedger$Version;"⟩
abbrev cX9_setMix : ByteArray := prog_1_method_12_code
def yX9_setMix : MethodName := ⟨RX9, "setMix", "(III)Z"⟩
abbrev cX9_seekParting : ByteArray := prog_1_method_13_code
def yX9_seekParting : MethodName := ⟨RX9, "seekParting", "(III)I"⟩
abbrev cX9_linesUnlike : ByteArray := prog_1_method_14_code
def yX9_linesUnlike : MethodName := ⟨RX9, "linesUnlike", "(LTrueLedger$Version;LTrueLedger$Version;)I"⟩
abbrev cX9_endOfRun : ByteArray := prog_1_method_15_code
def yX9_endOfRun : MethodName := ⟨RX9, "endOfRun", "([III)I"⟩
abbrev cX9_ledgerOf : ByteArray := prog_1_method_16_code
def yX9_ledgerOf : MethodName := ⟨RX9, "ledgerOf", "(I)I"⟩
abbrev cX9_modeOf : ByteArray := prog_1_method_17_code
def yX9_modeOf : MethodName := ⟨RX9, "modeOf", "(I)I"⟩
abbrev cX9_coinsOf : ByteArray := prog_1_method_18_code
def yX9_coinsOf : MethodName := ⟨RX9, "coinsOf", "(I)I"⟩
abbrev cX9_counter : ByteArray := prog_1_method_19_code
def yX9_counter : MethodName := ⟨RX9, "counter", "(I)I"⟩
abbrev cX9_log : ByteArray := prog_1_method_20_code
def yX9_log : MethodName := ⟨RX9, "log", "(III)I"⟩
abbrev cX9_claim : ByteArray := prog_1_method_21_code
def yX9_claim : MethodName := ⟨RX9, "claim", "(III)I"⟩
abbrev cX9_about : ByteArray := prog_1_method_22_code
def yX9_about : MethodName := ⟨RX9, "about", "(II)I"⟩
abbrev cX9_tell : ByteArray := prog_1_method_23_code
def yX9_tell : MethodName := ⟨RX9, "tell", "(III)I"⟩
abbrev cX9_logged : ByteArray := prog_1_method_24_code
def yX9_logged : MethodName := ⟨RX9, "logged", "(II)I"⟩
abbrev cX9_fills : ByteArray := prog_1_method_25_code
def yX9_fills : MethodName := ⟨RX9, "fills", "(II)I"⟩
abbrev cX9_causes : ByteArray := prog_1_method_26_code
def yX9_causes : MethodName := ⟨RX9, "causes", "(I)I"⟩
abbrev cX9_settling : ByteArray := prog_1_method_27_code
def yX9_settling : MethodName := ⟨RX9, "settling", "(II)I"⟩
abbrev cX9_like : ByteArray := prog_1_method_28_code
def yX9_like : MethodName := ⟨RX9, "like", "(II)I"⟩
abbrev cX9_counterAt : ByteArray := prog_1_method_29_code
def yX9_counterAt : MethodName := ⟨RX9, "counterAt", "(I)LTrueLedger$Counter;"⟩
abbrev cX9_judge : ByteArray := prog_1_method_30_code
def yX9_judge : MethodName := ⟨RX9, "judge", "(LTrueLedger$Counter;)V"⟩
abbrev cX9_pay : ByteArray := prog_1_method_31_code
def yX9_pay : MethodName := ⟨RX9, "pay", "(III)I"⟩
abbrev cX9_interest : ByteArray := prog_1_method_32_code
def yX9_interest : MethodName := ⟨RX9, "interest", "(I)I"⟩
abbrev cX9_owed : ByteArray := prog_1_method_33_code
def yX9_owed : MethodName := ⟨RX9, "owed", "(II)I"⟩
abbrev cX9_isDay : ByteArray := prog_1_method_34_code
def yX9_isDay : MethodName := ⟨RX9, "isDay", "(I)Z"⟩
abbrev cX9_owedOn : ByteArray := prog_1_method_35_code
def yX9_owedOn : MethodName := ⟨RX9, "owedOn", "(II)I"⟩
abbrev cX9_judgment : ByteArray := prog_1_method_36_code
def yX9_judgment : MethodName := ⟨RX9, "judgment", "(II)I"⟩
abbrev cX9_ground : ByteArray := prog_1_method_37_code
def yX9_ground : MethodName := ⟨RX9, "ground", "(IZ)I"⟩
abbrev cX9_standing : ByteArray := prog_1_method_38_code
def yX9_standing : MethodName := ⟨RX9, "standing", "()I"⟩
abbrev cX9_falling : ByteArray := prog_1_method_39_code
def yX9_falling : MethodName := ⟨RX9, "falling", "(I)I"⟩
abbrev cX9_order : ByteArray := prog_1_method_40_code
def yX9_order : MethodName := ⟨RX9, "order", "(II)I"⟩
abbrev cX9_enqueue : ByteArray := prog_1_method_41_code
def yX9_enqueue : MethodName := ⟨RX9, "enqueue", "(II)V"⟩
abbrev cX9_isBefore : ByteArray := prog_1_method_42_code
def yX9_isBefore : MethodName := ⟨RX9, "isBefore", "(II)Z"⟩
abbrev cX9_costOfQueue : ByteArray := prog_1_method_43_code
def yX9_costOfQueue : MethodName := ⟨RX9, "costOfQueue", "(I)I"⟩
abbrev cX9_sheet : ByteArray := prog_1_method_44_code
def yX9_sheet : MethodName := ⟨RX9, "sheet", "(III)I"⟩
abbrev cX9_lose : ByteArray := prog_1_method_45_code
def yX9_lose : MethodName := ⟨RX9, "lose", "(I)I"⟩
abbrev cX9_put : ByteArray := prog_1_method_46_code
def yX9_put : MethodName := ⟨RX9, "put", "(IIII)I"⟩
abbrev cX9_get : ByteArray := prog_1_method_47_code
def yX9_get : MethodName := ⟨RX9, "get", "(III)I"⟩
abbrev cX9_copy : ByteArray := prog_1_method_48_code
def yX9_copy : MethodName := ⟨RX9, "copy", "(IIIII)I"⟩
abbrev cX9_write : ByteArray := prog_1_method_49_code
def yX9_write : MethodName := ⟨RX9, "write", "(II)I"⟩
abbrev cX9_count : ByteArray := prog_1_method_50_code
def yX9_count : MethodName := ⟨RX9, "count", "(I)I"⟩
abbrev cX9_digest : ByteArray := prog_1_method_51_code
def yX9_digest : MethodName := ⟨RX9, "digest", "()J"⟩
abbrev cX9_sheetAt : ByteArray := prog_1_method_52_code
def yX9_sheetAt : MethodName := ⟨RX9, "sheetAt", "(I)LTrueLedger$Sheet;"⟩
abbrev cX9_isType : ByteArray := prog_1_method_53_code
def yX9_isType : MethodName := ⟨RX9, "isType", "(I)Z"⟩
abbrev cX9_finding : ByteArray := prog_1_method_54_code
def yX9_finding : MethodName := ⟨RX9, "finding", "(I)I"⟩
abbrev cX9_countBytes : ByteArray := prog_1_method_55_code
def yX9_countBytes : MethodName := ⟨RX9, "countBytes", "()I"⟩
abbrev cX9_countLogged : ByteArray := prog_1_method_56_code
def yX9_countLogged : MethodName := ⟨RX9, "countLogged", "()I"⟩
abbrev cX9_countShort : ByteArray := prog_1_method_57_code
def yX9_countShort : MethodName := ⟨RX9, "countShort", "()I"⟩
def RX10 : String := "TrueLedgerModel"
def TX10 : u_T := fun k => match k with
  | 0 => ("TrueLedgerModel", "typed", "[I", true)
  | 1 => ("TrueLedgerModel", "texts", "[I", true)
  | 2 => ("TrueLedgerModel", "isRead", "[Z", true)
  | 3 => ("TrueLedgerModel", "faults", "[I", true)
  | 4 => ("TrueLedgerModel", "lineFrom", "[I", true)
  | 5 => ("TrueLedgerModel", "lineMany", "[I", true)
  | 6 => ("TrueLedgerModel", "actOn", "[I", true)
  | 7 => ("TrueLedgerModel", "actSign", "[I", true)
  | 8 => ("TrueLedgerModel", "actBy", "[I", true)
  | 9 => ("TrueLedgerModel", "versionNow", "I", false)
  | 10 => ("TrueLedgerModel", "at", "I", false)
  | 11 => ("TrueLedgerModel", "fault", "I", false)
  | 12 => ("TrueLedgerModel", "actMany", "I", false)
  | 13 => ("TrueLedgerModel", "registers", "[I", true)
  | 14 => ("TrueLedgerModel", "modeNow", "I", false)
  | 15 => ("TrueLedgerModel", "drawer", "I", false)
  | 16 => ("TrueLedgerModel", "firstVersion", "I", false)
  | 17 => ("TrueLedgerModel", "secondVersion", "I", false)
  | 18 => ("TrueLedgerModel", "mixedLines", "I", false)
  | 19 => ("TrueLedgerModel", "row", "[I", true)
  | 20 => ("TrueLedgerModel", "counters", "I", false)
  | 21 => ("TrueLedgerModel", "versionOf", "[I", true)
  | 22 => ("TrueLedgerModel", "logMany", "[I", true)
  | 23 => ("TrueLedgerModel", "logs", "[I", true)
  | 24 => ("TrueLedgerModel", "claimDrawer", "[I", true)
  | 25 => ("TrueLedgerModel", "claimLedger", "[I", true)
  | 26 => ("TrueLedgerModel", "pageOf", "[I", true)
  | 27 => ("TrueLedgerModel", "daysOf", "[I", true)
  | 28 => ("TrueLedgerModel", "weightOf", "[I", true)
  | 29 => ("TrueLedgerModel", "filled", "[I", true)
  | 30 => ("TrueLedgerModel", "causesOf", "[I", true)
  | 31 => ("TrueLedgerModel", "seen", "[I", true)
  | 32 => ("TrueLedgerModel", "paid", "I", false)
  | 33 => ("TrueLedgerModel", "paidBy", "[I", true)
  | 34 => ("TrueLedgerModel", "paidOn", "[I", true)
  | 35 => ("TrueLedgerModel", "paidCoins", "[I", true)
  | 36 => ("TrueLedgerModel", "interestNow", "I", false)
  | 37 => ("TrueLedgerModel", "judgments", "I", false)
  | 38 => ("TrueLedgerModel", "onAll", "[I", true)
  | 39 => ("TrueLedgerModel", "onOne", "[I", true)
  | 40 => ("TrueLedgerModel", "grounds", "I", false)
  | 41 => ("TrueLedgerModel", "costOf", "[I", true)
  | 42 => ("TrueLedgerModel", "isThere", "[Z", true)
  | 43 => ("TrueLedgerModel", "types", "[I", true)
  | 44 => ("TrueLedgerModel", "sizes", "[I", true)
  | 45 => ("TrueLedgerModel", "items", "[I", true)
  | 46 => ("TrueLedgerModel", "moved", "[I", true)
  | _ => ("TrueLedgerModel", "finding", "I", false)
def tyX10 : Nat → FieldType := fun k => match k with
  | 0 => .array .int
  | 1 => .array .int
  | 2 => .array .boolean
  | 3 => .array .int
  | 4 => .array .int
  | 5 => .array .int
  | 6 => .array .int
  | 7 => .array .int
  | 8 => .array .int
  | 9 => .int
  | 10 => .int
  | 11 => .int
  | 12 => .int
  | 13 => .array .int
  | 14 => .int
  | 15 => .int
  | 16 => .int
  | 17 => .int
  | 18 => .int
  | 19 => .array .int
  | 20 => .int
  | 21 => .array .int
  | 22 => .array .int
  | 23 => .array .int
  | 24 => .array .int
  | 25 => .array .int
  | 26 => .array .int
  | 27 => .array .int
  | 28 => .array .int
  | 29 => .array .int
  | 30 => .array .int
  | 31 => .array .int
  | 32 => .int
  | 33 => .array .int
  | 34 => .array .int
  | 35 => .array .int
  | 36 => .int
  | 37 => .int
  | 38 => .array .int
  | 39 => .array .int
  | 40 => .int
  | 41 => .array .int
  | 42 => .array .boolean
  | 43 => .array .int
  | 44 => .array .int
  | 45 => .array .int
  | 46 => .array .int
  | _ => .int
abbrev wsX100 : List Cond := u_ws RX10 TX10 48
theorem nmX10 : ∀ a, a < 48 → ∀ b, b < 48 → a ≠ b → (TX10 a).2.1 ≠ (TX10 b).2.1 := by decide +kernel
theorem tyX10_ok : ∀ k, k < 48 → parseFieldDescriptor (TX10 k).2.2.1 = some (tyX10 k) := by decide +kernel
abbrev cX10_init : ByteArray := prog_12_method_1_code
def yX10_init : MethodName := ⟨RX10, "<init>", "()V"⟩
abbrev cX10_in : ByteArray := prog_12_method_3_code
def yX10_in : MethodName := ⟨RX10, "in", "(III)Z"⟩
abbrev cX10_amount : ByteArray := prog_12_method_4_code
def yX10_amount : MethodName := ⟨RX10, "amount", "(I)I"⟩
abbrev cX10_ones : ByteArray := prog_12_method_5_code
def yX10_ones : MethodName := ⟨RX10, "ones", "(I)I"⟩
abbrev cX10_isVersion : ByteArray := prog_12_method_6_code
def yX10_isVersion : MethodName := ⟨RX10, "isVersion", "(I)Z"⟩
abbrev cX10_type : ByteArray := prog_12_method_7_code
def yX10_type : MethodName := ⟨RX10, "type", "(II)I"⟩
abbrev cX10_wipe : ByteArray := prog_12_method_8_code
def yX10_wipe : MethodName := ⟨RX10, "wipe", "(I)I"⟩
abbrev cX10_byteNow : ByteArray := prog_12_method_9_code
def yX10_byteNow : MethodName := ⟨RX10, "byteNow", "()I"⟩
abbrev cX10_eventOf : ByteArray := prog_12_method_10_code
def yX10_eventOf : MethodName := ⟨RX10, "eventOf", "(I)I"⟩
abbrev cX10_registerOf : ByteArray := prog_12_method_11_code
def yX10_registerOf : MethodName := ⟨RX10, "registerOf", "(I)I"⟩
abbrev cX10_mode : ByteArray := prog_12_method_12_code
def yX10_mode : MethodName := ⟨RX10, "mode", "()I"⟩
abbrev cX10_act : ByteArray := prog_12_method_13_code
def yX10_act : MethodName := ⟨RX10, "act", "()V"⟩
abbrev cX10_part : ByteArray := prog_12_method_14_code
def yX10_part : MethodName := ⟨RX10, "part", "()V"⟩
abbrev cX10_noLines : ByteArray := prog_12_method_15_code
def yX10_noLines : MethodName := ⟨RX10, "noLines", "(I)V"⟩
abbrev cX10_reads : ByteArray := prog_12_method_16_code
def yX10_reads : MethodName := ⟨RX10, "reads", "(I)V"⟩
abbrev cX10_faultOf : ByteArray := prog_12_method_17_code
def yX10_faultOf : MethodName := ⟨RX10, "faultOf", "(I)I"⟩
abbrev cX10_fault : ByteArray := prog_12_method_18_code
def yX10_fault : MethodName := ⟨RX10, "fault", "(I)I"⟩
abbrev cX10_actsOf : ByteArray := prog_12_method_19_code
def yX10_actsOf : MethodName := ⟨RX10, "actsOf", "(II)I"⟩
abbrev cX10_acts : ByteArray := prog_12_method_20_code
def yX10_acts : MethodName := ⟨RX10, "acts", "(II)I"⟩
abbrev cX10_areLike : ByteArray := prog_12_method_21_code
def yX10_areLike : MethodName := ⟨RX10, "areLike", "(III)Z"⟩
abbrev cX10_differOf : ByteArray := prog_12_method_22_code
def yX10_differOf : MethodName := ⟨RX10, "differOf", "(II)I"⟩
abbrev cX10_differ : ByteArray := prog_12_method_23_code
def yX10_differ : MethodName := ⟨RX10, "differ", "(II)I"⟩
abbrev cX10_mixes : ByteArray := prog_12_method_24_code
def yX10_mixes : MethodName := ⟨RX10, "mixes", "(III)V"⟩
abbrev cX10_begins : ByteArray := prog_12_method_25_code
def yX10_begins : MethodName := ⟨RX10, "begins", "()V"⟩
abbrev cX10_sets : ByteArray := prog_12_method_26_code
def yX10_sets : MethodName := ⟨RX10, "sets", "(II)V"⟩
abbrev cX10_goes : ByteArray := prog_12_method_27_code
def yX10_goes : MethodName := ⟨RX10, "goes", "(I)V"⟩
abbrev cX10_isMix : ByteArray := prog_12_method_28_code
def yX10_isMix : MethodName := ⟨RX10, "isMix", "(III)Z"⟩
abbrev cX10_isEvent : ByteArray := prog_12_method_29_code
def yX10_isEvent : MethodName := ⟨RX10, "isEvent", "(I)Z"⟩
abbrev cX10_run : ByteArray := prog_12_method_30_code
def yX10_run : MethodName := ⟨RX10, "run", "(IIIIII)I"⟩
abbrev cX10_doesPart : ByteArray := prog_12_method_31_code
def yX10_doesPart : MethodName := ⟨RX10, "doesPart", "(II)Z"⟩
abbrev cX10_partsBy : ByteArray := prog_12_method_32_code
def yX10_partsBy : MethodName := ⟨RX10, "partsBy", "(I)I"⟩
abbrev cX10_parting : ByteArray := prog_12_method_33_code
def yX10_parting : MethodName := ⟨RX10, "parting", "(III)I"⟩
abbrev cX10_event : ByteArray := prog_12_method_34_code
def yX10_event : MethodName := ⟨RX10, "event", "(IIII)I"⟩
abbrev cX10_mended : ByteArray := prog_12_method_35_code
def yX10_mended : MethodName := ⟨RX10, "mended", "(II)I"⟩
abbrev cX10_isCounter : ByteArray := prog_12_method_36_code
def yX10_isCounter : MethodName := ⟨RX10, "isCounter", "(I)Z"⟩
abbrev cX10_counter : ByteArray := prog_12_method_37_code
def yX10_counter : MethodName := ⟨RX10, "counter", "(I)I"⟩
abbrev cX10_log : ByteArray := prog_12_method_38_code
def yX10_log : MethodName := ⟨RX10, "log", "(III)I"⟩
abbrev cX10_claim : ByteArray := prog_12_method_39_code
def yX10_claim : MethodName := ⟨RX10, "claim", "(III)I"⟩
abbrev cX10_lostMany : ByteArray := prog_12_method_40_code
def yX10_lostMany : MethodName := ⟨RX10, "lostMany", "(I)I"⟩
abbrev cX10_isShort : ByteArray := prog_12_method_41_code
def yX10_isShort : MethodName := ⟨RX10, "isShort", "(I)Z"⟩
abbrev cX10_aboutOf : ByteArray := prog_12_method_42_code
def yX10_aboutOf : MethodName := ⟨RX10, "aboutOf", "(II)I"⟩
abbrev cX10_about : ByteArray := prog_12_method_43_code
def yX10_about : MethodName := ⟨RX10, "about", "(II)I"⟩
abbrev cX10_tell : ByteArray := prog_12_method_44_code
def yX10_tell : MethodName := ⟨RX10, "tell", "(III)I"⟩
abbrev cX10_logged : ByteArray := prog_12_method_45_code
def yX10_logged : MethodName := ⟨RX10, "logged", "(II)I"⟩
abbrev cX10_filledBy : ByteArray := prog_12_method_46_code
def yX10_filledBy : MethodName := ⟨RX10, "filledBy", "(II)V"⟩
abbrev cX10_goesAll : ByteArray := prog_12_method_47_code
def yX10_goesAll : MethodName := ⟨RX10, "goesAll", "(III)V"⟩
abbrev cX10_isFromAfar : ByteArray := prog_12_method_48_code
def yX10_isFromAfar : MethodName := ⟨RX10, "isFromAfar", "(I)Z"⟩
abbrev cX10_isClear : ByteArray := prog_12_method_49_code
def yX10_isClear : MethodName := ⟨RX10, "isClear", "(II)Z"⟩
abbrev cX10_causesBy : ByteArray := prog_12_method_50_code
def yX10_causesBy : MethodName := ⟨RX10, "causesBy", "(II)I"⟩
abbrev cX10_fillMany : ByteArray := prog_12_method_51_code
def yX10_fillMany : MethodName := ⟨RX10, "fillMany", "(I)I"⟩
abbrev cX10_fills : ByteArray := prog_12_method_52_code
def yX10_fills : MethodName := ⟨RX10, "fills", "(II)I"⟩
abbrev cX10_causes : ByteArray := prog_12_method_53_code
def yX10_causes : MethodName := ⟨RX10, "causes", "(I)I"⟩
abbrev cX10_settles : ByteArray := prog_12_method_54_code
def yX10_settles : MethodName := ⟨RX10, "settles", "(II)Z"⟩
abbrev cX10_settling : ByteArray := prog_12_method_55_code
def yX10_settling : MethodName := ⟨RX10, "settling", "(II)I"⟩
abbrev cX10_comesIn : ByteArray := prog_12_method_56_code
def yX10_comesIn : MethodName := ⟨RX10, "comesIn", "(III)Z"⟩
abbrev cX10_like : ByteArray := prog_12_method_57_code
def yX10_like : MethodName := ⟨RX10, "like", "(II)I"⟩
abbrev cX10_pay : ByteArray := prog_12_method_58_code
def yX10_pay : MethodName := ⟨RX10, "pay", "(III)I"⟩
abbrev cX10_interest : ByteArray := prog_12_method_59_code
def yX10_interest : MethodName := ⟨RX10, "interest", "(I)I"⟩
abbrev cX10_isOwed : ByteArray := prog_12_method_60_code
def yX10_isOwed : MethodName := ⟨RX10, "isOwed", "(I)Z"⟩
abbrev cX10_owedOn : ByteArray := prog_12_method_61_code
def yX10_owedOn : MethodName := ⟨RX10, "owedOn", "(II)I"⟩
abbrev cX10_owedAll : ByteArray := prog_12_method_62_code
def yX10_owedAll : MethodName := ⟨RX10, "owedAll", "(I)I"⟩
abbrev cX10_owed : ByteArray := prog_12_method_63_code
def yX10_owed : MethodName := ⟨RX10, "owed", "(II)I"⟩
abbrev cX10_judgment : ByteArray := prog_12_method_64_code
def yX10_judgment : MethodName := ⟨RX10, "judgment", "(II)I"⟩
abbrev cX10_ground : ByteArray := prog_12_method_65_code
def yX10_ground : MethodName := ⟨RX10, "ground", "(IZ)I"⟩
abbrev cX10_standsOn : ByteArray := prog_12_method_66_code
def yX10_standsOn : MethodName := ⟨RX10, "standsOn", "(I)I"⟩
abbrev cX10_standing : ByteArray := prog_12_method_67_code
def yX10_standing : MethodName := ⟨RX10, "standing", "()I"⟩
abbrev cX10_falling : ByteArray := prog_12_method_68_code
def yX10_falling : MethodName := ⟨RX10, "falling", "(I)I"⟩
abbrev cX10_daysOfSet : ByteArray := prog_12_method_69_code
def yX10_daysOfSet : MethodName := ⟨RX10, "daysOfSet", "(I)I"⟩
abbrev cX10_order : ByteArray := prog_12_method_70_code
def yX10_order : MethodName := ⟨RX10, "order", "(II)I"⟩
abbrev cX10_costBy : ByteArray := prog_12_method_71_code
def yX10_costBy : MethodName := ⟨RX10, "costBy", "(III)I"⟩
abbrev cX10_meets : ByteArray := prog_12_method_72_code
def yX10_meets : MethodName := ⟨RX10, "meets", "(I)I"⟩
abbrev cX10_isSheet : ByteArray := prog_12_method_73_code
def yX10_isSheet : MethodName := ⟨RX10, "isSheet", "(I)Z"⟩
abbrev cX10_sheet : ByteArray := prog_12_method_74_code
def yX10_sheet : MethodName := ⟨RX10, "sheet", "(III)I"⟩
abbrev cX10_lose : ByteArray := prog_12_method_75_code
def yX10_lose : MethodName := ⟨RX10, "lose", "(I)I"⟩
abbrev cX10_lacks : ByteArray := prog_12_method_76_code
def yX10_lacks : MethodName := ⟨RX10, "lacks", "(III)I"⟩
abbrev cX10_lay : ByteArray := prog_12_method_77_code
def yX10_lay : MethodName := ⟨RX10, "lay", "(III)V"⟩
abbrev cX10_put : ByteArray := prog_12_method_78_code
def yX10_put : MethodName := ⟨RX10, "put", "(IIII)I"⟩
abbrev cX10_get : ByteArray := prog_12_method_79_code
def yX10_get : MethodName := ⟨RX10, "get", "(III)I"⟩
abbrev cX10_copy : ByteArray := prog_12_method_80_code
def yX10_copy : MethodName := ⟨RX10, "copy", "(IIIII)I"⟩
abbrev cX10_write : ByteArray := prog_12_method_81_code
def yX10_write : MethodName := ⟨RX10, "write", "(II)I"⟩
abbrev cX10_count : ByteArray := prog_12_method_82_code
def yX10_count : MethodName := ⟨RX10, "count", "(I)I"⟩
abbrev cX10_digest : ByteArray := prog_12_method_83_code
def yX10_digest : MethodName := ⟨RX10, "digest", "()J"⟩
def RJ11 : String := "java/lang/Character"
def TJ11 : u_T := fun k => match k with
  | _ => ("", "", "", false)
def tyJ11 : Nat → FieldType := fun k => match k with
  | _ => .int
abbrev wsJ110 : List Cond := u_ws RJ11 TJ11 0
theorem nmJ11 : ∀ a, a < 0 → ∀ b, b < 0 → a ≠ b → (TJ11 a).2.1 ≠ (TJ11 b).2.1 := by decide +kernel
theorem tyJ11_ok : ∀ k, k < 0 → parseFieldDescriptor (TJ11 k).2.2.1 = some (tyJ11 k) := by decide +kernel
abbrev cJ11_isValidCodePoint_9a6ad : ByteArray := prog_13_method_11_code
def yJ11_isValidCodePoint_9a6ad : MethodName := ⟨RJ11, "isValidCodePoint", "(I)Z"⟩
abbrev cJ11_highSurrogate_5068e : ByteArray := prog_13_method_28_code
def yJ11_highSurrogate_5068e : MethodName := ⟨RJ11, "highSurrogate", "(I)C"⟩
abbrev cJ11_lowSurrogate_5068e : ByteArray := prog_13_method_29_code
def yJ11_lowSurrogate_5068e : MethodName := ⟨RJ11, "lowSurrogate", "(I)C"⟩
def RJ6 : String := "java/lang/Integer"
def TJ6 : u_T := fun k => match k with
  | _ => ("", "", "", false)
def tyJ6 : Nat → FieldType := fun k => match k with
  | _ => .int
abbrev wsJ60 : List Cond := u_ws RJ6 TJ6 0
theorem nmJ6 : ∀ a, a < 0 → ∀ b, b < 0 → a ≠ b → (TJ6 a).2.1 ≠ (TJ6 b).2.1 := by decide +kernel
theorem tyJ6_ok : ∀ k, k < 0 → parseFieldDescriptor (TJ6 k).2.2.1 = some (tyJ6 k) := by decide +kernel
abbrev cJ6_bitCount_0f7a4 : ByteArray := prog_14_method_49_code
def yJ6_bitCount_0f7a4 : MethodName := ⟨RJ6, "bitCount", "(I)I"⟩
def RJ9 : String := "java/lang/Math"
def TJ9 : u_T := fun k => match k with
  | _ => ("", "", "", false)
def tyJ9 : Nat → FieldType := fun k => match k with
  | _ => .int
abbrev wsJ90 : List Cond := u_ws RJ9 TJ9 0
theorem nmJ9 : ∀ a, a < 0 → ∀ b, b < 0 → a ≠ b → (TJ9 a).2.1 ≠ (TJ9 b).2.1 := by decide +kernel
theorem tyJ9_ok : ∀ k, k < 0 → parseFieldDescriptor (TJ9 k).2.2.1 = some (tyJ9 k) := by decide +kernel
abbrev cJ9_max_7cf53 : ByteArray := prog_15_method_65_code
def yJ9_max_7cf53 : MethodName := ⟨RJ9, "max", "(II)I"⟩
abbrev cJ9_min_7cf53 : ByteArray := prog_15_method_69_code
def yJ9_min_7cf53 : MethodName := ⟨RJ9, "min", "(II)I"⟩
def RJ0 : String := "java/lang/String"
def TJ0 : u_T := fun k => match k with
  | _ => ("", "", "", false)
def tyJ0 : Nat → FieldType := fun k => match k with
  | _ => .int
abbrev wsJ00 : List Cond := u_ws RJ0 TJ0 0
theorem nmJ0 : ∀ a, a < 0 → ∀ b, b < 0 → a ≠ b → (TJ0 a).2.1 ≠ (TJ0 b).2.1 := by decide +kernel
theorem tyJ0_ok : ∀ k, k < 0 → parseFieldDescriptor (TJ0 k).2.2.1 = some (tyJ0 k) := by decide +kernel
abbrev cJ0_length_8abf5 : ByteArray := prog_16_method_54_code
def yJ0_length_8abf5 : MethodName := ⟨RJ0, "length", "()I"⟩
abbrev cJ0_indexOf_0f7a4 : ByteArray := prog_16_method_79_code
def yJ0_indexOf_0f7a4 : MethodName := ⟨RJ0, "indexOf", "(I)I"⟩
abbrev cJ0_indexOf_7cf53 : ByteArray := prog_16_method_80_code
def yJ0_indexOf_7cf53 : MethodName := ⟨RJ0, "indexOf", "(II)I"⟩
abbrev cJ0_coder_7d493 : ByteArray := prog_16_method_152_code
def yJ0_coder_7d493 : MethodName := ⟨RJ0, "coder", "()B"⟩
abbrev cJ0_isLatin1_aae02 : ByteArray := prog_16_method_154_code
def yJ0_isLatin1_aae02 : MethodName := ⟨RJ0, "isLatin1", "()Z"⟩
abbrev cJ0_checkBoundsBeginEnd_23922 : ByteArray := prog_16_method_158_code
def yJ0_checkBoundsBeginEnd_23922 : MethodName := ⟨RJ0, "checkBoundsBeginEnd", "(III)V"⟩
def RJ1 : String := "java/lang/StringLatin1"
def TJ1 : u_T := fun k => match k with
  | _ => ("", "", "", false)
def tyJ1 : Nat → FieldType := fun k => match k with
  | _ => .int
abbrev wsJ10 : List Cond := u_ws RJ1 TJ1 0
theorem nmJ1 : ∀ a, a < 0 → ∀ b, b < 0 → a ≠ b → (TJ1 a).2.1 ≠ (TJ1 b).2.1 := by decide +kernel
theorem tyJ1_ok : ∀ k, k < 0 → parseFieldDescriptor (TJ1 k).2.2.1 = some (tyJ1 k) := by decide +kernel
abbrev cJ1_canEncode_9a6ad : ByteArray := prog_17_method_4_code
def yJ1_canEncode_9a6ad : MethodName := ⟨RJ1, "canEncode", "(I)Z"⟩
abbrev cJ1_indexOf_4cfef : ByteArray := prog_17_method_22_code
def yJ1_indexOf_4cfef : MethodName := ⟨RJ1, "indexOf", "([BIII)I"⟩
abbrev cJ1_indexOfChar_4cfef : ByteArray := prog_17_method_23_code
def yJ1_indexOfChar_4cfef : MethodName := ⟨RJ1, "indexOfChar", "([BIII)I"⟩
def RJ2 : String := "java/lang/StringUTF16"
def TJ2 : u_T := fun k => match k with
  | _ => ("", "", "", false)
def tyJ2 : Nat → FieldType := fun k => match k with
  | _ => .int
abbrev wsJ20 : List Cond := u_ws RJ2 TJ2 0
theorem nmJ2 : ∀ a, a < 0 → ∀ b, b < 0 → a ≠ b → (TJ2 a).2.1 ≠ (TJ2 b).2.1 := by decide +kernel
theorem tyJ2_ok : ∀ k, k < 0 → parseFieldDescriptor (TJ2 k).2.2.1 = some (tyJ2 k) := by decide +kernel
abbrev cJ2_getChar_3b067 : ByteArray := prog_18_method_5_code
def yJ2_getChar_3b067 : MethodName := ⟨RJ2, "getChar", "([BI)C"⟩
abbrev cJ2_length_9d52b : ByteArray := prog_18_method_6_code
def yJ2_length_9d52b : MethodName := ⟨RJ2, "length", "([B)I"⟩
abbrev cJ2_indexOf_4cfef : ByteArray := prog_18_method_40_code
def yJ2_indexOf_4cfef : MethodName := ⟨RJ2, "indexOf", "([BIII)I"⟩
abbrev cJ2_indexOfChar_4cfef : ByteArray := prog_18_method_47_code
def yJ2_indexOfChar_4cfef : MethodName := ⟨RJ2, "indexOfChar", "([BIII)I"⟩
abbrev cJ2_indexOfCharUnsafe_4cfef : ByteArray := prog_18_method_48_code
def yJ2_indexOfCharUnsafe_4cfef : MethodName := ⟨RJ2, "indexOfCharUnsafe", "([BIII)I"⟩
abbrev cJ2_indexOfSupplementary_4cfef : ByteArray := prog_18_method_49_code
def yJ2_indexOfSupplementary_4cfef : MethodName := ⟨RJ2, "indexOfSupplementary", "([BIII)I"⟩
abbrev cJ2_checkBoundsBeginEnd_d044e : ByteArray := prog_18_method_93_code
def yJ2_checkBoundsBeginEnd_d044e : MethodName := ⟨RJ2, "checkBoundsBeginEnd", "(II[B)V"⟩
def RJ10 : String := "java/lang/System"
def TJ10 : u_T := fun k => match k with
  | _ => ("", "", "", false)
def tyJ10 : Nat → FieldType := fun k => match k with
  | _ => .int
abbrev wsJ100 : List Cond := u_ws RJ10 TJ10 0
theorem nmJ10 : ∀ a, a < 0 → ∀ b, b < 0 → a ≠ b → (TJ10 a).2.1 ≠ (TJ10 b).2.1 := by decide +kernel
theorem tyJ10_ok : ∀ k, k < 0 → parseFieldDescriptor (TJ10 k).2.2.1 = some (tyJ10 k) := by decide +kernel
def RJ7 : String := "java/util/Arrays"
def TJ7 : u_T := fun k => match k with
  | _ => ("", "", "", false)
def tyJ7 : Nat → FieldType := fun k => match k with
  | _ => .int
abbrev wsJ70 : List Cond := u_ws RJ7 TJ7 0
theorem nmJ7 : ∀ a, a < 0 → ∀ b, b < 0 → a ≠ b → (TJ7 a).2.1 ≠ (TJ7 b).2.1 := by decide +kernel
theorem tyJ7_ok : ∀ k, k < 0 → parseFieldDescriptor (TJ7 k).2.2.1 = some (tyJ7 k) := by decide +kernel
abbrev cJ7_fill_53178 : ByteArray := prog_20_method_103_code
def yJ7_fill_53178 : MethodName := ⟨RJ7, "fill", "([II)V"⟩
abbrev cJ7_fill_031fb : ByteArray := prog_20_method_109_code
def yJ7_fill_031fb : MethodName := ⟨RJ7, "fill", "([BB)V"⟩
def RJ3 : String := "jdk/internal/util/Preconditions"
def TJ3 : u_T := fun k => match k with
  | _ => ("", "", "", false)
def tyJ3 : Nat → FieldType := fun k => match k with
  | _ => .int
abbrev wsJ30 : List Cond := u_ws RJ3 TJ3 0
theorem nmJ3 : ∀ a, a < 0 → ∀ b, b < 0 → a ≠ b → (TJ3 a).2.1 ≠ (TJ3 b).2.1 := by decide +kernel
theorem tyJ3_ok : ∀ k, k < 0 → parseFieldDescriptor (TJ3 k).2.2.1 = some (tyJ3 k) := by decide +kernel
abbrev cJ3_checkFromToIndex_8c36e : ByteArray := prog_21_method_12_code
def yJ3_checkFromToIndex_8c36e : MethodName := ⟨RJ3, "checkFromToIndex", "(IIILjava/util/function/BiFunction;)I"⟩
def RL : String := "TrueLedgerLaw"
abbrev cL_law : ByteArray := code
def yL_law : MethodName := ⟨RL, "law", "([I)Z"⟩
abbrev vwCl : List vw_C := [(RX0, TX0, 13), (RX1, TX1, 4), (RX2, TX2, 12), (RX3, TX3, 1), (RX4, TX4, 4), (RX5, TX5, 5), (RX6, TX6, 6), (RX7, TX7, 4), (RX8, TX8, 10), (RX9, TX9, 14), (RX10, TX10, 48)]
