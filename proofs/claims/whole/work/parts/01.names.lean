-- ===== PART A: goes FIRST, ahead of the names: the tables' words, and 'selects' of the private methods out of them =====
/-- a private method of a class that the tables say can be made, by its rows of tables_1 -/
def lw_okq (q : MethodName × Nat) : Prop := (q.1.cls ≠ "java/lang/invoke/MethodHandle" ∧ q.1.cls ≠ "java/lang/invoke/VarHandle") ∧ Cond.instantiable q.1.cls q.2 ∈ tables_1 ∧ Cond.privateMethod q.1 ∈ tables_1 ∧ Cond.instanceMethod q.1 ∈ tables_1
theorem lw_p0 : lw_okq (⟨"DollTruce$Tokens", "cutWord", "([III)I"⟩, 4) := ⟨⟨by decide +kernel, by decide +kernel⟩, List.mem_of_getElem? (i := 54) (by decide +kernel), List.mem_of_getElem? (i := 441) (by decide +kernel), List.mem_of_getElem? (i := 442) (by decide +kernel)⟩
theorem lw_p1 : lw_okq (⟨"DollTruce$Tokens", "add", "(III)V"⟩, 4) := ⟨⟨by decide +kernel, by decide +kernel⟩, List.mem_of_getElem? (i := 54) (by decide +kernel), List.mem_of_getElem? (i := 500) (by decide +kernel), List.mem_of_getElem? (i := 501) (by decide +kernel)⟩
theorem lw_p2 : lw_okq (⟨"DollTruce$Tokens", "cutNumber", "([III)I"⟩, 4) := ⟨⟨by decide +kernel, by decide +kernel⟩, List.mem_of_getElem? (i := 54) (by decide +kernel), List.mem_of_getElem? (i := 507) (by decide +kernel), List.mem_of_getElem? (i := 508) (by decide +kernel)⟩
theorem lw_p3 : lw_okq (⟨"DollTruce$Tokens", "cutSign", "([III)I"⟩, 4) := ⟨⟨by decide +kernel, by decide +kernel⟩, List.mem_of_getElem? (i := 54) (by decide +kernel), List.mem_of_getElem? (i := 512) (by decide +kernel), List.mem_of_getElem? (i := 513) (by decide +kernel)⟩
theorem lw_p4 : lw_okq (⟨"DollTruce$Reader", "kind", "()I"⟩, 9) := ⟨⟨by decide +kernel, by decide +kernel⟩, List.mem_of_getElem? (i := 48) (by decide +kernel), List.mem_of_getElem? (i := 527) (by decide +kernel), List.mem_of_getElem? (i := 528) (by decide +kernel)⟩
theorem lw_p5 : lw_okq (⟨"DollTruce$Reader", "readLine", "()Z"⟩, 9) := ⟨⟨by decide +kernel, by decide +kernel⟩, List.mem_of_getElem? (i := 48) (by decide +kernel), List.mem_of_getElem? (i := 531) (by decide +kernel), List.mem_of_getElem? (i := 532) (by decide +kernel)⟩
theorem lw_p6 : lw_okq (⟨"DollTruce$Reader", "readSetting", "(I)Z"⟩, 9) := ⟨⟨by decide +kernel, by decide +kernel⟩, List.mem_of_getElem? (i := 48) (by decide +kernel), List.mem_of_getElem? (i := 535) (by decide +kernel), List.mem_of_getElem? (i := 536) (by decide +kernel)⟩
theorem lw_p7 : lw_okq (⟨"DollTruce$Reader", "wrong", "(I)Z"⟩, 9) := ⟨⟨by decide +kernel, by decide +kernel⟩, List.mem_of_getElem? (i := 48) (by decide +kernel), List.mem_of_getElem? (i := 539) (by decide +kernel), List.mem_of_getElem? (i := 540) (by decide +kernel)⟩
theorem lw_p8 : lw_okq (⟨"DollTruce$Reader", "readNumber", "([IIII)Z"⟩, 9) := ⟨⟨by decide +kernel, by decide +kernel⟩, List.mem_of_getElem? (i := 48) (by decide +kernel), List.mem_of_getElem? (i := 547) (by decide +kernel), List.mem_of_getElem? (i := 548) (by decide +kernel)⟩
theorem lw_p9 : lw_okq (⟨"DollTruce$Reader", "value", "()I"⟩, 9) := ⟨⟨by decide +kernel, by decide +kernel⟩, List.mem_of_getElem? (i := 48) (by decide +kernel), List.mem_of_getElem? (i := 551) (by decide +kernel), List.mem_of_getElem? (i := 552) (by decide +kernel)⟩
theorem lw_p10 : lw_okq (⟨"DollTruce$Reader", "readNurse", "()Z"⟩, 9) := ⟨⟨by decide +kernel, by decide +kernel⟩, List.mem_of_getElem? (i := 48) (by decide +kernel), List.mem_of_getElem? (i := 555) (by decide +kernel), List.mem_of_getElem? (i := 556) (by decide +kernel)⟩
theorem lw_p11 : lw_okq (⟨"DollTruce$Reader", "readNewName", "([II)Z"⟩, 9) := ⟨⟨by decide +kernel, by decide +kernel⟩, List.mem_of_getElem? (i := 48) (by decide +kernel), List.mem_of_getElem? (i := 559) (by decide +kernel), List.mem_of_getElem? (i := 560) (by decide +kernel)⟩
theorem lw_p12 : lw_okq (⟨"DollTruce$Reader", "readDoll", "()Z"⟩, 9) := ⟨⟨by decide +kernel, by decide +kernel⟩, List.mem_of_getElem? (i := 48) (by decide +kernel), List.mem_of_getElem? (i := 566) (by decide +kernel), List.mem_of_getElem? (i := 567) (by decide +kernel)⟩
theorem lw_p13 : lw_okq (⟨"DollTruce$Reader", "readLaw", "()Z"⟩, 9) := ⟨⟨by decide +kernel, by decide +kernel⟩, List.mem_of_getElem? (i := 48) (by decide +kernel), List.mem_of_getElem? (i := 574) (by decide +kernel), List.mem_of_getElem? (i := 575) (by decide +kernel)⟩
theorem lw_p14 : lw_okq (⟨"DollTruce$Reader", "settleStronger", "(LDollTruce$Law;I)V"⟩, 9) := ⟨⟨by decide +kernel, by decide +kernel⟩, List.mem_of_getElem? (i := 48) (by decide +kernel), List.mem_of_getElem? (i := 578) (by decide +kernel), List.mem_of_getElem? (i := 579) (by decide +kernel)⟩
theorem lw_p15 : lw_okq (⟨"DollTruce$Reader", "readPart", "(LDollTruce$Law;)Z"⟩, 9) := ⟨⟨by decide +kernel, by decide +kernel⟩, List.mem_of_getElem? (i := 48) (by decide +kernel), List.mem_of_getElem? (i := 589) (by decide +kernel), List.mem_of_getElem? (i := 590) (by decide +kernel)⟩
def lw_privs_1 : List (MethodName × Nat) := [(⟨"DollTruce$Tokens", "cutWord", "([III)I"⟩, 4), (⟨"DollTruce$Tokens", "add", "(III)V"⟩, 4), (⟨"DollTruce$Tokens", "cutNumber", "([III)I"⟩, 4), (⟨"DollTruce$Tokens", "cutSign", "([III)I"⟩, 4), (⟨"DollTruce$Reader", "kind", "()I"⟩, 9), (⟨"DollTruce$Reader", "readLine", "()Z"⟩, 9), (⟨"DollTruce$Reader", "readSetting", "(I)Z"⟩, 9), (⟨"DollTruce$Reader", "wrong", "(I)Z"⟩, 9), (⟨"DollTruce$Reader", "readNumber", "([IIII)Z"⟩, 9), (⟨"DollTruce$Reader", "value", "()I"⟩, 9), (⟨"DollTruce$Reader", "readNurse", "()Z"⟩, 9), (⟨"DollTruce$Reader", "readNewName", "([II)Z"⟩, 9), (⟨"DollTruce$Reader", "readDoll", "()Z"⟩, 9), (⟨"DollTruce$Reader", "readLaw", "()Z"⟩, 9), (⟨"DollTruce$Reader", "settleStronger", "(LDollTruce$Law;I)V"⟩, 9), (⟨"DollTruce$Reader", "readPart", "(LDollTruce$Law;)Z"⟩, 9)]
theorem lw_r1 : ∀ q ∈ lw_privs_1, lw_okq q := List.forall_mem_cons.mpr ⟨lw_p0, List.forall_mem_cons.mpr ⟨lw_p1, List.forall_mem_cons.mpr ⟨lw_p2, List.forall_mem_cons.mpr ⟨lw_p3, List.forall_mem_cons.mpr ⟨lw_p4, List.forall_mem_cons.mpr ⟨lw_p5, List.forall_mem_cons.mpr ⟨lw_p6, List.forall_mem_cons.mpr ⟨lw_p7, List.forall_mem_cons.mpr ⟨lw_p8, List.forall_mem_cons.mpr ⟨lw_p9, List.forall_mem_cons.mpr ⟨lw_p10, List.forall_mem_cons.mpr ⟨lw_p11, List.forall_mem_cons.mpr ⟨lw_p12, List.forall_mem_cons.mpr ⟨lw_p13, List.forall_mem_cons.mpr ⟨lw_p14, List.forall_mem_cons.mpr ⟨lw_p15, fun _ h => absurd h List.not_mem_nil⟩⟩⟩⟩⟩⟩⟩⟩⟩⟩⟩⟩⟩⟩⟩⟩
theorem lw_p16 : lw_okq (⟨"DollTruce$Reader", "letWait", "(I)Z"⟩, 9) := ⟨⟨by decide +kernel, by decide +kernel⟩, List.mem_of_getElem? (i := 48) (by decide +kernel), List.mem_of_getElem? (i := 593) (by decide +kernel), List.mem_of_getElem? (i := 594) (by decide +kernel)⟩
theorem lw_p17 : lw_okq (⟨"DollTruce$Reader", "strengthWaiting", "()I"⟩, 9) := ⟨⟨by decide +kernel, by decide +kernel⟩, List.mem_of_getElem? (i := 48) (by decide +kernel), List.mem_of_getElem? (i := 597) (by decide +kernel), List.mem_of_getElem? (i := 598) (by decide +kernel)⟩
theorem lw_p18 : lw_okq (⟨"DollTruce$Reader", "addKnot", "()Z"⟩, 9) := ⟨⟨by decide +kernel, by decide +kernel⟩, List.mem_of_getElem? (i := 48) (by decide +kernel), List.mem_of_getElem? (i := 601) (by decide +kernel), List.mem_of_getElem? (i := 602) (by decide +kernel)⟩
theorem lw_p19 : lw_okq (⟨"DollTruce$Reader", "readBehindPart", "(LDollTruce$Law;)Z"⟩, 9) := ⟨⟨by decide +kernel, by decide +kernel⟩, List.mem_of_getElem? (i := 48) (by decide +kernel), List.mem_of_getElem? (i := 605) (by decide +kernel), List.mem_of_getElem? (i := 606) (by decide +kernel)⟩
theorem lw_p20 : lw_okq (⟨"DollTruce$Reader", "pass", "(I)Z"⟩, 9) := ⟨⟨by decide +kernel, by decide +kernel⟩, List.mem_of_getElem? (i := 48) (by decide +kernel), List.mem_of_getElem? (i := 609) (by decide +kernel), List.mem_of_getElem? (i := 610) (by decide +kernel)⟩
theorem lw_p21 : lw_okq (⟨"DollTruce", "settle", "()V"⟩, 10) := ⟨⟨by decide +kernel, by decide +kernel⟩, List.mem_of_getElem? (i := 24) (by decide +kernel), List.mem_of_getElem? (i := 626) (by decide +kernel), List.mem_of_getElem? (i := 627) (by decide +kernel)⟩
theorem lw_p22 : lw_okq (⟨"DollTruce", "isNurse", "(I)Z"⟩, 10) := ⟨⟨by decide +kernel, by decide +kernel⟩, List.mem_of_getElem? (i := 24) (by decide +kernel), List.mem_of_getElem? (i := 648) (by decide +kernel), List.mem_of_getElem? (i := 649) (by decide +kernel)⟩
theorem lw_p23 : lw_okq (⟨"DollTruce", "isHeldDoll", "(I)Z"⟩, 10) := ⟨⟨by decide +kernel, by decide +kernel⟩, List.mem_of_getElem? (i := 24) (by decide +kernel), List.mem_of_getElem? (i := 683) (by decide +kernel), List.mem_of_getElem? (i := 684) (by decide +kernel)⟩
theorem lw_p24 : lw_okq (⟨"DollTruce", "isDoll", "(I)Z"⟩, 10) := ⟨⟨by decide +kernel, by decide +kernel⟩, List.mem_of_getElem? (i := 24) (by decide +kernel), List.mem_of_getElem? (i := 687) (by decide +kernel), List.mem_of_getElem? (i := 688) (by decide +kernel)⟩
theorem lw_p25 : lw_okq (⟨"DollTruce$Deeds", "dropOldest", "()V"⟩, 4) := ⟨⟨by decide +kernel, by decide +kernel⟩, List.mem_of_getElem? (i := 327) (by decide +kernel), List.mem_of_getElem? (i := 745) (by decide +kernel), List.mem_of_getElem? (i := 746) (by decide +kernel)⟩
theorem lw_p26 : lw_okq (⟨"DollTruce$World", "letMothsCome", "(Z)V"⟩, 13) := ⟨⟨by decide +kernel, by decide +kernel⟩, List.mem_of_getElem? (i := 231) (by decide +kernel), List.mem_of_getElem? (i := 774) (by decide +kernel), List.mem_of_getElem? (i := 775) (by decide +kernel)⟩
theorem lw_p27 : lw_okq (⟨"DollTruce$World", "isDrawn", "(I)Z"⟩, 13) := ⟨⟨by decide +kernel, by decide +kernel⟩, List.mem_of_getElem? (i := 231) (by decide +kernel), List.mem_of_getElem? (i := 780) (by decide +kernel), List.mem_of_getElem? (i := 781) (by decide +kernel)⟩
theorem lw_p28 : lw_okq (⟨"DollTruce$World", "hurtOne", "(I)V"⟩, 13) := ⟨⟨by decide +kernel, by decide +kernel⟩, List.mem_of_getElem? (i := 231) (by decide +kernel), List.mem_of_getElem? (i := 788) (by decide +kernel), List.mem_of_getElem? (i := 789) (by decide +kernel)⟩
theorem lw_p29 : lw_okq (⟨"DollTruce$World", "answerBreaches", "()V"⟩, 13) := ⟨⟨by decide +kernel, by decide +kernel⟩, List.mem_of_getElem? (i := 231) (by decide +kernel), List.mem_of_getElem? (i := 793) (by decide +kernel), List.mem_of_getElem? (i := 794) (by decide +kernel)⟩
theorem lw_p30 : lw_okq (⟨"DollTruce$World", "forgive", "()V"⟩, 13) := ⟨⟨by decide +kernel, by decide +kernel⟩, List.mem_of_getElem? (i := 231) (by decide +kernel), List.mem_of_getElem? (i := 802) (by decide +kernel), List.mem_of_getElem? (i := 803) (by decide +kernel)⟩
theorem lw_p31 : lw_okq (⟨"DollTruce$World", "growFond", "()V"⟩, 13) := ⟨⟨by decide +kernel, by decide +kernel⟩, List.mem_of_getElem? (i := 231) (by decide +kernel), List.mem_of_getElem? (i := 807) (by decide +kernel), List.mem_of_getElem? (i := 808) (by decide +kernel)⟩
def lw_privs_2 : List (MethodName × Nat) := [(⟨"DollTruce$Reader", "letWait", "(I)Z"⟩, 9), (⟨"DollTruce$Reader", "strengthWaiting", "()I"⟩, 9), (⟨"DollTruce$Reader", "addKnot", "()Z"⟩, 9), (⟨"DollTruce$Reader", "readBehindPart", "(LDollTruce$Law;)Z"⟩, 9), (⟨"DollTruce$Reader", "pass", "(I)Z"⟩, 9), (⟨"DollTruce", "settle", "()V"⟩, 10), (⟨"DollTruce", "isNurse", "(I)Z"⟩, 10), (⟨"DollTruce", "isHeldDoll", "(I)Z"⟩, 10), (⟨"DollTruce", "isDoll", "(I)Z"⟩, 10), (⟨"DollTruce$Deeds", "dropOldest", "()V"⟩, 4), (⟨"DollTruce$World", "letMothsCome", "(Z)V"⟩, 13), (⟨"DollTruce$World", "isDrawn", "(I)Z"⟩, 13), (⟨"DollTruce$World", "hurtOne", "(I)V"⟩, 13), (⟨"DollTruce$World", "answerBreaches", "()V"⟩, 13), (⟨"DollTruce$World", "forgive", "()V"⟩, 13), (⟨"DollTruce$World", "growFond", "()V"⟩, 13)]
theorem lw_r2 : ∀ q ∈ lw_privs_2, lw_okq q := List.forall_mem_cons.mpr ⟨lw_p16, List.forall_mem_cons.mpr ⟨lw_p17, List.forall_mem_cons.mpr ⟨lw_p18, List.forall_mem_cons.mpr ⟨lw_p19, List.forall_mem_cons.mpr ⟨lw_p20, List.forall_mem_cons.mpr ⟨lw_p21, List.forall_mem_cons.mpr ⟨lw_p22, List.forall_mem_cons.mpr ⟨lw_p23, List.forall_mem_cons.mpr ⟨lw_p24, List.forall_mem_cons.mpr ⟨lw_p25, List.forall_mem_cons.mpr ⟨lw_p26, List.forall_mem_cons.mpr ⟨lw_p27, List.forall_mem_cons.mpr ⟨lw_p28, List.forall_mem_cons.mpr ⟨lw_p29, List.forall_mem_cons.mpr ⟨lw_p30, List.forall_mem_cons.mpr ⟨lw_p31, fun _ h => absurd h List.not_mem_nil⟩⟩⟩⟩⟩⟩⟩⟩⟩⟩⟩⟩⟩⟩⟩⟩
theorem lw_p32 : lw_okq (⟨"DollTruce", "goneAhead", "(I)LDollTruce$World;"⟩, 10) := ⟨⟨by decide +kernel, by decide +kernel⟩, List.mem_of_getElem? (i := 24) (by decide +kernel), List.mem_of_getElem? (i := 815) (by decide +kernel), List.mem_of_getElem? (i := 816) (by decide +kernel)⟩
theorem lw_p33 : lw_okq (⟨"DollTruce", "canBeExchanged", "(III)Z"⟩, 10) := ⟨⟨by decide +kernel, by decide +kernel⟩, List.mem_of_getElem? (i := 24) (by decide +kernel), List.mem_of_getElem? (i := 843) (by decide +kernel), List.mem_of_getElem? (i := 844) (by decide +kernel)⟩
theorem lw_p34 : lw_okq (⟨"DollTruce$Nursing", "findDolls", "(LDollTruce$World;I)V"⟩, 8) := ⟨⟨by decide +kernel, by decide +kernel⟩, List.mem_of_getElem? (i := 347) (by decide +kernel), List.mem_of_getElem? (i := 868) (by decide +kernel), List.mem_of_getElem? (i := 869) (by decide +kernel)⟩
theorem lw_p35 : lw_okq (⟨"DollTruce$Nursing", "findNurses", "(LDollTruce$World;I)V"⟩, 8) := ⟨⟨by decide +kernel, by decide +kernel⟩, List.mem_of_getElem? (i := 347) (by decide +kernel), List.mem_of_getElem? (i := 873) (by decide +kernel), List.mem_of_getElem? (i := 874) (by decide +kernel)⟩
theorem lw_p36 : lw_okq (⟨"DollTruce$Nursing", "giveBy", "(ILDollTruce$World;)V"⟩, 8) := ⟨⟨by decide +kernel, by decide +kernel⟩, List.mem_of_getElem? (i := 347) (by decide +kernel), List.mem_of_getElem? (i := 878) (by decide +kernel), List.mem_of_getElem? (i := 879) (by decide +kernel)⟩
theorem lw_p37 : lw_okq (⟨"DollTruce$Nursing", "choose", "(LDollTruce$World;)V"⟩, 8) := ⟨⟨by decide +kernel, by decide +kernel⟩, List.mem_of_getElem? (i := 347) (by decide +kernel), List.mem_of_getElem? (i := 884) (by decide +kernel), List.mem_of_getElem? (i := 885) (by decide +kernel)⟩
theorem lw_p38 : lw_okq (⟨"DollTruce", "isRest", "(II)Z"⟩, 10) := ⟨⟨by decide +kernel, by decide +kernel⟩, List.mem_of_getElem? (i := 24) (by decide +kernel), List.mem_of_getElem? (i := 892) (by decide +kernel), List.mem_of_getElem? (i := 893) (by decide +kernel)⟩
theorem lw_p39 : lw_okq (⟨"DollTruce", "gain", "(III)I"⟩, 10) := ⟨⟨by decide +kernel, by decide +kernel⟩, List.mem_of_getElem? (i := 24) (by decide +kernel), List.mem_of_getElem? (i := 896) (by decide +kernel), List.mem_of_getElem? (i := 897) (by decide +kernel)⟩
theorem lw_p40 : lw_okq (⟨"DollTruce$Notes", "lastWeekKnown", "()I"⟩, 8) := ⟨⟨by decide +kernel, by decide +kernel⟩, List.mem_of_getElem? (i := 294) (by decide +kernel), List.mem_of_getElem? (i := 973) (by decide +kernel), List.mem_of_getElem? (i := 974) (by decide +kernel)⟩
theorem lw_p41 : lw_okq (⟨"DollTruce$Notes", "isSeenAndKnown", "(I)Z"⟩, 8) := ⟨⟨by decide +kernel, by decide +kernel⟩, List.mem_of_getElem? (i := 294) (by decide +kernel), List.mem_of_getElem? (i := 977) (by decide +kernel), List.mem_of_getElem? (i := 978) (by decide +kernel)⟩
theorem lw_p42 : lw_okq (⟨"DollTruce$Notes", "areSoBehind", "(ILDollTruce$World;)Z"⟩, 8) := ⟨⟨by decide +kernel, by decide +kernel⟩, List.mem_of_getElem? (i := 294) (by decide +kernel), List.mem_of_getElem? (i := 983) (by decide +kernel), List.mem_of_getElem? (i := 984) (by decide +kernel)⟩
theorem lw_p43 : lw_okq (⟨"java/lang/Throwable", "fillInStackTrace", "(I)Ljava/lang/Throwable;"⟩, 6) := ⟨⟨by decide +kernel, by decide +kernel⟩, List.mem_of_getElem? (i := 1074) (by decide +kernel), List.mem_of_getElem? (i := 1072) (by decide +kernel), List.mem_of_getElem? (i := 1073) (by decide +kernel)⟩
theorem lw_p44 : lw_okq (⟨"DollTruceModel", "begins", "()V"⟩, 58) := ⟨⟨by decide +kernel, by decide +kernel⟩, List.mem_of_getElem? (i := 1119) (by decide +kernel), List.mem_of_getElem? (i := 1125) (by decide +kernel), List.mem_of_getElem? (i := 1126) (by decide +kernel)⟩
theorem lw_p45 : lw_okq (⟨"DollTruceModel", "starts", "(I)V"⟩, 58) := ⟨⟨by decide +kernel, by decide +kernel⟩, List.mem_of_getElem? (i := 1119) (by decide +kernel), List.mem_of_getElem? (i := 1129) (by decide +kernel), List.mem_of_getElem? (i := 1130) (by decide +kernel)⟩
theorem lw_p46 : lw_okq (⟨"DollTruceModel", "reads", "(II)V"⟩, 58) := ⟨⟨by decide +kernel, by decide +kernel⟩, List.mem_of_getElem? (i := 1119) (by decide +kernel), List.mem_of_getElem? (i := 1320) (by decide +kernel), List.mem_of_getElem? (i := 1321) (by decide +kernel)⟩
theorem lw_p47 : lw_okq (⟨"DollTruceModel", "token", "()V"⟩, 58) := ⟨⟨by decide +kernel, by decide +kernel⟩, List.mem_of_getElem? (i := 1119) (by decide +kernel), List.mem_of_getElem? (i := 1324) (by decide +kernel), List.mem_of_getElem? (i := 1325) (by decide +kernel)⟩
def lw_privs_3 : List (MethodName × Nat) := [(⟨"DollTruce", "goneAhead", "(I)LDollTruce$World;"⟩, 10), (⟨"DollTruce", "canBeExchanged", "(III)Z"⟩, 10), (⟨"DollTruce$Nursing", "findDolls", "(LDollTruce$World;I)V"⟩, 8), (⟨"DollTruce$Nursing", "findNurses", "(LDollTruce$World;I)V"⟩, 8), (⟨"DollTruce$Nursing", "giveBy", "(ILDollTruce$World;)V"⟩, 8), (⟨"DollTruce$Nursing", "choose", "(LDollTruce$World;)V"⟩, 8), (⟨"DollTruce", "isRest", "(II)Z"⟩, 10), (⟨"DollTruce", "gain", "(III)I"⟩, 10), (⟨"DollTruce$Notes", "lastWeekKnown", "()I"⟩, 8), (⟨"DollTruce$Notes", "isSeenAndKnown", "(I)Z"⟩, 8), (⟨"DollTruce$Notes", "areSoBehind", "(ILDollTruce$World;)Z"⟩, 8), (⟨"java/lang/Throwable", "fillInStackTrace", "(I)Ljava/lang/Throwable;"⟩, 6), (⟨"DollTruceModel", "begins", "()V"⟩, 58), (⟨"DollTruceModel", "starts", "(I)V"⟩, 58), (⟨"DollTruceModel", "reads", "(II)V"⟩, 58), (⟨"DollTruceModel", "token", "()V"⟩, 58)]
theorem lw_r3 : ∀ q ∈ lw_privs_3, lw_okq q := List.forall_mem_cons.mpr ⟨lw_p32, List.forall_mem_cons.mpr ⟨lw_p33, List.forall_mem_cons.mpr ⟨lw_p34, List.forall_mem_cons.mpr ⟨lw_p35, List.forall_mem_cons.mpr ⟨lw_p36, List.forall_mem_cons.mpr ⟨lw_p37, List.forall_mem_cons.mpr ⟨lw_p38, List.forall_mem_cons.mpr ⟨lw_p39, List.forall_mem_cons.mpr ⟨lw_p40, List.forall_mem_cons.mpr ⟨lw_p41, List.forall_mem_cons.mpr ⟨lw_p42, List.forall_mem_cons.mpr ⟨lw_p43, List.forall_mem_cons.mpr ⟨lw_p44, List.forall_mem_cons.mpr ⟨lw_p45, List.forall_mem_cons.mpr ⟨lw_p46, List.forall_mem_cons.mpr ⟨lw_p47, fun _ h => absurd h List.not_mem_nil⟩⟩⟩⟩⟩⟩⟩⟩⟩⟩⟩⟩⟩⟩⟩⟩
theorem lw_p48 : lw_okq (⟨"DollTruceModel", "here", "()I"⟩, 58) := ⟨⟨by decide +kernel, by decide +kernel⟩, List.mem_of_getElem? (i := 1119) (by decide +kernel), List.mem_of_getElem? (i := 1328) (by decide +kernel), List.mem_of_getElem? (i := 1329) (by decide +kernel)⟩
theorem lw_p49 : lw_okq (⟨"DollTruceModel", "word", "()I"⟩, 58) := ⟨⟨by decide +kernel, by decide +kernel⟩, List.mem_of_getElem? (i := 1119) (by decide +kernel), List.mem_of_getElem? (i := 1335) (by decide +kernel), List.mem_of_getElem? (i := 1336) (by decide +kernel)⟩
theorem lw_p50 : lw_okq (⟨"DollTruceModel", "name", "()V"⟩, 58) := ⟨⟨by decide +kernel, by decide +kernel⟩, List.mem_of_getElem? (i := 1119) (by decide +kernel), List.mem_of_getElem? (i := 1342) (by decide +kernel), List.mem_of_getElem? (i := 1343) (by decide +kernel)⟩
theorem lw_p51 : lw_okq (⟨"DollTruceModel", "sign", "(I)V"⟩, 58) := ⟨⟨by decide +kernel, by decide +kernel⟩, List.mem_of_getElem? (i := 1119) (by decide +kernel), List.mem_of_getElem? (i := 1350) (by decide +kernel), List.mem_of_getElem? (i := 1351) (by decide +kernel)⟩
theorem lw_p52 : lw_okq (⟨"DollTruceModel", "line", "()V"⟩, 58) := ⟨⟨by decide +kernel, by decide +kernel⟩, List.mem_of_getElem? (i := 1119) (by decide +kernel), List.mem_of_getElem? (i := 1354) (by decide +kernel), List.mem_of_getElem? (i := 1355) (by decide +kernel)⟩
theorem lw_p53 : lw_okq (⟨"DollTruceModel", "wrong", "(I)V"⟩, 58) := ⟨⟨by decide +kernel, by decide +kernel⟩, List.mem_of_getElem? (i := 1119) (by decide +kernel), List.mem_of_getElem? (i := 1358) (by decide +kernel), List.mem_of_getElem? (i := 1359) (by decide +kernel)⟩
theorem lw_p54 : lw_okq (⟨"DollTruceModel", "isFull", "(I)Z"⟩, 58) := ⟨⟨by decide +kernel, by decide +kernel⟩, List.mem_of_getElem? (i := 1119) (by decide +kernel), List.mem_of_getElem? (i := 1362) (by decide +kernel), List.mem_of_getElem? (i := 1363) (by decide +kernel)⟩
theorem lw_p55 : lw_okq (⟨"DollTruceModel", "fresher", "(I)I"⟩, 58) := ⟨⟨by decide +kernel, by decide +kernel⟩, List.mem_of_getElem? (i := 1119) (by decide +kernel), List.mem_of_getElem? (i := 1366) (by decide +kernel), List.mem_of_getElem? (i := 1367) (by decide +kernel)⟩
theorem lw_p56 : lw_okq (⟨"DollTruceModel", "nurseLine", "(I)V"⟩, 58) := ⟨⟨by decide +kernel, by decide +kernel⟩, List.mem_of_getElem? (i := 1119) (by decide +kernel), List.mem_of_getElem? (i := 1370) (by decide +kernel), List.mem_of_getElem? (i := 1371) (by decide +kernel)⟩
theorem lw_p57 : lw_okq (⟨"DollTruceModel", "fresh", "([III)I"⟩, 58) := ⟨⟨by decide +kernel, by decide +kernel⟩, List.mem_of_getElem? (i := 1119) (by decide +kernel), List.mem_of_getElem? (i := 1374) (by decide +kernel), List.mem_of_getElem? (i := 1375) (by decide +kernel)⟩
theorem lw_p58 : lw_okq (⟨"DollTruceModel", "goOn", "()V"⟩, 58) := ⟨⟨by decide +kernel, by decide +kernel⟩, List.mem_of_getElem? (i := 1119) (by decide +kernel), List.mem_of_getElem? (i := 1381) (by decide +kernel), List.mem_of_getElem? (i := 1382) (by decide +kernel)⟩
theorem lw_p59 : lw_okq (⟨"DollTruceModel", "numeral", "(II)I"⟩, 58) := ⟨⟨by decide +kernel, by decide +kernel⟩, List.mem_of_getElem? (i := 1119) (by decide +kernel), List.mem_of_getElem? (i := 1385) (by decide +kernel), List.mem_of_getElem? (i := 1386) (by decide +kernel)⟩
theorem lw_p60 : lw_okq (⟨"DollTruceModel", "dollLine", "(I)V"⟩, 58) := ⟨⟨by decide +kernel, by decide +kernel⟩, List.mem_of_getElem? (i := 1119) (by decide +kernel), List.mem_of_getElem? (i := 1389) (by decide +kernel), List.mem_of_getElem? (i := 1390) (by decide +kernel)⟩
theorem lw_p61 : lw_okq (⟨"DollTruceModel", "lawLine", "()V"⟩, 58) := ⟨⟨by decide +kernel, by decide +kernel⟩, List.mem_of_getElem? (i := 1119) (by decide +kernel), List.mem_of_getElem? (i := 1393) (by decide +kernel), List.mem_of_getElem? (i := 1394) (by decide +kernel)⟩
theorem lw_p62 : lw_okq (⟨"DollTruceModel", "expression", "()V"⟩, 58) := ⟨⟨by decide +kernel, by decide +kernel⟩, List.mem_of_getElem? (i := 1119) (by decide +kernel), List.mem_of_getElem? (i := 1397) (by decide +kernel), List.mem_of_getElem? (i := 1398) (by decide +kernel)⟩
theorem lw_p63 : lw_okq (⟨"DollTruceModel", "conjunction", "()V"⟩, 58) := ⟨⟨by decide +kernel, by decide +kernel⟩, List.mem_of_getElem? (i := 1119) (by decide +kernel), List.mem_of_getElem? (i := 1401) (by decide +kernel), List.mem_of_getElem? (i := 1402) (by decide +kernel)⟩
def lw_privs_4 : List (MethodName × Nat) := [(⟨"DollTruceModel", "here", "()I"⟩, 58), (⟨"DollTruceModel", "word", "()I"⟩, 58), (⟨"DollTruceModel", "name", "()V"⟩, 58), (⟨"DollTruceModel", "sign", "(I)V"⟩, 58), (⟨"DollTruceModel", "line", "()V"⟩, 58), (⟨"DollTruceModel", "wrong", "(I)V"⟩, 58), (⟨"DollTruceModel", "isFull", "(I)Z"⟩, 58), (⟨"DollTruceModel", "fresher", "(I)I"⟩, 58), (⟨"DollTruceModel", "nurseLine", "(I)V"⟩, 58), (⟨"DollTruceModel", "fresh", "([III)I"⟩, 58), (⟨"DollTruceModel", "goOn", "()V"⟩, 58), (⟨"DollTruceModel", "numeral", "(II)I"⟩, 58), (⟨"DollTruceModel", "dollLine", "(I)V"⟩, 58), (⟨"DollTruceModel", "lawLine", "()V"⟩, 58), (⟨"DollTruceModel", "expression", "()V"⟩, 58), (⟨"DollTruceModel", "conjunction", "()V"⟩, 58)]
theorem lw_r4 : ∀ q ∈ lw_privs_4, lw_okq q := List.forall_mem_cons.mpr ⟨lw_p48, List.forall_mem_cons.mpr ⟨lw_p49, List.forall_mem_cons.mpr ⟨lw_p50, List.forall_mem_cons.mpr ⟨lw_p51, List.forall_mem_cons.mpr ⟨lw_p52, List.forall_mem_cons.mpr ⟨lw_p53, List.forall_mem_cons.mpr ⟨lw_p54, List.forall_mem_cons.mpr ⟨lw_p55, List.forall_mem_cons.mpr ⟨lw_p56, List.forall_mem_cons.mpr ⟨lw_p57, List.forall_mem_cons.mpr ⟨lw_p58, List.forall_mem_cons.mpr ⟨lw_p59, List.forall_mem_cons.mpr ⟨lw_p60, List.forall_mem_cons.mpr ⟨lw_p61, List.forall_mem_cons.mpr ⟨lw_p62, List.forall_mem_cons.mpr ⟨lw_p63, fun _ h => absurd h List.not_mem_nil⟩⟩⟩⟩⟩⟩⟩⟩⟩⟩⟩⟩⟩⟩⟩⟩
theorem lw_p64 : lw_okq (⟨"DollTruceModel", "negation", "()V"⟩, 58) := ⟨⟨by decide +kernel, by decide +kernel⟩, List.mem_of_getElem? (i := 1119) (by decide +kernel), List.mem_of_getElem? (i := 1405) (by decide +kernel), List.mem_of_getElem? (i := 1406) (by decide +kernel)⟩
theorem lw_p65 : lw_okq (⟨"DollTruceModel", "isWord", "(I)Z"⟩, 58) := ⟨⟨by decide +kernel, by decide +kernel⟩, List.mem_of_getElem? (i := 1119) (by decide +kernel), List.mem_of_getElem? (i := 1409) (by decide +kernel), List.mem_of_getElem? (i := 1410) (by decide +kernel)⟩
theorem lw_p66 : lw_okq (⟨"DollTruceModel", "knot", "()V"⟩, 58) := ⟨⟨by decide +kernel, by decide +kernel⟩, List.mem_of_getElem? (i := 1119) (by decide +kernel), List.mem_of_getElem? (i := 1413) (by decide +kernel), List.mem_of_getElem? (i := 1414) (by decide +kernel)⟩
theorem lw_p67 : lw_okq (⟨"DollTruceModel", "puts", "(II)V"⟩, 58) := ⟨⟨by decide +kernel, by decide +kernel⟩, List.mem_of_getElem? (i := 1119) (by decide +kernel), List.mem_of_getElem? (i := 1417) (by decide +kernel), List.mem_of_getElem? (i := 1418) (by decide +kernel)⟩
theorem lw_p68 : lw_okq (⟨"DollTruceModel", "sum", "()V"⟩, 58) := ⟨⟨by decide +kernel, by decide +kernel⟩, List.mem_of_getElem? (i := 1119) (by decide +kernel), List.mem_of_getElem? (i := 1421) (by decide +kernel), List.mem_of_getElem? (i := 1422) (by decide +kernel)⟩
theorem lw_p69 : lw_okq (⟨"DollTruceModel", "product", "()V"⟩, 58) := ⟨⟨by decide +kernel, by decide +kernel⟩, List.mem_of_getElem? (i := 1119) (by decide +kernel), List.mem_of_getElem? (i := 1425) (by decide +kernel), List.mem_of_getElem? (i := 1426) (by decide +kernel)⟩
theorem lw_p70 : lw_okq (⟨"DollTruceModel", "primary", "()V"⟩, 58) := ⟨⟨by decide +kernel, by decide +kernel⟩, List.mem_of_getElem? (i := 1119) (by decide +kernel), List.mem_of_getElem? (i := 1429) (by decide +kernel), List.mem_of_getElem? (i := 1430) (by decide +kernel)⟩
theorem lw_p71 : lw_okq (⟨"DollTruceModel", "isSign", "(I)Z"⟩, 58) := ⟨⟨by decide +kernel, by decide +kernel⟩, List.mem_of_getElem? (i := 1119) (by decide +kernel), List.mem_of_getElem? (i := 1433) (by decide +kernel), List.mem_of_getElem? (i := 1434) (by decide +kernel)⟩
theorem lw_p72 : lw_okq (⟨"DollTruceModel", "isDoll", "(I)Z"⟩, 58) := ⟨⟨by decide +kernel, by decide +kernel⟩, List.mem_of_getElem? (i := 1119) (by decide +kernel), List.mem_of_getElem? (i := 1452) (by decide +kernel), List.mem_of_getElem? (i := 1453) (by decide +kernel)⟩
theorem lw_p73 : lw_okq (⟨"DollTruceModel", "ownerOf", "(I)I"⟩, 58) := ⟨⟨by decide +kernel, by decide +kernel⟩, List.mem_of_getElem? (i := 1119) (by decide +kernel), List.mem_of_getElem? (i := 1456) (by decide +kernel), List.mem_of_getElem? (i := 1457) (by decide +kernel)⟩
theorem lw_p74 : lw_okq (⟨"DollTruceModel", "isNurse", "(I)Z"⟩, 58) := ⟨⟨by decide +kernel, by decide +kernel⟩, List.mem_of_getElem? (i := 1119) (by decide +kernel), List.mem_of_getElem? (i := 1464) (by decide +kernel), List.mem_of_getElem? (i := 1465) (by decide +kernel)⟩
theorem lw_p75 : lw_okq (⟨"DollTruceModel", "isHeld", "(II)Z"⟩, 58) := ⟨⟨by decide +kernel, by decide +kernel⟩, List.mem_of_getElem? (i := 1119) (by decide +kernel), List.mem_of_getElem? (i := 1468) (by decide +kernel), List.mem_of_getElem? (i := 1469) (by decide +kernel)⟩
theorem lw_p76 : lw_okq (⟨"DollTruceModel", "heldBy", "(I)I"⟩, 58) := ⟨⟨by decide +kernel, by decide +kernel⟩, List.mem_of_getElem? (i := 1119) (by decide +kernel), List.mem_of_getElem? (i := 1479) (by decide +kernel), List.mem_of_getElem? (i := 1480) (by decide +kernel)⟩
theorem lw_p77 : lw_okq (⟨"DollTruceModel", "holds", "(III)Z"⟩, 58) := ⟨⟨by decide +kernel, by decide +kernel⟩, List.mem_of_getElem? (i := 1119) (by decide +kernel), List.mem_of_getElem? (i := 1483) (by decide +kernel), List.mem_of_getElem? (i := 1484) (by decide +kernel)⟩
theorem lw_p78 : lw_okq (⟨"DollTruceModel", "sumOf", "([II)I"⟩, 58) := ⟨⟨by decide +kernel, by decide +kernel⟩, List.mem_of_getElem? (i := 1119) (by decide +kernel), List.mem_of_getElem? (i := 1487) (by decide +kernel), List.mem_of_getElem? (i := 1488) (by decide +kernel)⟩
theorem lw_p79 : lw_okq (⟨"DollTruceModel", "mothsBy", "(III)I"⟩, 58) := ⟨⟨by decide +kernel, by decide +kernel⟩, List.mem_of_getElem? (i := 1119) (by decide +kernel), List.mem_of_getElem? (i := 1495) (by decide +kernel), List.mem_of_getElem? (i := 1496) (by decide +kernel)⟩
def lw_privs_5 : List (MethodName × Nat) := [(⟨"DollTruceModel", "negation", "()V"⟩, 58), (⟨"DollTruceModel", "isWord", "(I)Z"⟩, 58), (⟨"DollTruceModel", "knot", "()V"⟩, 58), (⟨"DollTruceModel", "puts", "(II)V"⟩, 58), (⟨"DollTruceModel", "sum", "()V"⟩, 58), (⟨"DollTruceModel", "product", "()V"⟩, 58), (⟨"DollTruceModel", "primary", "()V"⟩, 58), (⟨"DollTruceModel", "isSign", "(I)Z"⟩, 58), (⟨"DollTruceModel", "isDoll", "(I)Z"⟩, 58), (⟨"DollTruceModel", "ownerOf", "(I)I"⟩, 58), (⟨"DollTruceModel", "isNurse", "(I)Z"⟩, 58), (⟨"DollTruceModel", "isHeld", "(II)Z"⟩, 58), (⟨"DollTruceModel", "heldBy", "(I)I"⟩, 58), (⟨"DollTruceModel", "holds", "(III)Z"⟩, 58), (⟨"DollTruceModel", "sumOf", "([II)I"⟩, 58), (⟨"DollTruceModel", "mothsBy", "(III)I"⟩, 58)]
theorem lw_r5 : ∀ q ∈ lw_privs_5, lw_okq q := List.forall_mem_cons.mpr ⟨lw_p64, List.forall_mem_cons.mpr ⟨lw_p65, List.forall_mem_cons.mpr ⟨lw_p66, List.forall_mem_cons.mpr ⟨lw_p67, List.forall_mem_cons.mpr ⟨lw_p68, List.forall_mem_cons.mpr ⟨lw_p69, List.forall_mem_cons.mpr ⟨lw_p70, List.forall_mem_cons.mpr ⟨lw_p71, List.forall_mem_cons.mpr ⟨lw_p72, List.forall_mem_cons.mpr ⟨lw_p73, List.forall_mem_cons.mpr ⟨lw_p74, List.forall_mem_cons.mpr ⟨lw_p75, List.forall_mem_cons.mpr ⟨lw_p76, List.forall_mem_cons.mpr ⟨lw_p77, List.forall_mem_cons.mpr ⟨lw_p78, List.forall_mem_cons.mpr ⟨lw_p79, fun _ h => absurd h List.not_mem_nil⟩⟩⟩⟩⟩⟩⟩⟩⟩⟩⟩⟩⟩⟩⟩⟩
theorem lw_p80 : lw_okq (⟨"DollTruceModel", "calls", "(III)V"⟩, 58) := ⟨⟨by decide +kernel, by decide +kernel⟩, List.mem_of_getElem? (i := 1119) (by decide +kernel), List.mem_of_getElem? (i := 1499) (by decide +kernel), List.mem_of_getElem? (i := 1500) (by decide +kernel)⟩
theorem lw_p81 : lw_okq (⟨"DollTruceModel", "careIn", "(I)I"⟩, 58) := ⟨⟨by decide +kernel, by decide +kernel⟩, List.mem_of_getElem? (i := 1119) (by decide +kernel), List.mem_of_getElem? (i := 1503) (by decide +kernel), List.mem_of_getElem? (i := 1504) (by decide +kernel)⟩
theorem lw_p82 : lw_okq (⟨"DollTruceModel", "within", "(III)I"⟩, 58) := ⟨⟨by decide +kernel, by decide +kernel⟩, List.mem_of_getElem? (i := 1119) (by decide +kernel), List.mem_of_getElem? (i := 1508) (by decide +kernel), List.mem_of_getElem? (i := 1509) (by decide +kernel)⟩
theorem lw_p83 : lw_okq (⟨"DollTruceModel", "hasLaw", "(I)Z"⟩, 58) := ⟨⟨by decide +kernel, by decide +kernel⟩, List.mem_of_getElem? (i := 1119) (by decide +kernel), List.mem_of_getElem? (i := 1512) (by decide +kernel), List.mem_of_getElem? (i := 1513) (by decide +kernel)⟩
theorem lw_p84 : lw_okq (⟨"DollTruceModel", "goes", "(I)Z"⟩, 58) := ⟨⟨by decide +kernel, by decide +kernel⟩, List.mem_of_getElem? (i := 1119) (by decide +kernel), List.mem_of_getElem? (i := 1516) (by decide +kernel), List.mem_of_getElem? (i := 1517) (by decide +kernel)⟩
theorem lw_p85 : lw_okq (⟨"DollTruceModel", "works", "(I)Z"⟩, 58) := ⟨⟨by decide +kernel, by decide +kernel⟩, List.mem_of_getElem? (i := 1119) (by decide +kernel), List.mem_of_getElem? (i := 1520) (by decide +kernel), List.mem_of_getElem? (i := 1521) (by decide +kernel)⟩
theorem lw_p86 : lw_okq (⟨"DollTruceModel", "callsCity", "(II)V"⟩, 58) := ⟨⟨by decide +kernel, by decide +kernel⟩, List.mem_of_getElem? (i := 1119) (by decide +kernel), List.mem_of_getElem? (i := 1539) (by decide +kernel), List.mem_of_getElem? (i := 1540) (by decide +kernel)⟩
theorem lw_p87 : lw_okq (⟨"DollTruceModel", "keepNow", "()V"⟩, 58) := ⟨⟨by decide +kernel, by decide +kernel⟩, List.mem_of_getElem? (i := 1119) (by decide +kernel), List.mem_of_getElem? (i := 1547) (by decide +kernel), List.mem_of_getElem? (i := 1548) (by decide +kernel)⟩
theorem lw_p88 : lw_okq (⟨"DollTruceModel", "copies", "(II)V"⟩, 58) := ⟨⟨by decide +kernel, by decide +kernel⟩, List.mem_of_getElem? (i := 1119) (by decide +kernel), List.mem_of_getElem? (i := 1551) (by decide +kernel), List.mem_of_getElem? (i := 1552) (by decide +kernel)⟩
theorem lw_p89 : lw_okq (⟨"DollTruceModel", "passes", "(IZ)V"⟩, 58) := ⟨⟨by decide +kernel, by decide +kernel⟩, List.mem_of_getElem? (i := 1119) (by decide +kernel), List.mem_of_getElem? (i := 1571) (by decide +kernel), List.mem_of_getElem? (i := 1572) (by decide +kernel)⟩
theorem lw_p90 : lw_okq (⟨"DollTruceModel", "comeMoths", "(IIZ)Z"⟩, 58) := ⟨⟨by decide +kernel, by decide +kernel⟩, List.mem_of_getElem? (i := 1119) (by decide +kernel), List.mem_of_getElem? (i := 1575) (by decide +kernel), List.mem_of_getElem? (i := 1576) (by decide +kernel)⟩
theorem lw_p91 : lw_okq (⟨"DollTruceModel", "draw", "(II)I"⟩, 58) := ⟨⟨by decide +kernel, by decide +kernel⟩, List.mem_of_getElem? (i := 1119) (by decide +kernel), List.mem_of_getElem? (i := 1579) (by decide +kernel), List.mem_of_getElem? (i := 1580) (by decide +kernel)⟩
theorem lw_p92 : lw_okq (⟨"DollTruceModel", "hurts", "(II)V"⟩, 58) := ⟨⟨by decide +kernel, by decide +kernel⟩, List.mem_of_getElem? (i := 1119) (by decide +kernel), List.mem_of_getElem? (i := 1585) (by decide +kernel), List.mem_of_getElem? (i := 1586) (by decide +kernel)⟩
theorem lw_p93 : lw_okq (⟨"DollTruceModel", "answers", "(II)V"⟩, 58) := ⟨⟨by decide +kernel, by decide +kernel⟩, List.mem_of_getElem? (i := 1119) (by decide +kernel), List.mem_of_getElem? (i := 1590) (by decide +kernel), List.mem_of_getElem? (i := 1591) (by decide +kernel)⟩
theorem lw_p94 : lw_okq (⟨"DollTruceModel", "answerOf", "(II)I"⟩, 58) := ⟨⟨by decide +kernel, by decide +kernel⟩, List.mem_of_getElem? (i := 1119) (by decide +kernel), List.mem_of_getElem? (i := 1594) (by decide +kernel), List.mem_of_getElem? (i := 1595) (by decide +kernel)⟩
theorem lw_p95 : lw_okq (⟨"DollTruceModel", "wasHurt", "(I)Z"⟩, 58) := ⟨⟨by decide +kernel, by decide +kernel⟩, List.mem_of_getElem? (i := 1119) (by decide +kernel), List.mem_of_getElem? (i := 1598) (by decide +kernel), List.mem_of_getElem? (i := 1599) (by decide +kernel)⟩
def lw_privs_6 : List (MethodName × Nat) := [(⟨"DollTruceModel", "calls", "(III)V"⟩, 58), (⟨"DollTruceModel", "careIn", "(I)I"⟩, 58), (⟨"DollTruceModel", "within", "(III)I"⟩, 58), (⟨"DollTruceModel", "hasLaw", "(I)Z"⟩, 58), (⟨"DollTruceModel", "goes", "(I)Z"⟩, 58), (⟨"DollTruceModel", "works", "(I)Z"⟩, 58), (⟨"DollTruceModel", "callsCity", "(II)V"⟩, 58), (⟨"DollTruceModel", "keepNow", "()V"⟩, 58), (⟨"DollTruceModel", "copies", "(II)V"⟩, 58), (⟨"DollTruceModel", "passes", "(IZ)V"⟩, 58), (⟨"DollTruceModel", "comeMoths", "(IIZ)Z"⟩, 58), (⟨"DollTruceModel", "draw", "(II)I"⟩, 58), (⟨"DollTruceModel", "hurts", "(II)V"⟩, 58), (⟨"DollTruceModel", "answers", "(II)V"⟩, 58), (⟨"DollTruceModel", "answerOf", "(II)I"⟩, 58), (⟨"DollTruceModel", "wasHurt", "(I)Z"⟩, 58)]
theorem lw_r6 : ∀ q ∈ lw_privs_6, lw_okq q := List.forall_mem_cons.mpr ⟨lw_p80, List.forall_mem_cons.mpr ⟨lw_p81, List.forall_mem_cons.mpr ⟨lw_p82, List.forall_mem_cons.mpr ⟨lw_p83, List.forall_mem_cons.mpr ⟨lw_p84, List.forall_mem_cons.mpr ⟨lw_p85, List.forall_mem_cons.mpr ⟨lw_p86, List.forall_mem_cons.mpr ⟨lw_p87, List.forall_mem_cons.mpr ⟨lw_p88, List.forall_mem_cons.mpr ⟨lw_p89, List.forall_mem_cons.mpr ⟨lw_p90, List.forall_mem_cons.mpr ⟨lw_p91, List.forall_mem_cons.mpr ⟨lw_p92, List.forall_mem_cons.mpr ⟨lw_p93, List.forall_mem_cons.mpr ⟨lw_p94, List.forall_mem_cons.mpr ⟨lw_p95, fun _ h => absurd h List.not_mem_nil⟩⟩⟩⟩⟩⟩⟩⟩⟩⟩⟩⟩⟩⟩⟩⟩
theorem lw_p96 : lw_okq (⟨"DollTruceModel", "runs", "(I)V"⟩, 58) := ⟨⟨by decide +kernel, by decide +kernel⟩, List.mem_of_getElem? (i := 1119) (by decide +kernel), List.mem_of_getElem? (i := 1606) (by decide +kernel), List.mem_of_getElem? (i := 1607) (by decide +kernel)⟩
theorem lw_p97 : lw_okq (⟨"DollTruceModel", "goesOn", "(I)V"⟩, 58) := ⟨⟨by decide +kernel, by decide +kernel⟩, List.mem_of_getElem? (i := 1119) (by decide +kernel), List.mem_of_getElem? (i := 1610) (by decide +kernel), List.mem_of_getElem? (i := 1611) (by decide +kernel)⟩
theorem lw_p98 : lw_okq (⟨"DollTruceModel", "breachesBoth", "(I)I"⟩, 58) := ⟨⟨by decide +kernel, by decide +kernel⟩, List.mem_of_getElem? (i := 1119) (by decide +kernel), List.mem_of_getElem? (i := 1614) (by decide +kernel), List.mem_of_getElem? (i := 1615) (by decide +kernel)⟩
theorem lw_p99 : lw_okq (⟨"DollTruceModel", "angerBoth", "(I)I"⟩, 58) := ⟨⟨by decide +kernel, by decide +kernel⟩, List.mem_of_getElem? (i := 1119) (by decide +kernel), List.mem_of_getElem? (i := 1626) (by decide +kernel), List.mem_of_getElem? (i := 1627) (by decide +kernel)⟩
theorem lw_p100 : lw_okq (⟨"DollTruceModel", "nurses", "(IIII)V"⟩, 58) := ⟨⟨by decide +kernel, by decide +kernel⟩, List.mem_of_getElem? (i := 1119) (by decide +kernel), List.mem_of_getElem? (i := 1650) (by decide +kernel), List.mem_of_getElem? (i := 1651) (by decide +kernel)⟩
theorem lw_p101 : lw_okq (⟨"DollTruceModel", "restOf", "(I)I"⟩, 58) := ⟨⟨by decide +kernel, by decide +kernel⟩, List.mem_of_getElem? (i := 1119) (by decide +kernel), List.mem_of_getElem? (i := 1666) (by decide +kernel), List.mem_of_getElem? (i := 1667) (by decide +kernel)⟩
theorem lw_p102 : lw_okq (⟨"DollTruceModel", "isRest", "(II)Z"⟩, 58) := ⟨⟨by decide +kernel, by decide +kernel⟩, List.mem_of_getElem? (i := 1119) (by decide +kernel), List.mem_of_getElem? (i := 1670) (by decide +kernel), List.mem_of_getElem? (i := 1671) (by decide +kernel)⟩
theorem lw_p103 : lw_okq (⟨"DollTruceModel", "hasOf", "(III)I"⟩, 58) := ⟨⟨by decide +kernel, by decide +kernel⟩, List.mem_of_getElem? (i := 1119) (by decide +kernel), List.mem_of_getElem? (i := 1674) (by decide +kernel), List.mem_of_getElem? (i := 1675) (by decide +kernel)⟩
theorem lw_p104 : lw_okq (⟨"DollTruceModel", "knownMany", "()I"⟩, 58) := ⟨⟨by decide +kernel, by decide +kernel⟩, List.mem_of_getElem? (i := 1119) (by decide +kernel), List.mem_of_getElem? (i := 1719) (by decide +kernel), List.mem_of_getElem? (i := 1720) (by decide +kernel)⟩
theorem lw_p105 : lw_okq (⟨"DollTruceModel", "fitsCare", "(I)Z"⟩, 58) := ⟨⟨by decide +kernel, by decide +kernel⟩, List.mem_of_getElem? (i := 1119) (by decide +kernel), List.mem_of_getElem? (i := 1723) (by decide +kernel), List.mem_of_getElem? (i := 1724) (by decide +kernel)⟩
theorem lw_p106 : lw_okq (⟨"DollTruceModel", "isSo", "(I)Z"⟩, 58) := ⟨⟨by decide +kernel, by decide +kernel⟩, List.mem_of_getElem? (i := 1119) (by decide +kernel), List.mem_of_getElem? (i := 1727) (by decide +kernel), List.mem_of_getElem? (i := 1728) (by decide +kernel)⟩
theorem lw_p107 : lw_okq (⟨"DollTruceModel", "hurtAll", "(I)I"⟩, 58) := ⟨⟨by decide +kernel, by decide +kernel⟩, List.mem_of_getElem? (i := 1119) (by decide +kernel), List.mem_of_getElem? (i := 1739) (by decide +kernel), List.mem_of_getElem? (i := 1740) (by decide +kernel)⟩
def lw_privs_7 : List (MethodName × Nat) := [(⟨"DollTruceModel", "runs", "(I)V"⟩, 58), (⟨"DollTruceModel", "goesOn", "(I)V"⟩, 58), (⟨"DollTruceModel", "breachesBoth", "(I)I"⟩, 58), (⟨"DollTruceModel", "angerBoth", "(I)I"⟩, 58), (⟨"DollTruceModel", "nurses", "(IIII)V"⟩, 58), (⟨"DollTruceModel", "restOf", "(I)I"⟩, 58), (⟨"DollTruceModel", "isRest", "(II)Z"⟩, 58), (⟨"DollTruceModel", "hasOf", "(III)I"⟩, 58), (⟨"DollTruceModel", "knownMany", "()I"⟩, 58), (⟨"DollTruceModel", "fitsCare", "(I)Z"⟩, 58), (⟨"DollTruceModel", "isSo", "(I)Z"⟩, 58), (⟨"DollTruceModel", "hurtAll", "(I)I"⟩, 58)]
theorem lw_r7 : ∀ q ∈ lw_privs_7, lw_okq q := List.forall_mem_cons.mpr ⟨lw_p96, List.forall_mem_cons.mpr ⟨lw_p97, List.forall_mem_cons.mpr ⟨lw_p98, List.forall_mem_cons.mpr ⟨lw_p99, List.forall_mem_cons.mpr ⟨lw_p100, List.forall_mem_cons.mpr ⟨lw_p101, List.forall_mem_cons.mpr ⟨lw_p102, List.forall_mem_cons.mpr ⟨lw_p103, List.forall_mem_cons.mpr ⟨lw_p104, List.forall_mem_cons.mpr ⟨lw_p105, List.forall_mem_cons.mpr ⟨lw_p106, List.forall_mem_cons.mpr ⟨lw_p107, fun _ h => absurd h List.not_mem_nil⟩⟩⟩⟩⟩⟩⟩⟩⟩⟩⟩⟩
def lw_privs : List (MethodName × Nat) := lw_privs_1 ++ (lw_privs_2 ++ (lw_privs_3 ++ (lw_privs_4 ++ (lw_privs_5 ++ (lw_privs_6 ++ (lw_privs_7))))))
def lw_tbl : List Cond := k2_sels lw_privs ++ tables_1
theorem lw_privs_ok : ∀ q ∈ lw_privs, lw_okq q := by
  show ∀ q ∈ lw_privs_1 ++ (lw_privs_2 ++ (lw_privs_3 ++ (lw_privs_4 ++ (lw_privs_5 ++ (lw_privs_6 ++ (lw_privs_7)))))), lw_okq q
  exact List.forall_mem_append.mpr ⟨lw_r1, List.forall_mem_append.mpr ⟨lw_r2, List.forall_mem_append.mpr ⟨lw_r3, List.forall_mem_append.mpr ⟨lw_r4, List.forall_mem_append.mpr ⟨lw_r5, List.forall_mem_append.mpr ⟨lw_r6, lw_r7⟩⟩⟩⟩⟩⟩
def RX0 : String := "DollTruce$Deeds"
def TX0 : u_T := fun k => match k with
  | 0 => ("DollTruce$Deeds", "size", "I", false)
  | 1 => ("DollTruce$Deeds", "kind", "[I", true)
  | 2 => ("DollTruce$Deeds", "first", "[I", true)
  | _ => ("DollTruce$Deeds", "second", "[I", true)
def tyX0 : Nat → FieldType := fun k => match k with
  | 0 => .int
  | 1 => .array .int
  | 2 => .array .int
  | _ => .array .int
theorem nmX0 : ∀ a, a < 4 → ∀ b, b < 4 → a ≠ b → (TX0 a).2.1 ≠ (TX0 b).2.1 := by decide +kernel
theorem tyX0_ok : ∀ k, k < 4 → parseFieldDescriptor (TX0 k).2.2.1 = some (tyX0 k) := by decide +kernel
abbrev cX0_init : ByteArray := prog_2_method_1_code
def yX0_init : MethodName := ⟨RX0, "<init>", "()V"⟩
abbrev cX0_add : ByteArray := prog_2_method_2_code
def yX0_add : MethodName := ⟨RX0, "add", "(III)V"⟩
abbrev cX0_dropOldest : ByteArray := prog_2_method_3_code
def yX0_dropOldest : MethodName := ⟨RX0, "dropOldest", "()V"⟩
abbrev cX0_undoIn : ByteArray := prog_2_method_4_code
def yX0_undoIn : MethodName := ⟨RX0, "undoIn", "(LDollTruce$World;)V"⟩
def RX1 : String := "DollTruce$Law"
def TX1 : u_T := fun k => match k with
  | 0 => ("DollTruce$Law", "told", "Z", false)
  | 1 => ("DollTruce$Law", "size", "I", false)
  | 2 => ("DollTruce$Law", "row", "[I", true)
  | _ => ("DollTruce$Law", "values", "[J", true)
def tyX1 : Nat → FieldType := fun k => match k with
  | 0 => .boolean
  | 1 => .int
  | 2 => .array .int
  | _ => .array .long
theorem nmX1 : ∀ a, a < 4 → ∀ b, b < 4 → a ≠ b → (TX1 a).2.1 ≠ (TX1 b).2.1 := by decide +kernel
theorem tyX1_ok : ∀ k, k < 4 → parseFieldDescriptor (TX1 k).2.2.1 = some (tyX1 k) := by decide +kernel
abbrev cX1_init : ByteArray := prog_3_method_1_code
def yX1_init : MethodName := ⟨RX1, "<init>", "()V"⟩
abbrev cX1_clear : ByteArray := prog_3_method_2_code
def yX1_clear : MethodName := ⟨RX1, "clear", "()V"⟩
abbrev cX1_take : ByteArray := prog_3_method_3_code
def yX1_take : MethodName := ⟨RX1, "take", "(LDollTruce$Law;)V"⟩
abbrev cX1_add : ByteArray := prog_3_method_4_code
def yX1_add : MethodName := ⟨RX1, "add", "(I)Z"⟩
abbrev cX1_valueFor : ByteArray := prog_3_method_5_code
def yX1_valueFor : MethodName := ⟨RX1, "valueFor", "([I)J"⟩
abbrev cX1_joined : ByteArray := prog_3_method_6_code
def yX1_joined : MethodName := ⟨RX1, "joined", "(IJJ)J"⟩
def RX2 : String := "DollTruce$Notes"
def TX2 : u_T := fun k => match k with
  | 0 => ("DollTruce$Notes", "size", "I", false)
  | 1 => ("DollTruce$Notes", "knownBy", "I", false)
  | 2 => ("DollTruce$Notes", "struckOne", "[I", true)
  | 3 => ("DollTruce$Notes", "weeks", "[I", true)
  | 4 => ("DollTruce$Notes", "doll", "[I", true)
  | 5 => ("DollTruce$Notes", "hurt", "[I", true)
  | 6 => ("DollTruce$Notes", "atLeast", "[Z", true)
  | _ => ("DollTruce$Notes", "struck", "[Z", true)
def tyX2 : Nat → FieldType := fun k => match k with
  | 0 => .int
  | 1 => .int
  | 2 => .array .int
  | 3 => .array .int
  | 4 => .array .int
  | 5 => .array .int
  | 6 => .array .boolean
  | _ => .array .boolean
theorem nmX2 : ∀ a, a < 8 → ∀ b, b < 8 → a ≠ b → (TX2 a).2.1 ≠ (TX2 b).2.1 := by decide +kernel
theorem tyX2_ok : ∀ k, k < 8 → parseFieldDescriptor (TX2 k).2.2.1 = some (tyX2 k) := by decide +kernel
abbrev cX2_init : ByteArray := prog_4_method_1_code
def yX2_init : MethodName := ⟨RX2, "<init>", "()V"⟩
abbrev cX2_clear : ByteArray := prog_4_method_2_code
def yX2_clear : MethodName := ⟨RX2, "clear", "()V"⟩
abbrev cX2_addSeen : ByteArray := prog_4_method_3_code
def yX2_addSeen : MethodName := ⟨RX2, "addSeen", "(IIIZ)I"⟩
abbrev cX2_addStrike : ByteArray := prog_4_method_4_code
def yX2_addStrike : MethodName := ⟨RX2, "addStrike", "(I)I"⟩
abbrev cX2_knownSize : ByteArray := prog_4_method_5_code
def yX2_knownSize : MethodName := ⟨RX2, "knownSize", "()I"⟩
abbrev cX2_strike : ByteArray := prog_4_method_6_code
def yX2_strike : MethodName := ⟨RX2, "strike", "()V"⟩
abbrev cX2_areSoIn : ByteArray := prog_4_method_7_code
def yX2_areSoIn : MethodName := ⟨RX2, "areSoIn", "(LDollTruce$World;)Z"⟩
abbrev cX2_isSeenAndKnown : ByteArray := prog_4_method_8_code
def yX2_isSeenAndKnown : MethodName := ⟨RX2, "isSeenAndKnown", "(I)Z"⟩
abbrev cX2_lastWeekKnown : ByteArray := prog_4_method_9_code
def yX2_lastWeekKnown : MethodName := ⟨RX2, "lastWeekKnown", "()I"⟩
abbrev cX2_areSoBehind : ByteArray := prog_4_method_10_code
def yX2_areSoBehind : MethodName := ⟨RX2, "areSoBehind", "(ILDollTruce$World;)Z"⟩
def RX3 : String := "DollTruce$Nursing"
def TX3 : u_T := fun k => match k with
  | 0 => ("DollTruce$Nursing", "dolls", "I", false)
  | 1 => ("DollTruce$Nursing", "leastAnger", "I", false)
  | 2 => ("DollTruce$Nursing", "chosen", "[I", true)
  | 3 => ("DollTruce$Nursing", "foundCity", "I", false)
  | 4 => ("DollTruce$Nursing", "foundWeeks", "I", false)
  | 5 => ("DollTruce$Nursing", "nurses", "I", false)
  | 6 => ("DollTruce$Nursing", "doll", "[I", true)
  | _ => ("DollTruce$Nursing", "nurse", "[I", true)
def tyX3 : Nat → FieldType := fun k => match k with
  | 0 => .int
  | 1 => .int
  | 2 => .array .int
  | 3 => .int
  | 4 => .int
  | 5 => .int
  | 6 => .array .int
  | _ => .array .int
theorem nmX3 : ∀ a, a < 8 → ∀ b, b < 8 → a ≠ b → (TX3 a).2.1 ≠ (TX3 b).2.1 := by decide +kernel
theorem tyX3_ok : ∀ k, k < 8 → parseFieldDescriptor (TX3 k).2.2.1 = some (tyX3 k) := by decide +kernel
abbrev cX3_init : ByteArray := prog_5_method_1_code
def yX3_init : MethodName := ⟨RX3, "<init>", "()V"⟩
abbrev cX3_forget : ByteArray := prog_5_method_2_code
def yX3_forget : MethodName := ⟨RX3, "forget", "()V"⟩
abbrev cX3_search : ByteArray := prog_5_method_3_code
def yX3_search : MethodName := ⟨RX3, "search", "(LDollTruce$World;LDollTruce$World;II)V"⟩
abbrev cX3_findDolls : ByteArray := prog_5_method_4_code
def yX3_findDolls : MethodName := ⟨RX3, "findDolls", "(LDollTruce$World;I)V"⟩
abbrev cX3_findNurses : ByteArray := prog_5_method_5_code
def yX3_findNurses : MethodName := ⟨RX3, "findNurses", "(LDollTruce$World;I)V"⟩
abbrev cX3_giveBy : ByteArray := prog_5_method_6_code
def yX3_giveBy : MethodName := ⟨RX3, "giveBy", "(ILDollTruce$World;)V"⟩
abbrev cX3_choose : ByteArray := prog_5_method_7_code
def yX3_choose : MethodName := ⟨RX3, "choose", "(LDollTruce$World;)V"⟩
def RX4 : String := "DollTruce$Reader"
def TX4 : u_T := fun k => match k with
  | 0 => ("DollTruce$Reader", "tokens", "LDollTruce$Tokens;", true)
  | 1 => ("DollTruce$Reader", "read", "LDollTruce$Told;", true)
  | 2 => ("DollTruce$Reader", "fault", "I", false)
  | 3 => ("DollTruce$Reader", "faultPlace", "I", false)
  | 4 => ("DollTruce$Reader", "waiting", "[I", true)
  | 5 => ("DollTruce$Reader", "at", "I", false)
  | 6 => ("DollTruce$Reader", "waits", "I", false)
  | 7 => ("DollTruce$Reader", "open", "I", false)
  | _ => ("DollTruce$Reader", "partWanted", "Z", false)
def tyX4 : Nat → FieldType := fun k => match k with
  | 0 => .object "DollTruce$Tokens"
  | 1 => .object "DollTruce$Told"
  | 2 => .int
  | 3 => .int
  | 4 => .array .int
  | 5 => .int
  | 6 => .int
  | 7 => .int
  | _ => .boolean
theorem nmX4 : ∀ a, a < 9 → ∀ b, b < 9 → a ≠ b → (TX4 a).2.1 ≠ (TX4 b).2.1 := by decide +kernel
theorem tyX4_ok : ∀ k, k < 9 → parseFieldDescriptor (TX4 k).2.2.1 = some (tyX4 k) := by decide +kernel
abbrev cX4_init : ByteArray := prog_6_method_1_code
def yX4_init : MethodName := ⟨RX4, "<init>", "()V"⟩
abbrev cX4_readLines : ByteArray := prog_6_method_2_code
def yX4_readLines : MethodName := ⟨RX4, "readLines", "()I"⟩
abbrev cX4_kind : ByteArray := prog_6_method_3_code
def yX4_kind : MethodName := ⟨RX4, "kind", "()I"⟩
abbrev cX4_value : ByteArray := prog_6_method_4_code
def yX4_value : MethodName := ⟨RX4, "value", "()I"⟩
abbrev cX4_wrong : ByteArray := prog_6_method_5_code
def yX4_wrong : MethodName := ⟨RX4, "wrong", "(I)Z"⟩
abbrev cX4_pass : ByteArray := prog_6_method_6_code
def yX4_pass : MethodName := ⟨RX4, "pass", "(I)Z"⟩
abbrev cX4_readLine : ByteArray := prog_6_method_7_code
def yX4_readLine : MethodName := ⟨RX4, "readLine", "()Z"⟩
abbrev cX4_readNurse : ByteArray := prog_6_method_8_code
def yX4_readNurse : MethodName := ⟨RX4, "readNurse", "()Z"⟩
abbrev cX4_readDoll : ByteArray := prog_6_method_9_code
def yX4_readDoll : MethodName := ⟨RX4, "readDoll", "()Z"⟩
abbrev cX4_readSetting : ByteArray := prog_6_method_10_code
def yX4_readSetting : MethodName := ⟨RX4, "readSetting", "(I)Z"⟩
abbrev cX4_readNewName : ByteArray := prog_6_method_11_code
def yX4_readNewName : MethodName := ⟨RX4, "readNewName", "([II)Z"⟩
abbrev cX4_readNumber : ByteArray := prog_6_method_12_code
def yX4_readNumber : MethodName := ⟨RX4, "readNumber", "([IIII)Z"⟩
abbrev cX4_readLaw : ByteArray := prog_6_method_13_code
def yX4_readLaw : MethodName := ⟨RX4, "readLaw", "()Z"⟩
abbrev cX4_readPart : ByteArray := prog_6_method_14_code
def yX4_readPart : MethodName := ⟨RX4, "readPart", "(LDollTruce$Law;)Z"⟩
abbrev cX4_readBehindPart : ByteArray := prog_6_method_15_code
def yX4_readBehindPart : MethodName := ⟨RX4, "readBehindPart", "(LDollTruce$Law;)Z"⟩
abbrev cX4_addKnot : ByteArray := prog_6_method_16_code
def yX4_addKnot : MethodName := ⟨RX4, "addKnot", "()Z"⟩
abbrev cX4_letWait : ByteArray := prog_6_method_17_code
def yX4_letWait : MethodName := ⟨RX4, "letWait", "(I)Z"⟩
abbrev cX4_strengthWaiting : ByteArray := prog_6_method_18_code
def yX4_strengthWaiting : MethodName := ⟨RX4, "strengthWaiting", "()I"⟩
abbrev cX4_settleStronger : ByteArray := prog_6_method_19_code
def yX4_settleStronger : MethodName := ⟨RX4, "settleStronger", "(LDollTruce$Law;I)V"⟩
abbrev cX4_strengthOf : ByteArray := prog_6_method_20_code
def yX4_strengthOf : MethodName := ⟨RX4, "strengthOf", "(I)I"⟩
def RX5 : String := "DollTruce$Tape"
def TX5 : u_T := fun k => match k with
  | 0 => ("DollTruce$Tape", "bytes", "[I", true)
  | _ => ("DollTruce$Tape", "size", "I", false)
def tyX5 : Nat → FieldType := fun k => match k with
  | 0 => .array .int
  | _ => .int
theorem nmX5 : ∀ a, a < 2 → ∀ b, b < 2 → a ≠ b → (TX5 a).2.1 ≠ (TX5 b).2.1 := by decide +kernel
theorem tyX5_ok : ∀ k, k < 2 → parseFieldDescriptor (TX5 k).2.2.1 = some (tyX5 k) := by decide +kernel
abbrev cX5_init : ByteArray := prog_7_method_1_code
def yX5_init : MethodName := ⟨RX5, "<init>", "()V"⟩
abbrev cX5_put : ByteArray := prog_7_method_2_code
def yX5_put : MethodName := ⟨RX5, "put", "(I)V"⟩
def RX6 : String := "DollTruce$Tokens"
def TX6 : u_T := fun k => match k with
  | 0 => ("DollTruce$Tokens", "kind", "[I", true)
  | 1 => ("DollTruce$Tokens", "place", "[I", true)
  | 2 => ("DollTruce$Tokens", "value", "[I", true)
  | _ => ("DollTruce$Tokens", "size", "I", false)
def tyX6 : Nat → FieldType := fun k => match k with
  | 0 => .array .int
  | 1 => .array .int
  | 2 => .array .int
  | _ => .int
theorem nmX6 : ∀ a, a < 4 → ∀ b, b < 4 → a ≠ b → (TX6 a).2.1 ≠ (TX6 b).2.1 := by decide +kernel
theorem tyX6_ok : ∀ k, k < 4 → parseFieldDescriptor (TX6 k).2.2.1 = some (tyX6 k) := by decide +kernel
abbrev cX6_init : ByteArray := prog_8_method_1_code
def yX6_init : MethodName := ⟨RX6, "<init>", "()V"⟩
abbrev cX6_cut : ByteArray := prog_8_method_2_code
def yX6_cut : MethodName := ⟨RX6, "cut", "([II)V"⟩
abbrev cX6_add : ByteArray := prog_8_method_3_code
def yX6_add : MethodName := ⟨RX6, "add", "(III)V"⟩
abbrev cX6_cutWord : ByteArray := prog_8_method_4_code
def yX6_cutWord : MethodName := ⟨RX6, "cutWord", "([III)I"⟩
abbrev cX6_cutNumber : ByteArray := prog_8_method_5_code
def yX6_cutNumber : MethodName := ⟨RX6, "cutNumber", "([III)I"⟩
abbrev cX6_cutSign : ByteArray := prog_8_method_6_code
def yX6_cutSign : MethodName := ⟨RX6, "cutSign", "([III)I"⟩
abbrev cX6_pairKind : ByteArray := prog_8_method_7_code
def yX6_pairKind : MethodName := ⟨RX6, "pairKind", "(II)I"⟩
abbrev cX6_signKind : ByteArray := prog_8_method_8_code
def yX6_signKind : MethodName := ⟨RX6, "signKind", "(I)I"⟩
abbrev cX6_wordKind : ByteArray := prog_8_method_9_code
def yX6_wordKind : MethodName := ⟨RX6, "wordKind", "(I)I"⟩
abbrev cX6_lettersOf : ByteArray := prog_8_method_10_code
def yX6_lettersOf : MethodName := ⟨RX6, "lettersOf", "(I)I"⟩
abbrev cX6_isLetter : ByteArray := prog_8_method_11_code
def yX6_isLetter : MethodName := ⟨RX6, "isLetter", "(I)Z"⟩
abbrev cX6_isDigit : ByteArray := prog_8_method_12_code
def yX6_isDigit : MethodName := ⟨RX6, "isDigit", "(I)Z"⟩
def RX7 : String := "DollTruce$Told"
def TX7 : u_T := fun k => match k with
  | 0 => ("DollTruce$Told", "nurses", "I", false)
  | 1 => ("DollTruce$Told", "dolls", "I", false)
  | 2 => ("DollTruce$Told", "knots", "I", false)
  | 3 => ("DollTruce$Told", "nurseName", "[I", true)
  | 4 => ("DollTruce$Told", "nurseCity", "[I", true)
  | 5 => ("DollTruce$Told", "nurseCare", "[I", true)
  | 6 => ("DollTruce$Told", "dollName", "[I", true)
  | 7 => ("DollTruce$Told", "dollNurse", "[I", true)
  | 8 => ("DollTruce$Told", "dollCity", "[I", true)
  | 9 => ("DollTruce$Told", "love", "[I", true)
  | 10 => ("DollTruce$Told", "worth", "[I", true)
  | 11 => ("DollTruce$Told", "cityBits", "[I", true)
  | 12 => ("DollTruce$Told", "settings", "[I", true)
  | 13 => ("DollTruce$Told", "settingTold", "[Z", true)
  | _ => ("DollTruce$Told", "laws", "[LDollTruce$Law;", true)
def tyX7 : Nat → FieldType := fun k => match k with
  | 0 => .int
  | 1 => .int
  | 2 => .int
  | 3 => .array .int
  | 4 => .array .int
  | 5 => .array .int
  | 6 => .array .int
  | 7 => .array .int
  | 8 => .array .int
  | 9 => .array .int
  | 10 => .array .int
  | 11 => .array .int
  | 12 => .array .int
  | 13 => .array .boolean
  | _ => .array (.object "DollTruce$Law")
theorem nmX7 : ∀ a, a < 15 → ∀ b, b < 15 → a ≠ b → (TX7 a).2.1 ≠ (TX7 b).2.1 := by decide +kernel
theorem tyX7_ok : ∀ k, k < 15 → parseFieldDescriptor (TX7 k).2.2.1 = some (tyX7 k) := by decide +kernel
abbrev cX7_init : ByteArray := prog_9_method_1_code
def yX7_init : MethodName := ⟨RX7, "<init>", "()V"⟩
abbrev cX7_clear : ByteArray := prog_9_method_2_code
def yX7_clear : MethodName := ⟨RX7, "clear", "()V"⟩
abbrev cX7_take : ByteArray := prog_9_method_3_code
def yX7_take : MethodName := ⟨RX7, "take", "(LDollTruce$Told;)V"⟩
abbrev cX7_addDoll : ByteArray := prog_9_method_4_code
def yX7_addDoll : MethodName := ⟨RX7, "addDoll", "(I)V"⟩
abbrev cX7_sumOf : ByteArray := prog_9_method_5_code
def yX7_sumOf : MethodName := ⟨RX7, "sumOf", "([II)I"⟩
def RX8 : String := "DollTruce$World"
def TX8 : u_T := fun k => match k with
  | 0 => ("DollTruce$World", "week", "I", false)
  | 1 => ("DollTruce$World", "held", "I", false)
  | 2 => ("DollTruce$World", "mothsCame", "I", false)
  | 3 => ("DollTruce$World", "number", "J", false)
  | 4 => ("DollTruce$World", "nurseOf", "[I", true)
  | 5 => ("DollTruce$World", "hurt", "[I", true)
  | 6 => ("DollTruce$World", "fond", "[I", true)
  | 7 => ("DollTruce$World", "care", "[I", true)
  | 8 => ("DollTruce$World", "anger", "[I", true)
  | 9 => ("DollTruce$World", "breaches", "[I", true)
  | 10 => ("DollTruce$World", "told", "LDollTruce$Told;", true)
  | 11 => ("DollTruce$World", "names", "[I", true)
  | _ => ("DollTruce$World", "hurtThisWeek", "I", false)
def tyX8 : Nat → FieldType := fun k => match k with
  | 0 => .int
  | 1 => .int
  | 2 => .int
  | 3 => .long
  | 4 => .array .int
  | 5 => .array .int
  | 6 => .array .int
  | 7 => .array .int
  | 8 => .array .int
  | 9 => .array .int
  | 10 => .object "DollTruce$Told"
  | 11 => .array .int
  | _ => .int
theorem nmX8 : ∀ a, a < 13 → ∀ b, b < 13 → a ≠ b → (TX8 a).2.1 ≠ (TX8 b).2.1 := by decide +kernel
theorem tyX8_ok : ∀ k, k < 13 → parseFieldDescriptor (TX8 k).2.2.1 = some (tyX8 k) := by decide +kernel
abbrev cX8_init : ByteArray := prog_10_method_1_code
def yX8_init : MethodName := ⟨RX8, "<init>", "(LDollTruce$Told;)V"⟩
abbrev cX8_begin : ByteArray := prog_10_method_2_code
def yX8_begin : MethodName := ⟨RX8, "begin", "()V"⟩
abbrev cX8_take : ByteArray := prog_10_method_3_code
def yX8_take : MethodName := ⟨RX8, "take", "(LDollTruce$World;)V"⟩
abbrev cX8_run : ByteArray := prog_10_method_4_code
def yX8_run : MethodName := ⟨RX8, "run", "(II)V"⟩
abbrev cX8_letMothsCome : ByteArray := prog_10_method_5_code
def yX8_letMothsCome : MethodName := ⟨RX8, "letMothsCome", "(Z)V"⟩
abbrev cX8_isDrawn : ByteArray := prog_10_method_6_code
def yX8_isDrawn : MethodName := ⟨RX8, "isDrawn", "(I)Z"⟩
abbrev cX8_hurtOne : ByteArray := prog_10_method_7_code
def yX8_hurtOne : MethodName := ⟨RX8, "hurtOne", "(I)V"⟩
abbrev cX8_answerBreaches : ByteArray := prog_10_method_8_code
def yX8_answerBreaches : MethodName := ⟨RX8, "answerBreaches", "()V"⟩
abbrev cX8_forgive : ByteArray := prog_10_method_9_code
def yX8_forgive : MethodName := ⟨RX8, "forgive", "()V"⟩
abbrev cX8_growFond : ByteArray := prog_10_method_10_code
def yX8_growFond : MethodName := ⟨RX8, "growFond", "()V"⟩
abbrev cX8_oddsFor : ByteArray := prog_10_method_11_code
def yX8_oddsFor : MethodName := ⟨RX8, "oddsFor", "(II)I"⟩
abbrev cX8_dollLaw : ByteArray := prog_10_method_12_code
def yX8_dollLaw : MethodName := ⟨RX8, "dollLaw", "(III)J"⟩
abbrev cX8_calmLaw : ByteArray := prog_10_method_13_code
def yX8_calmLaw : MethodName := ⟨RX8, "calmLaw", "(I)J"⟩
abbrev cX8_within : ByteArray := prog_10_method_14_code
def yX8_within : MethodName := ⟨RX8, "within", "(JI)I"⟩
abbrev cX8_isHeld : ByteArray := prog_10_method_15_code
def yX8_isHeld : MethodName := ⟨RX8, "isHeld", "(I)Z"⟩
abbrev cX8_careFor : ByteArray := prog_10_method_16_code
def yX8_careFor : MethodName := ⟨RX8, "careFor", "(I)I"⟩
abbrev cX8_holds : ByteArray := prog_10_method_17_code
def yX8_holds : MethodName := ⟨RX8, "holds", "(I)I"⟩
abbrev cX8_ownHeld : ByteArray := prog_10_method_18_code
def yX8_ownHeld : MethodName := ⟨RX8, "ownHeld", "(I)I"⟩
abbrev cX8_mostLoved : ByteArray := prog_10_method_19_code
def yX8_mostLoved : MethodName := ⟨RX8, "mostLoved", "(I)I"⟩
abbrev cX8_heldBy : ByteArray := prog_10_method_20_code
def yX8_heldBy : MethodName := ⟨RX8, "heldBy", "(I)I"⟩
abbrev cX8_hurtOfAll : ByteArray := prog_10_method_21_code
def yX8_hurtOfAll : MethodName := ⟨RX8, "hurtOfAll", "()I"⟩
abbrev cX8_angerOfBoth : ByteArray := prog_10_method_22_code
def yX8_angerOfBoth : MethodName := ⟨RX8, "angerOfBoth", "()I"⟩
abbrev cX8_breachesOfBoth : ByteArray := prog_10_method_23_code
def yX8_breachesOfBoth : MethodName := ⟨RX8, "breachesOfBoth", "()I"⟩
abbrev cX8_sendHome : ByteArray := prog_10_method_24_code
def yX8_sendHome : MethodName := ⟨RX8, "sendHome", "(I)V"⟩
abbrev cX8_hold : ByteArray := prog_10_method_25_code
def yX8_hold : MethodName := ⟨RX8, "hold", "(I)V"⟩
abbrev cX8_careForAll : ByteArray := prog_10_method_26_code
def yX8_careForAll : MethodName := ⟨RX8, "careForAll", "(I)V"⟩
def RX9 : String := "DollTruce"
def TX9 : u_T := fun k => match k with
  | 0 => ("DollTruce", "tape", "LDollTruce$Tape;", true)
  | 1 => ("DollTruce", "reader", "LDollTruce$Reader;", true)
  | 2 => ("DollTruce", "told", "LDollTruce$Told;", true)
  | 3 => ("DollTruce", "now", "LDollTruce$World;", true)
  | 4 => ("DollTruce", "image", "LDollTruce$World;", true)
  | 5 => ("DollTruce", "trial", "LDollTruce$World;", true)
  | 6 => ("DollTruce", "notes", "LDollTruce$Notes;", true)
  | 7 => ("DollTruce", "deeds", "LDollTruce$Deeds;", true)
  | 8 => ("DollTruce", "nursing", "LDollTruce$Nursing;", true)
  | _ => ("DollTruce", "imageKept", "Z", false)
def tyX9 : Nat → FieldType := fun k => match k with
  | 0 => .object "DollTruce$Tape"
  | 1 => .object "DollTruce$Reader"
  | 2 => .object "DollTruce$Told"
  | 3 => .object "DollTruce$World"
  | 4 => .object "DollTruce$World"
  | 5 => .object "DollTruce$World"
  | 6 => .object "DollTruce$Notes"
  | 7 => .object "DollTruce$Deeds"
  | 8 => .object "DollTruce$Nursing"
  | _ => .boolean
theorem nmX9 : ∀ a, a < 10 → ∀ b, b < 10 → a ≠ b → (TX9 a).2.1 ≠ (TX9 b).2.1 := by decide +kernel
theorem tyX9_ok : ∀ k, k < 10 → parseFieldDescriptor (TX9 k).2.2.1 = some (tyX9 k) := by decide +kernel
abbrev cX9_init : ByteArray := prog_1_method_1_code
def yX9_init : MethodName := ⟨RX9, "<init>", "()V"⟩
abbrev cX9_feed : ByteArray := prog_1_method_2_code
def yX9_feed : MethodName := ⟨RX9, "feed", "(IIIII)I"⟩
abbrev cX9_text : ByteArray := prog_1_method_3_code
def yX9_text : MethodName := ⟨RX9, "text", "(I)I"⟩
abbrev cX9_fault : ByteArray := prog_1_method_4_code
def yX9_fault : MethodName := ⟨RX9, "fault", "(I)I"⟩
abbrev cX9_named : ByteArray := prog_1_method_5_code
def yX9_named : MethodName := ⟨RX9, "named", "(II)I"⟩
abbrev cX9_doll : ByteArray := prog_1_method_6_code
def yX9_doll : MethodName := ⟨RX9, "doll", "(II)I"⟩
abbrev cX9_nurse : ByteArray := prog_1_method_7_code
def yX9_nurse : MethodName := ⟨RX9, "nurse", "(II)I"⟩
abbrev cX9_city : ByteArray := prog_1_method_8_code
def yX9_city : MethodName := ⟨RX9, "city", "(II)I"⟩
abbrev cX9_moths : ByteArray := prog_1_method_9_code
def yX9_moths : MethodName := ⟨RX9, "moths", "(I)I"⟩
abbrev cX9_law : ByteArray := prog_1_method_10_code
def yX9_law : MethodName := ⟨RX9, "law", "(II)J"⟩
abbrev cX9_mend : ByteArray := prog_1_method_11_code
def yX9_mend : MethodName := ⟨RX9, "mend", "(I)I"⟩
abbrev cX9_exchange : ByteArray := prog_1_method_12_code
def yX9_exchange : MethodName := ⟨RX9, "exchange", "(II)Z"⟩
abbrev cX9_give : ByteArray := prog_1_method_13_code
def yX9_give : MethodName := ⟨RX9, "give", "(II)Z"⟩
abbrev cX9_tea : ByteArray := prog_1_method_14_code
def yX9_tea : MethodName := ⟨RX9, "tea", "(I)I"⟩
abbrev cX9_go : ByteArray := prog_1_method_15_code
def yX9_go : MethodName := ⟨RX9, "go", "(I)I"⟩
abbrev cX9_ahead : ByteArray := prog_1_method_16_code
def yX9_ahead : MethodName := ⟨RX9, "ahead", "(III)I"⟩
abbrev cX9_firstBreach : ByteArray := prog_1_method_17_code
def yX9_firstBreach : MethodName := ⟨RX9, "firstBreach", "()I"⟩
abbrev cX9_quiet : ByteArray := prog_1_method_18_code
def yX9_quiet : MethodName := ⟨RX9, "quiet", "()I"⟩
abbrev cX9_best : ByteArray := prog_1_method_19_code
def yX9_best : MethodName := ⟨RX9, "best", "(III)I"⟩
abbrev cX9_enough : ByteArray := prog_1_method_20_code
def yX9_enough : MethodName := ⟨RX9, "enough", "(II)I"⟩
abbrev cX9_nursing : ByteArray := prog_1_method_21_code
def yX9_nursing : MethodName := ⟨RX9, "nursing", "(III)I"⟩
abbrev cX9_rests : ByteArray := prog_1_method_22_code
def yX9_rests : MethodName := ⟨RX9, "rests", "()I"⟩
abbrev cX9_rest : ByteArray := prog_1_method_23_code
def yX9_rest : MethodName := ⟨RX9, "rest", "(I)I"⟩
abbrev cX9_whole : ByteArray := prog_1_method_24_code
def yX9_whole : MethodName := ⟨RX9, "whole", "(III)J"⟩
abbrev cX9_lists : ByteArray := prog_1_method_25_code
def yX9_lists : MethodName := ⟨RX9, "lists", "(III)I"⟩
abbrev cX9_stays : ByteArray := prog_1_method_26_code
def yX9_stays : MethodName := ⟨RX9, "stays", "()I"⟩
abbrev cX9_worst : ByteArray := prog_1_method_27_code
def yX9_worst : MethodName := ⟨RX9, "worst", "()I"⟩
abbrev cX9_until : ByteArray := prog_1_method_28_code
def yX9_until : MethodName := ⟨RX9, "until", "(II)I"⟩
abbrev cX9_safest : ByteArray := prog_1_method_29_code
def yX9_safest : MethodName := ⟨RX9, "safest", "(I)I"⟩
abbrev cX9_answersOn : ByteArray := prog_1_method_30_code
def yX9_answersOn : MethodName := ⟨RX9, "answersOn", "(I)I"⟩
abbrev cX9_note : ByteArray := prog_1_method_31_code
def yX9_note : MethodName := ⟨RX9, "note", "(IIIZ)I"⟩
abbrev cX9_out : ByteArray := prog_1_method_32_code
def yX9_out : MethodName := ⟨RX9, "out", "(I)I"⟩
abbrev cX9_known : ByteArray := prog_1_method_33_code
def yX9_known : MethodName := ⟨RX9, "known", "(I)Z"⟩
abbrev cX9_cares : ByteArray := prog_1_method_34_code
def yX9_cares : MethodName := ⟨RX9, "cares", "(I)I"⟩
abbrev cX9_chance : ByteArray := prog_1_method_35_code
def yX9_chance : MethodName := ⟨RX9, "chance", "(III)I"⟩
abbrev cX9_tried : ByteArray := prog_1_method_36_code
def yX9_tried : MethodName := ⟨RX9, "tried", "(III)I"⟩
abbrev cX9_undo : ByteArray := prog_1_method_37_code
def yX9_undo : MethodName := ⟨RX9, "undo", "()I"⟩
abbrev cX9_keep : ByteArray := prog_1_method_38_code
def yX9_keep : MethodName := ⟨RX9, "keep", "()I"⟩
abbrev cX9_back : ByteArray := prog_1_method_39_code
def yX9_back : MethodName := ⟨RX9, "back", "()I"⟩
abbrev cX9_count : ByteArray := prog_1_method_40_code
def yX9_count : MethodName := ⟨RX9, "count", "(I)I"⟩
abbrev cX9_settle : ByteArray := prog_1_method_41_code
def yX9_settle : MethodName := ⟨RX9, "settle", "()V"⟩
abbrev cX9_goneAhead : ByteArray := prog_1_method_42_code
def yX9_goneAhead : MethodName := ⟨RX9, "goneAhead", "(I)LDollTruce$World;"⟩
abbrev cX9_canBeExchanged : ByteArray := prog_1_method_43_code
def yX9_canBeExchanged : MethodName := ⟨RX9, "canBeExchanged", "(III)Z"⟩
abbrev cX9_isRest : ByteArray := prog_1_method_44_code
def yX9_isRest : MethodName := ⟨RX9, "isRest", "(II)Z"⟩
abbrev cX9_gain : ByteArray := prog_1_method_45_code
def yX9_gain : MethodName := ⟨RX9, "gain", "(III)I"⟩
abbrev cX9_isNurse : ByteArray := prog_1_method_46_code
def yX9_isNurse : MethodName := ⟨RX9, "isNurse", "(I)Z"⟩
abbrev cX9_isDoll : ByteArray := prog_1_method_47_code
def yX9_isDoll : MethodName := ⟨RX9, "isDoll", "(I)Z"⟩
abbrev cX9_isHeldDoll : ByteArray := prog_1_method_48_code
def yX9_isHeldDoll : MethodName := ⟨RX9, "isHeldDoll", "(I)Z"⟩
abbrev cX9_isCity : ByteArray := prog_1_method_49_code
def yX9_isCity : MethodName := ⟨RX9, "isCity", "(I)Z"⟩
abbrev cX9_placeOf : ByteArray := prog_1_method_50_code
def yX9_placeOf : MethodName := ⟨RX9, "placeOf", "(I[II)I"⟩
abbrev cX9_copy : ByteArray := prog_1_method_51_code
def yX9_copy : MethodName := ⟨RX9, "copy", "([I[I)V"⟩
abbrev cX9_sharedDivisor : ByteArray := prog_1_method_52_code
def yX9_sharedDivisor : MethodName := ⟨RX9, "sharedDivisor", "(I)I"⟩
def RX10 : String := "DollTruceModel"
def TX10 : u_T := fun k => match k with
  | 0 => ("DollTruceModel", "thrown", "I", false)
  | 1 => ("DollTruceModel", "tape", "[I", true)
  | 2 => ("DollTruceModel", "taped", "I", false)
  | 3 => ("DollTruceModel", "number", "[I", true)
  | 4 => ("DollTruceModel", "nurseName", "[I", true)
  | 5 => ("DollTruceModel", "sideOf", "[I", true)
  | 6 => ("DollTruceModel", "careOf", "[I", true)
  | 7 => ("DollTruceModel", "dollName", "[I", true)
  | 8 => ("DollTruceModel", "nurseAs", "[I", true)
  | 9 => ("DollTruceModel", "loveOf", "[I", true)
  | 10 => ("DollTruceModel", "worthOf", "[I", true)
  | 11 => ("DollTruceModel", "sumFrom", "[I", true)
  | 12 => ("DollTruceModel", "sumTo", "[I", true)
  | 13 => ("DollTruceModel", "knotSort", "[I", true)
  | 14 => ("DollTruceModel", "knotValue", "[I", true)
  | 15 => ("DollTruceModel", "told", "I", false)
  | 16 => ("DollTruceModel", "lines", "I", false)
  | 17 => ("DollTruceModel", "size", "I", false)
  | 18 => ("DollTruceModel", "at", "I", false)
  | 19 => ("DollTruceModel", "place", "I", false)
  | 20 => ("DollTruceModel", "sort", "I", false)
  | 21 => ("DollTruceModel", "value", "I", false)
  | 22 => ("DollTruceModel", "fault", "I", false)
  | 23 => ("DollTruceModel", "faultPlace", "I", false)
  | 24 => ("DollTruceModel", "lastFault", "I", false)
  | 25 => ("DollTruceModel", "lastPlace", "I", false)
  | 26 => ("DollTruceModel", "open", "I", false)
  | 27 => ("DollTruceModel", "counted", "I", false)
  | 28 => ("DollTruceModel", "names", "[J", true)
  | 29 => ("DollTruceModel", "worked", "[J", true)
  | 30 => ("DollTruceModel", "workedMany", "I", false)
  | 31 => ("DollTruceModel", "week", "[I", true)
  | 32 => ("DollTruceModel", "drawn", "[I", true)
  | 33 => ("DollTruceModel", "mothsCame", "[I", true)
  | 34 => ("DollTruceModel", "anger", "[I", true)
  | 35 => ("DollTruceModel", "breaches", "[I", true)
  | 36 => ("DollTruceModel", "nurseOf", "[I", true)
  | 37 => ("DollTruceModel", "hurt", "[I", true)
  | 38 => ("DollTruceModel", "fond", "[I", true)
  | 39 => ("DollTruceModel", "held", "[I", true)
  | 40 => ("DollTruceModel", "hurtNow", "I", false)
  | 41 => ("DollTruceModel", "hasImage", "Z", false)
  | 42 => ("DollTruceModel", "undoMany", "I", false)
  | 43 => ("DollTruceModel", "tryWhat", "I", false)
  | 44 => ("DollTruceModel", "carerIs", "I", false)
  | 45 => ("DollTruceModel", "careIs", "I", false)
  | 46 => ("DollTruceModel", "nursed", "[I", true)
  | 47 => ("DollTruceModel", "nurseTo", "[I", true)
  | 48 => ("DollTruceModel", "bestNurse", "[I", true)
  | 49 => ("DollTruceModel", "bestAnger", "I", false)
  | 50 => ("DollTruceModel", "notes", "I", false)
  | 51 => ("DollTruceModel", "knownBy", "I", false)
  | 52 => ("DollTruceModel", "noteWeeks", "[I", true)
  | 53 => ("DollTruceModel", "noteDoll", "[I", true)
  | 54 => ("DollTruceModel", "noteHurt", "[I", true)
  | 55 => ("DollTruceModel", "noteAtLeast", "[Z", true)
  | 56 => ("DollTruceModel", "outs", "[I", true)
  | _ => ("DollTruceModel", "isOut", "[Z", true)
def tyX10 : Nat → FieldType := fun k => match k with
  | 0 => .int
  | 1 => .array .int
  | 2 => .int
  | 3 => .array .int
  | 4 => .array .int
  | 5 => .array .int
  | 6 => .array .int
  | 7 => .array .int
  | 8 => .array .int
  | 9 => .array .int
  | 10 => .array .int
  | 11 => .array .int
  | 12 => .array .int
  | 13 => .array .int
  | 14 => .array .int
  | 15 => .int
  | 16 => .int
  | 17 => .int
  | 18 => .int
  | 19 => .int
  | 20 => .int
  | 21 => .int
  | 22 => .int
  | 23 => .int
  | 24 => .int
  | 25 => .int
  | 26 => .int
  | 27 => .int
  | 28 => .array .long
  | 29 => .array .long
  | 30 => .int
  | 31 => .array .int
  | 32 => .array .int
  | 33 => .array .int
  | 34 => .array .int
  | 35 => .array .int
  | 36 => .array .int
  | 37 => .array .int
  | 38 => .array .int
  | 39 => .array .int
  | 40 => .int
  | 41 => .boolean
  | 42 => .int
  | 43 => .int
  | 44 => .int
  | 45 => .int
  | 46 => .array .int
  | 47 => .array .int
  | 48 => .array .int
  | 49 => .int
  | 50 => .int
  | 51 => .int
  | 52 => .array .int
  | 53 => .array .int
  | 54 => .array .int
  | 55 => .array .boolean
  | 56 => .array .int
  | _ => .array .boolean
theorem nmX10 : ∀ a, a < 58 → ∀ b, b < 58 → a ≠ b → (TX10 a).2.1 ≠ (TX10 b).2.1 := by decide +kernel
theorem tyX10_ok : ∀ k, k < 58 → parseFieldDescriptor (TX10 k).2.2.1 = some (tyX10 k) := by decide +kernel
abbrev cX10_init : ByteArray := prog_12_method_1_code
def yX10_init : MethodName := ⟨RX10, "<init>", "()V"⟩
abbrev cX10_thrown : ByteArray := prog_12_method_2_code
def yX10_thrown : MethodName := ⟨RX10, "thrown", "()I"⟩
abbrev cX10_feed : ByteArray := prog_12_method_3_code
def yX10_feed : MethodName := ⟨RX10, "feed", "(IIIII)I"⟩
abbrev cX10_here : ByteArray := prog_12_method_4_code
def yX10_here : MethodName := ⟨RX10, "here", "()I"⟩
abbrev cX10_isSmall : ByteArray := prog_12_method_5_code
def yX10_isSmall : MethodName := ⟨RX10, "isSmall", "(I)Z"⟩
abbrev cX10_isDigit : ByteArray := prog_12_method_6_code
def yX10_isDigit : MethodName := ⟨RX10, "isDigit", "(I)Z"⟩
abbrev cX10_token : ByteArray := prog_12_method_7_code
def yX10_token : MethodName := ⟨RX10, "token", "()V"⟩
abbrev cX10_sign : ByteArray := prog_12_method_8_code
def yX10_sign : MethodName := ⟨RX10, "sign", "(I)V"⟩
abbrev cX10_word : ByteArray := prog_12_method_9_code
def yX10_word : MethodName := ⟨RX10, "word", "()I"⟩
abbrev cX10_name : ByteArray := prog_12_method_10_code
def yX10_name : MethodName := ⟨RX10, "name", "()V"⟩
abbrev cX10_wrong : ByteArray := prog_12_method_11_code
def yX10_wrong : MethodName := ⟨RX10, "wrong", "(I)V"⟩
abbrev cX10_isWord : ByteArray := prog_12_method_12_code
def yX10_isWord : MethodName := ⟨RX10, "isWord", "(I)Z"⟩
abbrev cX10_isSign : ByteArray := prog_12_method_13_code
def yX10_isSign : MethodName := ⟨RX10, "isSign", "(I)Z"⟩
abbrev cX10_goOn : ByteArray := prog_12_method_14_code
def yX10_goOn : MethodName := ⟨RX10, "goOn", "()V"⟩
abbrev cX10_numeral : ByteArray := prog_12_method_15_code
def yX10_numeral : MethodName := ⟨RX10, "numeral", "(II)I"⟩
abbrev cX10_found : ByteArray := prog_12_method_16_code
def yX10_found : MethodName := ⟨RX10, "found", "([IIII)I"⟩
abbrev cX10_fresh : ByteArray := prog_12_method_17_code
def yX10_fresh : MethodName := ⟨RX10, "fresh", "([III)I"⟩
abbrev cX10_fresher : ByteArray := prog_12_method_18_code
def yX10_fresher : MethodName := ⟨RX10, "fresher", "(I)I"⟩
abbrev cX10_reads : ByteArray := prog_12_method_19_code
def yX10_reads : MethodName := ⟨RX10, "reads", "(II)V"⟩
abbrev cX10_isFull : ByteArray := prog_12_method_20_code
def yX10_isFull : MethodName := ⟨RX10, "isFull", "(I)Z"⟩
abbrev cX10_line : ByteArray := prog_12_method_21_code
def yX10_line : MethodName := ⟨RX10, "line", "()V"⟩
abbrev cX10_nurseLine : ByteArray := prog_12_method_22_code
def yX10_nurseLine : MethodName := ⟨RX10, "nurseLine", "(I)V"⟩
abbrev cX10_dollLine : ByteArray := prog_12_method_23_code
def yX10_dollLine : MethodName := ⟨RX10, "dollLine", "(I)V"⟩
abbrev cX10_lawLine : ByteArray := prog_12_method_24_code
def yX10_lawLine : MethodName := ⟨RX10, "lawLine", "()V"⟩
abbrev cX10_puts : ByteArray := prog_12_method_25_code
def yX10_puts : MethodName := ⟨RX10, "puts", "(II)V"⟩
abbrev cX10_knot : ByteArray := prog_12_method_26_code
def yX10_knot : MethodName := ⟨RX10, "knot", "()V"⟩
abbrev cX10_expression : ByteArray := prog_12_method_27_code
def yX10_expression : MethodName := ⟨RX10, "expression", "()V"⟩
abbrev cX10_conjunction : ByteArray := prog_12_method_28_code
def yX10_conjunction : MethodName := ⟨RX10, "conjunction", "()V"⟩
abbrev cX10_negation : ByteArray := prog_12_method_29_code
def yX10_negation : MethodName := ⟨RX10, "negation", "()V"⟩
abbrev cX10_sum : ByteArray := prog_12_method_30_code
def yX10_sum : MethodName := ⟨RX10, "sum", "()V"⟩
abbrev cX10_product : ByteArray := prog_12_method_31_code
def yX10_product : MethodName := ⟨RX10, "product", "()V"⟩
abbrev cX10_primary : ByteArray := prog_12_method_32_code
def yX10_primary : MethodName := ⟨RX10, "primary", "()V"⟩
abbrev cX10_half : ByteArray := prog_12_method_33_code
def yX10_half : MethodName := ⟨RX10, "half", "([I)V"⟩
abbrev cX10_text : ByteArray := prog_12_method_34_code
def yX10_text : MethodName := ⟨RX10, "text", "(I)I"⟩
abbrev cX10_fault : ByteArray := prog_12_method_35_code
def yX10_fault : MethodName := ⟨RX10, "fault", "(I)I"⟩
abbrev cX10_named : ByteArray := prog_12_method_36_code
def yX10_named : MethodName := ⟨RX10, "named", "(II)I"⟩
abbrev cX10_is : ByteArray := prog_12_method_37_code
def yX10_is : MethodName := ⟨RX10, "is", "(Z)J"⟩
abbrev cX10_works : ByteArray := prog_12_method_38_code
def yX10_works : MethodName := ⟨RX10, "works", "(I)Z"⟩
abbrev cX10_goes : ByteArray := prog_12_method_39_code
def yX10_goes : MethodName := ⟨RX10, "goes", "(I)Z"⟩
abbrev cX10_hasLaw : ByteArray := prog_12_method_40_code
def yX10_hasLaw : MethodName := ⟨RX10, "hasLaw", "(I)Z"⟩
abbrev cX10_starts : ByteArray := prog_12_method_41_code
def yX10_starts : MethodName := ⟨RX10, "starts", "(I)V"⟩
abbrev cX10_begins : ByteArray := prog_12_method_42_code
def yX10_begins : MethodName := ⟨RX10, "begins", "()V"⟩
abbrev cX10_copies : ByteArray := prog_12_method_43_code
def yX10_copies : MethodName := ⟨RX10, "copies", "(II)V"⟩
abbrev cX10_isNurse : ByteArray := prog_12_method_44_code
def yX10_isNurse : MethodName := ⟨RX10, "isNurse", "(I)Z"⟩
abbrev cX10_isDoll : ByteArray := prog_12_method_45_code
def yX10_isDoll : MethodName := ⟨RX10, "isDoll", "(I)Z"⟩
abbrev cX10_isCity : ByteArray := prog_12_method_46_code
def yX10_isCity : MethodName := ⟨RX10, "isCity", "(I)Z"⟩
abbrev cX10_isHeld : ByteArray := prog_12_method_47_code
def yX10_isHeld : MethodName := ⟨RX10, "isHeld", "(II)Z"⟩
abbrev cX10_ownerOf : ByteArray := prog_12_method_48_code
def yX10_ownerOf : MethodName := ⟨RX10, "ownerOf", "(I)I"⟩
abbrev cX10_holds : ByteArray := prog_12_method_49_code
def yX10_holds : MethodName := ⟨RX10, "holds", "(III)Z"⟩
abbrev cX10_careIn : ByteArray := prog_12_method_50_code
def yX10_careIn : MethodName := ⟨RX10, "careIn", "(I)I"⟩
abbrev cX10_calls : ByteArray := prog_12_method_51_code
def yX10_calls : MethodName := ⟨RX10, "calls", "(III)V"⟩
abbrev cX10_callsCity : ByteArray := prog_12_method_52_code
def yX10_callsCity : MethodName := ⟨RX10, "callsCity", "(II)V"⟩
abbrev cX10_within : ByteArray := prog_12_method_53_code
def yX10_within : MethodName := ⟨RX10, "within", "(III)I"⟩
abbrev cX10_mothsBy : ByteArray := prog_12_method_54_code
def yX10_mothsBy : MethodName := ⟨RX10, "mothsBy", "(III)I"⟩
abbrev cX10_draw : ByteArray := prog_12_method_55_code
def yX10_draw : MethodName := ⟨RX10, "draw", "(II)I"⟩
abbrev cX10_comeMoths : ByteArray := prog_12_method_56_code
def yX10_comeMoths : MethodName := ⟨RX10, "comeMoths", "(IIZ)Z"⟩
abbrev cX10_hurts : ByteArray := prog_12_method_57_code
def yX10_hurts : MethodName := ⟨RX10, "hurts", "(II)V"⟩
abbrev cX10_answerOf : ByteArray := prog_12_method_58_code
def yX10_answerOf : MethodName := ⟨RX10, "answerOf", "(II)I"⟩
abbrev cX10_answers : ByteArray := prog_12_method_59_code
def yX10_answers : MethodName := ⟨RX10, "answers", "(II)V"⟩
abbrev cX10_wasHurt : ByteArray := prog_12_method_60_code
def yX10_wasHurt : MethodName := ⟨RX10, "wasHurt", "(I)Z"⟩
abbrev cX10_passes : ByteArray := prog_12_method_61_code
def yX10_passes : MethodName := ⟨RX10, "passes", "(IZ)V"⟩
abbrev cX10_goesOn : ByteArray := prog_12_method_62_code
def yX10_goesOn : MethodName := ⟨RX10, "goesOn", "(I)V"⟩
abbrev cX10_runs : ByteArray := prog_12_method_63_code
def yX10_runs : MethodName := ⟨RX10, "runs", "(I)V"⟩
abbrev cX10_angerBoth : ByteArray := prog_12_method_64_code
def yX10_angerBoth : MethodName := ⟨RX10, "angerBoth", "(I)I"⟩
abbrev cX10_breachesBoth : ByteArray := prog_12_method_65_code
def yX10_breachesBoth : MethodName := ⟨RX10, "breachesBoth", "(I)I"⟩
abbrev cX10_hurtAll : ByteArray := prog_12_method_66_code
def yX10_hurtAll : MethodName := ⟨RX10, "hurtAll", "(I)I"⟩
abbrev cX10_doll : ByteArray := prog_12_method_67_code
def yX10_doll : MethodName := ⟨RX10, "doll", "(II)I"⟩
abbrev cX10_nurse : ByteArray := prog_12_method_68_code
def yX10_nurse : MethodName := ⟨RX10, "nurse", "(II)I"⟩
abbrev cX10_heldBy : ByteArray := prog_12_method_69_code
def yX10_heldBy : MethodName := ⟨RX10, "heldBy", "(I)I"⟩
abbrev cX10_sumOf : ByteArray := prog_12_method_70_code
def yX10_sumOf : MethodName := ⟨RX10, "sumOf", "([II)I"⟩
abbrev cX10_bitsOf : ByteArray := prog_12_method_71_code
def yX10_bitsOf : MethodName := ⟨RX10, "bitsOf", "(I)I"⟩
abbrev cX10_city : ByteArray := prog_12_method_72_code
def yX10_city : MethodName := ⟨RX10, "city", "(II)I"⟩
abbrev cX10_moths : ByteArray := prog_12_method_73_code
def yX10_moths : MethodName := ⟨RX10, "moths", "(I)I"⟩
abbrev cX10_law : ByteArray := prog_12_method_74_code
def yX10_law : MethodName := ⟨RX10, "law", "(II)J"⟩
abbrev cX10_keepNow : ByteArray := prog_12_method_75_code
def yX10_keepNow : MethodName := ⟨RX10, "keepNow", "()V"⟩
abbrev cX10_mend : ByteArray := prog_12_method_76_code
def yX10_mend : MethodName := ⟨RX10, "mend", "(I)I"⟩
abbrev cX10_exchange : ByteArray := prog_12_method_77_code
def yX10_exchange : MethodName := ⟨RX10, "exchange", "(II)Z"⟩
abbrev cX10_give : ByteArray := prog_12_method_78_code
def yX10_give : MethodName := ⟨RX10, "give", "(II)Z"⟩
abbrev cX10_tea : ByteArray := prog_12_method_79_code
def yX10_tea : MethodName := ⟨RX10, "tea", "(I)I"⟩
abbrev cX10_go : ByteArray := prog_12_method_80_code
def yX10_go : MethodName := ⟨RX10, "go", "(I)I"⟩
abbrev cX10_ahead : ByteArray := prog_12_method_81_code
def yX10_ahead : MethodName := ⟨RX10, "ahead", "(III)I"⟩
abbrev cX10_firstBreach : ByteArray := prog_12_method_82_code
def yX10_firstBreach : MethodName := ⟨RX10, "firstBreach", "()I"⟩
abbrev cX10_quiet : ByteArray := prog_12_method_83_code
def yX10_quiet : MethodName := ⟨RX10, "quiet", "()I"⟩
abbrev cX10_until : ByteArray := prog_12_method_84_code
def yX10_until : MethodName := ⟨RX10, "until", "(II)I"⟩
abbrev cX10_best : ByteArray := prog_12_method_85_code
def yX10_best : MethodName := ⟨RX10, "best", "(III)I"⟩
abbrev cX10_enough : ByteArray := prog_12_method_86_code
def yX10_enough : MethodName := ⟨RX10, "enough", "(II)I"⟩
abbrev cX10_nurses : ByteArray := prog_12_method_87_code
def yX10_nurses : MethodName := ⟨RX10, "nurses", "(IIII)V"⟩
abbrev cX10_nursing : ByteArray := prog_12_method_88_code
def yX10_nursing : MethodName := ⟨RX10, "nursing", "(III)I"⟩
abbrev cX10_safest : ByteArray := prog_12_method_89_code
def yX10_safest : MethodName := ⟨RX10, "safest", "(I)I"⟩
abbrev cX10_answersOn : ByteArray := prog_12_method_90_code
def yX10_answersOn : MethodName := ⟨RX10, "answersOn", "(I)I"⟩
abbrev cX10_hasOf : ByteArray := prog_12_method_91_code
def yX10_hasOf : MethodName := ⟨RX10, "hasOf", "(III)I"⟩
abbrev cX10_isRest : ByteArray := prog_12_method_92_code
def yX10_isRest : MethodName := ⟨RX10, "isRest", "(II)Z"⟩
abbrev cX10_restOf : ByteArray := prog_12_method_93_code
def yX10_restOf : MethodName := ⟨RX10, "restOf", "(I)I"⟩
abbrev cX10_rests : ByteArray := prog_12_method_94_code
def yX10_rests : MethodName := ⟨RX10, "rests", "()I"⟩
abbrev cX10_rest : ByteArray := prog_12_method_95_code
def yX10_rest : MethodName := ⟨RX10, "rest", "(I)I"⟩
abbrev cX10_common : ByteArray := prog_12_method_96_code
def yX10_common : MethodName := ⟨RX10, "common", "(JJ)J"⟩
abbrev cX10_whole : ByteArray := prog_12_method_97_code
def yX10_whole : MethodName := ⟨RX10, "whole", "(III)J"⟩
abbrev cX10_lists : ByteArray := prog_12_method_98_code
def yX10_lists : MethodName := ⟨RX10, "lists", "(III)I"⟩
abbrev cX10_stays : ByteArray := prog_12_method_99_code
def yX10_stays : MethodName := ⟨RX10, "stays", "()I"⟩
abbrev cX10_worst : ByteArray := prog_12_method_100_code
def yX10_worst : MethodName := ⟨RX10, "worst", "()I"⟩
abbrev cX10_note : ByteArray := prog_12_method_101_code
def yX10_note : MethodName := ⟨RX10, "note", "(IIIZ)I"⟩
abbrev cX10_out : ByteArray := prog_12_method_102_code
def yX10_out : MethodName := ⟨RX10, "out", "(I)I"⟩
abbrev cX10_known : ByteArray := prog_12_method_103_code
def yX10_known : MethodName := ⟨RX10, "known", "(I)Z"⟩
abbrev cX10_knownMany : ByteArray := prog_12_method_104_code
def yX10_knownMany : MethodName := ⟨RX10, "knownMany", "()I"⟩
abbrev cX10_isSo : ByteArray := prog_12_method_105_code
def yX10_isSo : MethodName := ⟨RX10, "isSo", "(I)Z"⟩
abbrev cX10_fitsCare : ByteArray := prog_12_method_106_code
def yX10_fitsCare : MethodName := ⟨RX10, "fitsCare", "(I)Z"⟩
abbrev cX10_cares : ByteArray := prog_12_method_107_code
def yX10_cares : MethodName := ⟨RX10, "cares", "(I)I"⟩
abbrev cX10_chance : ByteArray := prog_12_method_108_code
def yX10_chance : MethodName := ⟨RX10, "chance", "(III)I"⟩
abbrev cX10_tried : ByteArray := prog_12_method_109_code
def yX10_tried : MethodName := ⟨RX10, "tried", "(III)I"⟩
abbrev cX10_undo : ByteArray := prog_12_method_110_code
def yX10_undo : MethodName := ⟨RX10, "undo", "()I"⟩
abbrev cX10_keep : ByteArray := prog_12_method_111_code
def yX10_keep : MethodName := ⟨RX10, "keep", "()I"⟩
abbrev cX10_back : ByteArray := prog_12_method_112_code
def yX10_back : MethodName := ⟨RX10, "back", "()I"⟩
abbrev cX10_count : ByteArray := prog_12_method_113_code
def yX10_count : MethodName := ⟨RX10, "count", "(I)I"⟩
def RJx145de : String := "java/io/Serializable"
def TJx145de : u_T := fun k => match k with
  | _ => ("", "", "", false)
def tyJx145de : Nat → FieldType := fun k => match k with
  | _ => .int
def RJx9f9b0 : String := "java/lang/CharSequence"
def TJx9f9b0 : u_T := fun k => match k with
  | _ => ("", "", "", false)
def tyJx9f9b0 : Nat → FieldType := fun k => match k with
  | _ => .int
def RJxb160c : String := "java/lang/Comparable"
def TJxb160c : u_T := fun k => match k with
  | _ => ("", "", "", false)
def tyJxb160c : Nat → FieldType := fun k => match k with
  | _ => .int
def RJ6 : String := "java/lang/Integer"
def TJ6 : u_T := fun k => match k with
  | _ => ("", "", "", false)
def tyJ6 : Nat → FieldType := fun k => match k with
  | _ => .int
abbrev cJ6_bitCount_0f7a4 : ByteArray := prog_18_method_49_code
def yJ6_bitCount_0f7a4 : MethodName := ⟨RJ6, "bitCount", "(I)I"⟩
def RJ9 : String := "java/lang/Math"
def TJ9 : u_T := fun k => match k with
  | _ => ("", "", "", false)
def tyJ9 : Nat → FieldType := fun k => match k with
  | _ => .int
abbrev cJ9_abs_0f7a4 : ByteArray := prog_19_method_59_code
def yJ9_abs_0f7a4 : MethodName := ⟨RJ9, "abs", "(I)I"⟩
abbrev cJ9_abs_067f4 : ByteArray := prog_19_method_61_code
def yJ9_abs_067f4 : MethodName := ⟨RJ9, "abs", "(J)J"⟩
abbrev cJ9_max_7cf53 : ByteArray := prog_19_method_65_code
def yJ9_max_7cf53 : MethodName := ⟨RJ9, "max", "(II)I"⟩
abbrev cJ9_max_f86c9 : ByteArray := prog_19_method_66_code
def yJ9_max_f86c9 : MethodName := ⟨RJ9, "max", "(JJ)J"⟩
abbrev cJ9_min_7cf53 : ByteArray := prog_19_method_69_code
def yJ9_min_7cf53 : MethodName := ⟨RJ9, "min", "(II)I"⟩
abbrev cJ9_min_f86c9 : ByteArray := prog_19_method_70_code
def yJ9_min_f86c9 : MethodName := ⟨RJ9, "min", "(JJ)J"⟩
def RJ0 : String := "java/lang/String"
def TJ0 : u_T := fun k => match k with
  | _ => ("", "", "", false)
def tyJ0 : Nat → FieldType := fun k => match k with
  | _ => .int
abbrev cJ0_length_8abf5 : ByteArray := prog_21_method_54_code
def yJ0_length_8abf5 : MethodName := ⟨RJ0, "length", "()I"⟩
abbrev cJ0_charAt_5068e : ByteArray := prog_21_method_56_code
def yJ0_charAt_5068e : MethodName := ⟨RJ0, "charAt", "(I)C"⟩
abbrev cJ0_coder_7d493 : ByteArray := prog_21_method_152_code
def yJ0_coder_7d493 : MethodName := ⟨RJ0, "coder", "()B"⟩
abbrev cJ0_isLatin1_aae02 : ByteArray := prog_21_method_154_code
def yJ0_isLatin1_aae02 : MethodName := ⟨RJ0, "isLatin1", "()Z"⟩
abbrev cJ0_checkIndex_df160 : ByteArray := prog_21_method_155_code
def yJ0_checkIndex_df160 : MethodName := ⟨RJ0, "checkIndex", "(II)V"⟩
def RJ1 : String := "java/lang/StringLatin1"
def TJ1 : u_T := fun k => match k with
  | _ => ("", "", "", false)
def tyJ1 : Nat → FieldType := fun k => match k with
  | _ => .int
abbrev cJ1_charAt_3b067 : ByteArray := prog_22_method_2_code
def yJ1_charAt_3b067 : MethodName := ⟨RJ1, "charAt", "([BI)C"⟩
def RJ2 : String := "java/lang/StringUTF16"
def TJ2 : u_T := fun k => match k with
  | _ => ("", "", "", false)
def tyJ2 : Nat → FieldType := fun k => match k with
  | _ => .int
abbrev cJ2_getChar_3b067 : ByteArray := prog_23_method_5_code
def yJ2_getChar_3b067 : MethodName := ⟨RJ2, "getChar", "([BI)C"⟩
abbrev cJ2_length_9d52b : ByteArray := prog_23_method_6_code
def yJ2_length_9d52b : MethodName := ⟨RJ2, "length", "([B)I"⟩
abbrev cJ2_charAt_3b067 : ByteArray := prog_23_method_83_code
def yJ2_charAt_3b067 : MethodName := ⟨RJ2, "charAt", "([BI)C"⟩
abbrev cJ2_checkIndex_2214a : ByteArray := prog_23_method_91_code
def yJ2_checkIndex_2214a : MethodName := ⟨RJ2, "checkIndex", "(I[B)V"⟩
def RJxfd54e : String := "java/lang/constant/Constable"
def TJxfd54e : u_T := fun k => match k with
  | _ => ("", "", "", false)
def tyJxfd54e : Nat → FieldType := fun k => match k with
  | _ => .int
def RJx3cf43 : String := "java/lang/constant/ConstantDesc"
def TJx3cf43 : u_T := fun k => match k with
  | _ => ("", "", "", false)
def tyJx3cf43 : Nat → FieldType := fun k => match k with
  | _ => .int
def RJ3 : String := "jdk/internal/util/Preconditions"
def TJ3 : u_T := fun k => match k with
  | _ => ("", "", "", false)
def tyJ3 : Nat → FieldType := fun k => match k with
  | _ => .int
abbrev cJ3_checkIndex_8e157 : ByteArray := prog_28_method_11_code
def yJ3_checkIndex_8e157 : MethodName := ⟨RJ3, "checkIndex", "(IILjava/util/function/BiFunction;)I"⟩
def RL : String := "DollTruceLaw"
abbrev cL_doll : ByteArray := method_3_code
def yL_doll : MethodName := ⟨RL, "doll", "(LDollTruce;II[J)I"⟩
abbrev cL_law : ByteArray := code
def yL_law : MethodName := ⟨RL, "law", "([I)Z"⟩
abbrev vwCl : List vw_C := [(RX0, TX0, 4), (RX1, TX1, 4), (RX2, TX2, 8), (RX3, TX3, 8), (RX4, TX4, 9), (RX5, TX5, 2), (RX6, TX6, 4), (RX7, TX7, 15), (RX8, TX8, 13), (RX9, TX9, 10), (RX10, TX10, 58)]
