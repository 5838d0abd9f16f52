-- ===== PART A: goes FIRST, ahead of the names: the tables' words, and 'selects' of the private methods out of them =====
/-- a private method of a class that the tables say can be made, by its rows of tables_1 -/
def lw_okq (q : MethodName × Nat) : Prop := (q.1.cls ≠ "java/lang/invoke/MethodHandle" ∧ q.1.cls ≠ "java/lang/invoke/VarHandle") ∧ Cond.instantiable q.1.cls q.2 ∈ tables_1 ∧ Cond.privateMethod q.1 ∈ tables_1 ∧ Cond.instanceMethod q.1 ∈ tables_1
theorem lw_p0 : lw_okq (⟨"CuckooDebt$Land", "holdUntold", "(LCuckooDebt$Law;I)V"⟩, 14) := ⟨⟨by decide +kernel, by decide +kernel⟩, List.mem_of_getElem? (i := 133) (by decide +kernel), List.mem_of_getElem? (i := 175) (by decide +kernel), List.mem_of_getElem? (i := 176) (by decide +kernel)⟩
theorem lw_p1 : lw_okq (⟨"CuckooDebt$Tape", "readWord", "()V"⟩, 10) := ⟨⟨by decide +kernel, by decide +kernel⟩, List.mem_of_getElem? (i := 35) (by decide +kernel), List.mem_of_getElem? (i := 572) (by decide +kernel), List.mem_of_getElem? (i := 573) (by decide +kernel)⟩
theorem lw_p2 : lw_okq (⟨"CuckooDebt$Tape", "readNumber", "()V"⟩, 10) := ⟨⟨by decide +kernel, by decide +kernel⟩, List.mem_of_getElem? (i := 35) (by decide +kernel), List.mem_of_getElem? (i := 576) (by decide +kernel), List.mem_of_getElem? (i := 577) (by decide +kernel)⟩
theorem lw_p3 : lw_okq (⟨"CuckooDebt$Reader", "readHills", "()Z"⟩, 11) := ⟨⟨by decide +kernel, by decide +kernel⟩, List.mem_of_getElem? (i := 263) (by decide +kernel), List.mem_of_getElem? (i := 583) (by decide +kernel), List.mem_of_getElem? (i := 584) (by decide +kernel)⟩
theorem lw_p4 : lw_okq (⟨"CuckooDebt$Reader", "takeKeyword", "(I)Z"⟩, 11) := ⟨⟨by decide +kernel, by decide +kernel⟩, List.mem_of_getElem? (i := 263) (by decide +kernel), List.mem_of_getElem? (i := 587) (by decide +kernel), List.mem_of_getElem? (i := 588) (by decide +kernel)⟩
theorem lw_p5 : lw_okq (⟨"CuckooDebt$Reader", "isNumber", "(II)Z"⟩, 11) := ⟨⟨by decide +kernel, by decide +kernel⟩, List.mem_of_getElem? (i := 263) (by decide +kernel), List.mem_of_getElem? (i := 596) (by decide +kernel), List.mem_of_getElem? (i := 597) (by decide +kernel)⟩
theorem lw_p6 : lw_okq (⟨"CuckooDebt$Reader", "takeEnd", "()Z"⟩, 11) := ⟨⟨by decide +kernel, by decide +kernel⟩, List.mem_of_getElem? (i := 263) (by decide +kernel), List.mem_of_getElem? (i := 600) (by decide +kernel), List.mem_of_getElem? (i := 601) (by decide +kernel)⟩
theorem lw_p7 : lw_okq (⟨"CuckooDebt$Reader", "readLine", "()Z"⟩, 11) := ⟨⟨by decide +kernel, by decide +kernel⟩, List.mem_of_getElem? (i := 263) (by decide +kernel), List.mem_of_getElem? (i := 604) (by decide +kernel), List.mem_of_getElem? (i := 605) (by decide +kernel)⟩
theorem lw_p8 : lw_okq (⟨"CuckooDebt$Reader", "readPerson", "()Z"⟩, 11) := ⟨⟨by decide +kernel, by decide +kernel⟩, List.mem_of_getElem? (i := 263) (by decide +kernel), List.mem_of_getElem? (i := 608) (by decide +kernel), List.mem_of_getElem? (i := 609) (by decide +kernel)⟩
theorem lw_p9 : lw_okq (⟨"CuckooDebt$Reader", "isNewName", "()Z"⟩, 11) := ⟨⟨by decide +kernel, by decide +kernel⟩, List.mem_of_getElem? (i := 263) (by decide +kernel), List.mem_of_getElem? (i := 612) (by decide +kernel), List.mem_of_getElem? (i := 613) (by decide +kernel)⟩
theorem lw_p10 : lw_okq (⟨"CuckooDebt$Reader", "indexOf", "([JI)I"⟩, 11) := ⟨⟨by decide +kernel, by decide +kernel⟩, List.mem_of_getElem? (i := 263) (by decide +kernel), List.mem_of_getElem? (i := 620) (by decide +kernel), List.mem_of_getElem? (i := 621) (by decide +kernel)⟩
theorem lw_p11 : lw_okq (⟨"CuckooDebt$Reader", "takeCell", "()Z"⟩, 11) := ⟨⟨by decide +kernel, by decide +kernel⟩, List.mem_of_getElem? (i := 263) (by decide +kernel), List.mem_of_getElem? (i := 624) (by decide +kernel), List.mem_of_getElem? (i := 625) (by decide +kernel)⟩
theorem lw_p12 : lw_okq (⟨"CuckooDebt$Reader", "readGo", "()Z"⟩, 11) := ⟨⟨by decide +kernel, by decide +kernel⟩, List.mem_of_getElem? (i := 263) (by decide +kernel), List.mem_of_getElem? (i := 628) (by decide +kernel), List.mem_of_getElem? (i := 629) (by decide +kernel)⟩
theorem lw_p13 : lw_okq (⟨"CuckooDebt$Reader", "isKnown", "([JI)Z"⟩, 11) := ⟨⟨by decide +kernel, by decide +kernel⟩, List.mem_of_getElem? (i := 263) (by decide +kernel), List.mem_of_getElem? (i := 632) (by decide +kernel), List.mem_of_getElem? (i := 633) (by decide +kernel)⟩
theorem lw_p14 : lw_okq (⟨"CuckooDebt$Reader", "readBird", "()Z"⟩, 11) := ⟨⟨by decide +kernel, by decide +kernel⟩, List.mem_of_getElem? (i := 263) (by decide +kernel), List.mem_of_getElem? (i := 636) (by decide +kernel), List.mem_of_getElem? (i := 637) (by decide +kernel)⟩
theorem lw_p15 : lw_okq (⟨"CuckooDebt$Reader", "readCall", "()Z"⟩, 11) := ⟨⟨by decide +kernel, by decide +kernel⟩, List.mem_of_getElem? (i := 263) (by decide +kernel), List.mem_of_getElem? (i := 640) (by decide +kernel), List.mem_of_getElem? (i := 641) (by decide +kernel)⟩
def lw_privs_1 : List (MethodName × Nat) := [(⟨"CuckooDebt$Land", "holdUntold", "(LCuckooDebt$Law;I)V"⟩, 14), (⟨"CuckooDebt$Tape", "readWord", "()V"⟩, 10), (⟨"CuckooDebt$Tape", "readNumber", "()V"⟩, 10), (⟨"CuckooDebt$Reader", "readHills", "()Z"⟩, 11), (⟨"CuckooDebt$Reader", "takeKeyword", "(I)Z"⟩, 11), (⟨"CuckooDebt$Reader", "isNumber", "(II)Z"⟩, 11), (⟨"CuckooDebt$Reader", "takeEnd", "()Z"⟩, 11), (⟨"CuckooDebt$Reader", "readLine", "()Z"⟩, 11), (⟨"CuckooDebt$Reader", "readPerson", "()Z"⟩, 11), (⟨"CuckooDebt$Reader", "isNewName", "()Z"⟩, 11), (⟨"CuckooDebt$Reader", "indexOf", "([JI)I"⟩, 11), (⟨"CuckooDebt$Reader", "takeCell", "()Z"⟩, 11), (⟨"CuckooDebt$Reader", "readGo", "()Z"⟩, 11), (⟨"CuckooDebt$Reader", "isKnown", "([JI)Z"⟩, 11), (⟨"CuckooDebt$Reader", "readBird", "()Z"⟩, 11), (⟨"CuckooDebt$Reader", "readCall", "()Z"⟩, 11)]
theorem lw_r1 : ∀ q ∈ lw_privs_1, lw_okq q := List.forall_mem_cons.mpr ⟨lw_p0, List.forall_mem_cons.mpr ⟨lw_p1, List.forall_mem_cons.mpr ⟨lw_p2, List.forall_mem_cons.mpr ⟨lw_p3, List.forall_mem_cons.mpr ⟨lw_p4, List.forall_mem_cons.mpr ⟨lw_p5, List.forall_mem_cons.mpr ⟨lw_p6, List.forall_mem_cons.mpr ⟨lw_p7, List.forall_mem_cons.mpr ⟨lw_p8, List.forall_mem_cons.mpr ⟨lw_p9, List.forall_mem_cons.mpr ⟨lw_p10, List.forall_mem_cons.mpr ⟨lw_p11, List.forall_mem_cons.mpr ⟨lw_p12, List.forall_mem_cons.mpr ⟨lw_p13, List.forall_mem_cons.mpr ⟨lw_p14, List.forall_mem_cons.mpr ⟨lw_p15, fun _ h => absurd h List.not_mem_nil⟩⟩⟩⟩⟩⟩⟩⟩⟩⟩⟩⟩⟩⟩⟩⟩
theorem lw_p16 : lw_okq (⟨"CuckooDebt$Reader", "readLaw", "(LCuckooDebt$Law;)Z"⟩, 11) := ⟨⟨by decide +kernel, by decide +kernel⟩, List.mem_of_getElem? (i := 263) (by decide +kernel), List.mem_of_getElem? (i := 644) (by decide +kernel), List.mem_of_getElem? (i := 645) (by decide +kernel)⟩
theorem lw_p17 : lw_okq (⟨"CuckooDebt$LawReader", "readPart", "(I)Z"⟩, 3) := ⟨⟨by decide +kernel, by decide +kernel⟩, List.mem_of_getElem? (i := 269) (by decide +kernel), List.mem_of_getElem? (i := 652) (by decide +kernel), List.mem_of_getElem? (i := 653) (by decide +kernel)⟩
theorem lw_p18 : lw_okq (⟨"CuckooDebt$LawReader", "factHere", "()I"⟩, 3) := ⟨⟨by decide +kernel, by decide +kernel⟩, List.mem_of_getElem? (i := 269) (by decide +kernel), List.mem_of_getElem? (i := 656) (by decide +kernel), List.mem_of_getElem? (i := 657) (by decide +kernel)⟩
theorem lw_p19 : lw_okq (⟨"CuckooDebt$LawReader", "stepHere", "(I)I"⟩, 3) := ⟨⟨by decide +kernel, by decide +kernel⟩, List.mem_of_getElem? (i := 269) (by decide +kernel), List.mem_of_getElem? (i := 664) (by decide +kernel), List.mem_of_getElem? (i := 665) (by decide +kernel)⟩
theorem lw_p20 : lw_okq (⟨"CuckooDebt$Reader", "readHear", "()Z"⟩, 11) := ⟨⟨by decide +kernel, by decide +kernel⟩, List.mem_of_getElem? (i := 263) (by decide +kernel), List.mem_of_getElem? (i := 668) (by decide +kernel), List.mem_of_getElem? (i := 669) (by decide +kernel)⟩
theorem lw_p21 : lw_okq (⟨"CuckooDebt$Reader", "walkAll", "()V"⟩, 11) := ⟨⟨by decide +kernel, by decide +kernel⟩, List.mem_of_getElem? (i := 263) (by decide +kernel), List.mem_of_getElem? (i := 672) (by decide +kernel), List.mem_of_getElem? (i := 673) (by decide +kernel)⟩
theorem lw_p22 : lw_okq (⟨"CuckooDebt", "isPerson", "(I)Z"⟩, 12) := ⟨⟨by decide +kernel, by decide +kernel⟩, List.mem_of_getElem? (i := 27) (by decide +kernel), List.mem_of_getElem? (i := 701) (by decide +kernel), List.mem_of_getElem? (i := 702) (by decide +kernel)⟩
theorem lw_p23 : lw_okq (⟨"CuckooDebt", "isBird", "(I)Z"⟩, 12) := ⟨⟨by decide +kernel, by decide +kernel⟩, List.mem_of_getElem? (i := 27) (by decide +kernel), List.mem_of_getElem? (i := 716) (by decide +kernel), List.mem_of_getElem? (i := 717) (by decide +kernel)⟩
theorem lw_p24 : lw_okq (⟨"CuckooDebt$Debts", "meet", "(III)V"⟩, 9) := ⟨⟨by decide +kernel, by decide +kernel⟩, List.mem_of_getElem? (i := 368) (by decide +kernel), List.mem_of_getElem? (i := 763) (by decide +kernel), List.mem_of_getElem? (i := 764) (by decide +kernel)⟩
theorem lw_p25 : lw_okq (⟨"CuckooDebt$Debts", "hears", "(II)Z"⟩, 9) := ⟨⟨by decide +kernel, by decide +kernel⟩, List.mem_of_getElem? (i := 368) (by decide +kernel), List.mem_of_getElem? (i := 775) (by decide +kernel), List.mem_of_getElem? (i := 776) (by decide +kernel)⟩
theorem lw_p26 : lw_okq (⟨"CuckooDebt$Debts", "isCalled", "(II)Z"⟩, 9) := ⟨⟨by decide +kernel, by decide +kernel⟩, List.mem_of_getElem? (i := 368) (by decide +kernel), List.mem_of_getElem? (i := 791) (by decide +kernel), List.mem_of_getElem? (i := 792) (by decide +kernel)⟩
theorem lw_p27 : lw_okq (⟨"CuckooDebt$Debts", "addEntries", "(III)V"⟩, 9) := ⟨⟨by decide +kernel, by decide +kernel⟩, List.mem_of_getElem? (i := 368) (by decide +kernel), List.mem_of_getElem? (i := 797) (by decide +kernel), List.mem_of_getElem? (i := 798) (by decide +kernel)⟩
theorem lw_p28 : lw_okq (⟨"CuckooDebt$History", "dropOldest", "()V"⟩, 4) := ⟨⟨by decide +kernel, by decide +kernel⟩, List.mem_of_getElem? (i := 348) (by decide +kernel), List.mem_of_getElem? (i := 814) (by decide +kernel), List.mem_of_getElem? (i := 815) (by decide +kernel)⟩
theorem lw_p29 : lw_okq (⟨"CuckooDebt$Game", "standing", "(II)J"⟩, 10) := ⟨⟨by decide +kernel, by decide +kernel⟩, List.mem_of_getElem? (i := 406) (by decide +kernel), List.mem_of_getElem? (i := 847) (by decide +kernel), List.mem_of_getElem? (i := 848) (by decide +kernel)⟩
theorem lw_p30 : lw_okq (⟨"CuckooDebt$Game", "playRound", "(II)Z"⟩, 10) := ⟨⟨by decide +kernel, by decide +kernel⟩, List.mem_of_getElem? (i := 406) (by decide +kernel), List.mem_of_getElem? (i := 851) (by decide +kernel), List.mem_of_getElem? (i := 852) (by decide +kernel)⟩
theorem lw_p31 : lw_okq (⟨"CuckooDebt$Debts", "shareOf", "(II)I"⟩, 9) := ⟨⟨by decide +kernel, by decide +kernel⟩, List.mem_of_getElem? (i := 368) (by decide +kernel), List.mem_of_getElem? (i := 859) (by decide +kernel), List.mem_of_getElem? (i := 860) (by decide +kernel)⟩
def lw_privs_2 : List (MethodName × Nat) := [(⟨"CuckooDebt$Reader", "readLaw", "(LCuckooDebt$Law;)Z"⟩, 11), (⟨"CuckooDebt$LawReader", "readPart", "(I)Z"⟩, 3), (⟨"CuckooDebt$LawReader", "factHere", "()I"⟩, 3), (⟨"CuckooDebt$LawReader", "stepHere", "(I)I"⟩, 3), (⟨"CuckooDebt$Reader", "readHear", "()Z"⟩, 11), (⟨"CuckooDebt$Reader", "walkAll", "()V"⟩, 11), (⟨"CuckooDebt", "isPerson", "(I)Z"⟩, 12), (⟨"CuckooDebt", "isBird", "(I)Z"⟩, 12), (⟨"CuckooDebt$Debts", "meet", "(III)V"⟩, 9), (⟨"CuckooDebt$Debts", "hears", "(II)Z"⟩, 9), (⟨"CuckooDebt$Debts", "isCalled", "(II)Z"⟩, 9), (⟨"CuckooDebt$Debts", "addEntries", "(III)V"⟩, 9), (⟨"CuckooDebt$History", "dropOldest", "()V"⟩, 4), (⟨"CuckooDebt$Game", "standing", "(II)J"⟩, 10), (⟨"CuckooDebt$Game", "playRound", "(II)Z"⟩, 10), (⟨"CuckooDebt$Debts", "shareOf", "(II)I"⟩, 9)]
theorem lw_r2 : ∀ q ∈ lw_privs_2, lw_okq q := List.forall_mem_cons.mpr ⟨lw_p16, List.forall_mem_cons.mpr ⟨lw_p17, List.forall_mem_cons.mpr ⟨lw_p18, List.forall_mem_cons.mpr ⟨lw_p19, List.forall_mem_cons.mpr ⟨lw_p20, List.forall_mem_cons.mpr ⟨lw_p21, List.forall_mem_cons.mpr ⟨lw_p22, List.forall_mem_cons.mpr ⟨lw_p23, List.forall_mem_cons.mpr ⟨lw_p24, List.forall_mem_cons.mpr ⟨lw_p25, List.forall_mem_cons.mpr ⟨lw_p26, List.forall_mem_cons.mpr ⟨lw_p27, List.forall_mem_cons.mpr ⟨lw_p28, List.forall_mem_cons.mpr ⟨lw_p29, List.forall_mem_cons.mpr ⟨lw_p30, List.forall_mem_cons.mpr ⟨lw_p31, fun _ h => absurd h List.not_mem_nil⟩⟩⟩⟩⟩⟩⟩⟩⟩⟩⟩⟩⟩⟩⟩⟩
theorem lw_p32 : lw_okq (⟨"CuckooDebt$Game", "tryCells", "(IIII)V"⟩, 10) := ⟨⟨by decide +kernel, by decide +kernel⟩, List.mem_of_getElem? (i := 406) (by decide +kernel), List.mem_of_getElem? (i := 864) (by decide +kernel), List.mem_of_getElem? (i := 865) (by decide +kernel)⟩
theorem lw_p33 : lw_okq (⟨"CuckooDebt$Game", "wasSeen", "(I)Z"⟩, 10) := ⟨⟨by decide +kernel, by decide +kernel⟩, List.mem_of_getElem? (i := 406) (by decide +kernel), List.mem_of_getElem? (i := 872) (by decide +kernel), List.mem_of_getElem? (i := 873) (by decide +kernel)⟩
theorem lw_p34 : lw_okq (⟨"CuckooDebt", "balanceAsTold", "(II)I"⟩, 12) := ⟨⟨by decide +kernel, by decide +kernel⟩, List.mem_of_getElem? (i := 27) (by decide +kernel), List.mem_of_getElem? (i := 880) (by decide +kernel), List.mem_of_getElem? (i := 881) (by decide +kernel)⟩
theorem lw_p35 : lw_okq (⟨"CuckooDebt$Songs", "findPrices", "(I)V"⟩, 9) := ⟨⟨by decide +kernel, by decide +kernel⟩, List.mem_of_getElem? (i := 448) (by decide +kernel), List.mem_of_getElem? (i := 902) (by decide +kernel), List.mem_of_getElem? (i := 903) (by decide +kernel)⟩
theorem lw_p36 : lw_okq (⟨"CuckooDebt$Songs", "singFrom", "(I)Z"⟩, 9) := ⟨⟨by decide +kernel, by decide +kernel⟩, List.mem_of_getElem? (i := 448) (by decide +kernel), List.mem_of_getElem? (i := 913) (by decide +kernel), List.mem_of_getElem? (i := 914) (by decide +kernel)⟩
theorem lw_p37 : lw_okq (⟨"CuckooDebt$Songs", "isAllPaid", "()Z"⟩, 9) := ⟨⟨by decide +kernel, by decide +kernel⟩, List.mem_of_getElem? (i := 448) (by decide +kernel), List.mem_of_getElem? (i := 917) (by decide +kernel), List.mem_of_getElem? (i := 918) (by decide +kernel)⟩
theorem lw_p38 : lw_okq (⟨"CuckooDebt$Songs", "pay", "(II)Z"⟩, 9) := ⟨⟨by decide +kernel, by decide +kernel⟩, List.mem_of_getElem? (i := 448) (by decide +kernel), List.mem_of_getElem? (i := 922) (by decide +kernel), List.mem_of_getElem? (i := 923) (by decide +kernel)⟩
theorem lw_p39 : lw_okq (⟨"CuckooDebt$Songs", "takeBack", "(II)V"⟩, 9) := ⟨⟨by decide +kernel, by decide +kernel⟩, List.mem_of_getElem? (i := 448) (by decide +kernel), List.mem_of_getElem? (i := 926) (by decide +kernel), List.mem_of_getElem? (i := 927) (by decide +kernel)⟩
theorem lw_p40 : lw_okq (⟨"CuckooDebt$Songs", "isRightWithout", "(I)Z"⟩, 9) := ⟨⟨by decide +kernel, by decide +kernel⟩, List.mem_of_getElem? (i := 448) (by decide +kernel), List.mem_of_getElem? (i := 947) (by decide +kernel), List.mem_of_getElem? (i := 948) (by decide +kernel)⟩
theorem lw_p41 : lw_okq (⟨"CuckooDebt$June", "payRound", "()Z"⟩, 5) := ⟨⟨by decide +kernel, by decide +kernel⟩, List.mem_of_getElem? (i := 485) (by decide +kernel), List.mem_of_getElem? (i := 963) (by decide +kernel), List.mem_of_getElem? (i := 964) (by decide +kernel)⟩
theorem lw_p42 : lw_okq (⟨"java/lang/Throwable", "fillInStackTrace", "(I)Ljava/lang/Throwable;"⟩, 6) := ⟨⟨by decide +kernel, by decide +kernel⟩, List.mem_of_getElem? (i := 1038) (by decide +kernel), List.mem_of_getElem? (i := 1036) (by decide +kernel), List.mem_of_getElem? (i := 1037) (by decide +kernel)⟩
theorem lw_p43 : lw_okq (⟨"CuckooDebt$Game", "gainOutside", "(III)I"⟩, 10) := ⟨⟨by decide +kernel, by decide +kernel⟩, List.mem_of_getElem? (i := 406) (by decide +kernel), List.mem_of_getElem? (i := 1079) (by decide +kernel), List.mem_of_getElem? (i := 1080) (by decide +kernel)⟩
theorem lw_p44 : lw_okq (⟨"CuckooDebtModel", "lay", "(J)V"⟩, 41) := ⟨⟨by decide +kernel, by decide +kernel⟩, List.mem_of_getElem? (i := 1114) (by decide +kernel), List.mem_of_getElem? (i := 1112) (by decide +kernel), List.mem_of_getElem? (i := 1113) (by decide +kernel)⟩
theorem lw_p45 : lw_okq (⟨"CuckooDebtModel", "standsAsAlways", "(I)V"⟩, 41) := ⟨⟨by decide +kernel, by decide +kernel⟩, List.mem_of_getElem? (i := 1114) (by decide +kernel), List.mem_of_getElem? (i := 1146) (by decide +kernel), List.mem_of_getElem? (i := 1147) (by decide +kernel)⟩
theorem lw_p46 : lw_okq (⟨"CuckooDebtModel", "cutAll", "()V"⟩, 41) := ⟨⟨by decide +kernel, by decide +kernel⟩, List.mem_of_getElem? (i := 1114) (by decide +kernel), List.mem_of_getElem? (i := 1279) (by decide +kernel), List.mem_of_getElem? (i := 1280) (by decide +kernel)⟩
theorem lw_p47 : lw_okq (⟨"CuckooDebtModel", "takeWord", "(I)V"⟩, 41) := ⟨⟨by decide +kernel, by decide +kernel⟩, List.mem_of_getElem? (i := 1114) (by decide +kernel), List.mem_of_getElem? (i := 1298) (by decide +kernel), List.mem_of_getElem? (i := 1299) (by decide +kernel)⟩
def lw_privs_3 : List (MethodName × Nat) := [(⟨"CuckooDebt$Game", "tryCells", "(IIII)V"⟩, 10), (⟨"CuckooDebt$Game", "wasSeen", "(I)Z"⟩, 10), (⟨"CuckooDebt", "balanceAsTold", "(II)I"⟩, 12), (⟨"CuckooDebt$Songs", "findPrices", "(I)V"⟩, 9), (⟨"CuckooDebt$Songs", "singFrom", "(I)Z"⟩, 9), (⟨"CuckooDebt$Songs", "isAllPaid", "()Z"⟩, 9), (⟨"CuckooDebt$Songs", "pay", "(II)Z"⟩, 9), (⟨"CuckooDebt$Songs", "takeBack", "(II)V"⟩, 9), (⟨"CuckooDebt$Songs", "isRightWithout", "(I)Z"⟩, 9), (⟨"CuckooDebt$June", "payRound", "()Z"⟩, 5), (⟨"java/lang/Throwable", "fillInStackTrace", "(I)Ljava/lang/Throwable;"⟩, 6), (⟨"CuckooDebt$Game", "gainOutside", "(III)I"⟩, 10), (⟨"CuckooDebtModel", "lay", "(J)V"⟩, 41), (⟨"CuckooDebtModel", "standsAsAlways", "(I)V"⟩, 41), (⟨"CuckooDebtModel", "cutAll", "()V"⟩, 41), (⟨"CuckooDebtModel", "takeWord", "(I)V"⟩, 41)]
theorem lw_r3 : ∀ q ∈ lw_privs_3, lw_okq q := List.forall_mem_cons.mpr ⟨lw_p32, List.forall_mem_cons.mpr ⟨lw_p33, List.forall_mem_cons.mpr ⟨lw_p34, List.forall_mem_cons.mpr ⟨lw_p35, List.forall_mem_cons.mpr ⟨lw_p36, List.forall_mem_cons.mpr ⟨lw_p37, List.forall_mem_cons.mpr ⟨lw_p38, List.forall_mem_cons.mpr ⟨lw_p39, List.forall_mem_cons.mpr ⟨lw_p40, List.forall_mem_cons.mpr ⟨lw_p41, List.forall_mem_cons.mpr ⟨lw_p42, List.forall_mem_cons.mpr ⟨lw_p43, List.forall_mem_cons.mpr ⟨lw_p44, List.forall_mem_cons.mpr ⟨lw_p45, List.forall_mem_cons.mpr ⟨lw_p46, List.forall_mem_cons.mpr ⟨lw_p47, fun _ h => absurd h List.not_mem_nil⟩⟩⟩⟩⟩⟩⟩⟩⟩⟩⟩⟩⟩⟩⟩⟩
theorem lw_p48 : lw_okq (⟨"CuckooDebtModel", "hasWord", "(I)Z"⟩, 41) := ⟨⟨by decide +kernel, by decide +kernel⟩, List.mem_of_getElem? (i := 1114) (by decide +kernel), List.mem_of_getElem? (i := 1302) (by decide +kernel), List.mem_of_getElem? (i := 1303) (by decide +kernel)⟩
theorem lw_p49 : lw_okq (⟨"CuckooDebtModel", "isWord", "(I)Z"⟩, 41) := ⟨⟨by decide +kernel, by decide +kernel⟩, List.mem_of_getElem? (i := 1114) (by decide +kernel), List.mem_of_getElem? (i := 1306) (by decide +kernel), List.mem_of_getElem? (i := 1307) (by decide +kernel)⟩
theorem lw_p50 : lw_okq (⟨"CuckooDebtModel", "wrong", "(I)V"⟩, 41) := ⟨⟨by decide +kernel, by decide +kernel⟩, List.mem_of_getElem? (i := 1114) (by decide +kernel), List.mem_of_getElem? (i := 1310) (by decide +kernel), List.mem_of_getElem? (i := 1311) (by decide +kernel)⟩
theorem lw_p51 : lw_okq (⟨"CuckooDebtModel", "takeNumber", "(II)I"⟩, 41) := ⟨⟨by decide +kernel, by decide +kernel⟩, List.mem_of_getElem? (i := 1114) (by decide +kernel), List.mem_of_getElem? (i := 1314) (by decide +kernel), List.mem_of_getElem? (i := 1315) (by decide +kernel)⟩
theorem lw_p52 : lw_okq (⟨"CuckooDebtModel", "takeSign", "(I)V"⟩, 41) := ⟨⟨by decide +kernel, by decide +kernel⟩, List.mem_of_getElem? (i := 1114) (by decide +kernel), List.mem_of_getElem? (i := 1318) (by decide +kernel), List.mem_of_getElem? (i := 1319) (by decide +kernel)⟩
theorem lw_p53 : lw_okq (⟨"CuckooDebtModel", "isSign", "(I)Z"⟩, 41) := ⟨⟨by decide +kernel, by decide +kernel⟩, List.mem_of_getElem? (i := 1114) (by decide +kernel), List.mem_of_getElem? (i := 1322) (by decide +kernel), List.mem_of_getElem? (i := 1323) (by decide +kernel)⟩
theorem lw_p54 : lw_okq (⟨"CuckooDebtModel", "readLine", "()V"⟩, 41) := ⟨⟨by decide +kernel, by decide +kernel⟩, List.mem_of_getElem? (i := 1114) (by decide +kernel), List.mem_of_getElem? (i := 1326) (by decide +kernel), List.mem_of_getElem? (i := 1327) (by decide +kernel)⟩
theorem lw_p55 : lw_okq (⟨"CuckooDebtModel", "readPerson", "()V"⟩, 41) := ⟨⟨by decide +kernel, by decide +kernel⟩, List.mem_of_getElem? (i := 1114) (by decide +kernel), List.mem_of_getElem? (i := 1330) (by decide +kernel), List.mem_of_getElem? (i := 1331) (by decide +kernel)⟩
theorem lw_p56 : lw_okq (⟨"CuckooDebtModel", "readName", "(I)V"⟩, 41) := ⟨⟨by decide +kernel, by decide +kernel⟩, List.mem_of_getElem? (i := 1114) (by decide +kernel), List.mem_of_getElem? (i := 1334) (by decide +kernel), List.mem_of_getElem? (i := 1335) (by decide +kernel)⟩
theorem lw_p57 : lw_okq (⟨"CuckooDebtModel", "isName", "()Z"⟩, 41) := ⟨⟨by decide +kernel, by decide +kernel⟩, List.mem_of_getElem? (i := 1114) (by decide +kernel), List.mem_of_getElem? (i := 1338) (by decide +kernel), List.mem_of_getElem? (i := 1339) (by decide +kernel)⟩
theorem lw_p58 : lw_okq (⟨"CuckooDebtModel", "find", "()I"⟩, 41) := ⟨⟨by decide +kernel, by decide +kernel⟩, List.mem_of_getElem? (i := 1114) (by decide +kernel), List.mem_of_getElem? (i := 1342) (by decide +kernel), List.mem_of_getElem? (i := 1343) (by decide +kernel)⟩
theorem lw_p59 : lw_okq (⟨"CuckooDebtModel", "takeCell", "()I"⟩, 41) := ⟨⟨by decide +kernel, by decide +kernel⟩, List.mem_of_getElem? (i := 1114) (by decide +kernel), List.mem_of_getElem? (i := 1346) (by decide +kernel), List.mem_of_getElem? (i := 1347) (by decide +kernel)⟩
theorem lw_p60 : lw_okq (⟨"CuckooDebtModel", "takeAfter", "(III)I"⟩, 41) := ⟨⟨by decide +kernel, by decide +kernel⟩, List.mem_of_getElem? (i := 1114) (by decide +kernel), List.mem_of_getElem? (i := 1350) (by decide +kernel), List.mem_of_getElem? (i := 1351) (by decide +kernel)⟩
theorem lw_p61 : lw_okq (⟨"CuckooDebtModel", "readGo", "()V"⟩, 41) := ⟨⟨by decide +kernel, by decide +kernel⟩, List.mem_of_getElem? (i := 1114) (by decide +kernel), List.mem_of_getElem? (i := 1354) (by decide +kernel), List.mem_of_getElem? (i := 1355) (by decide +kernel)⟩
theorem lw_p62 : lw_okq (⟨"CuckooDebtModel", "takeTold", "(Z)I"⟩, 41) := ⟨⟨by decide +kernel, by decide +kernel⟩, List.mem_of_getElem? (i := 1114) (by decide +kernel), List.mem_of_getElem? (i := 1358) (by decide +kernel), List.mem_of_getElem? (i := 1359) (by decide +kernel)⟩
theorem lw_p63 : lw_okq (⟨"CuckooDebtModel", "takeHour", "(I[III)I"⟩, 41) := ⟨⟨by decide +kernel, by decide +kernel⟩, List.mem_of_getElem? (i := 1114) (by decide +kernel), List.mem_of_getElem? (i := 1362) (by decide +kernel), List.mem_of_getElem? (i := 1363) (by decide +kernel)⟩
def lw_privs_4 : List (MethodName × Nat) := [(⟨"CuckooDebtModel", "hasWord", "(I)Z"⟩, 41), (⟨"CuckooDebtModel", "isWord", "(I)Z"⟩, 41), (⟨"CuckooDebtModel", "wrong", "(I)V"⟩, 41), (⟨"CuckooDebtModel", "takeNumber", "(II)I"⟩, 41), (⟨"CuckooDebtModel", "takeSign", "(I)V"⟩, 41), (⟨"CuckooDebtModel", "isSign", "(I)Z"⟩, 41), (⟨"CuckooDebtModel", "readLine", "()V"⟩, 41), (⟨"CuckooDebtModel", "readPerson", "()V"⟩, 41), (⟨"CuckooDebtModel", "readName", "(I)V"⟩, 41), (⟨"CuckooDebtModel", "isName", "()Z"⟩, 41), (⟨"CuckooDebtModel", "find", "()I"⟩, 41), (⟨"CuckooDebtModel", "takeCell", "()I"⟩, 41), (⟨"CuckooDebtModel", "takeAfter", "(III)I"⟩, 41), (⟨"CuckooDebtModel", "readGo", "()V"⟩, 41), (⟨"CuckooDebtModel", "takeTold", "(Z)I"⟩, 41), (⟨"CuckooDebtModel", "takeHour", "(I[III)I"⟩, 41)]
theorem lw_r4 : ∀ q ∈ lw_privs_4, lw_okq q := List.forall_mem_cons.mpr ⟨lw_p48, List.forall_mem_cons.mpr ⟨lw_p49, List.forall_mem_cons.mpr ⟨lw_p50, List.forall_mem_cons.mpr ⟨lw_p51, List.forall_mem_cons.mpr ⟨lw_p52, List.forall_mem_cons.mpr ⟨lw_p53, List.forall_mem_cons.mpr ⟨lw_p54, List.forall_mem_cons.mpr ⟨lw_p55, List.forall_mem_cons.mpr ⟨lw_p56, List.forall_mem_cons.mpr ⟨lw_p57, List.forall_mem_cons.mpr ⟨lw_p58, List.forall_mem_cons.mpr ⟨lw_p59, List.forall_mem_cons.mpr ⟨lw_p60, List.forall_mem_cons.mpr ⟨lw_p61, List.forall_mem_cons.mpr ⟨lw_p62, List.forall_mem_cons.mpr ⟨lw_p63, fun _ h => absurd h List.not_mem_nil⟩⟩⟩⟩⟩⟩⟩⟩⟩⟩⟩⟩⟩⟩⟩⟩
theorem lw_p64 : lw_okq (⟨"CuckooDebtModel", "readBird", "()V"⟩, 41) := ⟨⟨by decide +kernel, by decide +kernel⟩, List.mem_of_getElem? (i := 1114) (by decide +kernel), List.mem_of_getElem? (i := 1366) (by decide +kernel), List.mem_of_getElem? (i := 1367) (by decide +kernel)⟩
theorem lw_p65 : lw_okq (⟨"CuckooDebtModel", "readCall", "()V"⟩, 41) := ⟨⟨by decide +kernel, by decide +kernel⟩, List.mem_of_getElem? (i := 1114) (by decide +kernel), List.mem_of_getElem? (i := 1370) (by decide +kernel), List.mem_of_getElem? (i := 1371) (by decide +kernel)⟩
theorem lw_p66 : lw_okq (⟨"CuckooDebtModel", "readHear", "()V"⟩, 41) := ⟨⟨by decide +kernel, by decide +kernel⟩, List.mem_of_getElem? (i := 1114) (by decide +kernel), List.mem_of_getElem? (i := 1374) (by decide +kernel), List.mem_of_getElem? (i := 1375) (by decide +kernel)⟩
theorem lw_p67 : lw_okq (⟨"CuckooDebtModel", "readLaw", "()V"⟩, 41) := ⟨⟨by decide +kernel, by decide +kernel⟩, List.mem_of_getElem? (i := 1114) (by decide +kernel), List.mem_of_getElem? (i := 1378) (by decide +kernel), List.mem_of_getElem? (i := 1379) (by decide +kernel)⟩
theorem lw_p68 : lw_okq (⟨"CuckooDebtModel", "all", "(I)V"⟩, 41) := ⟨⟨by decide +kernel, by decide +kernel⟩, List.mem_of_getElem? (i := 1114) (by decide +kernel), List.mem_of_getElem? (i := 1382) (by decide +kernel), List.mem_of_getElem? (i := 1383) (by decide +kernel)⟩
theorem lw_p69 : lw_okq (⟨"CuckooDebtModel", "test", "(I)V"⟩, 41) := ⟨⟨by decide +kernel, by decide +kernel⟩, List.mem_of_getElem? (i := 1114) (by decide +kernel), List.mem_of_getElem? (i := 1386) (by decide +kernel), List.mem_of_getElem? (i := 1387) (by decide +kernel)⟩
theorem lw_p70 : lw_okq (⟨"CuckooDebtModel", "sums", "(I)V"⟩, 41) := ⟨⟨by decide +kernel, by decide +kernel⟩, List.mem_of_getElem? (i := 1114) (by decide +kernel), List.mem_of_getElem? (i := 1390) (by decide +kernel), List.mem_of_getElem? (i := 1391) (by decide +kernel)⟩
theorem lw_p71 : lw_okq (⟨"CuckooDebtModel", "products", "(I)V"⟩, 41) := ⟨⟨by decide +kernel, by decide +kernel⟩, List.mem_of_getElem? (i := 1114) (by decide +kernel), List.mem_of_getElem? (i := 1394) (by decide +kernel), List.mem_of_getElem? (i := 1395) (by decide +kernel)⟩
theorem lw_p72 : lw_okq (⟨"CuckooDebtModel", "takePart", "(I)V"⟩, 41) := ⟨⟨by decide +kernel, by decide +kernel⟩, List.mem_of_getElem? (i := 1114) (by decide +kernel), List.mem_of_getElem? (i := 1398) (by decide +kernel), List.mem_of_getElem? (i := 1399) (by decide +kernel)⟩
theorem lw_p73 : lw_okq (⟨"CuckooDebtModel", "factHere", "()I"⟩, 41) := ⟨⟨by decide +kernel, by decide +kernel⟩, List.mem_of_getElem? (i := 1114) (by decide +kernel), List.mem_of_getElem? (i := 1402) (by decide +kernel), List.mem_of_getElem? (i := 1403) (by decide +kernel)⟩
theorem lw_p74 : lw_okq (⟨"CuckooDebtModel", "emit", "(II)V"⟩, 41) := ⟨⟨by decide +kernel, by decide +kernel⟩, List.mem_of_getElem? (i := 1114) (by decide +kernel), List.mem_of_getElem? (i := 1406) (by decide +kernel), List.mem_of_getElem? (i := 1407) (by decide +kernel)⟩
theorem lw_p75 : lw_okq (⟨"CuckooDebtModel", "hasSign", "(I)Z"⟩, 41) := ⟨⟨by decide +kernel, by decide +kernel⟩, List.mem_of_getElem? (i := 1114) (by decide +kernel), List.mem_of_getElem? (i := 1410) (by decide +kernel), List.mem_of_getElem? (i := 1411) (by decide +kernel)⟩
theorem lw_p76 : lw_okq (⟨"CuckooDebtModel", "persons", "()I"⟩, 41) := ⟨⟨by decide +kernel, by decide +kernel⟩, List.mem_of_getElem? (i := 1114) (by decide +kernel), List.mem_of_getElem? (i := 1414) (by decide +kernel), List.mem_of_getElem? (i := 1415) (by decide +kernel)⟩
theorem lw_p77 : lw_okq (⟨"CuckooDebtModel", "isPerson", "(I)Z"⟩, 41) := ⟨⟨by decide +kernel, by decide +kernel⟩, List.mem_of_getElem? (i := 1114) (by decide +kernel), List.mem_of_getElem? (i := 1422) (by decide +kernel), List.mem_of_getElem? (i := 1423) (by decide +kernel)⟩
theorem lw_p78 : lw_okq (⟨"CuckooDebtModel", "isBird", "(I)Z"⟩, 41) := ⟨⟨by decide +kernel, by decide +kernel⟩, List.mem_of_getElem? (i := 1114) (by decide +kernel), List.mem_of_getElem? (i := 1440) (by decide +kernel), List.mem_of_getElem? (i := 1441) (by decide +kernel)⟩
theorem lw_p79 : lw_okq (⟨"CuckooDebtModel", "birds", "()I"⟩, 41) := ⟨⟨by decide +kernel, by decide +kernel⟩, List.mem_of_getElem? (i := 1114) (by decide +kernel), List.mem_of_getElem? (i := 1444) (by decide +kernel), List.mem_of_getElem? (i := 1445) (by decide +kernel)⟩
def lw_privs_5 : List (MethodName × Nat) := [(⟨"CuckooDebtModel", "readBird", "()V"⟩, 41), (⟨"CuckooDebtModel", "readCall", "()V"⟩, 41), (⟨"CuckooDebtModel", "readHear", "()V"⟩, 41), (⟨"CuckooDebtModel", "readLaw", "()V"⟩, 41), (⟨"CuckooDebtModel", "all", "(I)V"⟩, 41), (⟨"CuckooDebtModel", "test", "(I)V"⟩, 41), (⟨"CuckooDebtModel", "sums", "(I)V"⟩, 41), (⟨"CuckooDebtModel", "products", "(I)V"⟩, 41), (⟨"CuckooDebtModel", "takePart", "(I)V"⟩, 41), (⟨"CuckooDebtModel", "factHere", "()I"⟩, 41), (⟨"CuckooDebtModel", "emit", "(II)V"⟩, 41), (⟨"CuckooDebtModel", "hasSign", "(I)Z"⟩, 41), (⟨"CuckooDebtModel", "persons", "()I"⟩, 41), (⟨"CuckooDebtModel", "isPerson", "(I)Z"⟩, 41), (⟨"CuckooDebtModel", "isBird", "(I)Z"⟩, 41), (⟨"CuckooDebtModel", "birds", "()I"⟩, 41)]
theorem lw_r5 : ∀ q ∈ lw_privs_5, lw_okq q := List.forall_mem_cons.mpr ⟨lw_p64, List.forall_mem_cons.mpr ⟨lw_p65, List.forall_mem_cons.mpr ⟨lw_p66, List.forall_mem_cons.mpr ⟨lw_p67, List.forall_mem_cons.mpr ⟨lw_p68, List.forall_mem_cons.mpr ⟨lw_p69, List.forall_mem_cons.mpr ⟨lw_p70, List.forall_mem_cons.mpr ⟨lw_p71, List.forall_mem_cons.mpr ⟨lw_p72, List.forall_mem_cons.mpr ⟨lw_p73, List.forall_mem_cons.mpr ⟨lw_p74, List.forall_mem_cons.mpr ⟨lw_p75, List.forall_mem_cons.mpr ⟨lw_p76, List.forall_mem_cons.mpr ⟨lw_p77, List.forall_mem_cons.mpr ⟨lw_p78, List.forall_mem_cons.mpr ⟨lw_p79, fun _ h => absurd h List.not_mem_nil⟩⟩⟩⟩⟩⟩⟩⟩⟩⟩⟩⟩⟩⟩⟩⟩
theorem lw_p80 : lw_okq (⟨"CuckooDebtModel", "isShot", "(I)Z"⟩, 41) := ⟨⟨by decide +kernel, by decide +kernel⟩, List.mem_of_getElem? (i := 1114) (by decide +kernel), List.mem_of_getElem? (i := 1448) (by decide +kernel), List.mem_of_getElem? (i := 1449) (by decide +kernel)⟩
theorem lw_p81 : lw_okq (⟨"CuckooDebtModel", "standsAsTold", "()V"⟩, 41) := ⟨⟨by decide +kernel, by decide +kernel⟩, List.mem_of_getElem? (i := 1114) (by decide +kernel), List.mem_of_getElem? (i := 1460) (by decide +kernel), List.mem_of_getElem? (i := 1461) (by decide +kernel)⟩
theorem lw_p82 : lw_okq (⟨"CuckooDebtModel", "creditor", "(III)I"⟩, 41) := ⟨⟨by decide +kernel, by decide +kernel⟩, List.mem_of_getElem? (i := 1114) (by decide +kernel), List.mem_of_getElem? (i := 1464) (by decide +kernel), List.mem_of_getElem? (i := 1465) (by decide +kernel)⟩
theorem lw_p83 : lw_okq (⟨"CuckooDebtModel", "hears", "(III)Z"⟩, 41) := ⟨⟨by decide +kernel, by decide +kernel⟩, List.mem_of_getElem? (i := 1114) (by decide +kernel), List.mem_of_getElem? (i := 1468) (by decide +kernel), List.mem_of_getElem? (i := 1469) (by decide +kernel)⟩
theorem lw_p84 : lw_okq (⟨"CuckooDebtModel", "kindOf", "(I)I"⟩, 41) := ⟨⟨by decide +kernel, by decide +kernel⟩, List.mem_of_getElem? (i := 1114) (by decide +kernel), List.mem_of_getElem? (i := 1472) (by decide +kernel), List.mem_of_getElem? (i := 1473) (by decide +kernel)⟩
theorem lw_p85 : lw_okq (⟨"CuckooDebtModel", "placeAt", "(II)I"⟩, 41) := ⟨⟨by decide +kernel, by decide +kernel⟩, List.mem_of_getElem? (i := 1114) (by decide +kernel), List.mem_of_getElem? (i := 1476) (by decide +kernel), List.mem_of_getElem? (i := 1477) (by decide +kernel)⟩
theorem lw_p86 : lw_okq (⟨"CuckooDebtModel", "nearestTo", "(II)I"⟩, 41) := ⟨⟨by decide +kernel, by decide +kernel⟩, List.mem_of_getElem? (i := 1114) (by decide +kernel), List.mem_of_getElem? (i := 1483) (by decide +kernel), List.mem_of_getElem? (i := 1484) (by decide +kernel)⟩
theorem lw_p87 : lw_okq (⟨"CuckooDebtModel", "fogAt", "(II)I"⟩, 41) := ⟨⟨by decide +kernel, by decide +kernel⟩, List.mem_of_getElem? (i := 1114) (by decide +kernel), List.mem_of_getElem? (i := 1487) (by decide +kernel), List.mem_of_getElem? (i := 1488) (by decide +kernel)⟩
theorem lw_p88 : lw_okq (⟨"CuckooDebtModel", "worthAt", "(I)I"⟩, 41) := ⟨⟨by decide +kernel, by decide +kernel⟩, List.mem_of_getElem? (i := 1114) (by decide +kernel), List.mem_of_getElem? (i := 1491) (by decide +kernel), List.mem_of_getElem? (i := 1492) (by decide +kernel)⟩
theorem lw_p89 : lw_okq (⟨"CuckooDebtModel", "clip", "(II)I"⟩, 41) := ⟨⟨by decide +kernel, by decide +kernel⟩, List.mem_of_getElem? (i := 1114) (by decide +kernel), List.mem_of_getElem? (i := 1498) (by decide +kernel), List.mem_of_getElem? (i := 1499) (by decide +kernel)⟩
theorem lw_p90 : lw_okq (⟨"CuckooDebtModel", "pence", "(IIIII)I"⟩, 41) := ⟨⟨by decide +kernel, by decide +kernel⟩, List.mem_of_getElem? (i := 1114) (by decide +kernel), List.mem_of_getElem? (i := 1502) (by decide +kernel), List.mem_of_getElem? (i := 1503) (by decide +kernel)⟩
theorem lw_p91 : lw_okq (⟨"CuckooDebtModel", "findOwes", "(I)V"⟩, 41) := ⟨⟨by decide +kernel, by decide +kernel⟩, List.mem_of_getElem? (i := 1114) (by decide +kernel), List.mem_of_getElem? (i := 1510) (by decide +kernel), List.mem_of_getElem? (i := 1511) (by decide +kernel)⟩
theorem lw_p92 : lw_okq (⟨"CuckooDebtModel", "balanceOf", "(I)I"⟩, 41) := ⟨⟨by decide +kernel, by decide +kernel⟩, List.mem_of_getElem? (i := 1114) (by decide +kernel), List.mem_of_getElem? (i := 1518) (by decide +kernel), List.mem_of_getElem? (i := 1519) (by decide +kernel)⟩
theorem lw_p93 : lw_okq (⟨"CuckooDebtModel", "callsTold", "()I"⟩, 41) := ⟨⟨by decide +kernel, by decide +kernel⟩, List.mem_of_getElem? (i := 1114) (by decide +kernel), List.mem_of_getElem? (i := 1526) (by decide +kernel), List.mem_of_getElem? (i := 1527) (by decide +kernel)⟩
theorem lw_p94 : lw_okq (⟨"CuckooDebtModel", "keeps", "()V"⟩, 41) := ⟨⟨by decide +kernel, by decide +kernel⟩, List.mem_of_getElem? (i := 1114) (by decide +kernel), List.mem_of_getElem? (i := 1530) (by decide +kernel), List.mem_of_getElem? (i := 1531) (by decide +kernel)⟩
theorem lw_p95 : lw_okq (⟨"CuckooDebtModel", "copies", "(III)V"⟩, 41) := ⟨⟨by decide +kernel, by decide +kernel⟩, List.mem_of_getElem? (i := 1114) (by decide +kernel), List.mem_of_getElem? (i := 1534) (by decide +kernel), List.mem_of_getElem? (i := 1535) (by decide +kernel)⟩
def lw_privs_6 : List (MethodName × Nat) := [(⟨"CuckooDebtModel", "isShot", "(I)Z"⟩, 41), (⟨"CuckooDebtModel", "standsAsTold", "()V"⟩, 41), (⟨"CuckooDebtModel", "creditor", "(III)I"⟩, 41), (⟨"CuckooDebtModel", "hears", "(III)Z"⟩, 41), (⟨"CuckooDebtModel", "kindOf", "(I)I"⟩, 41), (⟨"CuckooDebtModel", "placeAt", "(II)I"⟩, 41), (⟨"CuckooDebtModel", "nearestTo", "(II)I"⟩, 41), (⟨"CuckooDebtModel", "fogAt", "(II)I"⟩, 41), (⟨"CuckooDebtModel", "worthAt", "(I)I"⟩, 41), (⟨"CuckooDebtModel", "clip", "(II)I"⟩, 41), (⟨"CuckooDebtModel", "pence", "(IIIII)I"⟩, 41), (⟨"CuckooDebtModel", "findOwes", "(I)V"⟩, 41), (⟨"CuckooDebtModel", "balanceOf", "(I)I"⟩, 41), (⟨"CuckooDebtModel", "callsTold", "()I"⟩, 41), (⟨"CuckooDebtModel", "keeps", "()V"⟩, 41), (⟨"CuckooDebtModel", "copies", "(III)V"⟩, 41)]
theorem lw_r6 : ∀ q ∈ lw_privs_6, lw_okq q := List.forall_mem_cons.mpr ⟨lw_p80, List.forall_mem_cons.mpr ⟨lw_p81, List.forall_mem_cons.mpr ⟨lw_p82, List.forall_mem_cons.mpr ⟨lw_p83, List.forall_mem_cons.mpr ⟨lw_p84, List.forall_mem_cons.mpr ⟨lw_p85, List.forall_mem_cons.mpr ⟨lw_p86, List.forall_mem_cons.mpr ⟨lw_p87, List.forall_mem_cons.mpr ⟨lw_p88, List.forall_mem_cons.mpr ⟨lw_p89, List.forall_mem_cons.mpr ⟨lw_p90, List.forall_mem_cons.mpr ⟨lw_p91, List.forall_mem_cons.mpr ⟨lw_p92, List.forall_mem_cons.mpr ⟨lw_p93, List.forall_mem_cons.mpr ⟨lw_p94, List.forall_mem_cons.mpr ⟨lw_p95, fun _ h => absurd h List.not_mem_nil⟩⟩⟩⟩⟩⟩⟩⟩⟩⟩⟩⟩⟩⟩⟩⟩
theorem lw_p96 : lw_okq (⟨"CuckooDebtModel", "standsIn", "(II)V"⟩, 41) := ⟨⟨by decide +kernel, by decide +kernel⟩, List.mem_of_getElem? (i := 1114) (by decide +kernel), List.mem_of_getElem? (i := 1553) (by decide +kernel), List.mem_of_getElem? (i := 1554) (by decide +kernel)⟩
theorem lw_p97 : lw_okq (⟨"CuckooDebtModel", "findStand", "(I)V"⟩, 41) := ⟨⟨by decide +kernel, by decide +kernel⟩, List.mem_of_getElem? (i := 1114) (by decide +kernel), List.mem_of_getElem? (i := 1557) (by decide +kernel), List.mem_of_getElem? (i := 1558) (by decide +kernel)⟩
theorem lw_p98 : lw_okq (⟨"CuckooDebtModel", "isCell", "(I)Z"⟩, 41) := ⟨⟨by decide +kernel, by decide +kernel⟩, List.mem_of_getElem? (i := 1114) (by decide +kernel), List.mem_of_getElem? (i := 1561) (by decide +kernel), List.mem_of_getElem? (i := 1562) (by decide +kernel)⟩
theorem lw_p99 : lw_okq (⟨"CuckooDebtModel", "findPlayed", "(II)I"⟩, 41) := ⟨⟨by decide +kernel, by decide +kernel⟩, List.mem_of_getElem? (i := 1114) (by decide +kernel), List.mem_of_getElem? (i := 1569) (by decide +kernel), List.mem_of_getElem? (i := 1570) (by decide +kernel)⟩
theorem lw_p100 : lw_okq (⟨"CuckooDebtModel", "writes", "(I)V"⟩, 41) := ⟨⟨by decide +kernel, by decide +kernel⟩, List.mem_of_getElem? (i := 1114) (by decide +kernel), List.mem_of_getElem? (i := 1573) (by decide +kernel), List.mem_of_getElem? (i := 1574) (by decide +kernel)⟩
theorem lw_p101 : lw_okq (⟨"CuckooDebtModel", "wasSo", "(I)Z"⟩, 41) := ⟨⟨by decide +kernel, by decide +kernel⟩, List.mem_of_getElem? (i := 1114) (by decide +kernel), List.mem_of_getElem? (i := 1577) (by decide +kernel), List.mem_of_getElem? (i := 1578) (by decide +kernel)⟩
theorem lw_p102 : lw_okq (⟨"CuckooDebtModel", "sumOf", "(I)I"⟩, 41) := ⟨⟨by decide +kernel, by decide +kernel⟩, List.mem_of_getElem? (i := 1114) (by decide +kernel), List.mem_of_getElem? (i := 1588) (by decide +kernel), List.mem_of_getElem? (i := 1589) (by decide +kernel)⟩
theorem lw_p103 : lw_okq (⟨"CuckooDebtModel", "findHour", "(I)V"⟩, 41) := ⟨⟨by decide +kernel, by decide +kernel⟩, List.mem_of_getElem? (i := 1114) (by decide +kernel), List.mem_of_getElem? (i := 1608) (by decide +kernel), List.mem_of_getElem? (i := 1609) (by decide +kernel)⟩
theorem lw_p104 : lw_okq (⟨"CuckooDebtModel", "sings", "(II)V"⟩, 41) := ⟨⟨by decide +kernel, by decide +kernel⟩, List.mem_of_getElem? (i := 1114) (by decide +kernel), List.mem_of_getElem? (i := 1612) (by decide +kernel), List.mem_of_getElem? (i := 1613) (by decide +kernel)⟩
theorem lw_p105 : lw_okq (⟨"CuckooDebtModel", "findJune", "()V"⟩, 41) := ⟨⟨by decide +kernel, by decide +kernel⟩, List.mem_of_getElem? (i := 1114) (by decide +kernel), List.mem_of_getElem? (i := 1628) (by decide +kernel), List.mem_of_getElem? (i := 1629) (by decide +kernel)⟩
def lw_privs_7 : List (MethodName × Nat) := [(⟨"CuckooDebtModel", "standsIn", "(II)V"⟩, 41), (⟨"CuckooDebtModel", "findStand", "(I)V"⟩, 41), (⟨"CuckooDebtModel", "isCell", "(I)Z"⟩, 41), (⟨"CuckooDebtModel", "findPlayed", "(II)I"⟩, 41), (⟨"CuckooDebtModel", "writes", "(I)V"⟩, 41), (⟨"CuckooDebtModel", "wasSo", "(I)Z"⟩, 41), (⟨"CuckooDebtModel", "sumOf", "(I)I"⟩, 41), (⟨"CuckooDebtModel", "findHour", "(I)V"⟩, 41), (⟨"CuckooDebtModel", "sings", "(II)V"⟩, 41), (⟨"CuckooDebtModel", "findJune", "()V"⟩, 41)]
theorem lw_r7 : ∀ q ∈ lw_privs_7, lw_okq q := List.forall_mem_cons.mpr ⟨lw_p96, List.forall_mem_cons.mpr ⟨lw_p97, List.forall_mem_cons.mpr ⟨lw_p98, List.forall_mem_cons.mpr ⟨lw_p99, List.forall_mem_cons.mpr ⟨lw_p100, List.forall_mem_cons.mpr ⟨lw_p101, List.forall_mem_cons.mpr ⟨lw_p102, List.forall_mem_cons.mpr ⟨lw_p103, List.forall_mem_cons.mpr ⟨lw_p104, List.forall_mem_cons.mpr ⟨lw_p105, fun _ h => absurd h List.not_mem_nil⟩⟩⟩⟩⟩⟩⟩⟩⟩⟩
def lw_privs : List (MethodName × Nat) := lw_privs_1 ++ (lw_privs_2 ++ (lw_privs_3 ++ (lw_privs_4 ++ (lw_privs_5 ++ (lw_privs_6 ++ (lw_privs_7))))))
def lw_tbl : List Cond := k2_sels lw_privs ++ tables_1
theorem lw_privs_ok : ∀ q ∈ lw_privs, lw_okq q := by
  show ∀ q ∈ lw_privs_1 ++ (lw_privs_2 ++ (lw_privs_3 ++ (lw_privs_4 ++ (lw_privs_5 ++ (lw_privs_6 ++ (lw_privs_7)))))), lw_okq q
  exact List.forall_mem_append.mpr ⟨lw_r1, List.forall_mem_append.mpr ⟨lw_r2, List.forall_mem_append.mpr ⟨lw_r3, List.forall_mem_append.mpr ⟨lw_r4, List.forall_mem_append.mpr ⟨lw_r5, List.forall_mem_append.mpr ⟨lw_r6, lw_r7⟩⟩⟩⟩⟩⟩

-- the good words of the tables: one list for every method
def TB : List Cond := lw_tbl.filter goodWord
theorem tb_mem {w : Cond} (i : Nat) (h : lw_tbl[i]? = some w) (g : goodWord w = true) : w ∈ TB := List.mem_filter.mpr ⟨List.mem_of_getElem? h, g⟩
theorem tb_m1 {w : Cond} (i : Nat) (h : tables_1_1[i]? = some w) (g : goodWord w = true) : w ∈ TB := List.mem_filter.mpr ⟨List.mem_append_right _ (List.mem_append_left _ (List.mem_of_getElem? h)), g⟩
theorem tb_m2 {w : Cond} (i : Nat) (h : tables_1_2[i]? = some w) (g : goodWord w = true) : w ∈ TB := List.mem_filter.mpr ⟨List.mem_append_right _ (List.mem_append_right _ (List.mem_append_left _ (List.mem_of_getElem? h))), g⟩
theorem tb_m3 {w : Cond} (i : Nat) (h : tables_1_3[i]? = some w) (g : goodWord w = true) : w ∈ TB := List.mem_filter.mpr ⟨List.mem_append_right _ (List.mem_append_right _ (List.mem_append_right _ (List.mem_append_left _ (List.mem_of_getElem? h)))), g⟩
theorem tb_m4 {w : Cond} (i : Nat) (h : tables_1_4[i]? = some w) (g : goodWord w = true) : w ∈ TB := List.mem_filter.mpr ⟨List.mem_append_right _ (List.mem_append_right _ (List.mem_append_right _ (List.mem_append_right _ (List.mem_append_left _ (List.mem_of_getElem? h))))), g⟩
theorem tb_m5 {w : Cond} (i : Nat) (h : tables_1_5[i]? = some w) (g : goodWord w = true) : w ∈ TB := List.mem_filter.mpr ⟨List.mem_append_right _ (List.mem_append_right _ (List.mem_append_right _ (List.mem_append_right _ (List.mem_append_right _ (List.mem_append_left _ (List.mem_of_getElem? h)))))), g⟩
theorem tb_m6 {w : Cond} (i : Nat) (h : tables_1_6[i]? = some w) (g : goodWord w = true) : w ∈ TB := List.mem_filter.mpr ⟨List.mem_append_right _ (List.mem_append_right _ (List.mem_append_right _ (List.mem_append_right _ (List.mem_append_right _ (List.mem_append_right _ (List.mem_append_left _ (List.mem_of_getElem? h))))))), g⟩
theorem tb_m7 {w : Cond} (i : Nat) (h : tables_1_7[i]? = some w) (g : goodWord w = true) : w ∈ TB := List.mem_filter.mpr ⟨List.mem_append_right _ (List.mem_append_right _ (List.mem_append_right _ (List.mem_append_right _ (List.mem_append_right _ (List.mem_append_right _ (List.mem_append_right _ (List.mem_of_getElem? h))))))), g⟩
theorem tb_good {w : Cond} (h : w ∈ TB) : (w.onTables && w.keeps) = true ∨ ∃ ty, w = .arrayClass ty := good_of_word (List.mem_filter.mp h).2
def RX0 : String := "CuckooDebt$Debts"
def TX0 : u_T := fun k => match k with
  | 0 => ("CuckooDebt$Debts", "land", "LCuckooDebt$Land;", true)
  | 1 => ("CuckooDebt$Debts", "deeds", "LCuckooDebt$Deeds;", true)
  | 2 => ("CuckooDebt$Debts", "at", "[I", true)
  | 3 => ("CuckooDebt$Debts", "sums", "[I", true)
  | 4 => ("CuckooDebt$Debts", "nearest", "[I", true)
  | 5 => ("CuckooDebt$Debts", "gap", "[I", true)
  | 6 => ("CuckooDebt$Debts", "reach", "[I", true)
  | 7 => ("CuckooDebt$Debts", "rateKey", "[I", true)
  | _ => ("CuckooDebt$Debts", "rate", "[I", true)
def tyX0 : Nat → FieldType := fun k => match k with
  | 0 => .object "CuckooDebt$Land"
  | 1 => .object "CuckooDebt$Deeds"
  | 2 => .array .int
  | 3 => .array .int
  | 4 => .array .int
  | 5 => .array .int
  | 6 => .array .int
  | 7 => .array .int
  | _ => .array .int
abbrev wsX00 : List Cond := u_ws RX0 TX0 9
theorem nmX0 : ∀ a, a < 9 → ∀ b, b < 9 → a ≠ b → (TX0 a).2.1 ≠ (TX0 b).2.1 := by decide +kernel
theorem tyX0_ok : ∀ k, k < 9 → parseFieldDescriptor (TX0 k).2.2.1 = some (tyX0 k) := by decide +kernel
abbrev cX0_init : ByteArray := prog_2_method_1_code
def yX0_init : MethodName := ⟨RX0, "<init>", "(LCuckooDebt$Land;LCuckooDebt$Deeds;)V"⟩
abbrev cX0_forget : ByteArray := prog_2_method_2_code
def yX0_forget : MethodName := ⟨RX0, "forget", "()V"⟩
abbrev cX0_allAsTold : ByteArray := prog_2_method_3_code
def yX0_allAsTold : MethodName := ⟨RX0, "allAsTold", "()V"⟩
abbrev cX0_put : ByteArray := prog_2_method_4_code
def yX0_put : MethodName := ⟨RX0, "put", "(IIII)V"⟩
abbrev cX0_heard : ByteArray := prog_2_method_5_code
def yX0_heard : MethodName := ⟨RX0, "heard", "(III)I"⟩
abbrev cX0_lookRound : ByteArray := prog_2_method_6_code
def yX0_lookRound : MethodName := ⟨RX0, "lookRound", "(I)V"⟩
abbrev cX0_meet : ByteArray := prog_2_method_7_code
def yX0_meet : MethodName := ⟨RX0, "meet", "(III)V"⟩
abbrev cX0_creditor : ByteArray := prog_2_method_8_code
def yX0_creditor : MethodName := ⟨RX0, "creditor", "(III)I"⟩
abbrev cX0_hears : ByteArray := prog_2_method_9_code
def yX0_hears : MethodName := ⟨RX0, "hears", "(II)Z"⟩
abbrev cX0_pence : ByteArray := prog_2_method_10_code
def yX0_pence : MethodName := ⟨RX0, "pence", "(IIII)I"⟩
abbrev cX0_gainOf : ByteArray := prog_2_method_11_code
def yX0_gainOf : MethodName := ⟨RX0, "gainOf", "(IIII)I"⟩
abbrev cX0_shareOf : ByteArray := prog_2_method_12_code
def yX0_shareOf : MethodName := ⟨RX0, "shareOf", "(II)I"⟩
abbrev cX0_penceOfDay : ByteArray := prog_2_method_13_code
def yX0_penceOfDay : MethodName := ⟨RX0, "penceOfDay", "(II)I"⟩
abbrev cX0_tally : ByteArray := prog_2_method_14_code
def yX0_tally : MethodName := ⟨RX0, "tally", "(I)V"⟩
abbrev cX0_addEntries : ByteArray := prog_2_method_15_code
def yX0_addEntries : MethodName := ⟨RX0, "addEntries", "(III)V"⟩
abbrev cX0_isCalled : ByteArray := prog_2_method_16_code
def yX0_isCalled : MethodName := ⟨RX0, "isCalled", "(II)Z"⟩
abbrev cX0_within : ByteArray := prog_2_method_17_code
def yX0_within : MethodName := ⟨RX0, "within", "(II)I"⟩
abbrev cX0_far : ByteArray := prog_2_method_18_code
def yX0_far : MethodName := ⟨RX0, "far", "(II)I"⟩
def RX1 : String := "CuckooDebt$Deeds"
def TX1 : u_T := fun k => match k with
  | 0 => ("CuckooDebt$Deeds", "times", "[I", true)
  | 1 => ("CuckooDebt$Deeds", "shot", "I", false)
  | _ => ("CuckooDebt$Deeds", "debt", "[I", true)
def tyX1 : Nat → FieldType := fun k => match k with
  | 0 => .array .int
  | 1 => .int
  | _ => .array .int
abbrev wsX10 : List Cond := u_ws RX1 TX1 3
theorem nmX1 : ∀ a, a < 3 → ∀ b, b < 3 → a ≠ b → (TX1 a).2.1 ≠ (TX1 b).2.1 := by decide +kernel
theorem tyX1_ok : ∀ k, k < 3 → parseFieldDescriptor (TX1 k).2.2.1 = some (tyX1 k) := by decide +kernel
abbrev cX1_init : ByteArray := prog_3_method_1_code
def yX1_init : MethodName := ⟨RX1, "<init>", "()V"⟩
abbrev cX1_begin : ByteArray := prog_3_method_2_code
def yX1_begin : MethodName := ⟨RX1, "begin", "(LCuckooDebt$Land;)V"⟩
abbrev cX1_copyFrom : ByteArray := prog_3_method_3_code
def yX1_copyFrom : MethodName := ⟨RX1, "copyFrom", "(LCuckooDebt$Deeds;)V"⟩
abbrev cX1_isShot : ByteArray := prog_3_method_4_code
def yX1_isShot : MethodName := ⟨RX1, "isShot", "(I)Z"⟩
abbrev cX1_timesOfDay : ByteArray := prog_3_method_5_code
def yX1_timesOfDay : MethodName := ⟨RX1, "timesOfDay", "(I)I"⟩
abbrev cX1_callCount : ByteArray := prog_3_method_6_code
def yX1_callCount : MethodName := ⟨RX1, "callCount", "()I"⟩
abbrev cX1_debtCount : ByteArray := prog_3_method_7_code
def yX1_debtCount : MethodName := ⟨RX1, "debtCount", "()I"⟩
def RX2 : String := "CuckooDebt$Game"
def TX2 : u_T := fun k => match k with
  | 0 => ("CuckooDebt$Game", "land", "LCuckooDebt$Land;", true)
  | 1 => ("CuckooDebt$Game", "deeds", "LCuckooDebt$Deeds;", true)
  | 2 => ("CuckooDebt$Game", "debts", "LCuckooDebt$Debts;", true)
  | 3 => ("CuckooDebt$Game", "bestCell", "I", false)
  | 4 => ("CuckooDebt$Game", "bestBalance", "I", false)
  | 5 => ("CuckooDebt$Game", "bestSet", "I", false)
  | 6 => ("CuckooDebt$Game", "rounds", "I", false)
  | 7 => ("CuckooDebt$Game", "rest", "Z", false)
  | 8 => ("CuckooDebt$Game", "path", "[I", true)
  | _ => ("CuckooDebt$Game", "seen", "[J", true)
def tyX2 : Nat → FieldType := fun k => match k with
  | 0 => .object "CuckooDebt$Land"
  | 1 => .object "CuckooDebt$Deeds"
  | 2 => .object "CuckooDebt$Debts"
  | 3 => .int
  | 4 => .int
  | 5 => .int
  | 6 => .int
  | 7 => .boolean
  | 8 => .array .int
  | _ => .array .long
abbrev wsX20 : List Cond := u_ws RX2 TX2 10
theorem nmX2 : ∀ a, a < 10 → ∀ b, b < 10 → a ≠ b → (TX2 a).2.1 ≠ (TX2 b).2.1 := by decide +kernel
theorem tyX2_ok : ∀ k, k < 10 → parseFieldDescriptor (TX2 k).2.2.1 = some (tyX2 k) := by decide +kernel
abbrev cX2_init : ByteArray := prog_4_method_1_code
def yX2_init : MethodName := ⟨RX2, "<init>", "(LCuckooDebt$Land;LCuckooDebt$Deeds;LCuckooDebt$Debts;)V"⟩
abbrev cX2_standOf : ByteArray := prog_4_method_2_code
def yX2_standOf : MethodName := ⟨RX2, "standOf", "(III)V"⟩
abbrev cX2_picnicOf : ByteArray := prog_4_method_3_code
def yX2_picnicOf : MethodName := ⟨RX2, "picnicOf", "(III)V"⟩
abbrev cX2_play : ByteArray := prog_4_method_4_code
def yX2_play : MethodName := ⟨RX2, "play", "(II)V"⟩
abbrev cX2_playRound : ByteArray := prog_4_method_5_code
def yX2_playRound : MethodName := ⟨RX2, "playRound", "(II)Z"⟩
abbrev cX2_gainOutside : ByteArray := prog_4_method_6_code
def yX2_gainOutside : MethodName := ⟨RX2, "gainOutside", "(III)I"⟩
abbrev cX2_tryCells : ByteArray := prog_4_method_7_code
def yX2_tryCells : MethodName := ⟨RX2, "tryCells", "(IIII)V"⟩
abbrev cX2_standing : ByteArray := prog_4_method_8_code
def yX2_standing : MethodName := ⟨RX2, "standing", "(II)J"⟩
abbrev cX2_wasSeen : ByteArray := prog_4_method_9_code
def yX2_wasSeen : MethodName := ⟨RX2, "wasSeen", "(I)Z"⟩
def RX3 : String := "CuckooDebt$History"
def TX3 : u_T := fun k => match k with
  | 0 => ("CuckooDebt$History", "size", "I", false)
  | 1 => ("CuckooDebt$History", "birds", "[I", true)
  | 2 => ("CuckooDebt$History", "hours", "[I", true)
  | _ => ("CuckooDebt$History", "before", "[I", true)
def tyX3 : Nat → FieldType := fun k => match k with
  | 0 => .int
  | 1 => .array .int
  | 2 => .array .int
  | _ => .array .int
abbrev wsX30 : List Cond := u_ws RX3 TX3 4
theorem nmX3 : ∀ a, a < 4 → ∀ b, b < 4 → a ≠ b → (TX3 a).2.1 ≠ (TX3 b).2.1 := by decide +kernel
theorem tyX3_ok : ∀ k, k < 4 → parseFieldDescriptor (TX3 k).2.2.1 = some (tyX3 k) := by decide +kernel
abbrev cX3_init : ByteArray := prog_5_method_1_code
def yX3_init : MethodName := ⟨RX3, "<init>", "()V"⟩
abbrev cX3_remember : ByteArray := prog_5_method_2_code
def yX3_remember : MethodName := ⟨RX3, "remember", "(III)V"⟩
abbrev cX3_takeBack : ByteArray := prog_5_method_3_code
def yX3_takeBack : MethodName := ⟨RX3, "takeBack", "(LCuckooDebt$Deeds;)Z"⟩
abbrev cX3_dropOldest : ByteArray := prog_5_method_4_code
def yX3_dropOldest : MethodName := ⟨RX3, "dropOldest", "()V"⟩
def RX4 : String := "CuckooDebt$June"
def TX4 : u_T := fun k => match k with
  | 0 => ("CuckooDebt$June", "land", "LCuckooDebt$Land;", true)
  | 1 => ("CuckooDebt$June", "deeds", "LCuckooDebt$Deeds;", true)
  | 2 => ("CuckooDebt$June", "debts", "LCuckooDebt$Debts;", true)
  | 3 => ("CuckooDebt$June", "purse", "[I", true)
  | _ => ("CuckooDebt$June", "due", "[I", true)
def tyX4 : Nat → FieldType := fun k => match k with
  | 0 => .object "CuckooDebt$Land"
  | 1 => .object "CuckooDebt$Deeds"
  | 2 => .object "CuckooDebt$Debts"
  | 3 => .array .int
  | _ => .array .int
abbrev wsX40 : List Cond := u_ws RX4 TX4 5
theorem nmX4 : ∀ a, a < 5 → ∀ b, b < 5 → a ≠ b → (TX4 a).2.1 ≠ (TX4 b).2.1 := by decide +kernel
theorem tyX4_ok : ∀ k, k < 5 → parseFieldDescriptor (TX4 k).2.2.1 = some (tyX4 k) := by decide +kernel
abbrev cX4_init : ByteArray := prog_6_method_1_code
def yX4_init : MethodName := ⟨RX4, "<init>", "(LCuckooDebt$Land;LCuckooDebt$Deeds;LCuckooDebt$Debts;)V"⟩
abbrev cX4_collect : ByteArray := prog_6_method_2_code
def yX4_collect : MethodName := ⟨RX4, "collect", "()V"⟩
abbrev cX4_ruined : ByteArray := prog_6_method_3_code
def yX4_ruined : MethodName := ⟨RX4, "ruined", "()I"⟩
abbrev cX4_payRound : ByteArray := prog_6_method_4_code
def yX4_payRound : MethodName := ⟨RX4, "payRound", "()Z"⟩
def RX5 : String := "CuckooDebt$Land"
def TX5 : u_T := fun k => match k with
  | 0 => ("CuckooDebt$Land", "wide", "I", false)
  | 1 => ("CuckooDebt$Land", "deep", "I", false)
  | 2 => ("CuckooDebt$Land", "people", "I", false)
  | 3 => ("CuckooDebt$Land", "birds", "I", false)
  | 4 => ("CuckooDebt$Land", "hear", "I", false)
  | 5 => ("CuckooDebt$Land", "kind", "[I", true)
  | 6 => ("CuckooDebt$Land", "purse", "[I", true)
  | 7 => ("CuckooDebt$Land", "place", "[I", true)
  | 8 => ("CuckooDebt$Land", "bush", "[I", true)
  | 9 => ("CuckooDebt$Land", "times", "[I", true)
  | 10 => ("CuckooDebt$Land", "code", "[I", true)
  | 11 => ("CuckooDebt$Land", "codeLength", "I", false)
  | 12 => ("CuckooDebt$Land", "owe", "LCuckooDebt$Law;", true)
  | _ => ("CuckooDebt$Land", "fog", "LCuckooDebt$Law;", true)
def tyX5 : Nat → FieldType := fun k => match k with
  | 0 => .int
  | 1 => .int
  | 2 => .int
  | 3 => .int
  | 4 => .int
  | 5 => .array .int
  | 6 => .array .int
  | 7 => .array .int
  | 8 => .array .int
  | 9 => .array .int
  | 10 => .array .int
  | 11 => .int
  | 12 => .object "CuckooDebt$Law"
  | _ => .object "CuckooDebt$Law"
abbrev wsX50 : List Cond := u_ws RX5 TX5 14
theorem nmX5 : ∀ a, a < 14 → ∀ b, b < 14 → a ≠ b → (TX5 a).2.1 ≠ (TX5 b).2.1 := by decide +kernel
theorem tyX5_ok : ∀ k, k < 14 → parseFieldDescriptor (TX5 k).2.2.1 = some (tyX5 k) := by decide +kernel
abbrev cX5_init : ByteArray := prog_7_method_1_code
def yX5_init : MethodName := ⟨RX5, "<init>", "()V"⟩
abbrev cX5_clear : ByteArray := prog_7_method_2_code
def yX5_clear : MethodName := ⟨RX5, "clear", "()V"⟩
abbrev cX5_holdUntold : ByteArray := prog_7_method_3_code
def yX5_holdUntold : MethodName := ⟨RX5, "holdUntold", "(LCuckooDebt$Law;I)V"⟩
abbrev cX5_addStep : ByteArray := prog_7_method_4_code
def yX5_addStep : MethodName := ⟨RX5, "addStep", "(I)V"⟩
abbrev cX5_copyFrom : ByteArray := prog_7_method_5_code
def yX5_copyFrom : MethodName := ⟨RX5, "copyFrom", "(LCuckooDebt$Land;)V"⟩
def RX6 : String := "CuckooDebt$Law"
def TX6 : u_T := fun k => match k with
  | 0 => ("CuckooDebt$Law", "code", "[I", true)
  | 1 => ("CuckooDebt$Law", "isTold", "Z", false)
  | 2 => ("CuckooDebt$Law", "from", "I", false)
  | 3 => ("CuckooDebt$Law", "to", "I", false)
  | _ => ("CuckooDebt$Law", "stack", "[I", true)
def tyX6 : Nat → FieldType := fun k => match k with
  | 0 => .array .int
  | 1 => .boolean
  | 2 => .int
  | 3 => .int
  | _ => .array .int
abbrev wsX60 : List Cond := u_ws RX6 TX6 5
theorem nmX6 : ∀ a, a < 5 → ∀ b, b < 5 → a ≠ b → (TX6 a).2.1 ≠ (TX6 b).2.1 := by decide +kernel
theorem tyX6_ok : ∀ k, k < 5 → parseFieldDescriptor (TX6 k).2.2.1 = some (tyX6 k) := by decide +kernel
abbrev cX6_init : ByteArray := prog_8_method_1_code
def yX6_init : MethodName := ⟨RX6, "<init>", "([I)V"⟩
abbrev cX6_copyFrom : ByteArray := prog_8_method_2_code
def yX6_copyFrom : MethodName := ⟨RX6, "copyFrom", "(LCuckooDebt$Law;)V"⟩
abbrev cX6_value : ByteArray := prog_8_method_3_code
def yX6_value : MethodName := ⟨RX6, "value", "(IIII)I"⟩
abbrev cX6_laid : ByteArray := prog_8_method_4_code
def yX6_laid : MethodName := ⟨RX6, "laid", "(IIIII)I"⟩
abbrev cX6_joined : ByteArray := prog_8_method_5_code
def yX6_joined : MethodName := ⟨RX6, "joined", "(III)I"⟩
def RX7 : String := "CuckooDebt$LawReader"
def TX7 : u_T := fun k => match k with
  | 0 => ("CuckooDebt$LawReader", "tape", "LCuckooDebt$Tape;", true)
  | 1 => ("CuckooDebt$LawReader", "land", "LCuckooDebt$Land;", true)
  | _ => ("CuckooDebt$LawReader", "owing", "Z", false)
def tyX7 : Nat → FieldType := fun k => match k with
  | 0 => .object "CuckooDebt$Tape"
  | 1 => .object "CuckooDebt$Land"
  | _ => .boolean
abbrev wsX70 : List Cond := u_ws RX7 TX7 3
theorem nmX7 : ∀ a, a < 3 → ∀ b, b < 3 → a ≠ b → (TX7 a).2.1 ≠ (TX7 b).2.1 := by decide +kernel
theorem tyX7_ok : ∀ k, k < 3 → parseFieldDescriptor (TX7 k).2.2.1 = some (tyX7 k) := by decide +kernel
abbrev cX7_init : ByteArray := prog_9_method_1_code
def yX7_init : MethodName := ⟨RX7, "<init>", "(LCuckooDebt$Tape;LCuckooDebt$Land;)V"⟩
abbrev cX7_readLevel : ByteArray := prog_9_method_2_code
def yX7_readLevel : MethodName := ⟨RX7, "readLevel", "(II)Z"⟩
abbrev cX7_stepHere : ByteArray := prog_9_method_3_code
def yX7_stepHere : MethodName := ⟨RX7, "stepHere", "(I)I"⟩
abbrev cX7_readPart : ByteArray := prog_9_method_4_code
def yX7_readPart : MethodName := ⟨RX7, "readPart", "(I)Z"⟩
abbrev cX7_factHere : ByteArray := prog_9_method_5_code
def yX7_factHere : MethodName := ⟨RX7, "factHere", "()I"⟩
def RX8 : String := "CuckooDebt$Reader"
def TX8 : u_T := fun k => match k with
  | 0 => ("CuckooDebt$Reader", "tape", "LCuckooDebt$Tape;", true)
  | 1 => ("CuckooDebt$Reader", "land", "LCuckooDebt$Land;", true)
  | 2 => ("CuckooDebt$Reader", "laws", "LCuckooDebt$LawReader;", true)
  | 3 => ("CuckooDebt$Reader", "peopleNames", "[J", true)
  | 4 => ("CuckooDebt$Reader", "birdNames", "[J", true)
  | 5 => ("CuckooDebt$Reader", "goes", "[I", true)
  | 6 => ("CuckooDebt$Reader", "goCount", "I", false)
  | 7 => ("CuckooDebt$Reader", "callCount", "I", false)
  | 8 => ("CuckooDebt$Reader", "hearIsTold", "Z", false)
  | 9 => ("CuckooDebt$Reader", "cell", "I", false)
  | _ => ("CuckooDebt$Reader", "found", "I", false)
def tyX8 : Nat → FieldType := fun k => match k with
  | 0 => .object "CuckooDebt$Tape"
  | 1 => .object "CuckooDebt$Land"
  | 2 => .object "CuckooDebt$LawReader"
  | 3 => .array .long
  | 4 => .array .long
  | 5 => .array .int
  | 6 => .int
  | 7 => .int
  | 8 => .boolean
  | 9 => .int
  | _ => .int
abbrev wsX80 : List Cond := u_ws RX8 TX8 11
theorem nmX8 : ∀ a, a < 11 → ∀ b, b < 11 → a ≠ b → (TX8 a).2.1 ≠ (TX8 b).2.1 := by decide +kernel
theorem tyX8_ok : ∀ k, k < 11 → parseFieldDescriptor (TX8 k).2.2.1 = some (tyX8 k) := by decide +kernel
abbrev cX8_init : ByteArray := prog_10_method_1_code
def yX8_init : MethodName := ⟨RX8, "<init>", "(LCuckooDebt$Tape;LCuckooDebt$Land;)V"⟩
abbrev cX8_read : ByteArray := prog_10_method_2_code
def yX8_read : MethodName := ⟨RX8, "read", "()I"⟩
abbrev cX8_readHills : ByteArray := prog_10_method_3_code
def yX8_readHills : MethodName := ⟨RX8, "readHills", "()Z"⟩
abbrev cX8_readLine : ByteArray := prog_10_method_4_code
def yX8_readLine : MethodName := ⟨RX8, "readLine", "()Z"⟩
abbrev cX8_readPerson : ByteArray := prog_10_method_5_code
def yX8_readPerson : MethodName := ⟨RX8, "readPerson", "()Z"⟩
abbrev cX8_readGo : ByteArray := prog_10_method_6_code
def yX8_readGo : MethodName := ⟨RX8, "readGo", "()Z"⟩
abbrev cX8_readBird : ByteArray := prog_10_method_7_code
def yX8_readBird : MethodName := ⟨RX8, "readBird", "()Z"⟩
abbrev cX8_readCall : ByteArray := prog_10_method_8_code
def yX8_readCall : MethodName := ⟨RX8, "readCall", "()Z"⟩
abbrev cX8_readLaw : ByteArray := prog_10_method_9_code
def yX8_readLaw : MethodName := ⟨RX8, "readLaw", "(LCuckooDebt$Law;)Z"⟩
abbrev cX8_readHear : ByteArray := prog_10_method_10_code
def yX8_readHear : MethodName := ⟨RX8, "readHear", "()Z"⟩
abbrev cX8_takeKeyword : ByteArray := prog_10_method_11_code
def yX8_takeKeyword : MethodName := ⟨RX8, "takeKeyword", "(I)Z"⟩
abbrev cX8_takeEnd : ByteArray := prog_10_method_12_code
def yX8_takeEnd : MethodName := ⟨RX8, "takeEnd", "()Z"⟩
abbrev cX8_takeCell : ByteArray := prog_10_method_13_code
def yX8_takeCell : MethodName := ⟨RX8, "takeCell", "()Z"⟩
abbrev cX8_isNumber : ByteArray := prog_10_method_14_code
def yX8_isNumber : MethodName := ⟨RX8, "isNumber", "(II)Z"⟩
abbrev cX8_isNewName : ByteArray := prog_10_method_15_code
def yX8_isNewName : MethodName := ⟨RX8, "isNewName", "()Z"⟩
abbrev cX8_isKnown : ByteArray := prog_10_method_16_code
def yX8_isKnown : MethodName := ⟨RX8, "isKnown", "([JI)Z"⟩
abbrev cX8_indexOf : ByteArray := prog_10_method_17_code
def yX8_indexOf : MethodName := ⟨RX8, "indexOf", "([JI)I"⟩
abbrev cX8_walkAll : ByteArray := prog_10_method_18_code
def yX8_walkAll : MethodName := ⟨RX8, "walkAll", "()V"⟩
def RX9 : String := "CuckooDebt$Songs"
def TX9 : u_T := fun k => match k with
  | 0 => ("CuckooDebt$Songs", "land", "LCuckooDebt$Land;", true)
  | 1 => ("CuckooDebt$Songs", "deeds", "LCuckooDebt$Deeds;", true)
  | 2 => ("CuckooDebt$Songs", "debts", "LCuckooDebt$Debts;", true)
  | 3 => ("CuckooDebt$Songs", "found", "I", false)
  | 4 => ("CuckooDebt$Songs", "leastSet", "I", false)
  | 5 => ("CuckooDebt$Songs", "row", "[I", true)
  | 6 => ("CuckooDebt$Songs", "wanted", "I", false)
  | 7 => ("CuckooDebt$Songs", "price", "[I", true)
  | _ => ("CuckooDebt$Songs", "left", "[I", true)
def tyX9 : Nat → FieldType := fun k => match k with
  | 0 => .object "CuckooDebt$Land"
  | 1 => .object "CuckooDebt$Deeds"
  | 2 => .object "CuckooDebt$Debts"
  | 3 => .int
  | 4 => .int
  | 5 => .array .int
  | 6 => .int
  | 7 => .array .int
  | _ => .array .int
abbrev wsX90 : List Cond := u_ws RX9 TX9 9
theorem nmX9 : ∀ a, a < 9 → ∀ b, b < 9 → a ≠ b → (TX9 a).2.1 ≠ (TX9 b).2.1 := by decide +kernel
theorem tyX9_ok : ∀ k, k < 9 → parseFieldDescriptor (TX9 k).2.2.1 = some (tyX9 k) := by decide +kernel
abbrev cX9_init : ByteArray := prog_11_method_1_code
def yX9_init : MethodName := ⟨RX9, "<init>", "(LCuckooDebt$Land;LCuckooDebt$Deeds;LCuckooDebt$Debts;)V"⟩
abbrev cX9_countRows : ByteArray := prog_11_method_2_code
def yX9_countRows : MethodName := ⟨RX9, "countRows", "(I)I"⟩
abbrev cX9_findRow : ByteArray := prog_11_method_3_code
def yX9_findRow : MethodName := ⟨RX9, "findRow", "(II)Z"⟩
abbrev cX9_findWooden : ByteArray := prog_11_method_4_code
def yX9_findWooden : MethodName := ⟨RX9, "findWooden", "()V"⟩
abbrev cX9_isRightWithout : ByteArray := prog_11_method_5_code
def yX9_isRightWithout : MethodName := ⟨RX9, "isRightWithout", "(I)Z"⟩
abbrev cX9_findPrices : ByteArray := prog_11_method_6_code
def yX9_findPrices : MethodName := ⟨RX9, "findPrices", "(I)V"⟩
abbrev cX9_priceAt : ByteArray := prog_11_method_7_code
def yX9_priceAt : MethodName := ⟨RX9, "priceAt", "(III)I"⟩
abbrev cX9_singFrom : ByteArray := prog_11_method_8_code
def yX9_singFrom : MethodName := ⟨RX9, "singFrom", "(I)Z"⟩
abbrev cX9_pay : ByteArray := prog_11_method_9_code
def yX9_pay : MethodName := ⟨RX9, "pay", "(II)Z"⟩
abbrev cX9_takeBack : ByteArray := prog_11_method_10_code
def yX9_takeBack : MethodName := ⟨RX9, "takeBack", "(II)V"⟩
abbrev cX9_isAllPaid : ByteArray := prog_11_method_11_code
def yX9_isAllPaid : MethodName := ⟨RX9, "isAllPaid", "()Z"⟩
def RX10 : String := "CuckooDebt$Tape"
def TX10 : u_T := fun k => match k with
  | 0 => ("CuckooDebt$Tape", "signs", "[C", true)
  | 1 => ("CuckooDebt$Tape", "length", "I", false)
  | 2 => ("CuckooDebt$Tape", "token", "I", false)
  | 3 => ("CuckooDebt$Tape", "place", "I", false)
  | 4 => ("CuckooDebt$Tape", "number", "I", false)
  | 5 => ("CuckooDebt$Tape", "keyword", "I", false)
  | 6 => ("CuckooDebt$Tape", "word", "J", false)
  | 7 => ("CuckooDebt$Tape", "fault", "I", false)
  | 8 => ("CuckooDebt$Tape", "next", "I", false)
  | _ => ("CuckooDebt$Tape", "keywords", "[J", true)
def tyX10 : Nat → FieldType := fun k => match k with
  | 0 => .array .char
  | 1 => .int
  | 2 => .int
  | 3 => .int
  | 4 => .int
  | 5 => .int
  | 6 => .long
  | 7 => .int
  | 8 => .int
  | _ => .array .long
abbrev wsX100 : List Cond := u_ws RX10 TX10 10
theorem nmX10 : ∀ a, a < 10 → ∀ b, b < 10 → a ≠ b → (TX10 a).2.1 ≠ (TX10 b).2.1 := by decide +kernel
theorem tyX10_ok : ∀ k, k < 10 → parseFieldDescriptor (TX10 k).2.2.1 = some (tyX10 k) := by decide +kernel
abbrev cX10_init : ByteArray := prog_12_method_1_code
def yX10_init : MethodName := ⟨RX10, "<init>", "()V"⟩
abbrev cX10_addBytes : ByteArray := prog_12_method_2_code
def yX10_addBytes : MethodName := ⟨RX10, "addBytes", "(J)V"⟩
abbrev cX10_rewind : ByteArray := prog_12_method_3_code
def yX10_rewind : MethodName := ⟨RX10, "rewind", "()V"⟩
abbrev cX10_fail : ByteArray := prog_12_method_4_code
def yX10_fail : MethodName := ⟨RX10, "fail", "(I)Z"⟩
abbrev cX10_step : ByteArray := prog_12_method_5_code
def yX10_step : MethodName := ⟨RX10, "step", "()Z"⟩
abbrev cX10_isName : ByteArray := prog_12_method_6_code
def yX10_isName : MethodName := ⟨RX10, "isName", "()Z"⟩
abbrev cX10_readWord : ByteArray := prog_12_method_7_code
def yX10_readWord : MethodName := ⟨RX10, "readWord", "()V"⟩
abbrev cX10_readNumber : ByteArray := prog_12_method_8_code
def yX10_readNumber : MethodName := ⟨RX10, "readNumber", "()V"⟩
abbrev cX10_isSign : ByteArray := prog_12_method_9_code
def yX10_isSign : MethodName := ⟨RX10, "isSign", "(C)Z"⟩
def RX11 : String := "CuckooDebt"
def TX11 : u_T := fun k => match k with
  | 0 => ("CuckooDebt", "tape", "LCuckooDebt$Tape;", true)
  | 1 => ("CuckooDebt", "land", "LCuckooDebt$Land;", true)
  | 2 => ("CuckooDebt", "draft", "LCuckooDebt$Land;", true)
  | 3 => ("CuckooDebt", "reader", "LCuckooDebt$Reader;", true)
  | 4 => ("CuckooDebt", "deeds", "LCuckooDebt$Deeds;", true)
  | 5 => ("CuckooDebt", "marks", "[LCuckooDebt$Deeds;", true)
  | 6 => ("CuckooDebt", "laid", "I", false)
  | 7 => ("CuckooDebt", "history", "LCuckooDebt$History;", true)
  | 8 => ("CuckooDebt", "debts", "LCuckooDebt$Debts;", true)
  | 9 => ("CuckooDebt", "game", "LCuckooDebt$Game;", true)
  | 10 => ("CuckooDebt", "songs", "LCuckooDebt$Songs;", true)
  | _ => ("CuckooDebt", "juneDay", "LCuckooDebt$June;", true)
def tyX11 : Nat → FieldType := fun k => match k with
  | 0 => .object "CuckooDebt$Tape"
  | 1 => .object "CuckooDebt$Land"
  | 2 => .object "CuckooDebt$Land"
  | 3 => .object "CuckooDebt$Reader"
  | 4 => .object "CuckooDebt$Deeds"
  | 5 => .array (.object "CuckooDebt$Deeds")
  | 6 => .int
  | 7 => .object "CuckooDebt$History"
  | 8 => .object "CuckooDebt$Debts"
  | 9 => .object "CuckooDebt$Game"
  | 10 => .object "CuckooDebt$Songs"
  | _ => .object "CuckooDebt$June"
abbrev wsX110 : List Cond := u_ws RX11 TX11 12
theorem nmX11 : ∀ a, a < 12 → ∀ b, b < 12 → a ≠ b → (TX11 a).2.1 ≠ (TX11 b).2.1 := by decide +kernel
theorem tyX11_ok : ∀ k, k < 12 → parseFieldDescriptor (TX11 k).2.2.1 = some (tyX11 k) := by decide +kernel
abbrev cX11_init : ByteArray := prog_1_method_1_code
def yX11_init : MethodName := ⟨RX11, "<init>", "()V"⟩
abbrev cX11_feed : ByteArray := prog_1_method_2_code
def yX11_feed : MethodName := ⟨RX11, "feed", "(JJJ)I"⟩
abbrev cX11_hills : ByteArray := prog_1_method_3_code
def yX11_hills : MethodName := ⟨RX11, "hills", "()I"⟩
abbrev cX11_person : ByteArray := prog_1_method_4_code
def yX11_person : MethodName := ⟨RX11, "person", "(II)I"⟩
abbrev cX11_place : ByteArray := prog_1_method_5_code
def yX11_place : MethodName := ⟨RX11, "place", "(II)I"⟩
abbrev cX11_bird : ByteArray := prog_1_method_6_code
def yX11_bird : MethodName := ⟨RX11, "bird", "(II)I"⟩
abbrev cX11_calls : ByteArray := prog_1_method_7_code
def yX11_calls : MethodName := ⟨RX11, "calls", "(II)I"⟩
abbrev cX11_entry : ByteArray := prog_1_method_8_code
def yX11_entry : MethodName := ⟨RX11, "entry", "(IIIZ)I"⟩
abbrev cX11_owed : ByteArray := prog_1_method_9_code
def yX11_owed : MethodName := ⟨RX11, "owed", "(II)I"⟩
abbrev cX11_balance : ByteArray := prog_1_method_10_code
def yX11_balance : MethodName := ⟨RX11, "balance", "(I)I"⟩
abbrev cX11_call : ByteArray := prog_1_method_11_code
def yX11_call : MethodName := ⟨RX11, "call", "(III)Z"⟩
abbrev cX11_shoot : ByteArray := prog_1_method_12_code
def yX11_shoot : MethodName := ⟨RX11, "shoot", "(IZ)Z"⟩
abbrev cX11_undo : ByteArray := prog_1_method_13_code
def yX11_undo : MethodName := ⟨RX11, "undo", "()Z"⟩
abbrev cX11_stand : ByteArray := prog_1_method_14_code
def yX11_stand : MethodName := ⟨RX11, "stand", "(IIII)I"⟩
abbrev cX11_played : ByteArray := prog_1_method_15_code
def yX11_played : MethodName := ⟨RX11, "played", "(III)I"⟩
abbrev cX11_picnic : ByteArray := prog_1_method_16_code
def yX11_picnic : MethodName := ⟨RX11, "picnic", "(IIII)I"⟩
abbrev cX11_netted : ByteArray := prog_1_method_17_code
def yX11_netted : MethodName := ⟨RX11, "netted", "()I"⟩
abbrev cX11_without : ByteArray := prog_1_method_18_code
def yX11_without : MethodName := ⟨RX11, "without", "(II)I"⟩
abbrev cX11_told : ByteArray := prog_1_method_19_code
def yX11_told : MethodName := ⟨RX11, "told", "(II)Z"⟩
abbrev cX11_sang : ByteArray := prog_1_method_20_code
def yX11_sang : MethodName := ⟨RX11, "sang", "(I)I"⟩
abbrev cX11_song : ByteArray := prog_1_method_21_code
def yX11_song : MethodName := ⟨RX11, "song", "(III)I"⟩
abbrev cX11_wooden : ByteArray := prog_1_method_22_code
def yX11_wooden : MethodName := ⟨RX11, "wooden", "(I)I"⟩
abbrev cX11_june : ByteArray := prog_1_method_23_code
def yX11_june : MethodName := ⟨RX11, "june", "(I)I"⟩
abbrev cX11_mark : ByteArray := prog_1_method_24_code
def yX11_mark : MethodName := ⟨RX11, "mark", "(IZ)Z"⟩
abbrev cX11_count : ByteArray := prog_1_method_25_code
def yX11_count : MethodName := ⟨RX11, "count", "(I)I"⟩
abbrev cX11_isPerson : ByteArray := prog_1_method_26_code
def yX11_isPerson : MethodName := ⟨RX11, "isPerson", "(I)Z"⟩
abbrev cX11_isBird : ByteArray := prog_1_method_27_code
def yX11_isBird : MethodName := ⟨RX11, "isBird", "(I)Z"⟩
abbrev cX11_isHour : ByteArray := prog_1_method_28_code
def yX11_isHour : MethodName := ⟨RX11, "isHour", "(I)Z"⟩
abbrev cX11_areHours : ByteArray := prog_1_method_29_code
def yX11_areHours : MethodName := ⟨RX11, "areHours", "(II)Z"⟩
abbrev cX11_balanceAsTold : ByteArray := prog_1_method_30_code
def yX11_balanceAsTold : MethodName := ⟨RX11, "balanceAsTold", "(II)I"⟩
def RX12 : String := "CuckooDebtModel"
def TX12 : u_T := fun k => match k with
  | 0 => ("CuckooDebtModel", "thrown", "I", false)
  | 1 => ("CuckooDebtModel", "tape", "[I", true)
  | 2 => ("CuckooDebtModel", "taped", "I", false)
  | 3 => ("CuckooDebtModel", "size", "I", false)
  | 4 => ("CuckooDebtModel", "sort", "[I", true)
  | 5 => ("CuckooDebtModel", "place", "[I", true)
  | 6 => ("CuckooDebtModel", "value", "[J", true)
  | 7 => ("CuckooDebtModel", "at", "I", false)
  | 8 => ("CuckooDebtModel", "fault", "I", false)
  | 9 => ("CuckooDebtModel", "words", "[J", true)
  | 10 => ("CuckooDebtModel", "lands", "[I", true)
  | 11 => ("CuckooDebtModel", "readCalls", "[I", true)
  | 12 => ("CuckooDebtModel", "goes", "[I", true)
  | 13 => ("CuckooDebtModel", "op", "[I", true)
  | 14 => ("CuckooDebtModel", "arg", "[I", true)
  | 15 => ("CuckooDebtModel", "codes", "I", false)
  | 16 => ("CuckooDebtModel", "names", "[J", true)
  | 17 => ("CuckooDebtModel", "nameOf", "[I", true)
  | 18 => ("CuckooDebtModel", "namesMany", "I", false)
  | 19 => ("CuckooDebtModel", "goesMany", "I", false)
  | 20 => ("CuckooDebtModel", "callsMany", "I", false)
  | 21 => ("CuckooDebtModel", "hasHear", "Z", false)
  | 22 => ("CuckooDebtModel", "ofFog", "Z", false)
  | 23 => ("CuckooDebtModel", "factWords", "[I", true)
  | 24 => ("CuckooDebtModel", "facts", "[I", true)
  | 25 => ("CuckooDebtModel", "pile", "[I", true)
  | 26 => ("CuckooDebtModel", "state", "[I", true)
  | 27 => ("CuckooDebtModel", "undos", "I", false)
  | 28 => ("CuckooDebtModel", "isMarked", "[Z", true)
  | 29 => ("CuckooDebtModel", "standing", "[I", true)
  | 30 => ("CuckooDebtModel", "standFrom", "I", false)
  | 31 => ("CuckooDebtModel", "standTo", "I", false)
  | 32 => ("CuckooDebtModel", "owes", "[I", true)
  | 33 => ("CuckooDebtModel", "bestCell", "I", false)
  | 34 => ("CuckooDebtModel", "bestBalance", "I", false)
  | 35 => ("CuckooDebtModel", "rows", "[I", true)
  | 36 => ("CuckooDebtModel", "owesBy", "[I", true)
  | 37 => ("CuckooDebtModel", "sung", "[I", true)
  | 38 => ("CuckooDebtModel", "asked", "[I", true)
  | 39 => ("CuckooDebtModel", "rowsMany", "I", false)
  | _ => ("CuckooDebtModel", "purse", "[I", true)
def tyX12 : Nat → FieldType := fun k => match k with
  | 0 => .int
  | 1 => .array .int
  | 2 => .int
  | 3 => .int
  | 4 => .array .int
  | 5 => .array .int
  | 6 => .array .long
  | 7 => .int
  | 8 => .int
  | 9 => .array .long
  | 10 => .array .int
  | 11 => .array .int
  | 12 => .array .int
  | 13 => .array .int
  | 14 => .array .int
  | 15 => .int
  | 16 => .array .long
  | 17 => .array .int
  | 18 => .int
  | 19 => .int
  | 20 => .int
  | 21 => .boolean
  | 22 => .boolean
  | 23 => .array .int
  | 24 => .array .int
  | 25 => .array .int
  | 26 => .array .int
  | 27 => .int
  | 28 => .array .boolean
  | 29 => .array .int
  | 30 => .int
  | 31 => .int
  | 32 => .array .int
  | 33 => .int
  | 34 => .int
  | 35 => .array .int
  | 36 => .array .int
  | 37 => .array .int
  | 38 => .array .int
  | 39 => .int
  | _ => .array .int
abbrev wsX120 : List Cond := u_ws RX12 TX12 41
theorem nmX12 : ∀ a, a < 41 → ∀ b, b < 41 → a ≠ b → (TX12 a).2.1 ≠ (TX12 b).2.1 := by decide +kernel
theorem tyX12_ok : ∀ k, k < 41 → parseFieldDescriptor (TX12 k).2.2.1 = some (tyX12 k) := by decide +kernel
abbrev cX12_thrown : ByteArray := prog_14_method_1_code
def yX12_thrown : MethodName := ⟨RX12, "thrown", "()I"⟩
abbrev cX12_feed : ByteArray := prog_14_method_2_code
def yX12_feed : MethodName := ⟨RX12, "feed", "(JJJ)I"⟩
abbrev cX12_lay : ByteArray := prog_14_method_3_code
def yX12_lay : MethodName := ⟨RX12, "lay", "(J)V"⟩
abbrev cX12_init : ByteArray := prog_14_method_4_code
def yX12_init : MethodName := ⟨RX12, "<init>", "()V"⟩
abbrev cX12_isLetter : ByteArray := prog_14_method_5_code
def yX12_isLetter : MethodName := ⟨RX12, "isLetter", "(I)Z"⟩
abbrev cX12_isDigit : ByteArray := prog_14_method_6_code
def yX12_isDigit : MethodName := ⟨RX12, "isDigit", "(I)Z"⟩
abbrev cX12_rank : ByteArray := prog_14_method_7_code
def yX12_rank : MethodName := ⟨RX12, "rank", "(I)I"⟩
abbrev cX12_isSignOf : ByteArray := prog_14_method_8_code
def yX12_isSignOf : MethodName := ⟨RX12, "isSignOf", "(I)Z"⟩
abbrev cX12_cutAll : ByteArray := prog_14_method_9_code
def yX12_cutAll : MethodName := ⟨RX12, "cutAll", "()V"⟩
abbrev cX12_wrong : ByteArray := prog_14_method_10_code
def yX12_wrong : MethodName := ⟨RX12, "wrong", "(I)V"⟩
abbrev cX12_isSign : ByteArray := prog_14_method_11_code
def yX12_isSign : MethodName := ⟨RX12, "isSign", "(I)Z"⟩
abbrev cX12_isWord : ByteArray := prog_14_method_12_code
def yX12_isWord : MethodName := ⟨RX12, "isWord", "(I)Z"⟩
abbrev cX12_takeSign : ByteArray := prog_14_method_13_code
def yX12_takeSign : MethodName := ⟨RX12, "takeSign", "(I)V"⟩
abbrev cX12_hasSign : ByteArray := prog_14_method_14_code
def yX12_hasSign : MethodName := ⟨RX12, "hasSign", "(I)Z"⟩
abbrev cX12_hasWord : ByteArray := prog_14_method_15_code
def yX12_hasWord : MethodName := ⟨RX12, "hasWord", "(I)Z"⟩
abbrev cX12_takeWord : ByteArray := prog_14_method_16_code
def yX12_takeWord : MethodName := ⟨RX12, "takeWord", "(I)V"⟩
abbrev cX12_within : ByteArray := prog_14_method_17_code
def yX12_within : MethodName := ⟨RX12, "within", "(III)Z"⟩
abbrev cX12_standsAsAlways : ByteArray := prog_14_method_18_code
def yX12_standsAsAlways : MethodName := ⟨RX12, "standsAsAlways", "(I)V"⟩
abbrev cX12_takeNumber : ByteArray := prog_14_method_19_code
def yX12_takeNumber : MethodName := ⟨RX12, "takeNumber", "(II)I"⟩
abbrev cX12_takeAfter : ByteArray := prog_14_method_20_code
def yX12_takeAfter : MethodName := ⟨RX12, "takeAfter", "(III)I"⟩
abbrev cX12_isName : ByteArray := prog_14_method_21_code
def yX12_isName : MethodName := ⟨RX12, "isName", "()Z"⟩
abbrev cX12_find : ByteArray := prog_14_method_22_code
def yX12_find : MethodName := ⟨RX12, "find", "()I"⟩
abbrev cX12_hills : ByteArray := prog_14_method_23_code
def yX12_hills : MethodName := ⟨RX12, "hills", "()I"⟩
abbrev cX12_readLine : ByteArray := prog_14_method_24_code
def yX12_readLine : MethodName := ⟨RX12, "readLine", "()V"⟩
abbrev cX12_takeCell : ByteArray := prog_14_method_25_code
def yX12_takeCell : MethodName := ⟨RX12, "takeCell", "()I"⟩
abbrev cX12_readName : ByteArray := prog_14_method_26_code
def yX12_readName : MethodName := ⟨RX12, "readName", "(I)V"⟩
abbrev cX12_readPerson : ByteArray := prog_14_method_27_code
def yX12_readPerson : MethodName := ⟨RX12, "readPerson", "()V"⟩
abbrev cX12_takeTold : ByteArray := prog_14_method_28_code
def yX12_takeTold : MethodName := ⟨RX12, "takeTold", "(Z)I"⟩
abbrev cX12_takeHour : ByteArray := prog_14_method_29_code
def yX12_takeHour : MethodName := ⟨RX12, "takeHour", "(I[III)I"⟩
abbrev cX12_readGo : ByteArray := prog_14_method_30_code
def yX12_readGo : MethodName := ⟨RX12, "readGo", "()V"⟩
abbrev cX12_readBird : ByteArray := prog_14_method_31_code
def yX12_readBird : MethodName := ⟨RX12, "readBird", "()V"⟩
abbrev cX12_readCall : ByteArray := prog_14_method_32_code
def yX12_readCall : MethodName := ⟨RX12, "readCall", "()V"⟩
abbrev cX12_readHear : ByteArray := prog_14_method_33_code
def yX12_readHear : MethodName := ⟨RX12, "readHear", "()V"⟩
abbrev cX12_readLaw : ByteArray := prog_14_method_34_code
def yX12_readLaw : MethodName := ⟨RX12, "readLaw", "()V"⟩
abbrev cX12_emit : ByteArray := prog_14_method_35_code
def yX12_emit : MethodName := ⟨RX12, "emit", "(II)V"⟩
abbrev cX12_all : ByteArray := prog_14_method_36_code
def yX12_all : MethodName := ⟨RX12, "all", "(I)V"⟩
abbrev cX12_test : ByteArray := prog_14_method_37_code
def yX12_test : MethodName := ⟨RX12, "test", "(I)V"⟩
abbrev cX12_sums : ByteArray := prog_14_method_38_code
def yX12_sums : MethodName := ⟨RX12, "sums", "(I)V"⟩
abbrev cX12_products : ByteArray := prog_14_method_39_code
def yX12_products : MethodName := ⟨RX12, "products", "(I)V"⟩
abbrev cX12_factHere : ByteArray := prog_14_method_40_code
def yX12_factHere : MethodName := ⟨RX12, "factHere", "()I"⟩
abbrev cX12_takePart : ByteArray := prog_14_method_41_code
def yX12_takePart : MethodName := ⟨RX12, "takePart", "(I)V"⟩
abbrev cX12_worthAt : ByteArray := prog_14_method_42_code
def yX12_worthAt : MethodName := ⟨RX12, "worthAt", "(I)I"⟩
abbrev cX12_both : ByteArray := prog_14_method_43_code
def yX12_both : MethodName := ⟨RX12, "both", "(III)I"⟩
abbrev cX12_copies : ByteArray := prog_14_method_44_code
def yX12_copies : MethodName := ⟨RX12, "copies", "(III)V"⟩
abbrev cX12_keeps : ByteArray := prog_14_method_45_code
def yX12_keeps : MethodName := ⟨RX12, "keeps", "()V"⟩
abbrev cX12_persons : ByteArray := prog_14_method_46_code
def yX12_persons : MethodName := ⟨RX12, "persons", "()I"⟩
abbrev cX12_birds : ByteArray := prog_14_method_47_code
def yX12_birds : MethodName := ⟨RX12, "birds", "()I"⟩
abbrev cX12_isPerson : ByteArray := prog_14_method_48_code
def yX12_isPerson : MethodName := ⟨RX12, "isPerson", "(I)Z"⟩
abbrev cX12_isBird : ByteArray := prog_14_method_49_code
def yX12_isBird : MethodName := ⟨RX12, "isBird", "(I)Z"⟩
abbrev cX12_isHour : ByteArray := prog_14_method_50_code
def yX12_isHour : MethodName := ⟨RX12, "isHour", "(I)Z"⟩
abbrev cX12_isShot : ByteArray := prog_14_method_51_code
def yX12_isShot : MethodName := ⟨RX12, "isShot", "(I)Z"⟩
abbrev cX12_kindOf : ByteArray := prog_14_method_52_code
def yX12_kindOf : MethodName := ⟨RX12, "kindOf", "(I)I"⟩
abbrev cX12_apart : ByteArray := prog_14_method_53_code
def yX12_apart : MethodName := ⟨RX12, "apart", "(II)I"⟩
abbrev cX12_placeAt : ByteArray := prog_14_method_54_code
def yX12_placeAt : MethodName := ⟨RX12, "placeAt", "(II)I"⟩
abbrev cX12_standsAsTold : ByteArray := prog_14_method_55_code
def yX12_standsAsTold : MethodName := ⟨RX12, "standsAsTold", "()V"⟩
abbrev cX12_standsIn : ByteArray := prog_14_method_56_code
def yX12_standsIn : MethodName := ⟨RX12, "standsIn", "(II)V"⟩
abbrev cX12_clip : ByteArray := prog_14_method_57_code
def yX12_clip : MethodName := ⟨RX12, "clip", "(II)I"⟩
abbrev cX12_fogAt : ByteArray := prog_14_method_58_code
def yX12_fogAt : MethodName := ⟨RX12, "fogAt", "(II)I"⟩
abbrev cX12_nearestTo : ByteArray := prog_14_method_59_code
def yX12_nearestTo : MethodName := ⟨RX12, "nearestTo", "(II)I"⟩
abbrev cX12_hears : ByteArray := prog_14_method_60_code
def yX12_hears : MethodName := ⟨RX12, "hears", "(III)Z"⟩
abbrev cX12_pence : ByteArray := prog_14_method_61_code
def yX12_pence : MethodName := ⟨RX12, "pence", "(IIIII)I"⟩
abbrev cX12_creditor : ByteArray := prog_14_method_62_code
def yX12_creditor : MethodName := ⟨RX12, "creditor", "(III)I"⟩
abbrev cX12_findOwes : ByteArray := prog_14_method_63_code
def yX12_findOwes : MethodName := ⟨RX12, "findOwes", "(I)V"⟩
abbrev cX12_balanceOf : ByteArray := prog_14_method_64_code
def yX12_balanceOf : MethodName := ⟨RX12, "balanceOf", "(I)I"⟩
abbrev cX12_person : ByteArray := prog_14_method_65_code
def yX12_person : MethodName := ⟨RX12, "person", "(II)I"⟩
abbrev cX12_place : ByteArray := prog_14_method_66_code
def yX12_place : MethodName := ⟨RX12, "place", "(II)I"⟩
abbrev cX12_bird : ByteArray := prog_14_method_67_code
def yX12_bird : MethodName := ⟨RX12, "bird", "(II)I"⟩
abbrev cX12_calls : ByteArray := prog_14_method_68_code
def yX12_calls : MethodName := ⟨RX12, "calls", "(II)I"⟩
abbrev cX12_entry : ByteArray := prog_14_method_69_code
def yX12_entry : MethodName := ⟨RX12, "entry", "(IIIZ)I"⟩
abbrev cX12_owed : ByteArray := prog_14_method_70_code
def yX12_owed : MethodName := ⟨RX12, "owed", "(II)I"⟩
abbrev cX12_balance : ByteArray := prog_14_method_71_code
def yX12_balance : MethodName := ⟨RX12, "balance", "(I)I"⟩
abbrev cX12_callsTold : ByteArray := prog_14_method_72_code
def yX12_callsTold : MethodName := ⟨RX12, "callsTold", "()I"⟩
abbrev cX12_call : ByteArray := prog_14_method_73_code
def yX12_call : MethodName := ⟨RX12, "call", "(III)Z"⟩
abbrev cX12_shoot : ByteArray := prog_14_method_74_code
def yX12_shoot : MethodName := ⟨RX12, "shoot", "(IZ)Z"⟩
abbrev cX12_undo : ByteArray := prog_14_method_75_code
def yX12_undo : MethodName := ⟨RX12, "undo", "()Z"⟩
abbrev cX12_isCell : ByteArray := prog_14_method_76_code
def yX12_isCell : MethodName := ⟨RX12, "isCell", "(I)Z"⟩
abbrev cX12_areHours : ByteArray := prog_14_method_77_code
def yX12_areHours : MethodName := ⟨RX12, "areHours", "(II)Z"⟩
abbrev cX12_findStand : ByteArray := prog_14_method_78_code
def yX12_findStand : MethodName := ⟨RX12, "findStand", "(I)V"⟩
abbrev cX12_stand : ByteArray := prog_14_method_79_code
def yX12_stand : MethodName := ⟨RX12, "stand", "(IIII)I"⟩
abbrev cX12_wasSo : ByteArray := prog_14_method_80_code
def yX12_wasSo : MethodName := ⟨RX12, "wasSo", "(I)Z"⟩
abbrev cX12_writes : ByteArray := prog_14_method_81_code
def yX12_writes : MethodName := ⟨RX12, "writes", "(I)V"⟩
abbrev cX12_findPlayed : ByteArray := prog_14_method_82_code
def yX12_findPlayed : MethodName := ⟨RX12, "findPlayed", "(II)I"⟩
abbrev cX12_played : ByteArray := prog_14_method_83_code
def yX12_played : MethodName := ⟨RX12, "played", "(III)I"⟩
abbrev cX12_bits : ByteArray := prog_14_method_84_code
def yX12_bits : MethodName := ⟨RX12, "bits", "(I)I"⟩
abbrev cX12_sumOf : ByteArray := prog_14_method_85_code
def yX12_sumOf : MethodName := ⟨RX12, "sumOf", "(I)I"⟩
abbrev cX12_picnic : ByteArray := prog_14_method_86_code
def yX12_picnic : MethodName := ⟨RX12, "picnic", "(IIII)I"⟩
abbrev cX12_netted : ByteArray := prog_14_method_87_code
def yX12_netted : MethodName := ⟨RX12, "netted", "()I"⟩
abbrev cX12_without : ByteArray := prog_14_method_88_code
def yX12_without : MethodName := ⟨RX12, "without", "(II)I"⟩
abbrev cX12_told : ByteArray := prog_14_method_89_code
def yX12_told : MethodName := ⟨RX12, "told", "(II)Z"⟩
abbrev cX12_findHour : ByteArray := prog_14_method_90_code
def yX12_findHour : MethodName := ⟨RX12, "findHour", "(I)V"⟩
abbrev cX12_sings : ByteArray := prog_14_method_91_code
def yX12_sings : MethodName := ⟨RX12, "sings", "(II)V"⟩
abbrev cX12_sang : ByteArray := prog_14_method_92_code
def yX12_sang : MethodName := ⟨RX12, "sang", "(I)I"⟩
abbrev cX12_song : ByteArray := prog_14_method_93_code
def yX12_song : MethodName := ⟨RX12, "song", "(III)I"⟩
abbrev cX12_wooden : ByteArray := prog_14_method_94_code
def yX12_wooden : MethodName := ⟨RX12, "wooden", "(I)I"⟩
abbrev cX12_findJune : ByteArray := prog_14_method_95_code
def yX12_findJune : MethodName := ⟨RX12, "findJune", "()V"⟩
abbrev cX12_june : ByteArray := prog_14_method_96_code
def yX12_june : MethodName := ⟨RX12, "june", "(I)I"⟩
abbrev cX12_mark : ByteArray := prog_14_method_97_code
def yX12_mark : MethodName := ⟨RX12, "mark", "(IZ)Z"⟩
abbrev cX12_count : ByteArray := prog_14_method_98_code
def yX12_count : MethodName := ⟨RX12, "count", "(I)I"⟩
def RJx145de : String := "java/io/Serializable"
def TJx145de : u_T := fun k => match k with
  | _ => ("", "", "", false)
def tyJx145de : Nat → FieldType := fun k => match k with
  | _ => .int
abbrev wsJx145de0 : List Cond := u_ws RJx145de TJx145de 0
theorem nmJx145de : ∀ a, a < 0 → ∀ b, b < 0 → a ≠ b → (TJx145de a).2.1 ≠ (TJx145de b).2.1 := by decide +kernel
theorem tyJx145de_ok : ∀ k, k < 0 → parseFieldDescriptor (TJx145de k).2.2.1 = some (tyJx145de k) := by decide +kernel
def RJx9f9b0 : String := "java/lang/CharSequence"
def TJx9f9b0 : u_T := fun k => match k with
  | _ => ("", "", "", false)
def tyJx9f9b0 : Nat → FieldType := fun k => match k with
  | _ => .int
abbrev wsJx9f9b00 : List Cond := u_ws RJx9f9b0 TJx9f9b0 0
theorem nmJx9f9b0 : ∀ a, a < 0 → ∀ b, b < 0 → a ≠ b → (TJx9f9b0 a).2.1 ≠ (TJx9f9b0 b).2.1 := by decide +kernel
theorem tyJx9f9b0_ok : ∀ k, k < 0 → parseFieldDescriptor (TJx9f9b0 k).2.2.1 = some (tyJx9f9b0 k) := by decide +kernel
def RJxb160c : String := "java/lang/Comparable"
def TJxb160c : u_T := fun k => match k with
  | _ => ("", "", "", false)
def tyJxb160c : Nat → FieldType := fun k => match k with
  | _ => .int
abbrev wsJxb160c0 : List Cond := u_ws RJxb160c TJxb160c 0
theorem nmJxb160c : ∀ a, a < 0 → ∀ b, b < 0 → a ≠ b → (TJxb160c a).2.1 ≠ (TJxb160c b).2.1 := by decide +kernel
theorem tyJxb160c_ok : ∀ k, k < 0 → parseFieldDescriptor (TJxb160c k).2.2.1 = some (tyJxb160c k) := by decide +kernel
def RJ6 : String := "java/lang/Integer"
def TJ6 : u_T := fun k => match k with
  | _ => ("", "", "", false)
def tyJ6 : Nat → FieldType := fun k => match k with
  | _ => .int
abbrev wsJ60 : List Cond := u_ws RJ6 TJ6 0
theorem nmJ6 : ∀ a, a < 0 → ∀ b, b < 0 → a ≠ b → (TJ6 a).2.1 ≠ (TJ6 b).2.1 := by decide +kernel
theorem tyJ6_ok : ∀ k, k < 0 → parseFieldDescriptor (TJ6 k).2.2.1 = some (tyJ6 k) := by decide +kernel
abbrev cJ6_bitCount_0f7a4 : ByteArray := prog_19_method_49_code
def yJ6_bitCount_0f7a4 : MethodName := ⟨RJ6, "bitCount", "(I)I"⟩
def RJ9 : String := "java/lang/Math"
def TJ9 : u_T := fun k => match k with
  | _ => ("", "", "", false)
def tyJ9 : Nat → FieldType := fun k => match k with
  | _ => .int
abbrev wsJ90 : List Cond := u_ws RJ9 TJ9 0
theorem nmJ9 : ∀ a, a < 0 → ∀ b, b < 0 → a ≠ b → (TJ9 a).2.1 ≠ (TJ9 b).2.1 := by decide +kernel
theorem tyJ9_ok : ∀ k, k < 0 → parseFieldDescriptor (TJ9 k).2.2.1 = some (tyJ9 k) := by decide +kernel
abbrev cJ9_max_7cf53 : ByteArray := prog_20_method_65_code
def yJ9_max_7cf53 : MethodName := ⟨RJ9, "max", "(II)I"⟩
abbrev cJ9_min_7cf53 : ByteArray := prog_20_method_69_code
def yJ9_min_7cf53 : MethodName := ⟨RJ9, "min", "(II)I"⟩
def RJ0 : String := "java/lang/String"
def TJ0 : u_T := fun k => match k with
  | _ => ("", "", "", false)
def tyJ0 : Nat → FieldType := fun k => match k with
  | _ => .int
abbrev wsJ00 : List Cond := u_ws RJ0 TJ0 0
theorem nmJ0 : ∀ a, a < 0 → ∀ b, b < 0 → a ≠ b → (TJ0 a).2.1 ≠ (TJ0 b).2.1 := by decide +kernel
theorem tyJ0_ok : ∀ k, k < 0 → parseFieldDescriptor (TJ0 k).2.2.1 = some (tyJ0 k) := by decide +kernel
abbrev cJ0_length_8abf5 : ByteArray := prog_22_method_54_code
def yJ0_length_8abf5 : MethodName := ⟨RJ0, "length", "()I"⟩
abbrev cJ0_charAt_5068e : ByteArray := prog_22_method_56_code
def yJ0_charAt_5068e : MethodName := ⟨RJ0, "charAt", "(I)C"⟩
abbrev cJ0_coder_7d493 : ByteArray := prog_22_method_152_code
def yJ0_coder_7d493 : MethodName := ⟨RJ0, "coder", "()B"⟩
abbrev cJ0_isLatin1_aae02 : ByteArray := prog_22_method_154_code
def yJ0_isLatin1_aae02 : MethodName := ⟨RJ0, "isLatin1", "()Z"⟩
abbrev cJ0_checkIndex_df160 : ByteArray := prog_22_method_155_code
def yJ0_checkIndex_df160 : MethodName := ⟨RJ0, "checkIndex", "(II)V"⟩
def RJ1 : String := "java/lang/StringLatin1"
def TJ1 : u_T := fun k => match k with
  | _ => ("", "", "", false)
def tyJ1 : Nat → FieldType := fun k => match k with
  | _ => .int
abbrev wsJ10 : List Cond := u_ws RJ1 TJ1 0
theorem nmJ1 : ∀ a, a < 0 → ∀ b, b < 0 → a ≠ b → (TJ1 a).2.1 ≠ (TJ1 b).2.1 := by decide +kernel
theorem tyJ1_ok : ∀ k, k < 0 → parseFieldDescriptor (TJ1 k).2.2.1 = some (tyJ1 k) := by decide +kernel
abbrev cJ1_charAt_3b067 : ByteArray := prog_23_method_2_code
def yJ1_charAt_3b067 : MethodName := ⟨RJ1, "charAt", "([BI)C"⟩
def RJ2 : String := "java/lang/StringUTF16"
def TJ2 : u_T := fun k => match k with
  | _ => ("", "", "", false)
def tyJ2 : Nat → FieldType := fun k => match k with
  | _ => .int
abbrev wsJ20 : List Cond := u_ws RJ2 TJ2 0
theorem nmJ2 : ∀ a, a < 0 → ∀ b, b < 0 → a ≠ b → (TJ2 a).2.1 ≠ (TJ2 b).2.1 := by decide +kernel
theorem tyJ2_ok : ∀ k, k < 0 → parseFieldDescriptor (TJ2 k).2.2.1 = some (tyJ2 k) := by decide +kernel
abbrev cJ2_getChar_3b067 : ByteArray := prog_24_method_5_code
def yJ2_getChar_3b067 : MethodName := ⟨RJ2, "getChar", "([BI)C"⟩
abbrev cJ2_length_9d52b : ByteArray := prog_24_method_6_code
def yJ2_length_9d52b : MethodName := ⟨RJ2, "length", "([B)I"⟩
abbrev cJ2_charAt_3b067 : ByteArray := prog_24_method_83_code
def yJ2_charAt_3b067 : MethodName := ⟨RJ2, "charAt", "([BI)C"⟩
abbrev cJ2_checkIndex_2214a : ByteArray := prog_24_method_91_code
def yJ2_checkIndex_2214a : MethodName := ⟨RJ2, "checkIndex", "(I[B)V"⟩
def RJ10 : String := "java/lang/System"
def TJ10 : u_T := fun k => match k with
  | _ => ("", "", "", false)
def tyJ10 : Nat → FieldType := fun k => match k with
  | _ => .int
abbrev wsJ100 : List Cond := u_ws RJ10 TJ10 0
theorem nmJ10 : ∀ a, a < 0 → ∀ b, b < 0 → a ≠ b → (TJ10 a).2.1 ≠ (TJ10 b).2.1 := by decide +kernel
theorem tyJ10_ok : ∀ k, k < 0 → parseFieldDescriptor (TJ10 k).2.2.1 = some (tyJ10 k) := by decide +kernel
def RJxfd54e : String := "java/lang/constant/Constable"
def TJxfd54e : u_T := fun k => match k with
  | _ => ("", "", "", false)
def tyJxfd54e : Nat → FieldType := fun k => match k with
  | _ => .int
abbrev wsJxfd54e0 : List Cond := u_ws RJxfd54e TJxfd54e 0
theorem nmJxfd54e : ∀ a, a < 0 → ∀ b, b < 0 → a ≠ b → (TJxfd54e a).2.1 ≠ (TJxfd54e b).2.1 := by decide +kernel
theorem tyJxfd54e_ok : ∀ k, k < 0 → parseFieldDescriptor (TJxfd54e k).2.2.1 = some (tyJxfd54e k) := by decide +kernel
def RJx3cf43 : String := "java/lang/constant/ConstantDesc"
def TJx3cf43 : u_T := fun k => match k with
  | _ => ("", "", "", false)
def tyJx3cf43 : Nat → FieldType := fun k => match k with
  | _ => .int
abbrev wsJx3cf430 : List Cond := u_ws RJx3cf43 TJx3cf43 0
theorem nmJx3cf43 : ∀ a, a < 0 → ∀ b, b < 0 → a ≠ b → (TJx3cf43 a).2.1 ≠ (TJx3cf43 b).2.1 := by decide +kernel
theorem tyJx3cf43_ok : ∀ k, k < 0 → parseFieldDescriptor (TJx3cf43 k).2.2.1 = some (tyJx3cf43 k) := by decide +kernel
def RJ7 : String := "java/util/Arrays"
def TJ7 : u_T := fun k => match k with
  | _ => ("", "", "", false)
def tyJ7 : Nat → FieldType := fun k => match k with
  | _ => .int
abbrev wsJ70 : List Cond := u_ws RJ7 TJ7 0
theorem nmJ7 : ∀ a, a < 0 → ∀ b, b < 0 → a ≠ b → (TJ7 a).2.1 ≠ (TJ7 b).2.1 := by decide +kernel
theorem tyJ7_ok : ∀ k, k < 0 → parseFieldDescriptor (TJ7 k).2.2.1 = some (tyJ7 k) := by decide +kernel
abbrev cJ7_fill_53178 : ByteArray := prog_29_method_103_code
def yJ7_fill_53178 : MethodName := ⟨RJ7, "fill", "([II)V"⟩
def RJ3 : String := "jdk/internal/util/Preconditions"
def TJ3 : u_T := fun k => match k with
  | _ => ("", "", "", false)
def tyJ3 : Nat → FieldType := fun k => match k with
  | _ => .int
abbrev wsJ30 : List Cond := u_ws RJ3 TJ3 0
theorem nmJ3 : ∀ a, a < 0 → ∀ b, b < 0 → a ≠ b → (TJ3 a).2.1 ≠ (TJ3 b).2.1 := by decide +kernel
theorem tyJ3_ok : ∀ k, k < 0 → parseFieldDescriptor (TJ3 k).2.2.1 = some (tyJ3 k) := by decide +kernel
abbrev cJ3_checkIndex_8e157 : ByteArray := prog_31_method_11_code
def yJ3_checkIndex_8e157 : MethodName := ⟨RJ3, "checkIndex", "(IILjava/util/function/BiFunction;)I"⟩
def RL : String := "CuckooDebtLaw"
abbrev cL_balance : ByteArray := method_3_code
def yL_balance : MethodName := ⟨RL, "balance", "(LCuckooDebt;I[J)I"⟩
abbrev cL_stand : ByteArray := method_4_code
def yL_stand : MethodName := ⟨RL, "stand", "(LCuckooDebt;IIII[J)I"⟩
abbrev cL_picnic : ByteArray := method_5_code
def yL_picnic : MethodName := ⟨RL, "picnic", "(LCuckooDebt;IIII[J)I"⟩
abbrev cL_without : ByteArray := method_6_code
def yL_without : MethodName := ⟨RL, "without", "(LCuckooDebt;II[J)I"⟩
abbrev cL_law : ByteArray := code
def yL_law : MethodName := ⟨RL, "law", "([I)Z"⟩
