section
-- ===== PART A: goes FIRST, ahead of the names: the tables' words, and 'selects' of the private methods out of them =====
/-- a private method of a class that the tables say can be made, by its rows of tables_1 -/
def lw_okq (q : MethodName × Nat) : Prop := (q.1.cls ≠ "java/lang/invoke/MethodHandle" ∧ q.1.cls ≠ "java/lang/invoke/VarHandle") ∧ Cond.instantiable q.1.cls q.2 ∈ tables_1 ∧ Cond.privateMethod q.1 ∈ tables_1 ∧ Cond.instanceMethod q.1 ∈ tables_1
theorem lw_p0 : lw_okq (⟨"OddBridge$Vow", "read", "()V"⟩, 9) := ⟨⟨by decide +kernel, by decide +kernel⟩, List.mem_of_getElem? (i := 95) (by decide +kernel), List.mem_of_getElem? (i := 101) (by decide +kernel), List.mem_of_getElem? (i := 102) (by decide +kernel)⟩
theorem lw_p1 : lw_okq (⟨"OddBridge$Vow", "readValue", "(I)V"⟩, 9) := ⟨⟨by decide +kernel, by decide +kernel⟩, List.mem_of_getElem? (i := 95) (by decide +kernel), List.mem_of_getElem? (i := 105) (by decide +kernel), List.mem_of_getElem? (i := 106) (by decide +kernel)⟩
theorem lw_p2 : lw_okq (⟨"OddBridge$Vow", "readBoth", "(I)V"⟩, 9) := ⟨⟨by decide +kernel, by decide +kernel⟩, List.mem_of_getElem? (i := 95) (by decide +kernel), List.mem_of_getElem? (i := 109) (by decide +kernel), List.mem_of_getElem? (i := 110) (by decide +kernel)⟩
theorem lw_p3 : lw_okq (⟨"OddBridge$Vow", "readHeld", "(I)V"⟩, 9) := ⟨⟨by decide +kernel, by decide +kernel⟩, List.mem_of_getElem? (i := 95) (by decide +kernel), List.mem_of_getElem? (i := 113) (by decide +kernel), List.mem_of_getElem? (i := 114) (by decide +kernel)⟩
theorem lw_p4 : lw_okq (⟨"OddBridge$Vow", "readSum", "(I)V"⟩, 9) := ⟨⟨by decide +kernel, by decide +kernel⟩, List.mem_of_getElem? (i := 95) (by decide +kernel), List.mem_of_getElem? (i := 117) (by decide +kernel), List.mem_of_getElem? (i := 118) (by decide +kernel)⟩
theorem lw_p5 : lw_okq (⟨"OddBridge$Vow", "readTerm", "(I)V"⟩, 9) := ⟨⟨by decide +kernel, by decide +kernel⟩, List.mem_of_getElem? (i := 95) (by decide +kernel), List.mem_of_getElem? (i := 121) (by decide +kernel), List.mem_of_getElem? (i := 122) (by decide +kernel)⟩
theorem lw_p6 : lw_okq (⟨"OddBridge$Vow", "readUnit", "(I)V"⟩, 9) := ⟨⟨by decide +kernel, by decide +kernel⟩, List.mem_of_getElem? (i := 95) (by decide +kernel), List.mem_of_getElem? (i := 125) (by decide +kernel), List.mem_of_getElem? (i := 126) (by decide +kernel)⟩
theorem lw_p7 : lw_okq (⟨"OddBridge$Vow", "take", "(Ljava/lang/String;)I"⟩, 9) := ⟨⟨by decide +kernel, by decide +kernel⟩, List.mem_of_getElem? (i := 95) (by decide +kernel), List.mem_of_getElem? (i := 130) (by decide +kernel), List.mem_of_getElem? (i := 131) (by decide +kernel)⟩
theorem lw_p8 : lw_okq (⟨"OddBridge$Vow", "nextSign", "()I"⟩, 9) := ⟨⟨by decide +kernel, by decide +kernel⟩, List.mem_of_getElem? (i := 95) (by decide +kernel), List.mem_of_getElem? (i := 134) (by decide +kernel), List.mem_of_getElem? (i := 135) (by decide +kernel)⟩
theorem lw_p9 : lw_okq (⟨"OddBridge$Vow", "signAt", "(I)I"⟩, 9) := ⟨⟨by decide +kernel, by decide +kernel⟩, List.mem_of_getElem? (i := 95) (by decide +kernel), List.mem_of_getElem? (i := 138) (by decide +kernel), List.mem_of_getElem? (i := 139) (by decide +kernel)⟩
theorem lw_p10 : lw_okq (⟨"OddBridge$Vow", "readBareUnit", "(I)V"⟩, 9) := ⟨⟨by decide +kernel, by decide +kernel⟩, List.mem_of_getElem? (i := 95) (by decide +kernel), List.mem_of_getElem? (i := 228) (by decide +kernel), List.mem_of_getElem? (i := 229) (by decide +kernel)⟩
theorem lw_p11 : lw_okq (⟨"OddBridge$Vow", "readDigits", "()V"⟩, 9) := ⟨⟨by decide +kernel, by decide +kernel⟩, List.mem_of_getElem? (i := 95) (by decide +kernel), List.mem_of_getElem? (i := 235) (by decide +kernel), List.mem_of_getElem? (i := 236) (by decide +kernel)⟩
theorem lw_p12 : lw_okq (⟨"OddBridge$Vow", "setFlaw", "(II)V"⟩, 9) := ⟨⟨by decide +kernel, by decide +kernel⟩, List.mem_of_getElem? (i := 95) (by decide +kernel), List.mem_of_getElem? (i := 239) (by decide +kernel), List.mem_of_getElem? (i := 240) (by decide +kernel)⟩
theorem lw_p13 : lw_okq (⟨"OddBridge$Vow", "addSign", "(CI)V"⟩, 9) := ⟨⟨by decide +kernel, by decide +kernel⟩, List.mem_of_getElem? (i := 95) (by decide +kernel), List.mem_of_getElem? (i := 243) (by decide +kernel), List.mem_of_getElem? (i := 244) (by decide +kernel)⟩
theorem lw_p14 : lw_okq (⟨"OddBridge$Vow", "readOpened", "(I)V"⟩, 9) := ⟨⟨by decide +kernel, by decide +kernel⟩, List.mem_of_getElem? (i := 95) (by decide +kernel), List.mem_of_getElem? (i := 247) (by decide +kernel), List.mem_of_getElem? (i := 248) (by decide +kernel)⟩
theorem lw_p15 : lw_okq (⟨"OddBridge", "refuseAsBad", "()I"⟩, 15) := ⟨⟨by decide +kernel, by decide +kernel⟩, List.mem_of_getElem? (i := 20) (by decide +kernel), List.mem_of_getElem? (i := 497) (by decide +kernel), List.mem_of_getElem? (i := 498) (by decide +kernel)⟩
def lw_privs_1 : List (MethodName × Nat) := [(⟨"OddBridge$Vow", "read", "()V"⟩, 9), (⟨"OddBridge$Vow", "readValue", "(I)V"⟩, 9), (⟨"OddBridge$Vow", "readBoth", "(I)V"⟩, 9), (⟨"OddBridge$Vow", "readHeld", "(I)V"⟩, 9), (⟨"OddBridge$Vow", "readSum", "(I)V"⟩, 9), (⟨"OddBridge$Vow", "readTerm", "(I)V"⟩, 9), (⟨"OddBridge$Vow", "readUnit", "(I)V"⟩, 9), (⟨"OddBridge$Vow", "take", "(Ljava/lang/String;)I"⟩, 9), (⟨"OddBridge$Vow", "nextSign", "()I"⟩, 9), (⟨"OddBridge$Vow", "signAt", "(I)I"⟩, 9), (⟨"OddBridge$Vow", "readBareUnit", "(I)V"⟩, 9), (⟨"OddBridge$Vow", "readDigits", "()V"⟩, 9), (⟨"OddBridge$Vow", "setFlaw", "(II)V"⟩, 9), (⟨"OddBridge$Vow", "addSign", "(CI)V"⟩, 9), (⟨"OddBridge$Vow", "readOpened", "(I)V"⟩, 9), (⟨"OddBridge", "refuseAsBad", "()I"⟩, 15)]
theorem lw_r1 : ∀ q ∈ lw_privs_1, lw_okq q := List.forall_mem_cons.mpr ⟨lw_p0, List.forall_mem_cons.mpr ⟨lw_p1, List.forall_mem_cons.mpr ⟨lw_p2, List.forall_mem_cons.mpr ⟨lw_p3, List.forall_mem_cons.mpr ⟨lw_p4, List.forall_mem_cons.mpr ⟨lw_p5, List.forall_mem_cons.mpr ⟨lw_p6, List.forall_mem_cons.mpr ⟨lw_p7, List.forall_mem_cons.mpr ⟨lw_p8, List.forall_mem_cons.mpr ⟨lw_p9, List.forall_mem_cons.mpr ⟨lw_p10, List.forall_mem_cons.mpr ⟨lw_p11, List.forall_mem_cons.mpr ⟨lw_p12, List.forall_mem_cons.mpr ⟨lw_p13, List.forall_mem_cons.mpr ⟨lw_p14, List.forall_mem_cons.mpr ⟨lw_p15, fun _ h => absurd h List.not_mem_nil⟩⟩⟩⟩⟩⟩⟩⟩⟩⟩⟩⟩⟩⟩⟩⟩
theorem lw_p16 : lw_okq (⟨"OddBridge", "refuseAsFull", "()I"⟩, 15) := ⟨⟨by decide +kernel, by decide +kernel⟩, List.mem_of_getElem? (i := 20) (by decide +kernel), List.mem_of_getElem? (i := 501) (by decide +kernel), List.mem_of_getElem? (i := 502) (by decide +kernel)⟩
theorem lw_p17 : lw_okq (⟨"OddBridge$Scene", "addWalker", "(III)V"⟩, 13) := ⟨⟨by decide +kernel, by decide +kernel⟩, List.mem_of_getElem? (i := 28) (by decide +kernel), List.mem_of_getElem? (i := 505) (by decide +kernel), List.mem_of_getElem? (i := 506) (by decide +kernel)⟩
theorem lw_p18 : lw_okq (⟨"OddBridge", "forgetWhatFollows", "()V"⟩, 15) := ⟨⟨by decide +kernel, by decide +kernel⟩, List.mem_of_getElem? (i := 20) (by decide +kernel), List.mem_of_getElem? (i := 509) (by decide +kernel), List.mem_of_getElem? (i := 510) (by decide +kernel)⟩
theorem lw_p19 : lw_okq (⟨"OddBridge$Scene", "addLetter", "(C)V"⟩, 13) := ⟨⟨by decide +kernel, by decide +kernel⟩, List.mem_of_getElem? (i := 28) (by decide +kernel), List.mem_of_getElem? (i := 521) (by decide +kernel), List.mem_of_getElem? (i := 522) (by decide +kernel)⟩
theorem lw_p20 : lw_okq (⟨"OddBridge$Scene", "sumBrought", "(II)I"⟩, 13) := ⟨⟨by decide +kernel, by decide +kernel⟩, List.mem_of_getElem? (i := 28) (by decide +kernel), List.mem_of_getElem? (i := 541) (by decide +kernel), List.mem_of_getElem? (i := 542) (by decide +kernel)⟩
theorem lw_p21 : lw_okq (⟨"OddBridge$Judge", "isWell", "(II)Z"⟩, 6) := ⟨⟨by decide +kernel, by decide +kernel⟩, List.mem_of_getElem? (i := 291) (by decide +kernel), List.mem_of_getElem? (i := 554) (by decide +kernel), List.mem_of_getElem? (i := 555) (by decide +kernel)⟩
theorem lw_p22 : lw_okq (⟨"OddBridge$Judge", "isOdd", "(III)Z"⟩, 6) := ⟨⟨by decide +kernel, by decide +kernel⟩, List.mem_of_getElem? (i := 291) (by decide +kernel), List.mem_of_getElem? (i := 561) (by decide +kernel), List.mem_of_getElem? (i := 562) (by decide +kernel)⟩
theorem lw_p23 : lw_okq (⟨"OddBridge$Vow", "value", "([II)J"⟩, 9) := ⟨⟨by decide +kernel, by decide +kernel⟩, List.mem_of_getElem? (i := 95) (by decide +kernel), List.mem_of_getElem? (i := 566) (by decide +kernel), List.mem_of_getElem? (i := 567) (by decide +kernel)⟩
theorem lw_p24 : lw_okq (⟨"OddBridge$Vow", "push", "(J)V"⟩, 9) := ⟨⟨by decide +kernel, by decide +kernel⟩, List.mem_of_getElem? (i := 95) (by decide +kernel), List.mem_of_getElem? (i := 570) (by decide +kernel), List.mem_of_getElem? (i := 571) (by decide +kernel)⟩
theorem lw_p25 : lw_okq (⟨"OddBridge$Vow", "pop", "()J"⟩, 9) := ⟨⟨by decide +kernel, by decide +kernel⟩, List.mem_of_getElem? (i := 95) (by decide +kernel), List.mem_of_getElem? (i := 574) (by decide +kernel), List.mem_of_getElem? (i := 575) (by decide +kernel)⟩
theorem lw_p26 : lw_okq (⟨"OddBridge$Feast", "goThrough", "()V"⟩, 9) := ⟨⟨by decide +kernel, by decide +kernel⟩, List.mem_of_getElem? (i := 317) (by decide +kernel), List.mem_of_getElem? (i := 586) (by decide +kernel), List.mem_of_getElem? (i := 587) (by decide +kernel)⟩
theorem lw_p27 : lw_okq (⟨"OddBridge$Feast", "bestSteps", "(I)I"⟩, 9) := ⟨⟨by decide +kernel, by decide +kernel⟩, List.mem_of_getElem? (i := 317) (by decide +kernel), List.mem_of_getElem? (i := 593) (by decide +kernel), List.mem_of_getElem? (i := 594) (by decide +kernel)⟩
theorem lw_p28 : lw_okq (⟨"OddBridge$Feast", "mayStep", "(I)I"⟩, 9) := ⟨⟨by decide +kernel, by decide +kernel⟩, List.mem_of_getElem? (i := 317) (by decide +kernel), List.mem_of_getElem? (i := 597) (by decide +kernel), List.mem_of_getElem? (i := 598) (by decide +kernel)⟩
theorem lw_p29 : lw_okq (⟨"OddBridge$Feast", "aheadOfWall", "(I)I"⟩, 9) := ⟨⟨by decide +kernel, by decide +kernel⟩, List.mem_of_getElem? (i := 317) (by decide +kernel), List.mem_of_getElem? (i := 602) (by decide +kernel), List.mem_of_getElem? (i := 603) (by decide +kernel)⟩
theorem lw_p30 : lw_okq (⟨"OddBridge$Feast", "step", "(II)V"⟩, 9) := ⟨⟨by decide +kernel, by decide +kernel⟩, List.mem_of_getElem? (i := 317) (by decide +kernel), List.mem_of_getElem? (i := 613) (by decide +kernel), List.mem_of_getElem? (i := 614) (by decide +kernel)⟩
theorem lw_p31 : lw_okq (⟨"OddBridge", "isWalker", "(I)Z"⟩, 15) := ⟨⟨by decide +kernel, by decide +kernel⟩, List.mem_of_getElem? (i := 20) (by decide +kernel), List.mem_of_getElem? (i := 621) (by decide +kernel), List.mem_of_getElem? (i := 622) (by decide +kernel)⟩
def lw_privs_2 : List (MethodName × Nat) := [(⟨"OddBridge", "refuseAsFull", "()I"⟩, 15), (⟨"OddBridge$Scene", "addWalker", "(III)V"⟩, 13), (⟨"OddBridge", "forgetWhatFollows", "()V"⟩, 15), (⟨"OddBridge$Scene", "addLetter", "(C)V"⟩, 13), (⟨"OddBridge$Scene", "sumBrought", "(II)I"⟩, 13), (⟨"OddBridge$Judge", "isWell", "(II)Z"⟩, 6), (⟨"OddBridge$Judge", "isOdd", "(III)Z"⟩, 6), (⟨"OddBridge$Vow", "value", "([II)J"⟩, 9), (⟨"OddBridge$Vow", "push", "(J)V"⟩, 9), (⟨"OddBridge$Vow", "pop", "()J"⟩, 9), (⟨"OddBridge$Feast", "goThrough", "()V"⟩, 9), (⟨"OddBridge$Feast", "bestSteps", "(I)I"⟩, 9), (⟨"OddBridge$Feast", "mayStep", "(I)I"⟩, 9), (⟨"OddBridge$Feast", "aheadOfWall", "(I)I"⟩, 9), (⟨"OddBridge$Feast", "step", "(II)V"⟩, 9), (⟨"OddBridge", "isWalker", "(I)Z"⟩, 15)]
theorem lw_r2 : ∀ q ∈ lw_privs_2, lw_okq q := List.forall_mem_cons.mpr ⟨lw_p16, List.forall_mem_cons.mpr ⟨lw_p17, List.forall_mem_cons.mpr ⟨lw_p18, List.forall_mem_cons.mpr ⟨lw_p19, List.forall_mem_cons.mpr ⟨lw_p20, List.forall_mem_cons.mpr ⟨lw_p21, List.forall_mem_cons.mpr ⟨lw_p22, List.forall_mem_cons.mpr ⟨lw_p23, List.forall_mem_cons.mpr ⟨lw_p24, List.forall_mem_cons.mpr ⟨lw_p25, List.forall_mem_cons.mpr ⟨lw_p26, List.forall_mem_cons.mpr ⟨lw_p27, List.forall_mem_cons.mpr ⟨lw_p28, List.forall_mem_cons.mpr ⟨lw_p29, List.forall_mem_cons.mpr ⟨lw_p30, List.forall_mem_cons.mpr ⟨lw_p31, fun _ h => absurd h List.not_mem_nil⟩⟩⟩⟩⟩⟩⟩⟩⟩⟩⟩⟩⟩⟩⟩⟩
theorem lw_p32 : lw_okq (⟨"OddBridge$Crossing", "plan", "()V"⟩, 15) := ⟨⟨by decide +kernel, by decide +kernel⟩, List.mem_of_getElem? (i := 357) (by decide +kernel), List.mem_of_getElem? (i := 633) (by decide +kernel), List.mem_of_getElem? (i := 634) (by decide +kernel)⟩
theorem lw_p33 : lw_okq (⟨"OddBridge$Crossing", "lookAtCompany", "(I)V"⟩, 15) := ⟨⟨by decide +kernel, by decide +kernel⟩, List.mem_of_getElem? (i := 357) (by decide +kernel), List.mem_of_getElem? (i := 637) (by decide +kernel), List.mem_of_getElem? (i := 638) (by decide +kernel)⟩
theorem lw_p34 : lw_okq (⟨"OddBridge$Crossing", "lookAtLeft", "(I)V"⟩, 15) := ⟨⟨by decide +kernel, by decide +kernel⟩, List.mem_of_getElem? (i := 357) (by decide +kernel), List.mem_of_getElem? (i := 645) (by decide +kernel), List.mem_of_getElem? (i := 646) (by decide +kernel)⟩
theorem lw_p35 : lw_okq (⟨"OddBridge$Crossing", "tryFirst", "(II)V"⟩, 15) := ⟨⟨by decide +kernel, by decide +kernel⟩, List.mem_of_getElem? (i := 357) (by decide +kernel), List.mem_of_getElem? (i := 649) (by decide +kernel), List.mem_of_getElem? (i := 650) (by decide +kernel)⟩
theorem lw_p36 : lw_okq (⟨"OddBridge$Crossing", "lineUp", "(I)V"⟩, 15) := ⟨⟨by decide +kernel, by decide +kernel⟩, List.mem_of_getElem? (i := 357) (by decide +kernel), List.mem_of_getElem? (i := 653) (by decide +kernel), List.mem_of_getElem? (i := 654) (by decide +kernel)⟩
theorem lw_p37 : lw_okq (⟨"OddBridge", "refuseAsNo", "()I"⟩, 15) := ⟨⟨by decide +kernel, by decide +kernel⟩, List.mem_of_getElem? (i := 20) (by decide +kernel), List.mem_of_getElem? (i := 665) (by decide +kernel), List.mem_of_getElem? (i := 666) (by decide +kernel)⟩
theorem lw_p38 : lw_okq (⟨"OddBridge", "spreadStops", "(II)J"⟩, 15) := ⟨⟨by decide +kernel, by decide +kernel⟩, List.mem_of_getElem? (i := 20) (by decide +kernel), List.mem_of_getElem? (i := 669) (by decide +kernel), List.mem_of_getElem? (i := 670) (by decide +kernel)⟩
theorem lw_p39 : lw_okq (⟨"OddBridge$Fraction", "become", "(JJ)V"⟩, 2) := ⟨⟨by decide +kernel, by decide +kernel⟩, List.mem_of_getElem? (i := 429) (by decide +kernel), List.mem_of_getElem? (i := 675) (by decide +kernel), List.mem_of_getElem? (i := 676) (by decide +kernel)⟩
theorem lw_p40 : lw_okq (⟨"OddBridge", "waysHome", "(II)I"⟩, 15) := ⟨⟨by decide +kernel, by decide +kernel⟩, List.mem_of_getElem? (i := 20) (by decide +kernel), List.mem_of_getElem? (i := 696) (by decide +kernel), List.mem_of_getElem? (i := 697) (by decide +kernel)⟩
theorem lw_p41 : lw_okq (⟨"OddBridge$Scene", "addSaid", "(III)V"⟩, 13) := ⟨⟨by decide +kernel, by decide +kernel⟩, List.mem_of_getElem? (i := 28) (by decide +kernel), List.mem_of_getElem? (i := 708) (by decide +kernel), List.mem_of_getElem? (i := 709) (by decide +kernel)⟩
theorem lw_p42 : lw_okq (⟨"OddBridge$Hearing", "minutesUnwell", "(I)J"⟩, 2) := ⟨⟨by decide +kernel, by decide +kernel⟩, List.mem_of_getElem? (i := 416) (by decide +kernel), List.mem_of_getElem? (i := 720) (by decide +kernel), List.mem_of_getElem? (i := 721) (by decide +kernel)⟩
theorem lw_p43 : lw_okq (⟨"OddBridge$Hearing", "onBut", "(II)I"⟩, 2) := ⟨⟨by decide +kernel, by decide +kernel⟩, List.mem_of_getElem? (i := 416) (by decide +kernel), List.mem_of_getElem? (i := 724) (by decide +kernel), List.mem_of_getElem? (i := 725) (by decide +kernel)⟩
theorem lw_p44 : lw_okq (⟨"OddBridge$Hearing", "eachAlone", "()I"⟩, 2) := ⟨⟨by decide +kernel, by decide +kernel⟩, List.mem_of_getElem? (i := 416) (by decide +kernel), List.mem_of_getElem? (i := 734) (by decide +kernel), List.mem_of_getElem? (i := 735) (by decide +kernel)⟩
theorem lw_p45 : lw_okq (⟨"OddBridge$Hearing", "allWellBut", "(I)Z"⟩, 2) := ⟨⟨by decide +kernel, by decide +kernel⟩, List.mem_of_getElem? (i := 416) (by decide +kernel), List.mem_of_getElem? (i := 738) (by decide +kernel), List.mem_of_getElem? (i := 739) (by decide +kernel)⟩
theorem lw_p46 : lw_okq (⟨"OddBridge$Hearing", "fewestLiars", "()I"⟩, 2) := ⟨⟨by decide +kernel, by decide +kernel⟩, List.mem_of_getElem? (i := 416) (by decide +kernel), List.mem_of_getElem? (i := 742) (by decide +kernel), List.mem_of_getElem? (i := 743) (by decide +kernel)⟩
theorem lw_p47 : lw_okq (⟨"OddBridge", "imageAt", "(I)LOddBridge$Scene;"⟩, 15) := ⟨⟨by decide +kernel, by decide +kernel⟩, List.mem_of_getElem? (i := 20) (by decide +kernel), List.mem_of_getElem? (i := 755) (by decide +kernel), List.mem_of_getElem? (i := 756) (by decide +kernel)⟩
def lw_privs_3 : List (MethodName × Nat) := [(⟨"OddBridge$Crossing", "plan", "()V"⟩, 15), (⟨"OddBridge$Crossing", "lookAtCompany", "(I)V"⟩, 15), (⟨"OddBridge$Crossing", "lookAtLeft", "(I)V"⟩, 15), (⟨"OddBridge$Crossing", "tryFirst", "(II)V"⟩, 15), (⟨"OddBridge$Crossing", "lineUp", "(I)V"⟩, 15), (⟨"OddBridge", "refuseAsNo", "()I"⟩, 15), (⟨"OddBridge", "spreadStops", "(II)J"⟩, 15), (⟨"OddBridge$Fraction", "become", "(JJ)V"⟩, 2), (⟨"OddBridge", "waysHome", "(II)I"⟩, 15), (⟨"OddBridge$Scene", "addSaid", "(III)V"⟩, 13), (⟨"OddBridge$Hearing", "minutesUnwell", "(I)J"⟩, 2), (⟨"OddBridge$Hearing", "onBut", "(II)I"⟩, 2), (⟨"OddBridge$Hearing", "eachAlone", "()I"⟩, 2), (⟨"OddBridge$Hearing", "allWellBut", "(I)Z"⟩, 2), (⟨"OddBridge$Hearing", "fewestLiars", "()I"⟩, 2), (⟨"OddBridge", "imageAt", "(I)LOddBridge$Scene;"⟩, 15)]
theorem lw_r3 : ∀ q ∈ lw_privs_3, lw_okq q := List.forall_mem_cons.mpr ⟨lw_p32, List.forall_mem_cons.mpr ⟨lw_p33, List.forall_mem_cons.mpr ⟨lw_p34, List.forall_mem_cons.mpr ⟨lw_p35, List.forall_mem_cons.mpr ⟨lw_p36, List.forall_mem_cons.mpr ⟨lw_p37, List.forall_mem_cons.mpr ⟨lw_p38, List.forall_mem_cons.mpr ⟨lw_p39, List.forall_mem_cons.mpr ⟨lw_p40, List.forall_mem_cons.mpr ⟨lw_p41, List.forall_mem_cons.mpr ⟨lw_p42, List.forall_mem_cons.mpr ⟨lw_p43, List.forall_mem_cons.mpr ⟨lw_p44, List.forall_mem_cons.mpr ⟨lw_p45, List.forall_mem_cons.mpr ⟨lw_p46, List.forall_mem_cons.mpr ⟨lw_p47, fun _ h => absurd h List.not_mem_nil⟩⟩⟩⟩⟩⟩⟩⟩⟩⟩⟩⟩⟩⟩⟩⟩
theorem lw_p48 : lw_okq (⟨"OddBridge$Scene", "become", "(LOddBridge$Scene;)V"⟩, 13) := ⟨⟨by decide +kernel, by decide +kernel⟩, List.mem_of_getElem? (i := 28) (by decide +kernel), List.mem_of_getElem? (i := 759) (by decide +kernel), List.mem_of_getElem? (i := 760) (by decide +kernel)⟩
theorem lw_p49 : lw_okq (⟨"OddBridge$Scene", "addedTo", "(J)J"⟩, 13) := ⟨⟨by decide +kernel, by decide +kernel⟩, List.mem_of_getElem? (i := 28) (by decide +kernel), List.mem_of_getElem? (i := 783) (by decide +kernel), List.mem_of_getElem? (i := 784) (by decide +kernel)⟩
theorem lw_p50 : lw_okq (⟨"OddBridgeModel", "bad", "(I)I"⟩, 27) := ⟨⟨by decide +kernel, by decide +kernel⟩, List.mem_of_getElem? (i := 789) (by decide +kernel), List.mem_of_getElem? (i := 887) (by decide +kernel), List.mem_of_getElem? (i := 888) (by decide +kernel)⟩
theorem lw_p51 : lw_okq (⟨"OddBridgeModel", "walkers", "()I"⟩, 27) := ⟨⟨by decide +kernel, by decide +kernel⟩, List.mem_of_getElem? (i := 789) (by decide +kernel), List.mem_of_getElem? (i := 891) (by decide +kernel), List.mem_of_getElem? (i := 892) (by decide +kernel)⟩
theorem lw_p52 : lw_okq (⟨"OddBridgeModel", "full", "()I"⟩, 27) := ⟨⟨by decide +kernel, by decide +kernel⟩, List.mem_of_getElem? (i := 789) (by decide +kernel), List.mem_of_getElem? (i := 895) (by decide +kernel), List.mem_of_getElem? (i := 896) (by decide +kernel)⟩
theorem lw_p53 : lw_okq (⟨"OddBridgeModel", "isSet", "(I)Z"⟩, 27) := ⟨⟨by decide +kernel, by decide +kernel⟩, List.mem_of_getElem? (i := 789) (by decide +kernel), List.mem_of_getElem? (i := 908) (by decide +kernel), List.mem_of_getElem? (i := 909) (by decide +kernel)⟩
theorem lw_p54 : lw_okq (⟨"OddBridgeModel", "all", "()I"⟩, 27) := ⟨⟨by decide +kernel, by decide +kernel⟩, List.mem_of_getElem? (i := 789) (by decide +kernel), List.mem_of_getElem? (i := 912) (by decide +kernel), List.mem_of_getElem? (i := 913) (by decide +kernel)⟩
theorem lw_p55 : lw_okq (⟨"OddBridgeModel", "broughtBy", "(II)I"⟩, 27) := ⟨⟨by decide +kernel, by decide +kernel⟩, List.mem_of_getElem? (i := 789) (by decide +kernel), List.mem_of_getElem? (i := 917) (by decide +kernel), List.mem_of_getElem? (i := 918) (by decide +kernel)⟩
theorem lw_p56 : lw_okq (⟨"OddBridgeModel", "of", "(II)I"⟩, 27) := ⟨⟨by decide +kernel, by decide +kernel⟩, List.mem_of_getElem? (i := 789) (by decide +kernel), List.mem_of_getElem? (i := 921) (by decide +kernel), List.mem_of_getElem? (i := 922) (by decide +kernel)⟩
theorem lw_p57 : lw_okq (⟨"OddBridgeModel", "reads", "()Z"⟩, 27) := ⟨⟨by decide +kernel, by decide +kernel⟩, List.mem_of_getElem? (i := 789) (by decide +kernel), List.mem_of_getElem? (i := 941) (by decide +kernel), List.mem_of_getElem? (i := 942) (by decide +kernel)⟩
theorem lw_p58 : lw_okq (⟨"OddBridgeModel", "ahead", "()I"⟩, 27) := ⟨⟨by decide +kernel, by decide +kernel⟩, List.mem_of_getElem? (i := 789) (by decide +kernel), List.mem_of_getElem? (i := 945) (by decide +kernel), List.mem_of_getElem? (i := 946) (by decide +kernel)⟩
theorem lw_p59 : lw_okq (⟨"OddBridgeModel", "textLong", "()I"⟩, 27) := ⟨⟨by decide +kernel, by decide +kernel⟩, List.mem_of_getElem? (i := 789) (by decide +kernel), List.mem_of_getElem? (i := 949) (by decide +kernel), List.mem_of_getElem? (i := 950) (by decide +kernel)⟩
theorem lw_p60 : lw_okq (⟨"OddBridgeModel", "charAt", "(I)I"⟩, 27) := ⟨⟨by decide +kernel, by decide +kernel⟩, List.mem_of_getElem? (i := 789) (by decide +kernel), List.mem_of_getElem? (i := 953) (by decide +kernel), List.mem_of_getElem? (i := 954) (by decide +kernel)⟩
theorem lw_p61 : lw_okq (⟨"OddBridgeModel", "digits", "()J"⟩, 27) := ⟨⟨by decide +kernel, by decide +kernel⟩, List.mem_of_getElem? (i := 789) (by decide +kernel), List.mem_of_getElem? (i := 962) (by decide +kernel), List.mem_of_getElem? (i := 963) (by decide +kernel)⟩
theorem lw_p62 : lw_okq (⟨"OddBridgeModel", "stands", "(J)V"⟩, 27) := ⟨⟨by decide +kernel, by decide +kernel⟩, List.mem_of_getElem? (i := 789) (by decide +kernel), List.mem_of_getElem? (i := 967) (by decide +kernel), List.mem_of_getElem? (i := 968) (by decide +kernel)⟩
theorem lw_p63 : lw_okq (⟨"OddBridgeModel", "workDown", "(I)V"⟩, 27) := ⟨⟨by decide +kernel, by decide +kernel⟩, List.mem_of_getElem? (i := 789) (by decide +kernel), List.mem_of_getElem? (i := 974) (by decide +kernel), List.mem_of_getElem? (i := 975) (by decide +kernel)⟩
def lw_privs_4 : List (MethodName × Nat) := [(⟨"OddBridge$Scene", "become", "(LOddBridge$Scene;)V"⟩, 13), (⟨"OddBridge$Scene", "addedTo", "(J)J"⟩, 13), (⟨"OddBridgeModel", "bad", "(I)I"⟩, 27), (⟨"OddBridgeModel", "walkers", "()I"⟩, 27), (⟨"OddBridgeModel", "full", "()I"⟩, 27), (⟨"OddBridgeModel", "isSet", "(I)Z"⟩, 27), (⟨"OddBridgeModel", "all", "()I"⟩, 27), (⟨"OddBridgeModel", "broughtBy", "(II)I"⟩, 27), (⟨"OddBridgeModel", "of", "(II)I"⟩, 27), (⟨"OddBridgeModel", "reads", "()Z"⟩, 27), (⟨"OddBridgeModel", "ahead", "()I"⟩, 27), (⟨"OddBridgeModel", "textLong", "()I"⟩, 27), (⟨"OddBridgeModel", "charAt", "(I)I"⟩, 27), (⟨"OddBridgeModel", "digits", "()J"⟩, 27), (⟨"OddBridgeModel", "stands", "(J)V"⟩, 27), (⟨"OddBridgeModel", "workDown", "(I)V"⟩, 27)]
theorem lw_r4 : ∀ q ∈ lw_privs_4, lw_okq q := List.forall_mem_cons.mpr ⟨lw_p48, List.forall_mem_cons.mpr ⟨lw_p49, List.forall_mem_cons.mpr ⟨lw_p50, List.forall_mem_cons.mpr ⟨lw_p51, List.forall_mem_cons.mpr ⟨lw_p52, List.forall_mem_cons.mpr ⟨lw_p53, List.forall_mem_cons.mpr ⟨lw_p54, List.forall_mem_cons.mpr ⟨lw_p55, List.forall_mem_cons.mpr ⟨lw_p56, List.forall_mem_cons.mpr ⟨lw_p57, List.forall_mem_cons.mpr ⟨lw_p58, List.forall_mem_cons.mpr ⟨lw_p59, List.forall_mem_cons.mpr ⟨lw_p60, List.forall_mem_cons.mpr ⟨lw_p61, List.forall_mem_cons.mpr ⟨lw_p62, List.forall_mem_cons.mpr ⟨lw_p63, fun _ h => absurd h List.not_mem_nil⟩⟩⟩⟩⟩⟩⟩⟩⟩⟩⟩⟩⟩⟩⟩⟩
theorem lw_p64 : lw_okq (⟨"OddBridgeModel", "workOut", "()V"⟩, 27) := ⟨⟨by decide +kernel, by decide +kernel⟩, List.mem_of_getElem? (i := 789) (by decide +kernel), List.mem_of_getElem? (i := 981) (by decide +kernel), List.mem_of_getElem? (i := 982) (by decide +kernel)⟩
theorem lw_p65 : lw_okq (⟨"OddBridgeModel", "isWell", "(III)Z"⟩, 27) := ⟨⟨by decide +kernel, by decide +kernel⟩, List.mem_of_getElem? (i := 789) (by decide +kernel), List.mem_of_getElem? (i := 990) (by decide +kernel), List.mem_of_getElem? (i := 991) (by decide +kernel)⟩
theorem lw_p66 : lw_okq (⟨"OddBridgeModel", "celebrate", "()V"⟩, 27) := ⟨⟨by decide +kernel, by decide +kernel⟩, List.mem_of_getElem? (i := 789) (by decide +kernel), List.mem_of_getElem? (i := 998) (by decide +kernel), List.mem_of_getElem? (i := 999) (by decide +kernel)⟩
theorem lw_p67 : lw_okq (⟨"OddBridgeModel", "onNow", "()I"⟩, 27) := ⟨⟨by decide +kernel, by decide +kernel⟩, List.mem_of_getElem? (i := 789) (by decide +kernel), List.mem_of_getElem? (i := 1002) (by decide +kernel), List.mem_of_getElem? (i := 1003) (by decide +kernel)⟩
theorem lw_p68 : lw_okq (⟨"OddBridgeModel", "mayStep", "(I)I"⟩, 27) := ⟨⟨by decide +kernel, by decide +kernel⟩, List.mem_of_getElem? (i := 789) (by decide +kernel), List.mem_of_getElem? (i := 1006) (by decide +kernel), List.mem_of_getElem? (i := 1007) (by decide +kernel)⟩
theorem lw_p69 : lw_okq (⟨"OddBridgeModel", "isWellOn", "(II)Z"⟩, 27) := ⟨⟨by decide +kernel, by decide +kernel⟩, List.mem_of_getElem? (i := 789) (by decide +kernel), List.mem_of_getElem? (i := 1013) (by decide +kernel), List.mem_of_getElem? (i := 1014) (by decide +kernel)⟩
theorem lw_p70 : lw_okq (⟨"OddBridgeModel", "ahead", "(II)I"⟩, 27) := ⟨⟨by decide +kernel, by decide +kernel⟩, List.mem_of_getElem? (i := 789) (by decide +kernel), List.mem_of_getElem? (i := 1017) (by decide +kernel), List.mem_of_getElem? (i := 1018) (by decide +kernel)⟩
theorem lw_p71 : lw_okq (⟨"OddBridgeModel", "isWalker", "(I)Z"⟩, 27) := ⟨⟨by decide +kernel, by decide +kernel⟩, List.mem_of_getElem? (i := 789) (by decide +kernel), List.mem_of_getElem? (i := 1025) (by decide +kernel), List.mem_of_getElem? (i := 1026) (by decide +kernel)⟩
theorem lw_p72 : lw_okq (⟨"OddBridgeModel", "layRow", "()Z"⟩, 27) := ⟨⟨by decide +kernel, by decide +kernel⟩, List.mem_of_getElem? (i := 789) (by decide +kernel), List.mem_of_getElem? (i := 1038) (by decide +kernel), List.mem_of_getElem? (i := 1039) (by decide +kernel)⟩
theorem lw_p73 : lw_okq (⟨"OddBridgeModel", "findLeast", "()V"⟩, 27) := ⟨⟨by decide +kernel, by decide +kernel⟩, List.mem_of_getElem? (i := 789) (by decide +kernel), List.mem_of_getElem? (i := 1042) (by decide +kernel), List.mem_of_getElem? (i := 1043) (by decide +kernel)⟩
theorem lw_p74 : lw_okq (⟨"OddBridgeModel", "findPrices", "()V"⟩, 27) := ⟨⟨by decide +kernel, by decide +kernel⟩, List.mem_of_getElem? (i := 789) (by decide +kernel), List.mem_of_getElem? (i := 1046) (by decide +kernel), List.mem_of_getElem? (i := 1047) (by decide +kernel)⟩
theorem lw_p75 : lw_okq (⟨"OddBridgeModel", "mayGo", "(II)Z"⟩, 27) := ⟨⟨by decide +kernel, by decide +kernel⟩, List.mem_of_getElem? (i := 789) (by decide +kernel), List.mem_of_getElem? (i := 1051) (by decide +kernel), List.mem_of_getElem? (i := 1052) (by decide +kernel)⟩
theorem lw_p76 : lw_okq (⟨"OddBridgeModel", "timeOf", "(I)I"⟩, 27) := ⟨⟨by decide +kernel, by decide +kernel⟩, List.mem_of_getElem? (i := 789) (by decide +kernel), List.mem_of_getElem? (i := 1055) (by decide +kernel), List.mem_of_getElem? (i := 1056) (by decide +kernel)⟩
theorem lw_p77 : lw_okq (⟨"OddBridgeModel", "isNext", "(II)Z"⟩, 27) := ⟨⟨by decide +kernel, by decide +kernel⟩, List.mem_of_getElem? (i := 789) (by decide +kernel), List.mem_of_getElem? (i := 1059) (by decide +kernel), List.mem_of_getElem? (i := 1060) (by decide +kernel)⟩
theorem lw_p78 : lw_okq (⟨"OddBridgeModel", "no", "()I"⟩, 27) := ⟨⟨by decide +kernel, by decide +kernel⟩, List.mem_of_getElem? (i := 789) (by decide +kernel), List.mem_of_getElem? (i := 1072) (by decide +kernel), List.mem_of_getElem? (i := 1073) (by decide +kernel)⟩
theorem lw_p79 : lw_okq (⟨"OddBridgeModel", "tells", "(JJ)I"⟩, 27) := ⟨⟨by decide +kernel, by decide +kernel⟩, List.mem_of_getElem? (i := 789) (by decide +kernel), List.mem_of_getElem? (i := 1076) (by decide +kernel), List.mem_of_getElem? (i := 1077) (by decide +kernel)⟩
def lw_privs_5 : List (MethodName × Nat) := [(⟨"OddBridgeModel", "workOut", "()V"⟩, 27), (⟨"OddBridgeModel", "isWell", "(III)Z"⟩, 27), (⟨"OddBridgeModel", "celebrate", "()V"⟩, 27), (⟨"OddBridgeModel", "onNow", "()I"⟩, 27), (⟨"OddBridgeModel", "mayStep", "(I)I"⟩, 27), (⟨"OddBridgeModel", "isWellOn", "(II)Z"⟩, 27), (⟨"OddBridgeModel", "ahead", "(II)I"⟩, 27), (⟨"OddBridgeModel", "isWalker", "(I)Z"⟩, 27), (⟨"OddBridgeModel", "layRow", "()Z"⟩, 27), (⟨"OddBridgeModel", "findLeast", "()V"⟩, 27), (⟨"OddBridgeModel", "findPrices", "()V"⟩, 27), (⟨"OddBridgeModel", "mayGo", "(II)Z"⟩, 27), (⟨"OddBridgeModel", "timeOf", "(I)I"⟩, 27), (⟨"OddBridgeModel", "isNext", "(II)Z"⟩, 27), (⟨"OddBridgeModel", "no", "()I"⟩, 27), (⟨"OddBridgeModel", "tells", "(JJ)I"⟩, 27)]
theorem lw_r5 : ∀ q ∈ lw_privs_5, lw_okq q := List.forall_mem_cons.mpr ⟨lw_p64, List.forall_mem_cons.mpr ⟨lw_p65, List.forall_mem_cons.mpr ⟨lw_p66, List.forall_mem_cons.mpr ⟨lw_p67, List.forall_mem_cons.mpr ⟨lw_p68, List.forall_mem_cons.mpr ⟨lw_p69, List.forall_mem_cons.mpr ⟨lw_p70, List.forall_mem_cons.mpr ⟨lw_p71, List.forall_mem_cons.mpr ⟨lw_p72, List.forall_mem_cons.mpr ⟨lw_p73, List.forall_mem_cons.mpr ⟨lw_p74, List.forall_mem_cons.mpr ⟨lw_p75, List.forall_mem_cons.mpr ⟨lw_p76, List.forall_mem_cons.mpr ⟨lw_p77, List.forall_mem_cons.mpr ⟨lw_p78, List.forall_mem_cons.mpr ⟨lw_p79, fun _ h => absurd h List.not_mem_nil⟩⟩⟩⟩⟩⟩⟩⟩⟩⟩⟩⟩⟩⟩⟩⟩
theorem lw_p80 : lw_okq (⟨"OddBridgeModel", "said", "()I"⟩, 27) := ⟨⟨by decide +kernel, by decide +kernel⟩, List.mem_of_getElem? (i := 789) (by decide +kernel), List.mem_of_getElem? (i := 1098) (by decide +kernel), List.mem_of_getElem? (i := 1099) (by decide +kernel)⟩
theorem lw_p81 : lw_okq (⟨"OddBridgeModel", "disputeOf", "(I)J"⟩, 27) := ⟨⟨by decide +kernel, by decide +kernel⟩, List.mem_of_getElem? (i := 789) (by decide +kernel), List.mem_of_getElem? (i := 1110) (by decide +kernel), List.mem_of_getElem? (i := 1111) (by decide +kernel)⟩
theorem lw_p82 : lw_okq (⟨"OddBridgeModel", "onBy", "(II)I"⟩, 27) := ⟨⟨by decide +kernel, by decide +kernel⟩, List.mem_of_getElem? (i := 789) (by decide +kernel), List.mem_of_getElem? (i := 1114) (by decide +kernel), List.mem_of_getElem? (i := 1115) (by decide +kernel)⟩
theorem lw_p83 : lw_okq (⟨"OddBridgeModel", "sums", "(JII)J"⟩, 27) := ⟨⟨by decide +kernel, by decide +kernel⟩, List.mem_of_getElem? (i := 789) (by decide +kernel), List.mem_of_getElem? (i := 1149) (by decide +kernel), List.mem_of_getElem? (i := 1150) (by decide +kernel)⟩
def lw_privs_6 : List (MethodName × Nat) := [(⟨"OddBridgeModel", "said", "()I"⟩, 27), (⟨"OddBridgeModel", "disputeOf", "(I)J"⟩, 27), (⟨"OddBridgeModel", "onBy", "(II)I"⟩, 27), (⟨"OddBridgeModel", "sums", "(JII)J"⟩, 27)]
theorem lw_r6 : ∀ q ∈ lw_privs_6, lw_okq q := List.forall_mem_cons.mpr ⟨lw_p80, List.forall_mem_cons.mpr ⟨lw_p81, List.forall_mem_cons.mpr ⟨lw_p82, List.forall_mem_cons.mpr ⟨lw_p83, fun _ h => absurd h List.not_mem_nil⟩⟩⟩⟩
def lw_privs : List (MethodName × Nat) := lw_privs_1 ++ (lw_privs_2 ++ (lw_privs_3 ++ (lw_privs_4 ++ (lw_privs_5 ++ (lw_privs_6)))))
def lw_tbl : List Cond := k2_sels lw_privs ++ tables_1
theorem lw_privs_ok : ∀ q ∈ lw_privs, lw_okq q := by
  show ∀ q ∈ lw_privs_1 ++ (lw_privs_2 ++ (lw_privs_3 ++ (lw_privs_4 ++ (lw_privs_5 ++ (lw_privs_6))))), lw_okq q
  exact List.forall_mem_append.mpr ⟨lw_r1, List.forall_mem_append.mpr ⟨lw_r2, List.forall_mem_append.mpr ⟨lw_r3, List.forall_mem_append.mpr ⟨lw_r4, List.forall_mem_append.mpr ⟨lw_r5, lw_r6⟩⟩⟩⟩⟩
end
section
def RX0 : String := "OddBridge$Crossing"
def TX0 : u_T := fun k => match k with
  | 0 => ("OddBridge$Crossing", "scene", "LOddBridge$Scene;", true)
  | 1 => ("OddBridge$Crossing", "judge", "LOddBridge$Judge;", true)
  | 2 => ("OddBridge$Crossing", "beggars", "[I", true)
  | 3 => ("OddBridge$Crossing", "lasts", "[I", true)
  | 4 => ("OddBridge$Crossing", "minutes", "[I", true)
  | 5 => ("OddBridge$Crossing", "pays", "[I", true)
  | 6 => ("OddBridge$Crossing", "firsts", "[I", true)
  | 7 => ("OddBridge$Crossing", "leastPays", "[I", true)
  | 8 => ("OddBridge$Crossing", "row", "[I", true)
  | 9 => ("OddBridge$Crossing", "companies", "I", false)
  | 10 => ("OddBridge$Crossing", "hasRow", "Z", false)
  | 11 => ("OddBridge$Crossing", "leastMinutes", "I", false)
  | 12 => ("OddBridge$Crossing", "payOfRow", "I", false)
  | 13 => ("OddBridge$Crossing", "leastPay", "I", false)
  | _ => ("OddBridge$Crossing", "known", "Z", false)
def tyX0 : Nat → FieldType := fun k => match k with
  | 0 => .object "OddBridge$Scene"
  | 1 => .object "OddBridge$Judge"
  | 2 => .array .int
  | 3 => .array .int
  | 4 => .array .int
  | 5 => .array .int
  | 6 => .array .int
  | 7 => .array .int
  | 8 => .array .int
  | 9 => .int
  | 10 => .boolean
  | 11 => .int
  | 12 => .int
  | 13 => .int
  | _ => .boolean
abbrev wsX00 : List Cond := u_ws RX0 TX0 15
theorem nmX0 : ∀ a, a < 15 → ∀ b, b < 15 → a ≠ b → (TX0 a).2.1 ≠ (TX0 b).2.1 := by decide +kernel
theorem tyX0_ok : ∀ k, k < 15 → parseFieldDescriptor (TX0 k).2.2.1 = some (tyX0 k) := by decide +kernel
abbrev cX0_init : ByteArray := prog_2_method_1_code
def yX0_init : MethodName := ⟨RX0, "<init>", "(LOddBridge$Scene;LOddBridge$Judge;)V"⟩
abbrev cX0_plan : ByteArray := prog_2_method_2_code
def yX0_plan : MethodName := ⟨RX0, "plan", "()V"⟩
abbrev cX0_lookAtCompany : ByteArray := prog_2_method_3_code
def yX0_lookAtCompany : MethodName := ⟨RX0, "lookAtCompany", "(I)V"⟩
abbrev cX0_lookAtLeft : ByteArray := prog_2_method_4_code
def yX0_lookAtLeft : MethodName := ⟨RX0, "lookAtLeft", "(I)V"⟩
abbrev cX0_tryFirst : ByteArray := prog_2_method_5_code
def yX0_tryFirst : MethodName := ⟨RX0, "tryFirst", "(II)V"⟩
abbrev cX0_lineUp : ByteArray := prog_2_method_6_code
def yX0_lineUp : MethodName := ⟨RX0, "lineUp", "(I)V"⟩
def RX1 : String := "OddBridge$Feast"
def TX1 : u_T := fun k => match k with
  | 0 => ("OddBridge$Feast", "scene", "LOddBridge$Scene;", true)
  | 1 => ("OddBridge$Feast", "judge", "LOddBridge$Judge;", true)
  | 2 => ("OddBridge$Feast", "behind", "[I", true)
  | 3 => ("OddBridge$Feast", "cameOn", "[I", true)
  | 4 => ("OddBridge$Feast", "wentOff", "[I", true)
  | 5 => ("OddBridge$Feast", "present", "I", false)
  | 6 => ("OddBridge$Feast", "faults", "I", false)
  | 7 => ("OddBridge$Feast", "firstFault", "I", false)
  | _ => ("OddBridge$Feast", "known", "Z", false)
def tyX1 : Nat → FieldType := fun k => match k with
  | 0 => .object "OddBridge$Scene"
  | 1 => .object "OddBridge$Judge"
  | 2 => .array .int
  | 3 => .array .int
  | 4 => .array .int
  | 5 => .int
  | 6 => .int
  | 7 => .int
  | _ => .boolean
abbrev wsX10 : List Cond := u_ws RX1 TX1 9
theorem nmX1 : ∀ a, a < 9 → ∀ b, b < 9 → a ≠ b → (TX1 a).2.1 ≠ (TX1 b).2.1 := by decide +kernel
theorem tyX1_ok : ∀ k, k < 9 → parseFieldDescriptor (TX1 k).2.2.1 = some (tyX1 k) := by decide +kernel
abbrev cX1_init : ByteArray := prog_3_method_1_code
def yX1_init : MethodName := ⟨RX1, "<init>", "(LOddBridge$Scene;LOddBridge$Judge;)V"⟩
abbrev cX1_goThrough : ByteArray := prog_3_method_2_code
def yX1_goThrough : MethodName := ⟨RX1, "goThrough", "()V"⟩
abbrev cX1_bestSteps : ByteArray := prog_3_method_3_code
def yX1_bestSteps : MethodName := ⟨RX1, "bestSteps", "(I)I"⟩
abbrev cX1_mayStep : ByteArray := prog_3_method_4_code
def yX1_mayStep : MethodName := ⟨RX1, "mayStep", "(I)I"⟩
abbrev cX1_aheadOfWall : ByteArray := prog_3_method_5_code
def yX1_aheadOfWall : MethodName := ⟨RX1, "aheadOfWall", "(I)I"⟩
abbrev cX1_step : ByteArray := prog_3_method_6_code
def yX1_step : MethodName := ⟨RX1, "step", "(II)V"⟩
def RX2 : String := "OddBridge$Fraction"
def TX2 : u_T := fun k => match k with
  | 0 => ("OddBridge$Fraction", "above", "J", false)
  | _ => ("OddBridge$Fraction", "below", "J", false)
def tyX2 : Nat → FieldType := fun k => match k with
  | 0 => .long
  | _ => .long
abbrev wsX20 : List Cond := u_ws RX2 TX2 2
theorem nmX2 : ∀ a, a < 2 → ∀ b, b < 2 → a ≠ b → (TX2 a).2.1 ≠ (TX2 b).2.1 := by decide +kernel
theorem tyX2_ok : ∀ k, k < 2 → parseFieldDescriptor (TX2 k).2.2.1 = some (tyX2 k) := by decide +kernel
abbrev cX2_init : ByteArray := prog_4_method_1_code
def yX2_init : MethodName := ⟨RX2, "<init>", "()V"⟩
abbrev cX2_become : ByteArray := prog_4_method_2_code
def yX2_become : MethodName := ⟨RX2, "become", "(JJ)V"⟩
abbrev cX2_commonDivisor : ByteArray := prog_4_method_3_code
def yX2_commonDivisor : MethodName := ⟨RX2, "commonDivisor", "(JJ)J"⟩
def RX3 : String := "OddBridge$Hearing"
def TX3 : u_T := fun k => match k with
  | 0 => ("OddBridge$Hearing", "scene", "LOddBridge$Scene;", true)
  | _ => ("OddBridge$Hearing", "judge", "LOddBridge$Judge;", true)
def tyX3 : Nat → FieldType := fun k => match k with
  | 0 => .object "OddBridge$Scene"
  | _ => .object "OddBridge$Judge"
abbrev wsX30 : List Cond := u_ws RX3 TX3 2
theorem nmX3 : ∀ a, a < 2 → ∀ b, b < 2 → a ≠ b → (TX3 a).2.1 ≠ (TX3 b).2.1 := by decide +kernel
theorem tyX3_ok : ∀ k, k < 2 → parseFieldDescriptor (TX3 k).2.2.1 = some (tyX3 k) := by decide +kernel
abbrev cX3_init : ByteArray := prog_5_method_1_code
def yX3_init : MethodName := ⟨RX3, "<init>", "(LOddBridge$Scene;LOddBridge$Judge;)V"⟩
abbrev cX3_onBut : ByteArray := prog_5_method_2_code
def yX3_onBut : MethodName := ⟨RX3, "onBut", "(II)I"⟩
abbrev cX3_minutesUnwell : ByteArray := prog_5_method_3_code
def yX3_minutesUnwell : MethodName := ⟨RX3, "minutesUnwell", "(I)J"⟩
abbrev cX3_allWellBut : ByteArray := prog_5_method_4_code
def yX3_allWellBut : MethodName := ⟨RX3, "allWellBut", "(I)Z"⟩
abbrev cX3_eachAlone : ByteArray := prog_5_method_5_code
def yX3_eachAlone : MethodName := ⟨RX3, "eachAlone", "()I"⟩
abbrev cX3_fewestLiars : ByteArray := prog_5_method_6_code
def yX3_fewestLiars : MethodName := ⟨RX3, "fewestLiars", "()I"⟩
def RX4 : String := "OddBridge$Judge"
def TX4 : u_T := fun k => match k with
  | 0 => ("OddBridge$Judge", "scene", "LOddBridge$Scene;", true)
  | 1 => ("OddBridge$Judge", "vow", "LOddBridge$Vow;", true)
  | 2 => ("OddBridge$Judge", "brought", "[I", true)
  | 3 => ("OddBridge$Judge", "asked", "[J", true)
  | 4 => ("OddBridge$Judge", "found", "[J", true)
  | _ => ("OddBridge$Judge", "stale", "Z", false)
def tyX4 : Nat → FieldType := fun k => match k with
  | 0 => .object "OddBridge$Scene"
  | 1 => .object "OddBridge$Vow"
  | 2 => .array .int
  | 3 => .array .long
  | 4 => .array .long
  | _ => .boolean
abbrev wsX40 : List Cond := u_ws RX4 TX4 6
theorem nmX4 : ∀ a, a < 6 → ∀ b, b < 6 → a ≠ b → (TX4 a).2.1 ≠ (TX4 b).2.1 := by decide +kernel
theorem tyX4_ok : ∀ k, k < 6 → parseFieldDescriptor (TX4 k).2.2.1 = some (tyX4 k) := by decide +kernel
abbrev cX4_init : ByteArray := prog_6_method_1_code
def yX4_init : MethodName := ⟨RX4, "<init>", "(LOddBridge$Scene;LOddBridge$Vow;)V"⟩
abbrev cX4_isWell : ByteArray := prog_6_method_2_code
def yX4_isWell : MethodName := ⟨RX4, "isWell", "(II)Z"⟩
abbrev cX4_isOdd : ByteArray := prog_6_method_3_code
def yX4_isOdd : MethodName := ⟨RX4, "isOdd", "(III)Z"⟩
def RX5 : String := "OddBridge$Scene"
def TX5 : u_T := fun k => match k with
  | 0 => ("OddBridge$Scene", "kinds", "[I", true)
  | 1 => ("OddBridge$Scene", "times", "[I", true)
  | 2 => ("OddBridge$Scene", "comings", "[I", true)
  | 3 => ("OddBridge$Scene", "doubts", "[I", true)
  | 4 => ("OddBridge$Scene", "walkers", "I", false)
  | 5 => ("OddBridge$Scene", "wall", "I", false)
  | 6 => ("OddBridge$Scene", "price", "I", false)
  | 7 => ("OddBridge$Scene", "text", "[C", true)
  | 8 => ("OddBridge$Scene", "letters", "I", false)
  | 9 => ("OddBridge$Scene", "sayers", "[I", true)
  | 10 => ("OddBridge$Scene", "begins", "[I", true)
  | 11 => ("OddBridge$Scene", "ends", "[I", true)
  | _ => ("OddBridge$Scene", "said", "I", false)
def tyX5 : Nat → FieldType := fun k => match k with
  | 0 => .array .int
  | 1 => .array .int
  | 2 => .array .int
  | 3 => .array .int
  | 4 => .int
  | 5 => .int
  | 6 => .int
  | 7 => .array .char
  | 8 => .int
  | 9 => .array .int
  | 10 => .array .int
  | 11 => .array .int
  | _ => .int
abbrev wsX50 : List Cond := u_ws RX5 TX5 13
theorem nmX5 : ∀ a, a < 13 → ∀ b, b < 13 → a ≠ b → (TX5 a).2.1 ≠ (TX5 b).2.1 := by decide +kernel
theorem tyX5_ok : ∀ k, k < 13 → parseFieldDescriptor (TX5 k).2.2.1 = some (tyX5 k) := by decide +kernel
abbrev cX5_init : ByteArray := prog_7_method_1_code
def yX5_init : MethodName := ⟨RX5, "<init>", "()V"⟩
abbrev cX5_addWalker : ByteArray := prog_7_method_2_code
def yX5_addWalker : MethodName := ⟨RX5, "addWalker", "(III)V"⟩
abbrev cX5_addLetter : ByteArray := prog_7_method_3_code
def yX5_addLetter : MethodName := ⟨RX5, "addLetter", "(C)V"⟩
abbrev cX5_addSaid : ByteArray := prog_7_method_4_code
def yX5_addSaid : MethodName := ⟨RX5, "addSaid", "(III)V"⟩
abbrev cX5_become : ByteArray := prog_7_method_5_code
def yX5_become : MethodName := ⟨RX5, "become", "(LOddBridge$Scene;)V"⟩
abbrev cX5_sumBrought : ByteArray := prog_7_method_6_code
def yX5_sumBrought : MethodName := ⟨RX5, "sumBrought", "(II)I"⟩
abbrev cX5_addedTo : ByteArray := prog_7_method_7_code
def yX5_addedTo : MethodName := ⟨RX5, "addedTo", "(J)J"⟩
def RX6 : String := "OddBridge$Vow"
def TX6 : u_T := fun k => match k with
  | 0 => ("OddBridge$Vow", "scene", "LOddBridge$Scene;", true)
  | 1 => ("OddBridge$Vow", "signs", "[C", true)
  | 2 => ("OddBridge$Vow", "numbers", "[I", true)
  | 3 => ("OddBridge$Vow", "length", "I", false)
  | 4 => ("OddBridge$Vow", "stack", "[J", true)
  | 5 => ("OddBridge$Vow", "top", "I", false)
  | 6 => ("OddBridge$Vow", "place", "I", false)
  | 7 => ("OddBridge$Vow", "flaw", "I", false)
  | _ => ("OddBridge$Vow", "namesMinute", "Z", false)
def tyX6 : Nat → FieldType := fun k => match k with
  | 0 => .object "OddBridge$Scene"
  | 1 => .array .char
  | 2 => .array .int
  | 3 => .int
  | 4 => .array .long
  | 5 => .int
  | 6 => .int
  | 7 => .int
  | _ => .boolean
abbrev wsX60 : List Cond := u_ws RX6 TX6 9
theorem nmX6 : ∀ a, a < 9 → ∀ b, b < 9 → a ≠ b → (TX6 a).2.1 ≠ (TX6 b).2.1 := by decide +kernel
theorem tyX6_ok : ∀ k, k < 9 → parseFieldDescriptor (TX6 k).2.2.1 = some (tyX6 k) := by decide +kernel
abbrev cX6_init : ByteArray := prog_8_method_1_code
def yX6_init : MethodName := ⟨RX6, "<init>", "(LOddBridge$Scene;)V"⟩
abbrev cX6_read : ByteArray := prog_8_method_2_code
def yX6_read : MethodName := ⟨RX6, "read", "()V"⟩
abbrev cX6_readValue : ByteArray := prog_8_method_3_code
def yX6_readValue : MethodName := ⟨RX6, "readValue", "(I)V"⟩
abbrev cX6_readBoth : ByteArray := prog_8_method_4_code
def yX6_readBoth : MethodName := ⟨RX6, "readBoth", "(I)V"⟩
abbrev cX6_readHeld : ByteArray := prog_8_method_5_code
def yX6_readHeld : MethodName := ⟨RX6, "readHeld", "(I)V"⟩
abbrev cX6_readSum : ByteArray := prog_8_method_6_code
def yX6_readSum : MethodName := ⟨RX6, "readSum", "(I)V"⟩
abbrev cX6_readTerm : ByteArray := prog_8_method_7_code
def yX6_readTerm : MethodName := ⟨RX6, "readTerm", "(I)V"⟩
abbrev cX6_readUnit : ByteArray := prog_8_method_8_code
def yX6_readUnit : MethodName := ⟨RX6, "readUnit", "(I)V"⟩
abbrev cX6_readBareUnit : ByteArray := prog_8_method_9_code
def yX6_readBareUnit : MethodName := ⟨RX6, "readBareUnit", "(I)V"⟩
abbrev cX6_readDigits : ByteArray := prog_8_method_10_code
def yX6_readDigits : MethodName := ⟨RX6, "readDigits", "()V"⟩
abbrev cX6_readOpened : ByteArray := prog_8_method_11_code
def yX6_readOpened : MethodName := ⟨RX6, "readOpened", "(I)V"⟩
abbrev cX6_isDigit : ByteArray := prog_8_method_12_code
def yX6_isDigit : MethodName := ⟨RX6, "isDigit", "(I)Z"⟩
abbrev cX6_signAt : ByteArray := prog_8_method_13_code
def yX6_signAt : MethodName := ⟨RX6, "signAt", "(I)I"⟩
abbrev cX6_nextSign : ByteArray := prog_8_method_14_code
def yX6_nextSign : MethodName := ⟨RX6, "nextSign", "()I"⟩
abbrev cX6_take : ByteArray := prog_8_method_15_code
def yX6_take : MethodName := ⟨RX6, "take", "(Ljava/lang/String;)I"⟩
abbrev cX6_setFlaw : ByteArray := prog_8_method_16_code
def yX6_setFlaw : MethodName := ⟨RX6, "setFlaw", "(II)V"⟩
abbrev cX6_addSign : ByteArray := prog_8_method_17_code
def yX6_addSign : MethodName := ⟨RX6, "addSign", "(CI)V"⟩
abbrev cX6_value : ByteArray := prog_8_method_18_code
def yX6_value : MethodName := ⟨RX6, "value", "([II)J"⟩
abbrev cX6_push : ByteArray := prog_8_method_19_code
def yX6_push : MethodName := ⟨RX6, "push", "(J)V"⟩
abbrev cX6_pop : ByteArray := prog_8_method_20_code
def yX6_pop : MethodName := ⟨RX6, "pop", "()J"⟩
abbrev cX6_work : ByteArray := prog_8_method_21_code
def yX6_work : MethodName := ⟨RX6, "work", "(CJJ)J"⟩
def RX7 : String := "OddBridge"
def TX7 : u_T := fun k => match k with
  | 0 => ("OddBridge", "scene", "LOddBridge$Scene;", true)
  | 1 => ("OddBridge", "firstImage", "LOddBridge$Scene;", true)
  | 2 => ("OddBridge", "secondImage", "LOddBridge$Scene;", true)
  | 3 => ("OddBridge", "kept", "[Z", true)
  | 4 => ("OddBridge", "vow", "LOddBridge$Vow;", true)
  | 5 => ("OddBridge", "judge", "LOddBridge$Judge;", true)
  | 6 => ("OddBridge", "feast", "LOddBridge$Feast;", true)
  | 7 => ("OddBridge", "crossing", "LOddBridge$Crossing;", true)
  | 8 => ("OddBridge", "hearing", "LOddBridge$Hearing;", true)
  | 9 => ("OddBridge", "fraction", "LOddBridge$Fraction;", true)
  | 10 => ("OddBridge", "stops", "[J", true)
  | 11 => ("OddBridge", "ways", "[I", true)
  | 12 => ("OddBridge", "refusedBad", "I", false)
  | 13 => ("OddBridge", "refusedNo", "I", false)
  | _ => ("OddBridge", "refusedFull", "I", false)
def tyX7 : Nat → FieldType := fun k => match k with
  | 0 => .object "OddBridge$Scene"
  | 1 => .object "OddBridge$Scene"
  | 2 => .object "OddBridge$Scene"
  | 3 => .array .boolean
  | 4 => .object "OddBridge$Vow"
  | 5 => .object "OddBridge$Judge"
  | 6 => .object "OddBridge$Feast"
  | 7 => .object "OddBridge$Crossing"
  | 8 => .object "OddBridge$Hearing"
  | 9 => .object "OddBridge$Fraction"
  | 10 => .array .long
  | 11 => .array .int
  | 12 => .int
  | 13 => .int
  | _ => .int
abbrev wsX70 : List Cond := u_ws RX7 TX7 15
theorem nmX7 : ∀ a, a < 15 → ∀ b, b < 15 → a ≠ b → (TX7 a).2.1 ≠ (TX7 b).2.1 := by decide +kernel
theorem tyX7_ok : ∀ k, k < 15 → parseFieldDescriptor (TX7 k).2.2.1 = some (tyX7 k) := by decide +kernel
abbrev cX7_init : ByteArray := prog_1_method_1_code
def yX7_init : MethodName := ⟨RX7, "<init>", "()V"⟩
abbrev cX7_walker : ByteArray := prog_1_method_2_code
def yX7_walker : MethodName := ⟨RX7, "walker", "(III)I"⟩
abbrev cX7_put : ByteArray := prog_1_method_3_code
def yX7_put : MethodName := ⟨RX7, "put", "(II)I"⟩
abbrev cX7_write : ByteArray := prog_1_method_4_code
def yX7_write : MethodName := ⟨RX7, "write", "(I)I"⟩
abbrev cX7_erase : ByteArray := prog_1_method_5_code
def yX7_erase : MethodName := ⟨RX7, "erase", "()I"⟩
abbrev cX7_fault : ByteArray := prog_1_method_6_code
def yX7_fault : MethodName := ⟨RX7, "fault", "()I"⟩
abbrev cX7_brings : ByteArray := prog_1_method_7_code
def yX7_brings : MethodName := ⟨RX7, "brings", "(II)I"⟩
abbrev cX7_well : ByteArray := prog_1_method_8_code
def yX7_well : MethodName := ⟨RX7, "well", "(II)I"⟩
abbrev cX7_on : ByteArray := prog_1_method_9_code
def yX7_on : MethodName := ⟨RX7, "on", "(I)I"⟩
abbrev cX7_stepped : ByteArray := prog_1_method_10_code
def yX7_stepped : MethodName := ⟨RX7, "stepped", "(II)I"⟩
abbrev cX7_faulty : ByteArray := prog_1_method_11_code
def yX7_faulty : MethodName := ⟨RX7, "faulty", "(I)I"⟩
abbrev cX7_least : ByteArray := prog_1_method_12_code
def yX7_least : MethodName := ⟨RX7, "least", "(I)I"⟩
abbrev cX7_row : ByteArray := prog_1_method_13_code
def yX7_row : MethodName := ⟨RX7, "row", "(I)I"⟩
abbrev cX7_toll : ByteArray := prog_1_method_14_code
def yX7_toll : MethodName := ⟨RX7, "toll", "(II)I"⟩
abbrev cX7_doubt : ByteArray := prog_1_method_15_code
def yX7_doubt : MethodName := ⟨RX7, "doubt", "(II)I"⟩
abbrev cX7_odd : ByteArray := prog_1_method_16_code
def yX7_odd : MethodName := ⟨RX7, "odd", "(I)I"⟩
abbrev cX7_home : ByteArray := prog_1_method_17_code
def yX7_home : MethodName := ⟨RX7, "home", "(III)I"⟩
abbrev cX7_say : ByteArray := prog_1_method_18_code
def yX7_say : MethodName := ⟨RX7, "say", "(III)I"⟩
abbrev cX7_hush : ByteArray := prog_1_method_19_code
def yX7_hush : MethodName := ⟨RX7, "hush", "()I"⟩
abbrev cX7_dispute : ByteArray := prog_1_method_20_code
def yX7_dispute : MethodName := ⟨RX7, "dispute", "(I)J"⟩
abbrev cX7_lied : ByteArray := prog_1_method_21_code
def yX7_lied : MethodName := ⟨RX7, "lied", "(I)I"⟩
abbrev cX7_part : ByteArray := prog_1_method_22_code
def yX7_part : MethodName := ⟨RX7, "part", "(I)J"⟩
abbrev cX7_image : ByteArray := prog_1_method_23_code
def yX7_image : MethodName := ⟨RX7, "image", "(I)I"⟩
abbrev cX7_from : ByteArray := prog_1_method_24_code
def yX7_from : MethodName := ⟨RX7, "from", "(I)I"⟩
abbrev cX7_status : ByteArray := prog_1_method_25_code
def yX7_status : MethodName := ⟨RX7, "status", "(I)I"⟩
abbrev cX7_count : ByteArray := prog_1_method_26_code
def yX7_count : MethodName := ⟨RX7, "count", "(I)I"⟩
abbrev cX7_digest : ByteArray := prog_1_method_27_code
def yX7_digest : MethodName := ⟨RX7, "digest", "()J"⟩
abbrev cX7_refuseAsBad : ByteArray := prog_1_method_28_code
def yX7_refuseAsBad : MethodName := ⟨RX7, "refuseAsBad", "()I"⟩
abbrev cX7_refuseAsNo : ByteArray := prog_1_method_29_code
def yX7_refuseAsNo : MethodName := ⟨RX7, "refuseAsNo", "()I"⟩
abbrev cX7_refuseAsFull : ByteArray := prog_1_method_30_code
def yX7_refuseAsFull : MethodName := ⟨RX7, "refuseAsFull", "()I"⟩
abbrev cX7_isWithin : ByteArray := prog_1_method_31_code
def yX7_isWithin : MethodName := ⟨RX7, "isWithin", "(III)Z"⟩
abbrev cX7_isSetOf : ByteArray := prog_1_method_32_code
def yX7_isSetOf : MethodName := ⟨RX7, "isSetOf", "(II)Z"⟩
abbrev cX7_holds : ByteArray := prog_1_method_33_code
def yX7_holds : MethodName := ⟨RX7, "holds", "(II)Z"⟩
abbrev cX7_isWalker : ByteArray := prog_1_method_34_code
def yX7_isWalker : MethodName := ⟨RX7, "isWalker", "(I)Z"⟩
abbrev cX7_imageAt : ByteArray := prog_1_method_35_code
def yX7_imageAt : MethodName := ⟨RX7, "imageAt", "(I)LOddBridge$Scene;"⟩
abbrev cX7_forgetWhatFollows : ByteArray := prog_1_method_36_code
def yX7_forgetWhatFollows : MethodName := ⟨RX7, "forgetWhatFollows", "()V"⟩
abbrev cX7_spreadStops : ByteArray := prog_1_method_37_code
def yX7_spreadStops : MethodName := ⟨RX7, "spreadStops", "(II)J"⟩
abbrev cX7_waysHome : ByteArray := prog_1_method_38_code
def yX7_waysHome : MethodName := ⟨RX7, "waysHome", "(II)I"⟩
abbrev cX7_fewestHome : ByteArray := prog_1_method_39_code
def yX7_fewestHome : MethodName := ⟨RX7, "fewestHome", "(II)I"⟩
def RX8 : String := "OddBridgeModel"
def TX8 : u_T := fun k => match k with
  | 0 => ("OddBridgeModel", "now", "[I", true)
  | 1 => ("OddBridgeModel", "kept", "[I", true)
  | 2 => ("OddBridgeModel", "isKept", "[Z", true)
  | 3 => ("OddBridgeModel", "refused", "[I", true)
  | 4 => ("OddBridgeModel", "above", "J", false)
  | 5 => ("OddBridgeModel", "below", "J", false)
  | 6 => ("OddBridgeModel", "place", "I", false)
  | 7 => ("OddBridgeModel", "fault", "I", false)
  | 8 => ("OddBridgeModel", "values", "[J", true)
  | 9 => ("OddBridgeModel", "valueMany", "I", false)
  | 10 => ("OddBridgeModel", "signs", "[I", true)
  | 11 => ("OddBridgeModel", "signMany", "I", false)
  | 12 => ("OddBridgeModel", "letters", "[J", true)
  | 13 => ("OddBridgeModel", "told", "J", false)
  | 14 => ("OddBridgeModel", "stepOn", "[I", true)
  | 15 => ("OddBridgeModel", "stepOff", "[I", true)
  | 16 => ("OddBridgeModel", "onIn", "[I", true)
  | 17 => ("OddBridgeModel", "faults", "I", false)
  | 18 => ("OddBridgeModel", "firstFault", "I", false)
  | 19 => ("OddBridgeModel", "minutesOf", "[I", true)
  | 20 => ("OddBridgeModel", "payOf", "[I", true)
  | 21 => ("OddBridgeModel", "leastPay", "[I", true)
  | 22 => ("OddBridgeModel", "priceOf", "[I", true)
  | 23 => ("OddBridgeModel", "companies", "I", false)
  | 24 => ("OddBridgeModel", "row", "[I", true)
  | 25 => ("OddBridgeModel", "waysOf", "[I", true)
  | _ => ("OddBridgeModel", "fewestOf", "[I", true)
def tyX8 : Nat → FieldType := fun k => match k with
  | 0 => .array .int
  | 1 => .array .int
  | 2 => .array .boolean
  | 3 => .array .int
  | 4 => .long
  | 5 => .long
  | 6 => .int
  | 7 => .int
  | 8 => .array .long
  | 9 => .int
  | 10 => .array .int
  | 11 => .int
  | 12 => .array .long
  | 13 => .long
  | 14 => .array .int
  | 15 => .array .int
  | 16 => .array .int
  | 17 => .int
  | 18 => .int
  | 19 => .array .int
  | 20 => .array .int
  | 21 => .array .int
  | 22 => .array .int
  | 23 => .int
  | 24 => .array .int
  | 25 => .array .int
  | _ => .array .int
abbrev wsX80 : List Cond := u_ws RX8 TX8 27
theorem nmX8 : ∀ a, a < 27 → ∀ b, b < 27 → a ≠ b → (TX8 a).2.1 ≠ (TX8 b).2.1 := by decide +kernel
theorem tyX8_ok : ∀ k, k < 27 → parseFieldDescriptor (TX8 k).2.2.1 = some (tyX8 k) := by decide +kernel
abbrev cX8_init : ByteArray := prog_10_method_1_code
def yX8_init : MethodName := ⟨RX8, "<init>", "()V"⟩
abbrev cX8_in : ByteArray := prog_10_method_3_code
def yX8_in : MethodName := ⟨RX8, "in", "(JJJ)Z"⟩
abbrev cX8_bad : ByteArray := prog_10_method_4_code
def yX8_bad : MethodName := ⟨RX8, "bad", "(I)I"⟩
abbrev cX8_no : ByteArray := prog_10_method_5_code
def yX8_no : MethodName := ⟨RX8, "no", "()I"⟩
abbrev cX8_full : ByteArray := prog_10_method_6_code
def yX8_full : MethodName := ⟨RX8, "full", "()I"⟩
abbrev cX8_tells : ByteArray := prog_10_method_7_code
def yX8_tells : MethodName := ⟨RX8, "tells", "(JJ)I"⟩
abbrev cX8_walkers : ByteArray := prog_10_method_8_code
def yX8_walkers : MethodName := ⟨RX8, "walkers", "()I"⟩
abbrev cX8_all : ByteArray := prog_10_method_9_code
def yX8_all : MethodName := ⟨RX8, "all", "()I"⟩
abbrev cX8_isWalker : ByteArray := prog_10_method_10_code
def yX8_isWalker : MethodName := ⟨RX8, "isWalker", "(I)Z"⟩
abbrev cX8_isSet : ByteArray := prog_10_method_11_code
def yX8_isSet : MethodName := ⟨RX8, "isSet", "(I)Z"⟩
abbrev cX8_of : ByteArray := prog_10_method_12_code
def yX8_of : MethodName := ⟨RX8, "of", "(II)I"⟩
abbrev cX8_walker : ByteArray := prog_10_method_13_code
def yX8_walker : MethodName := ⟨RX8, "walker", "(III)I"⟩
abbrev cX8_put : ByteArray := prog_10_method_14_code
def yX8_put : MethodName := ⟨RX8, "put", "(II)I"⟩
abbrev cX8_bringsOf : ByteArray := prog_10_method_15_code
def yX8_bringsOf : MethodName := ⟨RX8, "bringsOf", "(II)I"⟩
abbrev cX8_broughtBy : ByteArray := prog_10_method_16_code
def yX8_broughtBy : MethodName := ⟨RX8, "broughtBy", "(II)I"⟩
abbrev cX8_brings : ByteArray := prog_10_method_17_code
def yX8_brings : MethodName := ⟨RX8, "brings", "(II)I"⟩
abbrev cX8_write : ByteArray := prog_10_method_18_code
def yX8_write : MethodName := ⟨RX8, "write", "(I)I"⟩
abbrev cX8_erase : ByteArray := prog_10_method_19_code
def yX8_erase : MethodName := ⟨RX8, "erase", "()I"⟩
abbrev cX8_textLong : ByteArray := prog_10_method_20_code
def yX8_textLong : MethodName := ⟨RX8, "textLong", "()I"⟩
abbrev cX8_charAt : ByteArray := prog_10_method_21_code
def yX8_charAt : MethodName := ⟨RX8, "charAt", "(I)I"⟩
abbrev cX8_ahead : ByteArray := prog_10_method_22_code
def yX8_ahead : MethodName := ⟨RX8, "ahead", "()I"⟩
abbrev cX8_rank : ByteArray := prog_10_method_23_code
def yX8_rank : MethodName := ⟨RX8, "rank", "(I)I"⟩
abbrev cX8_workOut : ByteArray := prog_10_method_24_code
def yX8_workOut : MethodName := ⟨RX8, "workOut", "()V"⟩
abbrev cX8_workDown : ByteArray := prog_10_method_25_code
def yX8_workDown : MethodName := ⟨RX8, "workDown", "(I)V"⟩
abbrev cX8_stands : ByteArray := prog_10_method_26_code
def yX8_stands : MethodName := ⟨RX8, "stands", "(J)V"⟩
abbrev cX8_letterOf : ByteArray := prog_10_method_27_code
def yX8_letterOf : MethodName := ⟨RX8, "letterOf", "(I)I"⟩
abbrev cX8_isFigure : ByteArray := prog_10_method_28_code
def yX8_isFigure : MethodName := ⟨RX8, "isFigure", "(I)Z"⟩
abbrev cX8_digits : ByteArray := prog_10_method_29_code
def yX8_digits : MethodName := ⟨RX8, "digits", "()J"⟩
abbrev cX8_reads : ByteArray := prog_10_method_30_code
def yX8_reads : MethodName := ⟨RX8, "reads", "()Z"⟩
abbrev cX8_fault : ByteArray := prog_10_method_31_code
def yX8_fault : MethodName := ⟨RX8, "fault", "()I"⟩
abbrev cX8_isWell : ByteArray := prog_10_method_32_code
def yX8_isWell : MethodName := ⟨RX8, "isWell", "(III)Z"⟩
abbrev cX8_well : ByteArray := prog_10_method_33_code
def yX8_well : MethodName := ⟨RX8, "well", "(II)I"⟩
abbrev cX8_manyIn : ByteArray := prog_10_method_34_code
def yX8_manyIn : MethodName := ⟨RX8, "manyIn", "(I)I"⟩
abbrev cX8_onNow : ByteArray := prog_10_method_35_code
def yX8_onNow : MethodName := ⟨RX8, "onNow", "()I"⟩
abbrev cX8_mayStep : ByteArray := prog_10_method_36_code
def yX8_mayStep : MethodName := ⟨RX8, "mayStep", "(I)I"⟩
abbrev cX8_ahead_ : ByteArray := prog_10_method_37_code
def yX8_ahead_ : MethodName := ⟨RX8, "ahead", "(II)I"⟩
abbrev cX8_isWellOn : ByteArray := prog_10_method_38_code
def yX8_isWellOn : MethodName := ⟨RX8, "isWellOn", "(II)Z"⟩
abbrev cX8_celebrate : ByteArray := prog_10_method_39_code
def yX8_celebrate : MethodName := ⟨RX8, "celebrate", "()V"⟩
abbrev cX8_on : ByteArray := prog_10_method_40_code
def yX8_on : MethodName := ⟨RX8, "on", "(I)I"⟩
abbrev cX8_stepped : ByteArray := prog_10_method_41_code
def yX8_stepped : MethodName := ⟨RX8, "stepped", "(II)I"⟩
abbrev cX8_faulty : ByteArray := prog_10_method_42_code
def yX8_faulty : MethodName := ⟨RX8, "faulty", "(I)I"⟩
abbrev cX8_timeOf : ByteArray := prog_10_method_43_code
def yX8_timeOf : MethodName := ⟨RX8, "timeOf", "(I)I"⟩
abbrev cX8_findPrices : ByteArray := prog_10_method_44_code
def yX8_findPrices : MethodName := ⟨RX8, "findPrices", "()V"⟩
abbrev cX8_mayGo : ByteArray := prog_10_method_45_code
def yX8_mayGo : MethodName := ⟨RX8, "mayGo", "(II)Z"⟩
abbrev cX8_findLeast : ByteArray := prog_10_method_46_code
def yX8_findLeast : MethodName := ⟨RX8, "findLeast", "()V"⟩
abbrev cX8_layRow : ByteArray := prog_10_method_47_code
def yX8_layRow : MethodName := ⟨RX8, "layRow", "()Z"⟩
abbrev cX8_isNext : ByteArray := prog_10_method_48_code
def yX8_isNext : MethodName := ⟨RX8, "isNext", "(II)Z"⟩
abbrev cX8_least : ByteArray := prog_10_method_49_code
def yX8_least : MethodName := ⟨RX8, "least", "(I)I"⟩
abbrev cX8_row : ByteArray := prog_10_method_50_code
def yX8_row : MethodName := ⟨RX8, "row", "(I)I"⟩
abbrev cX8_toll : ByteArray := prog_10_method_51_code
def yX8_toll : MethodName := ⟨RX8, "toll", "(II)I"⟩
abbrev cX8_doubt : ByteArray := prog_10_method_52_code
def yX8_doubt : MethodName := ⟨RX8, "doubt", "(II)I"⟩
abbrev cX8_odd : ByteArray := prog_10_method_53_code
def yX8_odd : MethodName := ⟨RX8, "odd", "(I)I"⟩
abbrev cX8_home : ByteArray := prog_10_method_54_code
def yX8_home : MethodName := ⟨RX8, "home", "(III)I"⟩
abbrev cX8_said : ByteArray := prog_10_method_55_code
def yX8_said : MethodName := ⟨RX8, "said", "()I"⟩
abbrev cX8_say : ByteArray := prog_10_method_56_code
def yX8_say : MethodName := ⟨RX8, "say", "(III)I"⟩
abbrev cX8_hush : ByteArray := prog_10_method_57_code
def yX8_hush : MethodName := ⟨RX8, "hush", "()I"⟩
abbrev cX8_onBy : ByteArray := prog_10_method_58_code
def yX8_onBy : MethodName := ⟨RX8, "onBy", "(II)I"⟩
abbrev cX8_disputeOf : ByteArray := prog_10_method_59_code
def yX8_disputeOf : MethodName := ⟨RX8, "disputeOf", "(I)J"⟩
abbrev cX8_dispute : ByteArray := prog_10_method_60_code
def yX8_dispute : MethodName := ⟨RX8, "dispute", "(I)J"⟩
abbrev cX8_lied : ByteArray := prog_10_method_61_code
def yX8_lied : MethodName := ⟨RX8, "lied", "(I)I"⟩
abbrev cX8_part : ByteArray := prog_10_method_62_code
def yX8_part : MethodName := ⟨RX8, "part", "(I)J"⟩
abbrev cX8_image : ByteArray := prog_10_method_63_code
def yX8_image : MethodName := ⟨RX8, "image", "(I)I"⟩
abbrev cX8_from : ByteArray := prog_10_method_64_code
def yX8_from : MethodName := ⟨RX8, "from", "(I)I"⟩
abbrev cX8_status : ByteArray := prog_10_method_65_code
def yX8_status : MethodName := ⟨RX8, "status", "(I)I"⟩
abbrev cX8_count : ByteArray := prog_10_method_66_code
def yX8_count : MethodName := ⟨RX8, "count", "(I)I"⟩
abbrev cX8_sums : ByteArray := prog_10_method_67_code
def yX8_sums : MethodName := ⟨RX8, "sums", "(JII)J"⟩
abbrev cX8_digest : ByteArray := prog_10_method_68_code
def yX8_digest : MethodName := ⟨RX8, "digest", "()J"⟩
def RJx145de : String := "java/io/Serializable"
def TJx145de : u_T := fun k => match k with
  | _ => ("", "", "", false)
def tyJx145de : Nat → FieldType := fun k => match k with
  | _ => .int
theorem nmJx145de : ∀ a, a < 0 → ∀ b, b < 0 → a ≠ b → (TJx145de a).2.1 ≠ (TJx145de b).2.1 := by decide +kernel
theorem tyJx145de_ok : ∀ k, k < 0 → parseFieldDescriptor (TJx145de k).2.2.1 = some (tyJx145de k) := by decide +kernel
def RJx9f9b0 : String := "java/lang/CharSequence"
def TJx9f9b0 : u_T := fun k => match k with
  | _ => ("", "", "", false)
def tyJx9f9b0 : Nat → FieldType := fun k => match k with
  | _ => .int
theorem nmJx9f9b0 : ∀ a, a < 0 → ∀ b, b < 0 → a ≠ b → (TJx9f9b0 a).2.1 ≠ (TJx9f9b0 b).2.1 := by decide +kernel
theorem tyJx9f9b0_ok : ∀ k, k < 0 → parseFieldDescriptor (TJx9f9b0 k).2.2.1 = some (tyJx9f9b0 k) := by decide +kernel
def RJ11 : String := "java/lang/Character"
def TJ11 : u_T := fun k => match k with
  | _ => ("", "", "", false)
def tyJ11 : Nat → FieldType := fun k => match k with
  | _ => .int
theorem nmJ11 : ∀ a, a < 0 → ∀ b, b < 0 → a ≠ b → (TJ11 a).2.1 ≠ (TJ11 b).2.1 := by decide +kernel
theorem tyJ11_ok : ∀ k, k < 0 → parseFieldDescriptor (TJ11 k).2.2.1 = some (tyJ11 k) := by decide +kernel
abbrev cJ11_isValidCodePoint_9a6ad : ByteArray := prog_11_method_11_code
def yJ11_isValidCodePoint_9a6ad : MethodName := ⟨RJ11, "isValidCodePoint", "(I)Z"⟩
abbrev cJ11_highSurrogate_5068e : ByteArray := prog_11_method_28_code
def yJ11_highSurrogate_5068e : MethodName := ⟨RJ11, "highSurrogate", "(I)C"⟩
abbrev cJ11_lowSurrogate_5068e : ByteArray := prog_11_method_29_code
def yJ11_lowSurrogate_5068e : MethodName := ⟨RJ11, "lowSurrogate", "(I)C"⟩
def RJxb160c : String := "java/lang/Comparable"
def TJxb160c : u_T := fun k => match k with
  | _ => ("", "", "", false)
def tyJxb160c : Nat → FieldType := fun k => match k with
  | _ => .int
theorem nmJxb160c : ∀ a, a < 0 → ∀ b, b < 0 → a ≠ b → (TJxb160c a).2.1 ≠ (TJxb160c b).2.1 := by decide +kernel
theorem tyJxb160c_ok : ∀ k, k < 0 → parseFieldDescriptor (TJxb160c k).2.2.1 = some (tyJxb160c k) := by decide +kernel
def RJ6 : String := "java/lang/Integer"
def TJ6 : u_T := fun k => match k with
  | _ => ("", "", "", false)
def tyJ6 : Nat → FieldType := fun k => match k with
  | _ => .int
theorem nmJ6 : ∀ a, a < 0 → ∀ b, b < 0 → a ≠ b → (TJ6 a).2.1 ≠ (TJ6 b).2.1 := by decide +kernel
theorem tyJ6_ok : ∀ k, k < 0 → parseFieldDescriptor (TJ6 k).2.2.1 = some (tyJ6 k) := by decide +kernel
abbrev cJ6_bitCount_0f7a4 : ByteArray := prog_12_method_49_code
def yJ6_bitCount_0f7a4 : MethodName := ⟨RJ6, "bitCount", "(I)I"⟩
def RJ9 : String := "java/lang/Math"
def TJ9 : u_T := fun k => match k with
  | _ => ("", "", "", false)
def tyJ9 : Nat → FieldType := fun k => match k with
  | _ => .int
theorem nmJ9 : ∀ a, a < 0 → ∀ b, b < 0 → a ≠ b → (TJ9 a).2.1 ≠ (TJ9 b).2.1 := by decide +kernel
theorem tyJ9_ok : ∀ k, k < 0 → parseFieldDescriptor (TJ9 k).2.2.1 = some (tyJ9 k) := by decide +kernel
abbrev cJ9_max_7cf53 : ByteArray := prog_13_method_65_code
def yJ9_max_7cf53 : MethodName := ⟨RJ9, "max", "(II)I"⟩
abbrev cJ9_min_7cf53 : ByteArray := prog_13_method_69_code
def yJ9_min_7cf53 : MethodName := ⟨RJ9, "min", "(II)I"⟩
def RJ0 : String := "java/lang/String"
def TJ0 : u_T := fun k => match k with
  | _ => ("", "", "", false)
def tyJ0 : Nat → FieldType := fun k => match k with
  | _ => .int
theorem nmJ0 : ∀ a, a < 0 → ∀ b, b < 0 → a ≠ b → (TJ0 a).2.1 ≠ (TJ0 b).2.1 := by decide +kernel
theorem tyJ0_ok : ∀ k, k < 0 → parseFieldDescriptor (TJ0 k).2.2.1 = some (tyJ0 k) := by decide +kernel
abbrev cJ0_length_8abf5 : ByteArray := prog_14_method_54_code
def yJ0_length_8abf5 : MethodName := ⟨RJ0, "length", "()I"⟩
abbrev cJ0_indexOf_0f7a4 : ByteArray := prog_14_method_79_code
def yJ0_indexOf_0f7a4 : MethodName := ⟨RJ0, "indexOf", "(I)I"⟩
abbrev cJ0_indexOf_7cf53 : ByteArray := prog_14_method_80_code
def yJ0_indexOf_7cf53 : MethodName := ⟨RJ0, "indexOf", "(II)I"⟩
abbrev cJ0_coder_7d493 : ByteArray := prog_14_method_152_code
def yJ0_coder_7d493 : MethodName := ⟨RJ0, "coder", "()B"⟩
abbrev cJ0_isLatin1_aae02 : ByteArray := prog_14_method_154_code
def yJ0_isLatin1_aae02 : MethodName := ⟨RJ0, "isLatin1", "()Z"⟩
abbrev cJ0_checkBoundsBeginEnd_23922 : ByteArray := prog_14_method_158_code
def yJ0_checkBoundsBeginEnd_23922 : MethodName := ⟨RJ0, "checkBoundsBeginEnd", "(III)V"⟩
def RJ1 : String := "java/lang/StringLatin1"
def TJ1 : u_T := fun k => match k with
  | _ => ("", "", "", false)
def tyJ1 : Nat → FieldType := fun k => match k with
  | _ => .int
theorem nmJ1 : ∀ a, a < 0 → ∀ b, b < 0 → a ≠ b → (TJ1 a).2.1 ≠ (TJ1 b).2.1 := by decide +kernel
theorem tyJ1_ok : ∀ k, k < 0 → parseFieldDescriptor (TJ1 k).2.2.1 = some (tyJ1 k) := by decide +kernel
abbrev cJ1_canEncode_9a6ad : ByteArray := prog_15_method_4_code
def yJ1_canEncode_9a6ad : MethodName := ⟨RJ1, "canEncode", "(I)Z"⟩
abbrev cJ1_indexOf_4cfef : ByteArray := prog_15_method_22_code
def yJ1_indexOf_4cfef : MethodName := ⟨RJ1, "indexOf", "([BIII)I"⟩
abbrev cJ1_indexOfChar_4cfef : ByteArray := prog_15_method_23_code
def yJ1_indexOfChar_4cfef : MethodName := ⟨RJ1, "indexOfChar", "([BIII)I"⟩
def RJ2 : String := "java/lang/StringUTF16"
def TJ2 : u_T := fun k => match k with
  | _ => ("", "", "", false)
def tyJ2 : Nat → FieldType := fun k => match k with
  | _ => .int
theorem nmJ2 : ∀ a, a < 0 → ∀ b, b < 0 → a ≠ b → (TJ2 a).2.1 ≠ (TJ2 b).2.1 := by decide +kernel
theorem tyJ2_ok : ∀ k, k < 0 → parseFieldDescriptor (TJ2 k).2.2.1 = some (tyJ2 k) := by decide +kernel
abbrev cJ2_getChar_3b067 : ByteArray := prog_16_method_5_code
def yJ2_getChar_3b067 : MethodName := ⟨RJ2, "getChar", "([BI)C"⟩
abbrev cJ2_length_9d52b : ByteArray := prog_16_method_6_code
def yJ2_length_9d52b : MethodName := ⟨RJ2, "length", "([B)I"⟩
abbrev cJ2_indexOf_4cfef : ByteArray := prog_16_method_40_code
def yJ2_indexOf_4cfef : MethodName := ⟨RJ2, "indexOf", "([BIII)I"⟩
abbrev cJ2_indexOfChar_4cfef : ByteArray := prog_16_method_47_code
def yJ2_indexOfChar_4cfef : MethodName := ⟨RJ2, "indexOfChar", "([BIII)I"⟩
abbrev cJ2_indexOfCharUnsafe_4cfef : ByteArray := prog_16_method_48_code
def yJ2_indexOfCharUnsafe_4cfef : MethodName := ⟨RJ2, "indexOfCharUnsafe", "([BIII)I"⟩
abbrev cJ2_indexOfSupplementary_4cfef : ByteArray := prog_16_method_49_code
def yJ2_indexOfSupplementary_4cfef : MethodName := ⟨RJ2, "indexOfSupplementary", "([BIII)I"⟩
abbrev cJ2_checkBoundsBeginEnd_d044e : ByteArray := prog_16_method_93_code
def yJ2_checkBoundsBeginEnd_d044e : MethodName := ⟨RJ2, "checkBoundsBeginEnd", "(II[B)V"⟩
def RJ10 : String := "java/lang/System"
def TJ10 : u_T := fun k => match k with
  | _ => ("", "", "", false)
def tyJ10 : Nat → FieldType := fun k => match k with
  | _ => .int
theorem nmJ10 : ∀ a, a < 0 → ∀ b, b < 0 → a ≠ b → (TJ10 a).2.1 ≠ (TJ10 b).2.1 := by decide +kernel
theorem tyJ10_ok : ∀ k, k < 0 → parseFieldDescriptor (TJ10 k).2.2.1 = some (tyJ10 k) := by decide +kernel
def RJxfd54e : String := "java/lang/constant/Constable"
def TJxfd54e : u_T := fun k => match k with
  | _ => ("", "", "", false)
def tyJxfd54e : Nat → FieldType := fun k => match k with
  | _ => .int
theorem nmJxfd54e : ∀ a, a < 0 → ∀ b, b < 0 → a ≠ b → (TJxfd54e a).2.1 ≠ (TJxfd54e b).2.1 := by decide +kernel
theorem tyJxfd54e_ok : ∀ k, k < 0 → parseFieldDescriptor (TJxfd54e k).2.2.1 = some (tyJxfd54e k) := by decide +kernel
def RJx3cf43 : String := "java/lang/constant/ConstantDesc"
def TJx3cf43 : u_T := fun k => match k with
  | _ => ("", "", "", false)
def tyJx3cf43 : Nat → FieldType := fun k => match k with
  | _ => .int
theorem nmJx3cf43 : ∀ a, a < 0 → ∀ b, b < 0 → a ≠ b → (TJx3cf43 a).2.1 ≠ (TJx3cf43 b).2.1 := by decide +kernel
theorem tyJx3cf43_ok : ∀ k, k < 0 → parseFieldDescriptor (TJx3cf43 k).2.2.1 = some (tyJx3cf43 k) := by decide +kernel
def RJ7 : String := "java/util/Arrays"
def TJ7 : u_T := fun k => match k with
  | _ => ("", "", "", false)
def tyJ7 : Nat → FieldType := fun k => match k with
  | _ => .int
theorem nmJ7 : ∀ a, a < 0 → ∀ b, b < 0 → a ≠ b → (TJ7 a).2.1 ≠ (TJ7 b).2.1 := by decide +kernel
theorem tyJ7_ok : ∀ k, k < 0 → parseFieldDescriptor (TJ7 k).2.2.1 = some (tyJ7 k) := by decide +kernel
abbrev cJ7_fill_d0a16 : ByteArray := prog_18_method_101_code
def yJ7_fill_d0a16 : MethodName := ⟨RJ7, "fill", "([JJ)V"⟩
abbrev cJ7_fill_53178 : ByteArray := prog_18_method_103_code
def yJ7_fill_53178 : MethodName := ⟨RJ7, "fill", "([II)V"⟩
def RJ3 : String := "jdk/internal/util/Preconditions"
def TJ3 : u_T := fun k => match k with
  | _ => ("", "", "", false)
def tyJ3 : Nat → FieldType := fun k => match k with
  | _ => .int
theorem nmJ3 : ∀ a, a < 0 → ∀ b, b < 0 → a ≠ b → (TJ3 a).2.1 ≠ (TJ3 b).2.1 := by decide +kernel
theorem tyJ3_ok : ∀ k, k < 0 → parseFieldDescriptor (TJ3 k).2.2.1 = some (tyJ3 k) := by decide +kernel
abbrev cJ3_checkFromToIndex_8c36e : ByteArray := prog_19_method_12_code
def yJ3_checkFromToIndex_8c36e : MethodName := ⟨RJ3, "checkFromToIndex", "(IIILjava/util/function/BiFunction;)I"⟩
def RL : String := "OddBridgeLaw"
abbrev cL_law : ByteArray := code
def yL_law : MethodName := ⟨RL, "law", "([I)Z"⟩
abbrev vwCl : List vw_C := [(RX0, TX0, 15), (RX1, TX1, 9), (RX2, TX2, 2), (RX3, TX3, 2), (RX4, TX4, 6), (RX5, TX5, 13), (RX6, TX6, 9), (RX7, TX7, 15), (RX8, TX8, 27)]
end
section
theorem dX0_init_0 : decode cX0_init 0 = .ok (.aload_n 0, 1) := by decide +kernel
theorem dX0_init_1 : decode cX0_init 1 = .ok (.invokespecial 3, 3) := by decide +kernel
theorem dX0_init_4 : decode cX0_init 4 = .ok (.aload_n 0, 1) := by decide +kernel
theorem dX0_init_5 : decode cX0_init 5 = .ok (.sipush 256, 3) := by decide +kernel
theorem dX0_init_8 : decode cX0_init 8 = .ok (.newarray .int, 2) := by decide +kernel
theorem dX0_init_10 : decode cX0_init 10 = .ok (.putfield 9, 3) := by decide +kernel
theorem dX0_init_13 : decode cX0_init 13 = .ok (.aload_n 0, 1) := by decide +kernel
theorem dX0_init_14 : decode cX0_init 14 = .ok (.sipush 256, 3) := by decide +kernel
theorem dX0_init_17 : decode cX0_init 17 = .ok (.newarray .int, 2) := by decide +kernel
theorem dX0_init_19 : decode cX0_init 19 = .ok (.putfield 15, 3) := by decide +kernel
theorem dX0_init_22 : decode cX0_init 22 = .ok (.aload_n 0, 1) := by decide +kernel
theorem dX0_init_23 : decode cX0_init 23 = .ok (.sipush 256, 3) := by decide +kernel
theorem dX0_init_26 : decode cX0_init 26 = .ok (.newarray .int, 2) := by decide +kernel
theorem dX0_init_28 : decode cX0_init 28 = .ok (.putfield 18, 3) := by decide +kernel
theorem dX0_init_31 : decode cX0_init 31 = .ok (.aload_n 0, 1) := by decide +kernel
theorem dX0_init_32 : decode cX0_init 32 = .ok (.sipush 256, 3) := by decide +kernel
theorem dX0_init_35 : decode cX0_init 35 = .ok (.newarray .int, 2) := by decide +kernel
theorem dX0_init_37 : decode cX0_init 37 = .ok (.putfield 21, 3) := by decide +kernel
theorem dX0_init_40 : decode cX0_init 40 = .ok (.aload_n 0, 1) := by decide +kernel
theorem dX0_init_41 : decode cX0_init 41 = .ok (.sipush 256, 3) := by decide +kernel
theorem dX0_init_44 : decode cX0_init 44 = .ok (.newarray .int, 2) := by decide +kernel
theorem dX0_init_46 : decode cX0_init 46 = .ok (.putfield 24, 3) := by decide +kernel
theorem dX0_init_49 : decode cX0_init 49 = .ok (.aload_n 0, 1) := by decide +kernel
theorem dX0_init_50 : decode cX0_init 50 = .ok (.sipush 256, 3) := by decide +kernel
theorem dX0_init_53 : decode cX0_init 53 = .ok (.newarray .int, 2) := by decide +kernel
theorem dX0_init_55 : decode cX0_init 55 = .ok (.putfield 27, 3) := by decide +kernel
theorem dX0_init_58 : decode cX0_init 58 = .ok (.aload_n 0, 1) := by decide +kernel
theorem dX0_init_59 : decode cX0_init 59 = .ok (.bipush 8, 2) := by decide +kernel
theorem dX0_init_61 : decode cX0_init 61 = .ok (.newarray .int, 2) := by decide +kernel
theorem dX0_init_63 : decode cX0_init 63 = .ok (.putfield 30, 3) := by decide +kernel
theorem dX0_init_66 : decode cX0_init 66 = .ok (.aload_n 0, 1) := by decide +kernel
theorem dX0_init_67 : decode cX0_init 67 = .ok (.iconst 0, 1) := by decide +kernel
theorem dX0_init_68 : decode cX0_init 68 = .ok (.putfield 33, 3) := by decide +kernel
theorem dX0_init_71 : decode cX0_init 71 = .ok (.aload_n 0, 1) := by decide +kernel
theorem dX0_init_72 : decode cX0_init 72 = .ok (.aload_n 1, 1) := by decide +kernel
theorem dX0_init_73 : decode cX0_init 73 = .ok (.putfield 37, 3) := by decide +kernel
theorem dX0_init_76 : decode cX0_init 76 = .ok (.aload_n 0, 1) := by decide +kernel
theorem dX0_init_77 : decode cX0_init 77 = .ok (.aload_n 2, 1) := by decide +kernel
theorem dX0_init_78 : decode cX0_init 78 = .ok (.putfield 41, 3) := by decide +kernel
theorem dX0_init_81 : decode cX0_init 81 = .ok (.return_, 1) := by decide +kernel
theorem dX0_plan_0 : decode cX0_plan 0 = .ok (.aload_n 0, 1) := by decide +kernel
theorem dX0_plan_1 : decode cX0_plan 1 = .ok (.getfield 33, 3) := by decide +kernel
theorem dX0_plan_4 : decode cX0_plan 4 = .ok (.ifCond .eq 4, 3) := by decide +kernel
theorem dX0_plan_7 : decode cX0_plan 7 = .ok (.return_, 1) := by decide +kernel
theorem dX0_plan_8 : decode cX0_plan 8 = .ok (.aload_n 0, 1) := by decide +kernel
theorem dX0_plan_9 : decode cX0_plan 9 = .ok (.iconst 1, 1) := by decide +kernel
theorem dX0_plan_10 : decode cX0_plan 10 = .ok (.putfield 33, 3) := by decide +kernel
theorem dX0_plan_13 : decode cX0_plan 13 = .ok (.iconst 1, 1) := by decide +kernel
theorem dX0_plan_14 : decode cX0_plan 14 = .ok (.aload_n 0, 1) := by decide +kernel
theorem dX0_plan_15 : decode cX0_plan 15 = .ok (.getfield 37, 3) := by decide +kernel
theorem dX0_plan_18 : decode cX0_plan 18 = .ok (.getfield 45, 3) := by decide +kernel
theorem dX0_plan_21 : decode cX0_plan 21 = .ok (.ishl, 1) := by decide +kernel
theorem dX0_plan_22 : decode cX0_plan 22 = .ok (.iconst 1, 1) := by decide +kernel
theorem dX0_plan_23 : decode cX0_plan 23 = .ok (.isub, 1) := by decide +kernel
theorem dX0_plan_24 : decode cX0_plan 24 = .ok (.sipush 255, 3) := by decide +kernel
theorem dX0_plan_27 : decode cX0_plan 27 = .ok (.iand, 1) := by decide +kernel
theorem dX0_plan_28 : decode cX0_plan 28 = .ok (.istore_n 1, 1) := by decide +kernel
theorem dX0_plan_29 : decode cX0_plan 29 = .ok (.iconst 1, 1) := by decide +kernel
theorem dX0_plan_30 : decode cX0_plan 30 = .ok (.istore_n 2, 1) := by decide +kernel
theorem dX0_plan_31 : decode cX0_plan 31 = .ok (.iload_n 2, 1) := by decide +kernel
theorem dX0_plan_32 : decode cX0_plan 32 = .ok (.iload_n 1, 1) := by decide +kernel
theorem dX0_plan_33 : decode cX0_plan 33 = .ok (.if_icmp .gt 19, 3) := by decide +kernel
theorem dX0_plan_36 : decode cX0_plan 36 = .ok (.aload_n 0, 1) := by decide +kernel
theorem dX0_plan_37 : decode cX0_plan 37 = .ok (.iload_n 2, 1) := by decide +kernel
theorem dX0_plan_38 : decode cX0_plan 38 = .ok (.invokevirtual 51, 3) := by decide +kernel
theorem dX0_plan_41 : decode cX0_plan 41 = .ok (.aload_n 0, 1) := by decide +kernel
theorem dX0_plan_42 : decode cX0_plan 42 = .ok (.iload_n 2, 1) := by decide +kernel
theorem dX0_plan_43 : decode cX0_plan 43 = .ok (.invokevirtual 55, 3) := by decide +kernel
theorem dX0_plan_46 : decode cX0_plan 46 = .ok (.iinc 2 1, 3) := by decide +kernel
theorem dX0_plan_49 : decode cX0_plan 49 = .ok (.goto (-18), 3) := by decide +kernel
theorem dX0_plan_52 : decode cX0_plan 52 = .ok (.aload_n 0, 1) := by decide +kernel
theorem dX0_plan_53 : decode cX0_plan 53 = .ok (.aload_n 0, 1) := by decide +kernel
theorem dX0_plan_54 : decode cX0_plan 54 = .ok (.getfield 18, 3) := by decide +kernel
theorem dX0_plan_57 : decode cX0_plan 57 = .ok (.iload_n 1, 1) := by decide +kernel
theorem dX0_plan_58 : decode cX0_plan 58 = .ok (.iaload, 1) := by decide +kernel
theorem dX0_plan_59 : decode cX0_plan 59 = .ok (.iconst (-1), 1) := by decide +kernel
theorem dX0_plan_60 : decode cX0_plan 60 = .ok (.if_icmp .eq 7, 3) := by decide +kernel
theorem dX0_plan_63 : decode cX0_plan 63 = .ok (.iconst 1, 1) := by decide +kernel
theorem dX0_plan_64 : decode cX0_plan 64 = .ok (.goto 4, 3) := by decide +kernel
theorem dX0_plan_67 : decode cX0_plan 67 = .ok (.iconst 0, 1) := by decide +kernel
theorem dX0_plan_68 : decode cX0_plan 68 = .ok (.putfield 58, 3) := by decide +kernel
theorem dX0_plan_71 : decode cX0_plan 71 = .ok (.aload_n 0, 1) := by decide +kernel
theorem dX0_plan_72 : decode cX0_plan 72 = .ok (.aload_n 0, 1) := by decide +kernel
theorem dX0_plan_73 : decode cX0_plan 73 = .ok (.getfield 18, 3) := by decide +kernel
theorem dX0_plan_76 : decode cX0_plan 76 = .ok (.iload_n 1, 1) := by decide +kernel
theorem dX0_plan_77 : decode cX0_plan 77 = .ok (.iaload, 1) := by decide +kernel
theorem dX0_plan_78 : decode cX0_plan 78 = .ok (.putfield 61, 3) := by decide +kernel
theorem dX0_plan_81 : decode cX0_plan 81 = .ok (.aload_n 0, 1) := by decide +kernel
theorem dX0_plan_82 : decode cX0_plan 82 = .ok (.aload_n 0, 1) := by decide +kernel
theorem dX0_plan_83 : decode cX0_plan 83 = .ok (.getfield 21, 3) := by decide +kernel
theorem dX0_plan_86 : decode cX0_plan 86 = .ok (.iload_n 1, 1) := by decide +kernel
theorem dX0_plan_87 : decode cX0_plan 87 = .ok (.iaload, 1) := by decide +kernel
theorem dX0_plan_88 : decode cX0_plan 88 = .ok (.putfield 64, 3) := by decide +kernel
theorem dX0_plan_91 : decode cX0_plan 91 = .ok (.aload_n 0, 1) := by decide +kernel
theorem dX0_plan_92 : decode cX0_plan 92 = .ok (.aload_n 0, 1) := by decide +kernel
theorem dX0_plan_93 : decode cX0_plan 93 = .ok (.getfield 27, 3) := by decide +kernel
theorem dX0_plan_96 : decode cX0_plan 96 = .ok (.iload_n 1, 1) := by decide +kernel
theorem dX0_plan_97 : decode cX0_plan 97 = .ok (.iaload, 1) := by decide +kernel
theorem dX0_plan_98 : decode cX0_plan 98 = .ok (.putfield 67, 3) := by decide +kernel
theorem dX0_plan_101 : decode cX0_plan 101 = .ok (.aload_n 0, 1) := by decide +kernel
theorem dX0_plan_102 : decode cX0_plan 102 = .ok (.iconst 0, 1) := by decide +kernel
theorem dX0_plan_103 : decode cX0_plan 103 = .ok (.putfield 70, 3) := by decide +kernel
theorem dX0_plan_106 : decode cX0_plan 106 = .ok (.aload_n 0, 1) := by decide +kernel
theorem dX0_plan_107 : decode cX0_plan 107 = .ok (.getfield 58, 3) := by decide +kernel
theorem dX0_plan_110 : decode cX0_plan 110 = .ok (.ifCond .eq 8, 3) := by decide +kernel
theorem dX0_plan_113 : decode cX0_plan 113 = .ok (.aload_n 0, 1) := by decide +kernel
theorem dX0_plan_114 : decode cX0_plan 114 = .ok (.iload_n 1, 1) := by decide +kernel
theorem dX0_plan_115 : decode cX0_plan 115 = .ok (.invokevirtual 73, 3) := by decide +kernel
theorem dX0_plan_118 : decode cX0_plan 118 = .ok (.return_, 1) := by decide +kernel
theorem dX0_lookAtCompany_0 : decode cX0_lookAtCompany 0 = .ok (.aload_n 0, 1) := by decide +kernel
theorem dX0_lookAtCompany_1 : decode cX0_lookAtCompany 1 = .ok (.getfield 9, 3) := by decide +kernel
theorem dX0_lookAtCompany_4 : decode cX0_lookAtCompany 4 = .ok (.iload_n 1, 1) := by decide +kernel
theorem dX0_lookAtCompany_5 : decode cX0_lookAtCompany 5 = .ok (.iconst (-1), 1) := by decide +kernel
theorem dX0_lookAtCompany_6 : decode cX0_lookAtCompany 6 = .ok (.iastore, 1) := by decide +kernel
theorem dX0_lookAtCompany_7 : decode cX0_lookAtCompany 7 = .ok (.aload_n 0, 1) := by decide +kernel
theorem dX0_lookAtCompany_8 : decode cX0_lookAtCompany 8 = .ok (.getfield 41, 3) := by decide +kernel
theorem dX0_lookAtCompany_11 : decode cX0_lookAtCompany 11 = .ok (.iload_n 1, 1) := by decide +kernel
theorem dX0_lookAtCompany_12 : decode cX0_lookAtCompany 12 = .ok (.iconst 0, 1) := by decide +kernel
theorem dX0_lookAtCompany_13 : decode cX0_lookAtCompany 13 = .ok (.invokevirtual 76, 3) := by decide +kernel
theorem dX0_lookAtCompany_16 : decode cX0_lookAtCompany 16 = .ok (.ifCond .eq 13, 3) := by decide +kernel
theorem dX0_lookAtCompany_19 : decode cX0_lookAtCompany 19 = .ok (.aload_n 0, 1) := by decide +kernel
theorem dX0_lookAtCompany_20 : decode cX0_lookAtCompany 20 = .ok (.getfield 9, 3) := by decide +kernel
theorem dX0_lookAtCompany_23 : decode cX0_lookAtCompany 23 = .ok (.iload_n 1, 1) := by decide +kernel
theorem dX0_lookAtCompany_24 : decode cX0_lookAtCompany 24 = .ok (.iconst 0, 1) := by decide +kernel
theorem dX0_lookAtCompany_25 : decode cX0_lookAtCompany 25 = .ok (.iastore, 1) := by decide +kernel
theorem dX0_lookAtCompany_26 : decode cX0_lookAtCompany 26 = .ok (.goto 23, 3) := by decide +kernel
theorem dX0_lookAtCompany_29 : decode cX0_lookAtCompany 29 = .ok (.aload_n 0, 1) := by decide +kernel
theorem dX0_lookAtCompany_30 : decode cX0_lookAtCompany 30 = .ok (.getfield 41, 3) := by decide +kernel
theorem dX0_lookAtCompany_33 : decode cX0_lookAtCompany 33 = .ok (.iload_n 1, 1) := by decide +kernel
theorem dX0_lookAtCompany_34 : decode cX0_lookAtCompany 34 = .ok (.iconst 1, 1) := by decide +kernel
theorem dX0_lookAtCompany_35 : decode cX0_lookAtCompany 35 = .ok (.iconst 0, 1) := by decide +kernel
theorem dX0_lookAtCompany_36 : decode cX0_lookAtCompany 36 = .ok (.invokevirtual 82, 3) := by decide +kernel
theorem dX0_lookAtCompany_39 : decode cX0_lookAtCompany 39 = .ok (.ifCond .eq 10, 3) := by decide +kernel
theorem dX0_lookAtCompany_42 : decode cX0_lookAtCompany 42 = .ok (.aload_n 0, 1) := by decide +kernel
theorem dX0_lookAtCompany_43 : decode cX0_lookAtCompany 43 = .ok (.getfield 9, 3) := by decide +kernel
theorem dX0_lookAtCompany_46 : decode cX0_lookAtCompany 46 = .ok (.iload_n 1, 1) := by decide +kernel
theorem dX0_lookAtCompany_47 : decode cX0_lookAtCompany 47 = .ok (.iconst 1, 1) := by decide +kernel
theorem dX0_lookAtCompany_48 : decode cX0_lookAtCompany 48 = .ok (.iastore, 1) := by decide +kernel
theorem dX0_lookAtCompany_49 : decode cX0_lookAtCompany 49 = .ok (.aload_n 0, 1) := by decide +kernel
theorem dX0_lookAtCompany_50 : decode cX0_lookAtCompany 50 = .ok (.getfield 15, 3) := by decide +kernel
theorem dX0_lookAtCompany_53 : decode cX0_lookAtCompany 53 = .ok (.iload_n 1, 1) := by decide +kernel
theorem dX0_lookAtCompany_54 : decode cX0_lookAtCompany 54 = .ok (.iconst 0, 1) := by decide +kernel
theorem dX0_lookAtCompany_55 : decode cX0_lookAtCompany 55 = .ok (.iastore, 1) := by decide +kernel
theorem dX0_lookAtCompany_56 : decode cX0_lookAtCompany 56 = .ok (.iconst 0, 1) := by decide +kernel
theorem dX0_lookAtCompany_57 : decode cX0_lookAtCompany 57 = .ok (.istore_n 2, 1) := by decide +kernel
theorem dX0_lookAtCompany_58 : decode cX0_lookAtCompany 58 = .ok (.iload_n 2, 1) := by decide +kernel
theorem dX0_lookAtCompany_59 : decode cX0_lookAtCompany 59 = .ok (.bipush 8, 2) := by decide +kernel
theorem dX0_lookAtCompany_61 : decode cX0_lookAtCompany 61 = .ok (.if_icmp .ge 41, 3) := by decide +kernel
theorem dX0_lookAtCompany_64 : decode cX0_lookAtCompany 64 = .ok (.iload_n 1, 1) := by decide +kernel
theorem dX0_lookAtCompany_65 : decode cX0_lookAtCompany 65 = .ok (.iload_n 2, 1) := by decide +kernel
theorem dX0_lookAtCompany_66 : decode cX0_lookAtCompany 66 = .ok (.invokestatic 86, 3) := by decide +kernel
theorem dX0_lookAtCompany_69 : decode cX0_lookAtCompany 69 = .ok (.ifCond .eq 27, 3) := by decide +kernel
theorem dX0_lookAtCompany_72 : decode cX0_lookAtCompany 72 = .ok (.aload_n 0, 1) := by decide +kernel
theorem dX0_lookAtCompany_73 : decode cX0_lookAtCompany 73 = .ok (.getfield 15, 3) := by decide +kernel
theorem dX0_lookAtCompany_76 : decode cX0_lookAtCompany 76 = .ok (.iload_n 1, 1) := by decide +kernel
theorem dX0_lookAtCompany_77 : decode cX0_lookAtCompany 77 = .ok (.aload_n 0, 1) := by decide +kernel
theorem dX0_lookAtCompany_78 : decode cX0_lookAtCompany 78 = .ok (.getfield 15, 3) := by decide +kernel
theorem dX0_lookAtCompany_81 : decode cX0_lookAtCompany 81 = .ok (.iload_n 1, 1) := by decide +kernel
theorem dX0_lookAtCompany_82 : decode cX0_lookAtCompany 82 = .ok (.iaload, 1) := by decide +kernel
theorem dX0_lookAtCompany_83 : decode cX0_lookAtCompany 83 = .ok (.aload_n 0, 1) := by decide +kernel
theorem dX0_lookAtCompany_84 : decode cX0_lookAtCompany 84 = .ok (.getfield 37, 3) := by decide +kernel
theorem dX0_lookAtCompany_87 : decode cX0_lookAtCompany 87 = .ok (.getfield 89, 3) := by decide +kernel
theorem dX0_lookAtCompany_90 : decode cX0_lookAtCompany 90 = .ok (.iload_n 2, 1) := by decide +kernel
theorem dX0_lookAtCompany_91 : decode cX0_lookAtCompany 91 = .ok (.iaload, 1) := by decide +kernel
theorem dX0_lookAtCompany_92 : decode cX0_lookAtCompany 92 = .ok (.invokestatic 92, 3) := by decide +kernel
theorem dX0_lookAtCompany_95 : decode cX0_lookAtCompany 95 = .ok (.iastore, 1) := by decide +kernel
theorem dX0_lookAtCompany_96 : decode cX0_lookAtCompany 96 = .ok (.iinc 2 1, 3) := by decide +kernel
theorem dX0_lookAtCompany_99 : decode cX0_lookAtCompany 99 = .ok (.goto (-41), 3) := by decide +kernel
theorem dX0_lookAtCompany_102 : decode cX0_lookAtCompany 102 = .ok (.return_, 1) := by decide +kernel
theorem dX0_lookAtLeft_0 : decode cX0_lookAtLeft 0 = .ok (.iload_n 1, 1) := by decide +kernel
theorem dX0_lookAtLeft_1 : decode cX0_lookAtLeft 1 = .ok (.iload_n 1, 1) := by decide +kernel
theorem dX0_lookAtLeft_2 : decode cX0_lookAtLeft 2 = .ok (.ineg, 1) := by decide +kernel
theorem dX0_lookAtLeft_3 : decode cX0_lookAtLeft 3 = .ok (.iand, 1) := by decide +kernel
theorem dX0_lookAtLeft_4 : decode cX0_lookAtLeft 4 = .ok (.istore_n 2, 1) := by decide +kernel
theorem dX0_lookAtLeft_5 : decode cX0_lookAtLeft 5 = .ok (.aload_n 0, 1) := by decide +kernel
theorem dX0_lookAtLeft_6 : decode cX0_lookAtLeft 6 = .ok (.getfield 18, 3) := by decide +kernel
theorem dX0_lookAtLeft_9 : decode cX0_lookAtLeft 9 = .ok (.iload_n 1, 1) := by decide +kernel
theorem dX0_lookAtLeft_10 : decode cX0_lookAtLeft 10 = .ok (.iconst (-1), 1) := by decide +kernel
theorem dX0_lookAtLeft_11 : decode cX0_lookAtLeft 11 = .ok (.iastore, 1) := by decide +kernel
theorem dX0_lookAtLeft_12 : decode cX0_lookAtLeft 12 = .ok (.aload_n 0, 1) := by decide +kernel
theorem dX0_lookAtLeft_13 : decode cX0_lookAtLeft 13 = .ok (.getfield 21, 3) := by decide +kernel
theorem dX0_lookAtLeft_16 : decode cX0_lookAtLeft 16 = .ok (.iload_n 1, 1) := by decide +kernel
theorem dX0_lookAtLeft_17 : decode cX0_lookAtLeft 17 = .ok (.iconst (-1), 1) := by decide +kernel
theorem dX0_lookAtLeft_18 : decode cX0_lookAtLeft 18 = .ok (.iastore, 1) := by decide +kernel
theorem dX0_lookAtLeft_19 : decode cX0_lookAtLeft 19 = .ok (.aload_n 0, 1) := by decide +kernel
theorem dX0_lookAtLeft_20 : decode cX0_lookAtLeft 20 = .ok (.getfield 27, 3) := by decide +kernel
theorem dX0_lookAtLeft_23 : decode cX0_lookAtLeft 23 = .ok (.iload_n 1, 1) := by decide +kernel
theorem dX0_lookAtLeft_24 : decode cX0_lookAtLeft 24 = .ok (.iconst (-1), 1) := by decide +kernel
theorem dX0_lookAtLeft_25 : decode cX0_lookAtLeft 25 = .ok (.iastore, 1) := by decide +kernel
theorem dX0_lookAtLeft_26 : decode cX0_lookAtLeft 26 = .ok (.iload_n 2, 1) := by decide +kernel
theorem dX0_lookAtLeft_27 : decode cX0_lookAtLeft 27 = .ok (.istore_n 3, 1) := by decide +kernel
theorem dX0_lookAtLeft_28 : decode cX0_lookAtLeft 28 = .ok (.iload_n 3, 1) := by decide +kernel
theorem dX0_lookAtLeft_29 : decode cX0_lookAtLeft 29 = .ok (.iload_n 1, 1) := by decide +kernel
theorem dX0_lookAtLeft_30 : decode cX0_lookAtLeft 30 = .ok (.if_icmp .gt 65, 3) := by decide +kernel
theorem dX0_lookAtLeft_33 : decode cX0_lookAtLeft 33 = .ok (.iload_n 3, 1) := by decide +kernel
theorem dX0_lookAtLeft_34 : decode cX0_lookAtLeft 34 = .ok (.iload_n 1, 1) := by decide +kernel
theorem dX0_lookAtLeft_35 : decode cX0_lookAtLeft 35 = .ok (.iconst (-1), 1) := by decide +kernel
theorem dX0_lookAtLeft_36 : decode cX0_lookAtLeft 36 = .ok (.ixor, 1) := by decide +kernel
theorem dX0_lookAtLeft_37 : decode cX0_lookAtLeft 37 = .ok (.iand, 1) := by decide +kernel
theorem dX0_lookAtLeft_38 : decode cX0_lookAtLeft 38 = .ok (.ifCond .ne 13, 3) := by decide +kernel
theorem dX0_lookAtLeft_41 : decode cX0_lookAtLeft 41 = .ok (.iload_n 3, 1) := by decide +kernel
theorem dX0_lookAtLeft_42 : decode cX0_lookAtLeft 42 = .ok (.iload_n 2, 1) := by decide +kernel
theorem dX0_lookAtLeft_43 : decode cX0_lookAtLeft 43 = .ok (.iand, 1) := by decide +kernel
theorem dX0_lookAtLeft_44 : decode cX0_lookAtLeft 44 = .ok (.ifCond .eq 7, 3) := by decide +kernel
theorem dX0_lookAtLeft_47 : decode cX0_lookAtLeft 47 = .ok (.iconst 1, 1) := by decide +kernel
theorem dX0_lookAtLeft_48 : decode cX0_lookAtLeft 48 = .ok (.goto 4, 3) := by decide +kernel
theorem dX0_lookAtLeft_51 : decode cX0_lookAtLeft 51 = .ok (.iconst 0, 1) := by decide +kernel
theorem dX0_lookAtLeft_52 : decode cX0_lookAtLeft 52 = .ok (.istore 4, 2) := by decide +kernel
theorem dX0_lookAtLeft_54 : decode cX0_lookAtLeft 54 = .ok (.iload 4, 2) := by decide +kernel
theorem dX0_lookAtLeft_56 : decode cX0_lookAtLeft 56 = .ok (.ifCond .eq 33, 3) := by decide +kernel
theorem dX0_lookAtLeft_59 : decode cX0_lookAtLeft 59 = .ok (.aload_n 0, 1) := by decide +kernel
theorem dX0_lookAtLeft_60 : decode cX0_lookAtLeft 60 = .ok (.getfield 9, 3) := by decide +kernel
theorem dX0_lookAtLeft_63 : decode cX0_lookAtLeft 63 = .ok (.iload_n 3, 1) := by decide +kernel
theorem dX0_lookAtLeft_64 : decode cX0_lookAtLeft 64 = .ok (.iaload, 1) := by decide +kernel
theorem dX0_lookAtLeft_65 : decode cX0_lookAtLeft 65 = .ok (.iconst (-1), 1) := by decide +kernel
theorem dX0_lookAtLeft_66 : decode cX0_lookAtLeft 66 = .ok (.if_icmp .eq 23, 3) := by decide +kernel
theorem dX0_lookAtLeft_69 : decode cX0_lookAtLeft 69 = .ok (.aload_n 0, 1) := by decide +kernel
theorem dX0_lookAtLeft_70 : decode cX0_lookAtLeft 70 = .ok (.getfield 18, 3) := by decide +kernel
theorem dX0_lookAtLeft_73 : decode cX0_lookAtLeft 73 = .ok (.iload_n 1, 1) := by decide +kernel
theorem dX0_lookAtLeft_74 : decode cX0_lookAtLeft 74 = .ok (.iload_n 3, 1) := by decide +kernel
theorem dX0_lookAtLeft_75 : decode cX0_lookAtLeft 75 = .ok (.iconst (-1), 1) := by decide +kernel
theorem dX0_lookAtLeft_76 : decode cX0_lookAtLeft 76 = .ok (.ixor, 1) := by decide +kernel
theorem dX0_lookAtLeft_77 : decode cX0_lookAtLeft 77 = .ok (.iand, 1) := by decide +kernel
theorem dX0_lookAtLeft_78 : decode cX0_lookAtLeft 78 = .ok (.iaload, 1) := by decide +kernel
theorem dX0_lookAtLeft_79 : decode cX0_lookAtLeft 79 = .ok (.iconst (-1), 1) := by decide +kernel
theorem dX0_lookAtLeft_80 : decode cX0_lookAtLeft 80 = .ok (.if_icmp .eq 9, 3) := by decide +kernel
theorem dX0_lookAtLeft_83 : decode cX0_lookAtLeft 83 = .ok (.aload_n 0, 1) := by decide +kernel
theorem dX0_lookAtLeft_84 : decode cX0_lookAtLeft 84 = .ok (.iload_n 3, 1) := by decide +kernel
theorem dX0_lookAtLeft_85 : decode cX0_lookAtLeft 85 = .ok (.iload_n 1, 1) := by decide +kernel
theorem dX0_lookAtLeft_86 : decode cX0_lookAtLeft 86 = .ok (.invokevirtual 98, 3) := by decide +kernel
theorem dX0_lookAtLeft_89 : decode cX0_lookAtLeft 89 = .ok (.iinc 3 1, 3) := by decide +kernel
theorem dX0_lookAtLeft_92 : decode cX0_lookAtLeft 92 = .ok (.goto (-64), 3) := by decide +kernel
theorem dX0_lookAtLeft_95 : decode cX0_lookAtLeft 95 = .ok (.return_, 1) := by decide +kernel
theorem dX0_tryFirst_0 : decode cX0_tryFirst 0 = .ok (.iload_n 2, 1) := by decide +kernel
theorem dX0_tryFirst_1 : decode cX0_tryFirst 1 = .ok (.iload_n 1, 1) := by decide +kernel
theorem dX0_tryFirst_2 : decode cX0_tryFirst 2 = .ok (.iconst (-1), 1) := by decide +kernel
theorem dX0_tryFirst_3 : decode cX0_tryFirst 3 = .ok (.ixor, 1) := by decide +kernel
theorem dX0_tryFirst_4 : decode cX0_tryFirst 4 = .ok (.iand, 1) := by decide +kernel
theorem dX0_tryFirst_5 : decode cX0_tryFirst 5 = .ok (.istore_n 3, 1) := by decide +kernel
theorem dX0_tryFirst_6 : decode cX0_tryFirst 6 = .ok (.aload_n 0, 1) := by decide +kernel
theorem dX0_tryFirst_7 : decode cX0_tryFirst 7 = .ok (.getfield 9, 3) := by decide +kernel
theorem dX0_tryFirst_10 : decode cX0_tryFirst 10 = .ok (.iload_n 1, 1) := by decide +kernel
theorem dX0_tryFirst_11 : decode cX0_tryFirst 11 = .ok (.iaload, 1) := by decide +kernel
theorem dX0_tryFirst_12 : decode cX0_tryFirst 12 = .ok (.aload_n 0, 1) := by decide +kernel
theorem dX0_tryFirst_13 : decode cX0_tryFirst 13 = .ok (.getfield 37, 3) := by decide +kernel
theorem dX0_tryFirst_16 : decode cX0_tryFirst 16 = .ok (.getfield 102, 3) := by decide +kernel
theorem dX0_tryFirst_19 : decode cX0_tryFirst 19 = .ok (.imul, 1) := by decide +kernel
theorem dX0_tryFirst_20 : decode cX0_tryFirst 20 = .ok (.istore 4, 2) := by decide +kernel
theorem dX0_tryFirst_22 : decode cX0_tryFirst 22 = .ok (.aload_n 0, 1) := by decide +kernel
theorem dX0_tryFirst_23 : decode cX0_tryFirst 23 = .ok (.getfield 15, 3) := by decide +kernel
theorem dX0_tryFirst_26 : decode cX0_tryFirst 26 = .ok (.iload_n 1, 1) := by decide +kernel
theorem dX0_tryFirst_27 : decode cX0_tryFirst 27 = .ok (.iaload, 1) := by decide +kernel
theorem dX0_tryFirst_28 : decode cX0_tryFirst 28 = .ok (.aload_n 0, 1) := by decide +kernel
theorem dX0_tryFirst_29 : decode cX0_tryFirst 29 = .ok (.getfield 18, 3) := by decide +kernel
theorem dX0_tryFirst_32 : decode cX0_tryFirst 32 = .ok (.iload_n 3, 1) := by decide +kernel
theorem dX0_tryFirst_33 : decode cX0_tryFirst 33 = .ok (.iaload, 1) := by decide +kernel
theorem dX0_tryFirst_34 : decode cX0_tryFirst 34 = .ok (.iadd, 1) := by decide +kernel
theorem dX0_tryFirst_35 : decode cX0_tryFirst 35 = .ok (.istore 5, 2) := by decide +kernel
theorem dX0_tryFirst_37 : decode cX0_tryFirst 37 = .ok (.iload 4, 2) := by decide +kernel
theorem dX0_tryFirst_39 : decode cX0_tryFirst 39 = .ok (.aload_n 0, 1) := by decide +kernel
theorem dX0_tryFirst_40 : decode cX0_tryFirst 40 = .ok (.getfield 21, 3) := by decide +kernel
theorem dX0_tryFirst_43 : decode cX0_tryFirst 43 = .ok (.iload_n 3, 1) := by decide +kernel
theorem dX0_tryFirst_44 : decode cX0_tryFirst 44 = .ok (.iaload, 1) := by decide +kernel
theorem dX0_tryFirst_45 : decode cX0_tryFirst 45 = .ok (.iadd, 1) := by decide +kernel
theorem dX0_tryFirst_46 : decode cX0_tryFirst 46 = .ok (.istore 6, 2) := by decide +kernel
theorem dX0_tryFirst_48 : decode cX0_tryFirst 48 = .ok (.aload_n 0, 1) := by decide +kernel
theorem dX0_tryFirst_49 : decode cX0_tryFirst 49 = .ok (.getfield 18, 3) := by decide +kernel
theorem dX0_tryFirst_52 : decode cX0_tryFirst 52 = .ok (.iload_n 2, 1) := by decide +kernel
theorem dX0_tryFirst_53 : decode cX0_tryFirst 53 = .ok (.iaload, 1) := by decide +kernel
theorem dX0_tryFirst_54 : decode cX0_tryFirst 54 = .ok (.iconst (-1), 1) := by decide +kernel
theorem dX0_tryFirst_55 : decode cX0_tryFirst 55 = .ok (.if_icmp .eq 14, 3) := by decide +kernel
theorem dX0_tryFirst_58 : decode cX0_tryFirst 58 = .ok (.iload 5, 2) := by decide +kernel
theorem dX0_tryFirst_60 : decode cX0_tryFirst 60 = .ok (.aload_n 0, 1) := by decide +kernel
theorem dX0_tryFirst_61 : decode cX0_tryFirst 61 = .ok (.getfield 18, 3) := by decide +kernel
theorem dX0_tryFirst_64 : decode cX0_tryFirst 64 = .ok (.iload_n 2, 1) := by decide +kernel
theorem dX0_tryFirst_65 : decode cX0_tryFirst 65 = .ok (.iaload, 1) := by decide +kernel
theorem dX0_tryFirst_66 : decode cX0_tryFirst 66 = .ok (.if_icmp .ge 7, 3) := by decide +kernel
theorem dX0_tryFirst_69 : decode cX0_tryFirst 69 = .ok (.iconst 1, 1) := by decide +kernel
theorem dX0_tryFirst_70 : decode cX0_tryFirst 70 = .ok (.goto 4, 3) := by decide +kernel
theorem dX0_tryFirst_73 : decode cX0_tryFirst 73 = .ok (.iconst 0, 1) := by decide +kernel
theorem dX0_tryFirst_74 : decode cX0_tryFirst 74 = .ok (.istore 7, 2) := by decide +kernel
theorem dX0_tryFirst_76 : decode cX0_tryFirst 76 = .ok (.iload 7, 2) := by decide +kernel
theorem dX0_tryFirst_78 : decode cX0_tryFirst 78 = .ok (.ifCond .ne 25, 3) := by decide +kernel
theorem dX0_tryFirst_81 : decode cX0_tryFirst 81 = .ok (.iload 5, 2) := by decide +kernel
theorem dX0_tryFirst_83 : decode cX0_tryFirst 83 = .ok (.aload_n 0, 1) := by decide +kernel
theorem dX0_tryFirst_84 : decode cX0_tryFirst 84 = .ok (.getfield 18, 3) := by decide +kernel
theorem dX0_tryFirst_87 : decode cX0_tryFirst 87 = .ok (.iload_n 2, 1) := by decide +kernel
theorem dX0_tryFirst_88 : decode cX0_tryFirst 88 = .ok (.iaload, 1) := by decide +kernel
theorem dX0_tryFirst_89 : decode cX0_tryFirst 89 = .ok (.if_icmp .ne 37, 3) := by decide +kernel
theorem dX0_tryFirst_92 : decode cX0_tryFirst 92 = .ok (.iload 6, 2) := by decide +kernel
theorem dX0_tryFirst_94 : decode cX0_tryFirst 94 = .ok (.aload_n 0, 1) := by decide +kernel
theorem dX0_tryFirst_95 : decode cX0_tryFirst 95 = .ok (.getfield 21, 3) := by decide +kernel
theorem dX0_tryFirst_98 : decode cX0_tryFirst 98 = .ok (.iload_n 2, 1) := by decide +kernel
theorem dX0_tryFirst_99 : decode cX0_tryFirst 99 = .ok (.iaload, 1) := by decide +kernel
theorem dX0_tryFirst_100 : decode cX0_tryFirst 100 = .ok (.if_icmp .ge 26, 3) := by decide +kernel
theorem dX0_tryFirst_103 : decode cX0_tryFirst 103 = .ok (.aload_n 0, 1) := by decide +kernel
theorem dX0_tryFirst_104 : decode cX0_tryFirst 104 = .ok (.getfield 18, 3) := by decide +kernel
theorem dX0_tryFirst_107 : decode cX0_tryFirst 107 = .ok (.iload_n 2, 1) := by decide +kernel
theorem dX0_tryFirst_108 : decode cX0_tryFirst 108 = .ok (.iload 5, 2) := by decide +kernel
theorem dX0_tryFirst_110 : decode cX0_tryFirst 110 = .ok (.iastore, 1) := by decide +kernel
theorem dX0_tryFirst_111 : decode cX0_tryFirst 111 = .ok (.aload_n 0, 1) := by decide +kernel
theorem dX0_tryFirst_112 : decode cX0_tryFirst 112 = .ok (.getfield 21, 3) := by decide +kernel
theorem dX0_tryFirst_115 : decode cX0_tryFirst 115 = .ok (.iload_n 2, 1) := by decide +kernel
theorem dX0_tryFirst_116 : decode cX0_tryFirst 116 = .ok (.iload 6, 2) := by decide +kernel
theorem dX0_tryFirst_118 : decode cX0_tryFirst 118 = .ok (.iastore, 1) := by decide +kernel
theorem dX0_tryFirst_119 : decode cX0_tryFirst 119 = .ok (.aload_n 0, 1) := by decide +kernel
theorem dX0_tryFirst_120 : decode cX0_tryFirst 120 = .ok (.getfield 24, 3) := by decide +kernel
theorem dX0_tryFirst_123 : decode cX0_tryFirst 123 = .ok (.iload_n 2, 1) := by decide +kernel
theorem dX0_tryFirst_124 : decode cX0_tryFirst 124 = .ok (.iload_n 1, 1) := by decide +kernel
theorem dX0_tryFirst_125 : decode cX0_tryFirst 125 = .ok (.iastore, 1) := by decide +kernel
theorem dX0_tryFirst_126 : decode cX0_tryFirst 126 = .ok (.aload_n 0, 1) := by decide +kernel
theorem dX0_tryFirst_127 : decode cX0_tryFirst 127 = .ok (.getfield 27, 3) := by decide +kernel
theorem dX0_tryFirst_130 : decode cX0_tryFirst 130 = .ok (.iload_n 2, 1) := by decide +kernel
theorem dX0_tryFirst_131 : decode cX0_tryFirst 131 = .ok (.iaload, 1) := by decide +kernel
theorem dX0_tryFirst_132 : decode cX0_tryFirst 132 = .ok (.iconst (-1), 1) := by decide +kernel
theorem dX0_tryFirst_133 : decode cX0_tryFirst 133 = .ok (.if_icmp .eq 21, 3) := by decide +kernel
theorem dX0_tryFirst_136 : decode cX0_tryFirst 136 = .ok (.iload 4, 2) := by decide +kernel
theorem dX0_tryFirst_138 : decode cX0_tryFirst 138 = .ok (.aload_n 0, 1) := by decide +kernel
theorem dX0_tryFirst_139 : decode cX0_tryFirst 139 = .ok (.getfield 27, 3) := by decide +kernel
theorem dX0_tryFirst_142 : decode cX0_tryFirst 142 = .ok (.iload_n 3, 1) := by decide +kernel
theorem dX0_tryFirst_143 : decode cX0_tryFirst 143 = .ok (.iaload, 1) := by decide +kernel
theorem dX0_tryFirst_144 : decode cX0_tryFirst 144 = .ok (.iadd, 1) := by decide +kernel
theorem dX0_tryFirst_145 : decode cX0_tryFirst 145 = .ok (.aload_n 0, 1) := by decide +kernel
theorem dX0_tryFirst_146 : decode cX0_tryFirst 146 = .ok (.getfield 27, 3) := by decide +kernel
theorem dX0_tryFirst_149 : decode cX0_tryFirst 149 = .ok (.iload_n 2, 1) := by decide +kernel
theorem dX0_tryFirst_150 : decode cX0_tryFirst 150 = .ok (.iaload, 1) := by decide +kernel
theorem dX0_tryFirst_151 : decode cX0_tryFirst 151 = .ok (.if_icmp .ge 18, 3) := by decide +kernel
theorem dX0_tryFirst_154 : decode cX0_tryFirst 154 = .ok (.aload_n 0, 1) := by decide +kernel
theorem dX0_tryFirst_155 : decode cX0_tryFirst 155 = .ok (.getfield 27, 3) := by decide +kernel
theorem dX0_tryFirst_158 : decode cX0_tryFirst 158 = .ok (.iload_n 2, 1) := by decide +kernel
theorem dX0_tryFirst_159 : decode cX0_tryFirst 159 = .ok (.iload 4, 2) := by decide +kernel
theorem dX0_tryFirst_161 : decode cX0_tryFirst 161 = .ok (.aload_n 0, 1) := by decide +kernel
theorem dX0_tryFirst_162 : decode cX0_tryFirst 162 = .ok (.getfield 27, 3) := by decide +kernel
theorem dX0_tryFirst_165 : decode cX0_tryFirst 165 = .ok (.iload_n 3, 1) := by decide +kernel
theorem dX0_tryFirst_166 : decode cX0_tryFirst 166 = .ok (.iaload, 1) := by decide +kernel
theorem dX0_tryFirst_167 : decode cX0_tryFirst 167 = .ok (.iadd, 1) := by decide +kernel
theorem dX0_tryFirst_168 : decode cX0_tryFirst 168 = .ok (.iastore, 1) := by decide +kernel
theorem dX0_tryFirst_169 : decode cX0_tryFirst 169 = .ok (.return_, 1) := by decide +kernel
theorem dX0_lineUp_0 : decode cX0_lineUp 0 = .ok (.iload_n 1, 1) := by decide +kernel
theorem dX0_lineUp_1 : decode cX0_lineUp 1 = .ok (.istore_n 2, 1) := by decide +kernel
theorem dX0_lineUp_2 : decode cX0_lineUp 2 = .ok (.iconst 0, 1) := by decide +kernel
theorem dX0_lineUp_3 : decode cX0_lineUp 3 = .ok (.istore_n 3, 1) := by decide +kernel
theorem dX0_lineUp_4 : decode cX0_lineUp 4 = .ok (.iload_n 3, 1) := by decide +kernel
theorem dX0_lineUp_5 : decode cX0_lineUp 5 = .ok (.bipush 8, 2) := by decide +kernel
theorem dX0_lineUp_7 : decode cX0_lineUp 7 = .ok (.if_icmp .ge 73, 3) := by decide +kernel
theorem dX0_lineUp_10 : decode cX0_lineUp 10 = .ok (.iload_n 2, 1) := by decide +kernel
theorem dX0_lineUp_11 : decode cX0_lineUp 11 = .ok (.ifCond .le 69, 3) := by decide +kernel
theorem dX0_lineUp_14 : decode cX0_lineUp 14 = .ok (.iload_n 2, 1) := by decide +kernel
theorem dX0_lineUp_15 : decode cX0_lineUp 15 = .ok (.sipush 256, 3) := by decide +kernel
theorem dX0_lineUp_18 : decode cX0_lineUp 18 = .ok (.if_icmp .ge 62, 3) := by decide +kernel
theorem dX0_lineUp_21 : decode cX0_lineUp 21 = .ok (.aload_n 0, 1) := by decide +kernel
theorem dX0_lineUp_22 : decode cX0_lineUp 22 = .ok (.getfield 24, 3) := by decide +kernel
theorem dX0_lineUp_25 : decode cX0_lineUp 25 = .ok (.iload_n 2, 1) := by decide +kernel
theorem dX0_lineUp_26 : decode cX0_lineUp 26 = .ok (.iaload, 1) := by decide +kernel
theorem dX0_lineUp_27 : decode cX0_lineUp 27 = .ok (.istore 4, 2) := by decide +kernel
theorem dX0_lineUp_29 : decode cX0_lineUp 29 = .ok (.aload_n 0, 1) := by decide +kernel
theorem dX0_lineUp_30 : decode cX0_lineUp 30 = .ok (.getfield 30, 3) := by decide +kernel
theorem dX0_lineUp_33 : decode cX0_lineUp 33 = .ok (.iload_n 3, 1) := by decide +kernel
theorem dX0_lineUp_34 : decode cX0_lineUp 34 = .ok (.aload_n 0, 1) := by decide +kernel
theorem dX0_lineUp_35 : decode cX0_lineUp 35 = .ok (.getfield 9, 3) := by decide +kernel
theorem dX0_lineUp_38 : decode cX0_lineUp 38 = .ok (.iload 4, 2) := by decide +kernel
theorem dX0_lineUp_40 : decode cX0_lineUp 40 = .ok (.iaload, 1) := by decide +kernel
theorem dX0_lineUp_41 : decode cX0_lineUp 41 = .ok (.iconst 1, 1) := by decide +kernel
theorem dX0_lineUp_42 : decode cX0_lineUp 42 = .ok (.if_icmp .ne 12, 3) := by decide +kernel
theorem dX0_lineUp_45 : decode cX0_lineUp 45 = .ok (.iload 4, 2) := by decide +kernel
theorem dX0_lineUp_47 : decode cX0_lineUp 47 = .ok (.sipush 256, 3) := by decide +kernel
theorem dX0_lineUp_50 : decode cX0_lineUp 50 = .ok (.iadd, 1) := by decide +kernel
theorem dX0_lineUp_51 : decode cX0_lineUp 51 = .ok (.goto 5, 3) := by decide +kernel
theorem dX0_lineUp_54 : decode cX0_lineUp 54 = .ok (.iload 4, 2) := by decide +kernel
theorem dX0_lineUp_56 : decode cX0_lineUp 56 = .ok (.iastore, 1) := by decide +kernel
theorem dX0_lineUp_57 : decode cX0_lineUp 57 = .ok (.iload_n 2, 1) := by decide +kernel
theorem dX0_lineUp_58 : decode cX0_lineUp 58 = .ok (.iload 4, 2) := by decide +kernel
theorem dX0_lineUp_60 : decode cX0_lineUp 60 = .ok (.iconst (-1), 1) := by decide +kernel
theorem dX0_lineUp_61 : decode cX0_lineUp 61 = .ok (.ixor, 1) := by decide +kernel
theorem dX0_lineUp_62 : decode cX0_lineUp 62 = .ok (.iand, 1) := by decide +kernel
theorem dX0_lineUp_63 : decode cX0_lineUp 63 = .ok (.istore_n 2, 1) := by decide +kernel
theorem dX0_lineUp_64 : decode cX0_lineUp 64 = .ok (.aload_n 0, 1) := by decide +kernel
theorem dX0_lineUp_65 : decode cX0_lineUp 65 = .ok (.dup, 1) := by decide +kernel
theorem dX0_lineUp_66 : decode cX0_lineUp 66 = .ok (.getfield 70, 3) := by decide +kernel
theorem dX0_lineUp_69 : decode cX0_lineUp 69 = .ok (.iconst 1, 1) := by decide +kernel
theorem dX0_lineUp_70 : decode cX0_lineUp 70 = .ok (.iadd, 1) := by decide +kernel
theorem dX0_lineUp_71 : decode cX0_lineUp 71 = .ok (.putfield 70, 3) := by decide +kernel
theorem dX0_lineUp_74 : decode cX0_lineUp 74 = .ok (.iinc 3 1, 3) := by decide +kernel
theorem dX0_lineUp_77 : decode cX0_lineUp 77 = .ok (.goto (-73), 3) := by decide +kernel
theorem dX0_lineUp_80 : decode cX0_lineUp 80 = .ok (.return_, 1) := by decide +kernel
theorem dX1_init_0 : decode cX1_init 0 = .ok (.aload_n 0, 1) := by decide +kernel
theorem dX1_init_1 : decode cX1_init 1 = .ok (.invokespecial 3, 3) := by decide +kernel
theorem dX1_init_4 : decode cX1_init 4 = .ok (.aload_n 0, 1) := by decide +kernel
theorem dX1_init_5 : decode cX1_init 5 = .ok (.sipush 200, 3) := by decide +kernel
theorem dX1_init_8 : decode cX1_init 8 = .ok (.newarray .int, 2) := by decide +kernel
theorem dX1_init_10 : decode cX1_init 10 = .ok (.putfield 9, 3) := by decide +kernel
theorem dX1_init_13 : decode cX1_init 13 = .ok (.aload_n 0, 1) := by decide +kernel
theorem dX1_init_14 : decode cX1_init 14 = .ok (.bipush 8, 2) := by decide +kernel
theorem dX1_init_16 : decode cX1_init 16 = .ok (.newarray .int, 2) := by decide +kernel
theorem dX1_init_18 : decode cX1_init 18 = .ok (.putfield 15, 3) := by decide +kernel
theorem dX1_init_21 : decode cX1_init 21 = .ok (.aload_n 0, 1) := by decide +kernel
theorem dX1_init_22 : decode cX1_init 22 = .ok (.bipush 8, 2) := by decide +kernel
theorem dX1_init_24 : decode cX1_init 24 = .ok (.newarray .int, 2) := by decide +kernel
theorem dX1_init_26 : decode cX1_init 26 = .ok (.putfield 18, 3) := by decide +kernel
theorem dX1_init_29 : decode cX1_init 29 = .ok (.aload_n 0, 1) := by decide +kernel
theorem dX1_init_30 : decode cX1_init 30 = .ok (.iconst 0, 1) := by decide +kernel
theorem dX1_init_31 : decode cX1_init 31 = .ok (.putfield 21, 3) := by decide +kernel
theorem dX1_init_34 : decode cX1_init 34 = .ok (.aload_n 0, 1) := by decide +kernel
theorem dX1_init_35 : decode cX1_init 35 = .ok (.aload_n 1, 1) := by decide +kernel
theorem dX1_init_36 : decode cX1_init 36 = .ok (.putfield 25, 3) := by decide +kernel
theorem dX1_init_39 : decode cX1_init 39 = .ok (.aload_n 0, 1) := by decide +kernel
theorem dX1_init_40 : decode cX1_init 40 = .ok (.aload_n 2, 1) := by decide +kernel
theorem dX1_init_41 : decode cX1_init 41 = .ok (.putfield 29, 3) := by decide +kernel
theorem dX1_init_44 : decode cX1_init 44 = .ok (.return_, 1) := by decide +kernel
theorem dX1_goThrough_0 : decode cX1_goThrough 0 = .ok (.aload_n 0, 1) := by decide +kernel
theorem dX1_goThrough_1 : decode cX1_goThrough 1 = .ok (.getfield 21, 3) := by decide +kernel
theorem dX1_goThrough_4 : decode cX1_goThrough 4 = .ok (.ifCond .eq 4, 3) := by decide +kernel
theorem dX1_goThrough_7 : decode cX1_goThrough 7 = .ok (.return_, 1) := by decide +kernel
theorem dX1_goThrough_8 : decode cX1_goThrough 8 = .ok (.aload_n 0, 1) := by decide +kernel
theorem dX1_goThrough_9 : decode cX1_goThrough 9 = .ok (.iconst 1, 1) := by decide +kernel
theorem dX1_goThrough_10 : decode cX1_goThrough 10 = .ok (.putfield 21, 3) := by decide +kernel
theorem dX1_goThrough_13 : decode cX1_goThrough 13 = .ok (.aload_n 0, 1) := by decide +kernel
theorem dX1_goThrough_14 : decode cX1_goThrough 14 = .ok (.iconst 0, 1) := by decide +kernel
theorem dX1_goThrough_15 : decode cX1_goThrough 15 = .ok (.putfield 33, 3) := by decide +kernel
theorem dX1_goThrough_18 : decode cX1_goThrough 18 = .ok (.aload_n 0, 1) := by decide +kernel
theorem dX1_goThrough_19 : decode cX1_goThrough 19 = .ok (.iconst 0, 1) := by decide +kernel
theorem dX1_goThrough_20 : decode cX1_goThrough 20 = .ok (.putfield 37, 3) := by decide +kernel
theorem dX1_goThrough_23 : decode cX1_goThrough 23 = .ok (.aload_n 0, 1) := by decide +kernel
theorem dX1_goThrough_24 : decode cX1_goThrough 24 = .ok (.iconst (-1), 1) := by decide +kernel
theorem dX1_goThrough_25 : decode cX1_goThrough 25 = .ok (.putfield 40, 3) := by decide +kernel
theorem dX1_goThrough_28 : decode cX1_goThrough 28 = .ok (.aload_n 0, 1) := by decide +kernel
theorem dX1_goThrough_29 : decode cX1_goThrough 29 = .ok (.getfield 15, 3) := by decide +kernel
theorem dX1_goThrough_32 : decode cX1_goThrough 32 = .ok (.iconst (-1), 1) := by decide +kernel
theorem dX1_goThrough_33 : decode cX1_goThrough 33 = .ok (.invokestatic 43, 3) := by decide +kernel
theorem dX1_goThrough_36 : decode cX1_goThrough 36 = .ok (.aload_n 0, 1) := by decide +kernel
theorem dX1_goThrough_37 : decode cX1_goThrough 37 = .ok (.getfield 18, 3) := by decide +kernel
theorem dX1_goThrough_40 : decode cX1_goThrough 40 = .ok (.iconst (-1), 1) := by decide +kernel
theorem dX1_goThrough_41 : decode cX1_goThrough 41 = .ok (.invokestatic 43, 3) := by decide +kernel
theorem dX1_goThrough_44 : decode cX1_goThrough 44 = .ok (.iconst 0, 1) := by decide +kernel
theorem dX1_goThrough_45 : decode cX1_goThrough 45 = .ok (.istore_n 1, 1) := by decide +kernel
theorem dX1_goThrough_46 : decode cX1_goThrough 46 = .ok (.iload_n 1, 1) := by decide +kernel
theorem dX1_goThrough_47 : decode cX1_goThrough 47 = .ok (.sipush 200, 3) := by decide +kernel
theorem dX1_goThrough_50 : decode cX1_goThrough 50 = .ok (.if_icmp .ge 68, 3) := by decide +kernel
theorem dX1_goThrough_53 : decode cX1_goThrough 53 = .ok (.aload_n 0, 1) := by decide +kernel
theorem dX1_goThrough_54 : decode cX1_goThrough 54 = .ok (.iload_n 1, 1) := by decide +kernel
theorem dX1_goThrough_55 : decode cX1_goThrough 55 = .ok (.invokevirtual 49, 3) := by decide +kernel
theorem dX1_goThrough_58 : decode cX1_goThrough 58 = .ok (.istore_n 2, 1) := by decide +kernel
theorem dX1_goThrough_59 : decode cX1_goThrough 59 = .ok (.iload_n 2, 1) := by decide +kernel
theorem dX1_goThrough_60 : decode cX1_goThrough 60 = .ok (.iconst (-1), 1) := by decide +kernel
theorem dX1_goThrough_61 : decode cX1_goThrough 61 = .ok (.if_icmp .ne 35, 3) := by decide +kernel
theorem dX1_goThrough_64 : decode cX1_goThrough 64 = .ok (.aload_n 0, 1) := by decide +kernel
theorem dX1_goThrough_65 : decode cX1_goThrough 65 = .ok (.aload_n 0, 1) := by decide +kernel
theorem dX1_goThrough_66 : decode cX1_goThrough 66 = .ok (.getfield 37, 3) := by decide +kernel
theorem dX1_goThrough_69 : decode cX1_goThrough 69 = .ok (.ifCond .ne 7, 3) := by decide +kernel
theorem dX1_goThrough_72 : decode cX1_goThrough 72 = .ok (.iload_n 1, 1) := by decide +kernel
theorem dX1_goThrough_73 : decode cX1_goThrough 73 = .ok (.goto 7, 3) := by decide +kernel
theorem dX1_goThrough_76 : decode cX1_goThrough 76 = .ok (.aload_n 0, 1) := by decide +kernel
theorem dX1_goThrough_77 : decode cX1_goThrough 77 = .ok (.getfield 40, 3) := by decide +kernel
theorem dX1_goThrough_80 : decode cX1_goThrough 80 = .ok (.putfield 40, 3) := by decide +kernel
theorem dX1_goThrough_83 : decode cX1_goThrough 83 = .ok (.aload_n 0, 1) := by decide +kernel
theorem dX1_goThrough_84 : decode cX1_goThrough 84 = .ok (.dup, 1) := by decide +kernel
theorem dX1_goThrough_85 : decode cX1_goThrough 85 = .ok (.getfield 37, 3) := by decide +kernel
theorem dX1_goThrough_88 : decode cX1_goThrough 88 = .ok (.iconst 1, 1) := by decide +kernel
theorem dX1_goThrough_89 : decode cX1_goThrough 89 = .ok (.iadd, 1) := by decide +kernel
theorem dX1_goThrough_90 : decode cX1_goThrough 90 = .ok (.putfield 37, 3) := by decide +kernel
theorem dX1_goThrough_93 : decode cX1_goThrough 93 = .ok (.goto 9, 3) := by decide +kernel
theorem dX1_goThrough_96 : decode cX1_goThrough 96 = .ok (.aload_n 0, 1) := by decide +kernel
theorem dX1_goThrough_97 : decode cX1_goThrough 97 = .ok (.iload_n 2, 1) := by decide +kernel
theorem dX1_goThrough_98 : decode cX1_goThrough 98 = .ok (.iload_n 1, 1) := by decide +kernel
theorem dX1_goThrough_99 : decode cX1_goThrough 99 = .ok (.invokevirtual 53, 3) := by decide +kernel
theorem dX1_goThrough_102 : decode cX1_goThrough 102 = .ok (.aload_n 0, 1) := by decide +kernel
theorem dX1_goThrough_103 : decode cX1_goThrough 103 = .ok (.getfield 9, 3) := by decide +kernel
theorem dX1_goThrough_106 : decode cX1_goThrough 106 = .ok (.iload_n 1, 1) := by decide +kernel
theorem dX1_goThrough_107 : decode cX1_goThrough 107 = .ok (.aload_n 0, 1) := by decide +kernel
theorem dX1_goThrough_108 : decode cX1_goThrough 108 = .ok (.getfield 33, 3) := by decide +kernel
theorem dX1_goThrough_111 : decode cX1_goThrough 111 = .ok (.iastore, 1) := by decide +kernel
theorem dX1_goThrough_112 : decode cX1_goThrough 112 = .ok (.iinc 1 1, 3) := by decide +kernel
theorem dX1_goThrough_115 : decode cX1_goThrough 115 = .ok (.goto (-69), 3) := by decide +kernel
theorem dX1_goThrough_118 : decode cX1_goThrough 118 = .ok (.return_, 1) := by decide +kernel
theorem dX1_bestSteps_0 : decode cX1_bestSteps 0 = .ok (.aload_n 0, 1) := by decide +kernel
theorem dX1_bestSteps_1 : decode cX1_bestSteps 1 = .ok (.iload_n 1, 1) := by decide +kernel
theorem dX1_bestSteps_2 : decode cX1_bestSteps 2 = .ok (.invokevirtual 57, 3) := by decide +kernel
theorem dX1_bestSteps_5 : decode cX1_bestSteps 5 = .ok (.istore_n 2, 1) := by decide +kernel
theorem dX1_bestSteps_6 : decode cX1_bestSteps 6 = .ok (.aload_n 0, 1) := by decide +kernel
theorem dX1_bestSteps_7 : decode cX1_bestSteps 7 = .ok (.iload_n 1, 1) := by decide +kernel
theorem dX1_bestSteps_8 : decode cX1_bestSteps 8 = .ok (.invokevirtual 60, 3) := by decide +kernel
theorem dX1_bestSteps_11 : decode cX1_bestSteps 11 = .ok (.istore_n 3, 1) := by decide +kernel
theorem dX1_bestSteps_12 : decode cX1_bestSteps 12 = .ok (.iconst (-1), 1) := by decide +kernel
theorem dX1_bestSteps_13 : decode cX1_bestSteps 13 = .ok (.istore 4, 2) := by decide +kernel
theorem dX1_bestSteps_15 : decode cX1_bestSteps 15 = .ok (.iconst 0, 1) := by decide +kernel
theorem dX1_bestSteps_16 : decode cX1_bestSteps 16 = .ok (.istore 5, 2) := by decide +kernel
theorem dX1_bestSteps_18 : decode cX1_bestSteps 18 = .ok (.iload 5, 2) := by decide +kernel
theorem dX1_bestSteps_20 : decode cX1_bestSteps 20 = .ok (.iload_n 2, 1) := by decide +kernel
theorem dX1_bestSteps_21 : decode cX1_bestSteps 21 = .ok (.if_icmp .gt 108, 3) := by decide +kernel
theorem dX1_bestSteps_24 : decode cX1_bestSteps 24 = .ok (.iload 4, 2) := by decide +kernel
theorem dX1_bestSteps_26 : decode cX1_bestSteps 26 = .ok (.iconst (-1), 1) := by decide +kernel
theorem dX1_bestSteps_27 : decode cX1_bestSteps 27 = .ok (.if_icmp .eq 16, 3) := by decide +kernel
theorem dX1_bestSteps_30 : decode cX1_bestSteps 30 = .ok (.iload 5, 2) := by decide +kernel
theorem dX1_bestSteps_32 : decode cX1_bestSteps 32 = .ok (.invokestatic 63, 3) := by decide +kernel
theorem dX1_bestSteps_35 : decode cX1_bestSteps 35 = .ok (.iload 4, 2) := by decide +kernel
theorem dX1_bestSteps_37 : decode cX1_bestSteps 37 = .ok (.invokestatic 63, 3) := by decide +kernel
theorem dX1_bestSteps_40 : decode cX1_bestSteps 40 = .ok (.if_icmp .le 7, 3) := by decide +kernel
theorem dX1_bestSteps_43 : decode cX1_bestSteps 43 = .ok (.iconst 1, 1) := by decide +kernel
theorem dX1_bestSteps_44 : decode cX1_bestSteps 44 = .ok (.goto 4, 3) := by decide +kernel
theorem dX1_bestSteps_47 : decode cX1_bestSteps 47 = .ok (.iconst 0, 1) := by decide +kernel
theorem dX1_bestSteps_48 : decode cX1_bestSteps 48 = .ok (.istore 6, 2) := by decide +kernel
theorem dX1_bestSteps_50 : decode cX1_bestSteps 50 = .ok (.iload 6, 2) := by decide +kernel
theorem dX1_bestSteps_52 : decode cX1_bestSteps 52 = .ok (.ifCond .eq 71, 3) := by decide +kernel
theorem dX1_bestSteps_55 : decode cX1_bestSteps 55 = .ok (.iload 5, 2) := by decide +kernel
theorem dX1_bestSteps_57 : decode cX1_bestSteps 57 = .ok (.iload_n 2, 1) := by decide +kernel
theorem dX1_bestSteps_58 : decode cX1_bestSteps 58 = .ok (.iconst (-1), 1) := by decide +kernel
theorem dX1_bestSteps_59 : decode cX1_bestSteps 59 = .ok (.ixor, 1) := by decide +kernel
theorem dX1_bestSteps_60 : decode cX1_bestSteps 60 = .ok (.iand, 1) := by decide +kernel
theorem dX1_bestSteps_61 : decode cX1_bestSteps 61 = .ok (.ifCond .ne 62, 3) := by decide +kernel
theorem dX1_bestSteps_64 : decode cX1_bestSteps 64 = .ok (.aload_n 0, 1) := by decide +kernel
theorem dX1_bestSteps_65 : decode cX1_bestSteps 65 = .ok (.getfield 33, 3) := by decide +kernel
theorem dX1_bestSteps_68 : decode cX1_bestSteps 68 = .ok (.iload 5, 2) := by decide +kernel
theorem dX1_bestSteps_70 : decode cX1_bestSteps 70 = .ok (.ixor, 1) := by decide +kernel
theorem dX1_bestSteps_71 : decode cX1_bestSteps 71 = .ok (.iload_n 3, 1) := by decide +kernel
theorem dX1_bestSteps_72 : decode cX1_bestSteps 72 = .ok (.iand, 1) := by decide +kernel
theorem dX1_bestSteps_73 : decode cX1_bestSteps 73 = .ok (.istore 7, 2) := by decide +kernel
theorem dX1_bestSteps_75 : decode cX1_bestSteps 75 = .ok (.aload_n 0, 1) := by decide +kernel
theorem dX1_bestSteps_76 : decode cX1_bestSteps 76 = .ok (.getfield 33, 3) := by decide +kernel
theorem dX1_bestSteps_79 : decode cX1_bestSteps 79 = .ok (.iload 5, 2) := by decide +kernel
theorem dX1_bestSteps_81 : decode cX1_bestSteps 81 = .ok (.ixor, 1) := by decide +kernel
theorem dX1_bestSteps_82 : decode cX1_bestSteps 82 = .ok (.iload_n 3, 1) := by decide +kernel
theorem dX1_bestSteps_83 : decode cX1_bestSteps 83 = .ok (.iconst (-1), 1) := by decide +kernel
theorem dX1_bestSteps_84 : decode cX1_bestSteps 84 = .ok (.ixor, 1) := by decide +kernel
theorem dX1_bestSteps_85 : decode cX1_bestSteps 85 = .ok (.iand, 1) := by decide +kernel
theorem dX1_bestSteps_86 : decode cX1_bestSteps 86 = .ok (.istore 8, 2) := by decide +kernel
theorem dX1_bestSteps_88 : decode cX1_bestSteps 88 = .ok (.aload_n 0, 1) := by decide +kernel
theorem dX1_bestSteps_89 : decode cX1_bestSteps 89 = .ok (.getfield 29, 3) := by decide +kernel
theorem dX1_bestSteps_92 : decode cX1_bestSteps 92 = .ok (.iload 7, 2) := by decide +kernel
theorem dX1_bestSteps_94 : decode cX1_bestSteps 94 = .ok (.iload_n 1, 1) := by decide +kernel
theorem dX1_bestSteps_95 : decode cX1_bestSteps 95 = .ok (.invokevirtual 68, 3) := by decide +kernel
theorem dX1_bestSteps_98 : decode cX1_bestSteps 98 = .ok (.ifCond .eq 21, 3) := by decide +kernel
theorem dX1_bestSteps_101 : decode cX1_bestSteps 101 = .ok (.aload_n 0, 1) := by decide +kernel
theorem dX1_bestSteps_102 : decode cX1_bestSteps 102 = .ok (.getfield 29, 3) := by decide +kernel
theorem dX1_bestSteps_105 : decode cX1_bestSteps 105 = .ok (.iload 8, 2) := by decide +kernel
theorem dX1_bestSteps_107 : decode cX1_bestSteps 107 = .ok (.iload_n 1, 1) := by decide +kernel
theorem dX1_bestSteps_108 : decode cX1_bestSteps 108 = .ok (.invokevirtual 68, 3) := by decide +kernel
theorem dX1_bestSteps_111 : decode cX1_bestSteps 111 = .ok (.ifCond .eq 8, 3) := by decide +kernel
theorem dX1_bestSteps_114 : decode cX1_bestSteps 114 = .ok (.iload 5, 2) := by decide +kernel
theorem dX1_bestSteps_116 : decode cX1_bestSteps 116 = .ok (.goto 5, 3) := by decide +kernel
theorem dX1_bestSteps_119 : decode cX1_bestSteps 119 = .ok (.iload 4, 2) := by decide +kernel
theorem dX1_bestSteps_121 : decode cX1_bestSteps 121 = .ok (.istore 4, 2) := by decide +kernel
theorem dX1_bestSteps_123 : decode cX1_bestSteps 123 = .ok (.iinc 5 1, 3) := by decide +kernel
theorem dX1_bestSteps_126 : decode cX1_bestSteps 126 = .ok (.goto (-108), 3) := by decide +kernel
theorem dX1_bestSteps_129 : decode cX1_bestSteps 129 = .ok (.iload 4, 2) := by decide +kernel
theorem dX1_bestSteps_131 : decode cX1_bestSteps 131 = .ok (.ireturn, 1) := by decide +kernel
theorem dX1_mayStep_0 : decode cX1_mayStep 0 = .ok (.iconst 0, 1) := by decide +kernel
theorem dX1_mayStep_1 : decode cX1_mayStep 1 = .ok (.istore_n 2, 1) := by decide +kernel
theorem dX1_mayStep_2 : decode cX1_mayStep 2 = .ok (.iconst 0, 1) := by decide +kernel
theorem dX1_mayStep_3 : decode cX1_mayStep 3 = .ok (.istore_n 3, 1) := by decide +kernel
theorem dX1_mayStep_4 : decode cX1_mayStep 4 = .ok (.iload_n 3, 1) := by decide +kernel
theorem dX1_mayStep_5 : decode cX1_mayStep 5 = .ok (.aload_n 0, 1) := by decide +kernel
theorem dX1_mayStep_6 : decode cX1_mayStep 6 = .ok (.getfield 25, 3) := by decide +kernel
theorem dX1_mayStep_9 : decode cX1_mayStep 9 = .ok (.getfield 74, 3) := by decide +kernel
theorem dX1_mayStep_12 : decode cX1_mayStep 12 = .ok (.if_icmp .ge 99, 3) := by decide +kernel
theorem dX1_mayStep_15 : decode cX1_mayStep 15 = .ok (.iload_n 3, 1) := by decide +kernel
theorem dX1_mayStep_16 : decode cX1_mayStep 16 = .ok (.bipush 8, 2) := by decide +kernel
theorem dX1_mayStep_18 : decode cX1_mayStep 18 = .ok (.if_icmp .ge 93, 3) := by decide +kernel
theorem dX1_mayStep_21 : decode cX1_mayStep 21 = .ok (.aload_n 0, 1) := by decide +kernel
theorem dX1_mayStep_22 : decode cX1_mayStep 22 = .ok (.getfield 33, 3) := by decide +kernel
theorem dX1_mayStep_25 : decode cX1_mayStep 25 = .ok (.iload_n 3, 1) := by decide +kernel
theorem dX1_mayStep_26 : decode cX1_mayStep 26 = .ok (.invokestatic 79, 3) := by decide +kernel
theorem dX1_mayStep_29 : decode cX1_mayStep 29 = .ok (.ifCond .eq 27, 3) := by decide +kernel
theorem dX1_mayStep_32 : decode cX1_mayStep 32 = .ok (.iload_n 1, 1) := by decide +kernel
theorem dX1_mayStep_33 : decode cX1_mayStep 33 = .ok (.aload_n 0, 1) := by decide +kernel
theorem dX1_mayStep_34 : decode cX1_mayStep 34 = .ok (.getfield 15, 3) := by decide +kernel
theorem dX1_mayStep_37 : decode cX1_mayStep 37 = .ok (.iload_n 3, 1) := by decide +kernel
theorem dX1_mayStep_38 : decode cX1_mayStep 38 = .ok (.iaload, 1) := by decide +kernel
theorem dX1_mayStep_39 : decode cX1_mayStep 39 = .ok (.isub, 1) := by decide +kernel
theorem dX1_mayStep_40 : decode cX1_mayStep 40 = .ok (.aload_n 0, 1) := by decide +kernel
theorem dX1_mayStep_41 : decode cX1_mayStep 41 = .ok (.getfield 25, 3) := by decide +kernel
theorem dX1_mayStep_44 : decode cX1_mayStep 44 = .ok (.getfield 82, 3) := by decide +kernel
theorem dX1_mayStep_47 : decode cX1_mayStep 47 = .ok (.iload_n 3, 1) := by decide +kernel
theorem dX1_mayStep_48 : decode cX1_mayStep 48 = .ok (.iaload, 1) := by decide +kernel
theorem dX1_mayStep_49 : decode cX1_mayStep 49 = .ok (.if_icmp .lt 7, 3) := by decide +kernel
theorem dX1_mayStep_52 : decode cX1_mayStep 52 = .ok (.iconst 1, 1) := by decide +kernel
theorem dX1_mayStep_53 : decode cX1_mayStep 53 = .ok (.goto 4, 3) := by decide +kernel
theorem dX1_mayStep_56 : decode cX1_mayStep 56 = .ok (.iconst 0, 1) := by decide +kernel
theorem dX1_mayStep_57 : decode cX1_mayStep 57 = .ok (.istore 4, 2) := by decide +kernel
theorem dX1_mayStep_59 : decode cX1_mayStep 59 = .ok (.aload_n 0, 1) := by decide +kernel
theorem dX1_mayStep_60 : decode cX1_mayStep 60 = .ok (.getfield 15, 3) := by decide +kernel
theorem dX1_mayStep_63 : decode cX1_mayStep 63 = .ok (.iload_n 3, 1) := by decide +kernel
theorem dX1_mayStep_64 : decode cX1_mayStep 64 = .ok (.iaload, 1) := by decide +kernel
theorem dX1_mayStep_65 : decode cX1_mayStep 65 = .ok (.iconst (-1), 1) := by decide +kernel
theorem dX1_mayStep_66 : decode cX1_mayStep 66 = .ok (.if_icmp .ne 20, 3) := by decide +kernel
theorem dX1_mayStep_69 : decode cX1_mayStep 69 = .ok (.aload_n 0, 1) := by decide +kernel
theorem dX1_mayStep_70 : decode cX1_mayStep 70 = .ok (.getfield 25, 3) := by decide +kernel
theorem dX1_mayStep_73 : decode cX1_mayStep 73 = .ok (.getfield 85, 3) := by decide +kernel
theorem dX1_mayStep_76 : decode cX1_mayStep 76 = .ok (.iload_n 3, 1) := by decide +kernel
theorem dX1_mayStep_77 : decode cX1_mayStep 77 = .ok (.iaload, 1) := by decide +kernel
theorem dX1_mayStep_78 : decode cX1_mayStep 78 = .ok (.iload_n 1, 1) := by decide +kernel
theorem dX1_mayStep_79 : decode cX1_mayStep 79 = .ok (.if_icmp .gt 7, 3) := by decide +kernel
theorem dX1_mayStep_82 : decode cX1_mayStep 82 = .ok (.iconst 1, 1) := by decide +kernel
theorem dX1_mayStep_83 : decode cX1_mayStep 83 = .ok (.goto 4, 3) := by decide +kernel
theorem dX1_mayStep_86 : decode cX1_mayStep 86 = .ok (.iconst 0, 1) := by decide +kernel
theorem dX1_mayStep_87 : decode cX1_mayStep 87 = .ok (.istore 5, 2) := by decide +kernel
theorem dX1_mayStep_89 : decode cX1_mayStep 89 = .ok (.iload 4, 2) := by decide +kernel
theorem dX1_mayStep_91 : decode cX1_mayStep 91 = .ok (.ifCond .ne 8, 3) := by decide +kernel
theorem dX1_mayStep_94 : decode cX1_mayStep 94 = .ok (.iload 5, 2) := by decide +kernel
theorem dX1_mayStep_96 : decode cX1_mayStep 96 = .ok (.ifCond .eq 9, 3) := by decide +kernel
theorem dX1_mayStep_99 : decode cX1_mayStep 99 = .ok (.iload_n 2, 1) := by decide +kernel
theorem dX1_mayStep_100 : decode cX1_mayStep 100 = .ok (.iconst 1, 1) := by decide +kernel
theorem dX1_mayStep_101 : decode cX1_mayStep 101 = .ok (.iload_n 3, 1) := by decide +kernel
theorem dX1_mayStep_102 : decode cX1_mayStep 102 = .ok (.ishl, 1) := by decide +kernel
theorem dX1_mayStep_103 : decode cX1_mayStep 103 = .ok (.ior, 1) := by decide +kernel
theorem dX1_mayStep_104 : decode cX1_mayStep 104 = .ok (.istore_n 2, 1) := by decide +kernel
theorem dX1_mayStep_105 : decode cX1_mayStep 105 = .ok (.iinc 3 1, 3) := by decide +kernel
theorem dX1_mayStep_108 : decode cX1_mayStep 108 = .ok (.goto (-104), 3) := by decide +kernel
theorem dX1_mayStep_111 : decode cX1_mayStep 111 = .ok (.iload_n 2, 1) := by decide +kernel
theorem dX1_mayStep_112 : decode cX1_mayStep 112 = .ok (.ireturn, 1) := by decide +kernel
theorem dX1_aheadOfWall_0 : decode cX1_aheadOfWall 0 = .ok (.sipush 255, 3) := by decide +kernel
theorem dX1_aheadOfWall_3 : decode cX1_aheadOfWall 3 = .ok (.istore_n 2, 1) := by decide +kernel
theorem dX1_aheadOfWall_4 : decode cX1_aheadOfWall 4 = .ok (.iconst 0, 1) := by decide +kernel
theorem dX1_aheadOfWall_5 : decode cX1_aheadOfWall 5 = .ok (.istore_n 3, 1) := by decide +kernel
theorem dX1_aheadOfWall_6 : decode cX1_aheadOfWall 6 = .ok (.iload_n 3, 1) := by decide +kernel
theorem dX1_aheadOfWall_7 : decode cX1_aheadOfWall 7 = .ok (.bipush 8, 2) := by decide +kernel
theorem dX1_aheadOfWall_9 : decode cX1_aheadOfWall 9 = .ok (.if_icmp .ge 56, 3) := by decide +kernel
theorem dX1_aheadOfWall_12 : decode cX1_aheadOfWall 12 = .ok (.aload_n 0, 1) := by decide +kernel
theorem dX1_aheadOfWall_13 : decode cX1_aheadOfWall 13 = .ok (.getfield 25, 3) := by decide +kernel
theorem dX1_aheadOfWall_16 : decode cX1_aheadOfWall 16 = .ok (.getfield 88, 3) := by decide +kernel
theorem dX1_aheadOfWall_19 : decode cX1_aheadOfWall 19 = .ok (.ifCond .le 40, 3) := by decide +kernel
theorem dX1_aheadOfWall_22 : decode cX1_aheadOfWall 22 = .ok (.aload_n 0, 1) := by decide +kernel
theorem dX1_aheadOfWall_23 : decode cX1_aheadOfWall 23 = .ok (.getfield 33, 3) := by decide +kernel
theorem dX1_aheadOfWall_26 : decode cX1_aheadOfWall 26 = .ok (.iload_n 3, 1) := by decide +kernel
theorem dX1_aheadOfWall_27 : decode cX1_aheadOfWall 27 = .ok (.invokestatic 79, 3) := by decide +kernel
theorem dX1_aheadOfWall_30 : decode cX1_aheadOfWall 30 = .ok (.ifCond .eq 29, 3) := by decide +kernel
theorem dX1_aheadOfWall_33 : decode cX1_aheadOfWall 33 = .ok (.iload_n 1, 1) := by decide +kernel
theorem dX1_aheadOfWall_34 : decode cX1_aheadOfWall 34 = .ok (.aload_n 0, 1) := by decide +kernel
theorem dX1_aheadOfWall_35 : decode cX1_aheadOfWall 35 = .ok (.getfield 15, 3) := by decide +kernel
theorem dX1_aheadOfWall_38 : decode cX1_aheadOfWall 38 = .ok (.iload_n 3, 1) := by decide +kernel
theorem dX1_aheadOfWall_39 : decode cX1_aheadOfWall 39 = .ok (.iaload, 1) := by decide +kernel
theorem dX1_aheadOfWall_40 : decode cX1_aheadOfWall 40 = .ok (.isub, 1) := by decide +kernel
theorem dX1_aheadOfWall_41 : decode cX1_aheadOfWall 41 = .ok (.aload_n 0, 1) := by decide +kernel
theorem dX1_aheadOfWall_42 : decode cX1_aheadOfWall 42 = .ok (.getfield 25, 3) := by decide +kernel
theorem dX1_aheadOfWall_45 : decode cX1_aheadOfWall 45 = .ok (.getfield 88, 3) := by decide +kernel
theorem dX1_aheadOfWall_48 : decode cX1_aheadOfWall 48 = .ok (.if_icmp .lt 11, 3) := by decide +kernel
theorem dX1_aheadOfWall_51 : decode cX1_aheadOfWall 51 = .ok (.iload_n 2, 1) := by decide +kernel
theorem dX1_aheadOfWall_52 : decode cX1_aheadOfWall 52 = .ok (.iconst 1, 1) := by decide +kernel
theorem dX1_aheadOfWall_53 : decode cX1_aheadOfWall 53 = .ok (.iload_n 3, 1) := by decide +kernel
theorem dX1_aheadOfWall_54 : decode cX1_aheadOfWall 54 = .ok (.ishl, 1) := by decide +kernel
theorem dX1_aheadOfWall_55 : decode cX1_aheadOfWall 55 = .ok (.iconst (-1), 1) := by decide +kernel
theorem dX1_aheadOfWall_56 : decode cX1_aheadOfWall 56 = .ok (.ixor, 1) := by decide +kernel
theorem dX1_aheadOfWall_57 : decode cX1_aheadOfWall 57 = .ok (.iand, 1) := by decide +kernel
theorem dX1_aheadOfWall_58 : decode cX1_aheadOfWall 58 = .ok (.istore_n 2, 1) := by decide +kernel
theorem dX1_aheadOfWall_59 : decode cX1_aheadOfWall 59 = .ok (.iinc 3 1, 3) := by decide +kernel
theorem dX1_aheadOfWall_62 : decode cX1_aheadOfWall 62 = .ok (.goto (-56), 3) := by decide +kernel
theorem dX1_aheadOfWall_65 : decode cX1_aheadOfWall 65 = .ok (.iload_n 2, 1) := by decide +kernel
theorem dX1_aheadOfWall_66 : decode cX1_aheadOfWall 66 = .ok (.ireturn, 1) := by decide +kernel
theorem dX1_step_0 : decode cX1_step 0 = .ok (.iconst 0, 1) := by decide +kernel
theorem dX1_step_1 : decode cX1_step 1 = .ok (.istore_n 3, 1) := by decide +kernel
theorem dX1_step_2 : decode cX1_step 2 = .ok (.iload_n 3, 1) := by decide +kernel
theorem dX1_step_3 : decode cX1_step 3 = .ok (.bipush 8, 2) := by decide +kernel
theorem dX1_step_5 : decode cX1_step 5 = .ok (.if_icmp .ge 53, 3) := by decide +kernel
theorem dX1_step_8 : decode cX1_step 8 = .ok (.iload_n 1, 1) := by decide +kernel
theorem dX1_step_9 : decode cX1_step 9 = .ok (.iload_n 3, 1) := by decide +kernel
theorem dX1_step_10 : decode cX1_step 10 = .ok (.invokestatic 79, 3) := by decide +kernel
theorem dX1_step_13 : decode cX1_step 13 = .ok (.ifCond .eq 24, 3) := by decide +kernel
theorem dX1_step_16 : decode cX1_step 16 = .ok (.aload_n 0, 1) := by decide +kernel
theorem dX1_step_17 : decode cX1_step 17 = .ok (.getfield 33, 3) := by decide +kernel
theorem dX1_step_20 : decode cX1_step 20 = .ok (.iload_n 3, 1) := by decide +kernel
theorem dX1_step_21 : decode cX1_step 21 = .ok (.invokestatic 79, 3) := by decide +kernel
theorem dX1_step_24 : decode cX1_step 24 = .ok (.ifCond .eq 13, 3) := by decide +kernel
theorem dX1_step_27 : decode cX1_step 27 = .ok (.aload_n 0, 1) := by decide +kernel
theorem dX1_step_28 : decode cX1_step 28 = .ok (.getfield 18, 3) := by decide +kernel
theorem dX1_step_31 : decode cX1_step 31 = .ok (.iload_n 3, 1) := by decide +kernel
theorem dX1_step_32 : decode cX1_step 32 = .ok (.iload_n 2, 1) := by decide +kernel
theorem dX1_step_33 : decode cX1_step 33 = .ok (.iastore, 1) := by decide +kernel
theorem dX1_step_34 : decode cX1_step 34 = .ok (.goto 18, 3) := by decide +kernel
theorem dX1_step_37 : decode cX1_step 37 = .ok (.iload_n 1, 1) := by decide +kernel
theorem dX1_step_38 : decode cX1_step 38 = .ok (.iload_n 3, 1) := by decide +kernel
theorem dX1_step_39 : decode cX1_step 39 = .ok (.invokestatic 79, 3) := by decide +kernel
theorem dX1_step_42 : decode cX1_step 42 = .ok (.ifCond .eq 10, 3) := by decide +kernel
theorem dX1_step_45 : decode cX1_step 45 = .ok (.aload_n 0, 1) := by decide +kernel
theorem dX1_step_46 : decode cX1_step 46 = .ok (.getfield 15, 3) := by decide +kernel
theorem dX1_step_49 : decode cX1_step 49 = .ok (.iload_n 3, 1) := by decide +kernel
theorem dX1_step_50 : decode cX1_step 50 = .ok (.iload_n 2, 1) := by decide +kernel
theorem dX1_step_51 : decode cX1_step 51 = .ok (.iastore, 1) := by decide +kernel
theorem dX1_step_52 : decode cX1_step 52 = .ok (.iinc 3 1, 3) := by decide +kernel
theorem dX1_step_55 : decode cX1_step 55 = .ok (.goto (-53), 3) := by decide +kernel
theorem dX1_step_58 : decode cX1_step 58 = .ok (.aload_n 0, 1) := by decide +kernel
theorem dX1_step_59 : decode cX1_step 59 = .ok (.dup, 1) := by decide +kernel
theorem dX1_step_60 : decode cX1_step 60 = .ok (.getfield 33, 3) := by decide +kernel
theorem dX1_step_63 : decode cX1_step 63 = .ok (.iload_n 1, 1) := by decide +kernel
theorem dX1_step_64 : decode cX1_step 64 = .ok (.ixor, 1) := by decide +kernel
theorem dX1_step_65 : decode cX1_step 65 = .ok (.putfield 33, 3) := by decide +kernel
theorem dX1_step_68 : decode cX1_step 68 = .ok (.return_, 1) := by decide +kernel
theorem dX2_init_0 : decode cX2_init 0 = .ok (.aload_n 0, 1) := by decide +kernel
theorem dX2_init_1 : decode cX2_init 1 = .ok (.invokespecial 1, 3) := by decide +kernel
theorem dX2_init_4 : decode cX2_init 4 = .ok (.aload_n 0, 1) := by decide +kernel
theorem dX2_init_5 : decode cX2_init 5 = .ok (.lconst 0, 1) := by decide +kernel
theorem dX2_init_6 : decode cX2_init 6 = .ok (.putfield 7, 3) := by decide +kernel
theorem dX2_init_9 : decode cX2_init 9 = .ok (.aload_n 0, 1) := by decide +kernel
theorem dX2_init_10 : decode cX2_init 10 = .ok (.lconst 1, 1) := by decide +kernel
theorem dX2_init_11 : decode cX2_init 11 = .ok (.putfield 13, 3) := by decide +kernel
theorem dX2_init_14 : decode cX2_init 14 = .ok (.return_, 1) := by decide +kernel
theorem dX2_become_0 : decode cX2_become 0 = .ok (.lload_n 1, 1) := by decide +kernel
theorem dX2_become_1 : decode cX2_become 1 = .ok (.lload_n 3, 1) := by decide +kernel
theorem dX2_become_2 : decode cX2_become 2 = .ok (.invokestatic 16, 3) := by decide +kernel
theorem dX2_become_5 : decode cX2_become 5 = .ok (.lstore 5, 2) := by decide +kernel
theorem dX2_become_7 : decode cX2_become 7 = .ok (.lload 5, 2) := by decide +kernel
theorem dX2_become_9 : decode cX2_become 9 = .ok (.lconst 0, 1) := by decide +kernel
theorem dX2_become_10 : decode cX2_become 10 = .ok (.lcmp, 1) := by decide +kernel
theorem dX2_become_11 : decode cX2_become 11 = .ok (.ifCond .le 19, 3) := by decide +kernel
theorem dX2_become_14 : decode cX2_become 14 = .ok (.aload_n 0, 1) := by decide +kernel
theorem dX2_become_15 : decode cX2_become 15 = .ok (.lload_n 1, 1) := by decide +kernel
theorem dX2_become_16 : decode cX2_become 16 = .ok (.lload 5, 2) := by decide +kernel
theorem dX2_become_18 : decode cX2_become 18 = .ok (.ldiv, 1) := by decide +kernel
theorem dX2_become_19 : decode cX2_become 19 = .ok (.putfield 7, 3) := by decide +kernel
theorem dX2_become_22 : decode cX2_become 22 = .ok (.aload_n 0, 1) := by decide +kernel
theorem dX2_become_23 : decode cX2_become 23 = .ok (.lload_n 3, 1) := by decide +kernel
theorem dX2_become_24 : decode cX2_become 24 = .ok (.lload 5, 2) := by decide +kernel
theorem dX2_become_26 : decode cX2_become 26 = .ok (.ldiv, 1) := by decide +kernel
theorem dX2_become_27 : decode cX2_become 27 = .ok (.putfield 13, 3) := by decide +kernel
theorem dX2_become_30 : decode cX2_become 30 = .ok (.return_, 1) := by decide +kernel
theorem dX2_commonDivisor_0 : decode cX2_commonDivisor 0 = .ok (.lload_n 0, 1) := by decide +kernel
theorem dX2_commonDivisor_1 : decode cX2_commonDivisor 1 = .ok (.lstore 4, 2) := by decide +kernel
theorem dX2_commonDivisor_3 : decode cX2_commonDivisor 3 = .ok (.lload_n 2, 1) := by decide +kernel
theorem dX2_commonDivisor_4 : decode cX2_commonDivisor 4 = .ok (.lstore 6, 2) := by decide +kernel
theorem dX2_commonDivisor_6 : decode cX2_commonDivisor 6 = .ok (.iconst 0, 1) := by decide +kernel
theorem dX2_commonDivisor_7 : decode cX2_commonDivisor 7 = .ok (.istore 8, 2) := by decide +kernel
theorem dX2_commonDivisor_9 : decode cX2_commonDivisor 9 = .ok (.iload 8, 2) := by decide +kernel
theorem dX2_commonDivisor_11 : decode cX2_commonDivisor 11 = .ok (.bipush 100, 2) := by decide +kernel
theorem dX2_commonDivisor_13 : decode cX2_commonDivisor 13 = .ok (.if_icmp .ge 31, 3) := by decide +kernel
theorem dX2_commonDivisor_16 : decode cX2_commonDivisor 16 = .ok (.lload 6, 2) := by decide +kernel
theorem dX2_commonDivisor_18 : decode cX2_commonDivisor 18 = .ok (.lconst 0, 1) := by decide +kernel
theorem dX2_commonDivisor_19 : decode cX2_commonDivisor 19 = .ok (.lcmp, 1) := by decide +kernel
theorem dX2_commonDivisor_20 : decode cX2_commonDivisor 20 = .ok (.ifCond .eq 24, 3) := by decide +kernel
theorem dX2_commonDivisor_23 : decode cX2_commonDivisor 23 = .ok (.lload 4, 2) := by decide +kernel
theorem dX2_commonDivisor_25 : decode cX2_commonDivisor 25 = .ok (.lload 6, 2) := by decide +kernel
theorem dX2_commonDivisor_27 : decode cX2_commonDivisor 27 = .ok (.lrem, 1) := by decide +kernel
theorem dX2_commonDivisor_28 : decode cX2_commonDivisor 28 = .ok (.lstore 9, 2) := by decide +kernel
theorem dX2_commonDivisor_30 : decode cX2_commonDivisor 30 = .ok (.lload 6, 2) := by decide +kernel
theorem dX2_commonDivisor_32 : decode cX2_commonDivisor 32 = .ok (.lstore 4, 2) := by decide +kernel
theorem dX2_commonDivisor_34 : decode cX2_commonDivisor 34 = .ok (.lload 9, 2) := by decide +kernel
theorem dX2_commonDivisor_36 : decode cX2_commonDivisor 36 = .ok (.lstore 6, 2) := by decide +kernel
theorem dX2_commonDivisor_38 : decode cX2_commonDivisor 38 = .ok (.iinc 8 1, 3) := by decide +kernel
theorem dX2_commonDivisor_41 : decode cX2_commonDivisor 41 = .ok (.goto (-32), 3) := by decide +kernel
theorem dX2_commonDivisor_44 : decode cX2_commonDivisor 44 = .ok (.lload 4, 2) := by decide +kernel
theorem dX2_commonDivisor_46 : decode cX2_commonDivisor 46 = .ok (.lreturn, 1) := by decide +kernel
theorem dX3_init_0 : decode cX3_init 0 = .ok (.aload_n 0, 1) := by decide +kernel
theorem dX3_init_1 : decode cX3_init 1 = .ok (.invokespecial 3, 3) := by decide +kernel
theorem dX3_init_4 : decode cX3_init 4 = .ok (.aload_n 0, 1) := by decide +kernel
theorem dX3_init_5 : decode cX3_init 5 = .ok (.aload_n 1, 1) := by decide +kernel
theorem dX3_init_6 : decode cX3_init 6 = .ok (.putfield 9, 3) := by decide +kernel
theorem dX3_init_9 : decode cX3_init 9 = .ok (.aload_n 0, 1) := by decide +kernel
theorem dX3_init_10 : decode cX3_init 10 = .ok (.aload_n 2, 1) := by decide +kernel
theorem dX3_init_11 : decode cX3_init 11 = .ok (.putfield 15, 3) := by decide +kernel
theorem dX3_init_14 : decode cX3_init 14 = .ok (.return_, 1) := by decide +kernel
theorem dX3_onBut_0 : decode cX3_onBut 0 = .ok (.iconst 0, 1) := by decide +kernel
theorem dX3_onBut_1 : decode cX3_onBut 1 = .ok (.istore_n 3, 1) := by decide +kernel
theorem dX3_onBut_2 : decode cX3_onBut 2 = .ok (.iconst 0, 1) := by decide +kernel
theorem dX3_onBut_3 : decode cX3_onBut 3 = .ok (.istore 4, 2) := by decide +kernel
theorem dX3_onBut_5 : decode cX3_onBut 5 = .ok (.iload 4, 2) := by decide +kernel
theorem dX3_onBut_7 : decode cX3_onBut 7 = .ok (.aload_n 0, 1) := by decide +kernel
theorem dX3_onBut_8 : decode cX3_onBut 8 = .ok (.getfield 9, 3) := by decide +kernel
theorem dX3_onBut_11 : decode cX3_onBut 11 = .ok (.getfield 19, 3) := by decide +kernel
theorem dX3_onBut_14 : decode cX3_onBut 14 = .ok (.if_icmp .ge 68, 3) := by decide +kernel
theorem dX3_onBut_17 : decode cX3_onBut 17 = .ok (.iload 4, 2) := by decide +kernel
theorem dX3_onBut_19 : decode cX3_onBut 19 = .ok (.bipush 8, 2) := by decide +kernel
theorem dX3_onBut_21 : decode cX3_onBut 21 = .ok (.if_icmp .ge 61, 3) := by decide +kernel
theorem dX3_onBut_24 : decode cX3_onBut 24 = .ok (.iload_n 1, 1) := by decide +kernel
theorem dX3_onBut_25 : decode cX3_onBut 25 = .ok (.iload 4, 2) := by decide +kernel
theorem dX3_onBut_27 : decode cX3_onBut 27 = .ok (.invokestatic 25, 3) := by decide +kernel
theorem dX3_onBut_30 : decode cX3_onBut 30 = .ok (.ifCond .ne 46, 3) := by decide +kernel
theorem dX3_onBut_33 : decode cX3_onBut 33 = .ok (.aload_n 0, 1) := by decide +kernel
theorem dX3_onBut_34 : decode cX3_onBut 34 = .ok (.getfield 9, 3) := by decide +kernel
theorem dX3_onBut_37 : decode cX3_onBut 37 = .ok (.getfield 29, 3) := by decide +kernel
theorem dX3_onBut_40 : decode cX3_onBut 40 = .ok (.iload 4, 2) := by decide +kernel
theorem dX3_onBut_42 : decode cX3_onBut 42 = .ok (.iaload, 1) := by decide +kernel
theorem dX3_onBut_43 : decode cX3_onBut 43 = .ok (.iload_n 2, 1) := by decide +kernel
theorem dX3_onBut_44 : decode cX3_onBut 44 = .ok (.if_icmp .gt 32, 3) := by decide +kernel
theorem dX3_onBut_47 : decode cX3_onBut 47 = .ok (.iload_n 2, 1) := by decide +kernel
theorem dX3_onBut_48 : decode cX3_onBut 48 = .ok (.aload_n 0, 1) := by decide +kernel
theorem dX3_onBut_49 : decode cX3_onBut 49 = .ok (.getfield 9, 3) := by decide +kernel
theorem dX3_onBut_52 : decode cX3_onBut 52 = .ok (.getfield 33, 3) := by decide +kernel
theorem dX3_onBut_55 : decode cX3_onBut 55 = .ok (.iload 4, 2) := by decide +kernel
theorem dX3_onBut_57 : decode cX3_onBut 57 = .ok (.iaload, 1) := by decide +kernel
theorem dX3_onBut_58 : decode cX3_onBut 58 = .ok (.if_icmp .gt 18, 3) := by decide +kernel
theorem dX3_onBut_61 : decode cX3_onBut 61 = .ok (.iload_n 3, 1) := by decide +kernel
theorem dX3_onBut_62 : decode cX3_onBut 62 = .ok (.iconst 1, 1) := by decide +kernel
theorem dX3_onBut_63 : decode cX3_onBut 63 = .ok (.aload_n 0, 1) := by decide +kernel
theorem dX3_onBut_64 : decode cX3_onBut 64 = .ok (.getfield 9, 3) := by decide +kernel
theorem dX3_onBut_67 : decode cX3_onBut 67 = .ok (.getfield 36, 3) := by decide +kernel
theorem dX3_onBut_70 : decode cX3_onBut 70 = .ok (.iload 4, 2) := by decide +kernel
theorem dX3_onBut_72 : decode cX3_onBut 72 = .ok (.iaload, 1) := by decide +kernel
theorem dX3_onBut_73 : decode cX3_onBut 73 = .ok (.ishl, 1) := by decide +kernel
theorem dX3_onBut_74 : decode cX3_onBut 74 = .ok (.ior, 1) := by decide +kernel
theorem dX3_onBut_75 : decode cX3_onBut 75 = .ok (.istore_n 3, 1) := by decide +kernel
theorem dX3_onBut_76 : decode cX3_onBut 76 = .ok (.iinc 4 1, 3) := by decide +kernel
theorem dX3_onBut_79 : decode cX3_onBut 79 = .ok (.goto (-74), 3) := by decide +kernel
theorem dX3_onBut_82 : decode cX3_onBut 82 = .ok (.iload_n 3, 1) := by decide +kernel
theorem dX3_onBut_83 : decode cX3_onBut 83 = .ok (.ireturn, 1) := by decide +kernel
theorem dX3_minutesUnwell_0 : decode cX3_minutesUnwell 0 = .ok (.lconst 0, 1) := by decide +kernel
theorem dX3_minutesUnwell_1 : decode cX3_minutesUnwell 1 = .ok (.lstore_n 2, 1) := by decide +kernel
theorem dX3_minutesUnwell_2 : decode cX3_minutesUnwell 2 = .ok (.iconst 0, 1) := by decide +kernel
theorem dX3_minutesUnwell_3 : decode cX3_minutesUnwell 3 = .ok (.istore 4, 2) := by decide +kernel
theorem dX3_minutesUnwell_5 : decode cX3_minutesUnwell 5 = .ok (.iload 4, 2) := by decide +kernel
theorem dX3_minutesUnwell_7 : decode cX3_minutesUnwell 7 = .ok (.bipush 63, 2) := by decide +kernel
theorem dX3_minutesUnwell_9 : decode cX3_minutesUnwell 9 = .ok (.if_icmp .ge 35, 3) := by decide +kernel
theorem dX3_minutesUnwell_12 : decode cX3_minutesUnwell 12 = .ok (.aload_n 0, 1) := by decide +kernel
theorem dX3_minutesUnwell_13 : decode cX3_minutesUnwell 13 = .ok (.getfield 15, 3) := by decide +kernel
theorem dX3_minutesUnwell_16 : decode cX3_minutesUnwell 16 = .ok (.aload_n 0, 1) := by decide +kernel
theorem dX3_minutesUnwell_17 : decode cX3_minutesUnwell 17 = .ok (.iload_n 1, 1) := by decide +kernel
theorem dX3_minutesUnwell_18 : decode cX3_minutesUnwell 18 = .ok (.iload 4, 2) := by decide +kernel
theorem dX3_minutesUnwell_20 : decode cX3_minutesUnwell 20 = .ok (.invokevirtual 39, 3) := by decide +kernel
theorem dX3_minutesUnwell_23 : decode cX3_minutesUnwell 23 = .ok (.iload 4, 2) := by decide +kernel
theorem dX3_minutesUnwell_25 : decode cX3_minutesUnwell 25 = .ok (.invokevirtual 43, 3) := by decide +kernel
theorem dX3_minutesUnwell_28 : decode cX3_minutesUnwell 28 = .ok (.ifCond .ne 10, 3) := by decide +kernel
theorem dX3_minutesUnwell_31 : decode cX3_minutesUnwell 31 = .ok (.lload_n 2, 1) := by decide +kernel
theorem dX3_minutesUnwell_32 : decode cX3_minutesUnwell 32 = .ok (.lconst 1, 1) := by decide +kernel
theorem dX3_minutesUnwell_33 : decode cX3_minutesUnwell 33 = .ok (.iload 4, 2) := by decide +kernel
theorem dX3_minutesUnwell_35 : decode cX3_minutesUnwell 35 = .ok (.lshl, 1) := by decide +kernel
theorem dX3_minutesUnwell_36 : decode cX3_minutesUnwell 36 = .ok (.lor, 1) := by decide +kernel
theorem dX3_minutesUnwell_37 : decode cX3_minutesUnwell 37 = .ok (.lstore_n 2, 1) := by decide +kernel
theorem dX3_minutesUnwell_38 : decode cX3_minutesUnwell 38 = .ok (.iinc 4 1, 3) := by decide +kernel
theorem dX3_minutesUnwell_41 : decode cX3_minutesUnwell 41 = .ok (.goto (-36), 3) := by decide +kernel
theorem dX3_minutesUnwell_44 : decode cX3_minutesUnwell 44 = .ok (.lload_n 2, 1) := by decide +kernel
theorem dX3_minutesUnwell_45 : decode cX3_minutesUnwell 45 = .ok (.lreturn, 1) := by decide +kernel
theorem dX3_allWellBut_0 : decode cX3_allWellBut 0 = .ok (.iconst 0, 1) := by decide +kernel
theorem dX3_allWellBut_1 : decode cX3_allWellBut 1 = .ok (.istore_n 2, 1) := by decide +kernel
theorem dX3_allWellBut_2 : decode cX3_allWellBut 2 = .ok (.iload_n 2, 1) := by decide +kernel
theorem dX3_allWellBut_3 : decode cX3_allWellBut 3 = .ok (.bipush 63, 2) := by decide +kernel
theorem dX3_allWellBut_5 : decode cX3_allWellBut 5 = .ok (.if_icmp .ge 28, 3) := by decide +kernel
theorem dX3_allWellBut_8 : decode cX3_allWellBut 8 = .ok (.aload_n 0, 1) := by decide +kernel
theorem dX3_allWellBut_9 : decode cX3_allWellBut 9 = .ok (.getfield 15, 3) := by decide +kernel
theorem dX3_allWellBut_12 : decode cX3_allWellBut 12 = .ok (.aload_n 0, 1) := by decide +kernel
theorem dX3_allWellBut_13 : decode cX3_allWellBut 13 = .ok (.iload_n 1, 1) := by decide +kernel
theorem dX3_allWellBut_14 : decode cX3_allWellBut 14 = .ok (.iload_n 2, 1) := by decide +kernel
theorem dX3_allWellBut_15 : decode cX3_allWellBut 15 = .ok (.invokevirtual 39, 3) := by decide +kernel
theorem dX3_allWellBut_18 : decode cX3_allWellBut 18 = .ok (.iload_n 2, 1) := by decide +kernel
theorem dX3_allWellBut_19 : decode cX3_allWellBut 19 = .ok (.invokevirtual 43, 3) := by decide +kernel
theorem dX3_allWellBut_22 : decode cX3_allWellBut 22 = .ok (.ifCond .ne 5, 3) := by decide +kernel
theorem dX3_allWellBut_25 : decode cX3_allWellBut 25 = .ok (.iconst 0, 1) := by decide +kernel
theorem dX3_allWellBut_26 : decode cX3_allWellBut 26 = .ok (.ireturn, 1) := by decide +kernel
theorem dX3_allWellBut_27 : decode cX3_allWellBut 27 = .ok (.iinc 2 1, 3) := by decide +kernel
theorem dX3_allWellBut_30 : decode cX3_allWellBut 30 = .ok (.goto (-28), 3) := by decide +kernel
theorem dX3_allWellBut_33 : decode cX3_allWellBut 33 = .ok (.iconst 1, 1) := by decide +kernel
theorem dX3_allWellBut_34 : decode cX3_allWellBut 34 = .ok (.ireturn, 1) := by decide +kernel
theorem dX3_eachAlone_0 : decode cX3_eachAlone 0 = .ok (.iconst 0, 1) := by decide +kernel
theorem dX3_eachAlone_1 : decode cX3_eachAlone 1 = .ok (.istore_n 1, 1) := by decide +kernel
theorem dX3_eachAlone_2 : decode cX3_eachAlone 2 = .ok (.iconst 0, 1) := by decide +kernel
theorem dX3_eachAlone_3 : decode cX3_eachAlone 3 = .ok (.istore_n 2, 1) := by decide +kernel
theorem dX3_eachAlone_4 : decode cX3_eachAlone 4 = .ok (.iload_n 2, 1) := by decide +kernel
theorem dX3_eachAlone_5 : decode cX3_eachAlone 5 = .ok (.aload_n 0, 1) := by decide +kernel
theorem dX3_eachAlone_6 : decode cX3_eachAlone 6 = .ok (.getfield 9, 3) := by decide +kernel
theorem dX3_eachAlone_9 : decode cX3_eachAlone 9 = .ok (.getfield 19, 3) := by decide +kernel
theorem dX3_eachAlone_12 : decode cX3_eachAlone 12 = .ok (.if_icmp .ge 31, 3) := by decide +kernel
theorem dX3_eachAlone_15 : decode cX3_eachAlone 15 = .ok (.iload_n 2, 1) := by decide +kernel
theorem dX3_eachAlone_16 : decode cX3_eachAlone 16 = .ok (.bipush 8, 2) := by decide +kernel
theorem dX3_eachAlone_18 : decode cX3_eachAlone 18 = .ok (.if_icmp .ge 25, 3) := by decide +kernel
theorem dX3_eachAlone_21 : decode cX3_eachAlone 21 = .ok (.aload_n 0, 1) := by decide +kernel
theorem dX3_eachAlone_22 : decode cX3_eachAlone 22 = .ok (.iconst 1, 1) := by decide +kernel
theorem dX3_eachAlone_23 : decode cX3_eachAlone 23 = .ok (.iload_n 2, 1) := by decide +kernel
theorem dX3_eachAlone_24 : decode cX3_eachAlone 24 = .ok (.ishl, 1) := by decide +kernel
theorem dX3_eachAlone_25 : decode cX3_eachAlone 25 = .ok (.invokevirtual 48, 3) := by decide +kernel
theorem dX3_eachAlone_28 : decode cX3_eachAlone 28 = .ok (.ifCond .eq 9, 3) := by decide +kernel
theorem dX3_eachAlone_31 : decode cX3_eachAlone 31 = .ok (.iload_n 1, 1) := by decide +kernel
theorem dX3_eachAlone_32 : decode cX3_eachAlone 32 = .ok (.iconst 1, 1) := by decide +kernel
theorem dX3_eachAlone_33 : decode cX3_eachAlone 33 = .ok (.iload_n 2, 1) := by decide +kernel
theorem dX3_eachAlone_34 : decode cX3_eachAlone 34 = .ok (.ishl, 1) := by decide +kernel
theorem dX3_eachAlone_35 : decode cX3_eachAlone 35 = .ok (.ior, 1) := by decide +kernel
theorem dX3_eachAlone_36 : decode cX3_eachAlone 36 = .ok (.istore_n 1, 1) := by decide +kernel
theorem dX3_eachAlone_37 : decode cX3_eachAlone 37 = .ok (.iinc 2 1, 3) := by decide +kernel
theorem dX3_eachAlone_40 : decode cX3_eachAlone 40 = .ok (.goto (-36), 3) := by decide +kernel
theorem dX3_eachAlone_43 : decode cX3_eachAlone 43 = .ok (.iload_n 1, 1) := by decide +kernel
theorem dX3_eachAlone_44 : decode cX3_eachAlone 44 = .ok (.ireturn, 1) := by decide +kernel
theorem dX3_fewestLiars_0 : decode cX3_fewestLiars 0 = .ok (.iconst 1, 1) := by decide +kernel
theorem dX3_fewestLiars_1 : decode cX3_fewestLiars 1 = .ok (.aload_n 0, 1) := by decide +kernel
theorem dX3_fewestLiars_2 : decode cX3_fewestLiars 2 = .ok (.getfield 9, 3) := by decide +kernel
theorem dX3_fewestLiars_5 : decode cX3_fewestLiars 5 = .ok (.getfield 19, 3) := by decide +kernel
theorem dX3_fewestLiars_8 : decode cX3_fewestLiars 8 = .ok (.ishl, 1) := by decide +kernel
theorem dX3_fewestLiars_9 : decode cX3_fewestLiars 9 = .ok (.iconst 1, 1) := by decide +kernel
theorem dX3_fewestLiars_10 : decode cX3_fewestLiars 10 = .ok (.isub, 1) := by decide +kernel
theorem dX3_fewestLiars_11 : decode cX3_fewestLiars 11 = .ok (.istore_n 1, 1) := by decide +kernel
theorem dX3_fewestLiars_12 : decode cX3_fewestLiars 12 = .ok (.iconst 0, 1) := by decide +kernel
theorem dX3_fewestLiars_13 : decode cX3_fewestLiars 13 = .ok (.istore_n 2, 1) := by decide +kernel
theorem dX3_fewestLiars_14 : decode cX3_fewestLiars 14 = .ok (.iload_n 2, 1) := by decide +kernel
theorem dX3_fewestLiars_15 : decode cX3_fewestLiars 15 = .ok (.iconst 1, 1) := by decide +kernel
theorem dX3_fewestLiars_16 : decode cX3_fewestLiars 16 = .ok (.aload_n 0, 1) := by decide +kernel
theorem dX3_fewestLiars_17 : decode cX3_fewestLiars 17 = .ok (.getfield 9, 3) := by decide +kernel
theorem dX3_fewestLiars_20 : decode cX3_fewestLiars 20 = .ok (.getfield 19, 3) := by decide +kernel
theorem dX3_fewestLiars_23 : decode cX3_fewestLiars 23 = .ok (.ishl, 1) := by decide +kernel
theorem dX3_fewestLiars_24 : decode cX3_fewestLiars 24 = .ok (.if_icmp .ge 37, 3) := by decide +kernel
theorem dX3_fewestLiars_27 : decode cX3_fewestLiars 27 = .ok (.iload_n 2, 1) := by decide +kernel
theorem dX3_fewestLiars_28 : decode cX3_fewestLiars 28 = .ok (.sipush 256, 3) := by decide +kernel
theorem dX3_fewestLiars_31 : decode cX3_fewestLiars 31 = .ok (.if_icmp .ge 30, 3) := by decide +kernel
theorem dX3_fewestLiars_34 : decode cX3_fewestLiars 34 = .ok (.iload_n 2, 1) := by decide +kernel
theorem dX3_fewestLiars_35 : decode cX3_fewestLiars 35 = .ok (.invokestatic 52, 3) := by decide +kernel
theorem dX3_fewestLiars_38 : decode cX3_fewestLiars 38 = .ok (.iload_n 1, 1) := by decide +kernel
theorem dX3_fewestLiars_39 : decode cX3_fewestLiars 39 = .ok (.invokestatic 52, 3) := by decide +kernel
theorem dX3_fewestLiars_42 : decode cX3_fewestLiars 42 = .ok (.if_icmp .ge 13, 3) := by decide +kernel
theorem dX3_fewestLiars_45 : decode cX3_fewestLiars 45 = .ok (.aload_n 0, 1) := by decide +kernel
theorem dX3_fewestLiars_46 : decode cX3_fewestLiars 46 = .ok (.iload_n 2, 1) := by decide +kernel
theorem dX3_fewestLiars_47 : decode cX3_fewestLiars 47 = .ok (.invokevirtual 48, 3) := by decide +kernel
theorem dX3_fewestLiars_50 : decode cX3_fewestLiars 50 = .ok (.ifCond .eq 5, 3) := by decide +kernel
theorem dX3_fewestLiars_53 : decode cX3_fewestLiars 53 = .ok (.iload_n 2, 1) := by decide +kernel
theorem dX3_fewestLiars_54 : decode cX3_fewestLiars 54 = .ok (.istore_n 1, 1) := by decide +kernel
theorem dX3_fewestLiars_55 : decode cX3_fewestLiars 55 = .ok (.iinc 2 1, 3) := by decide +kernel
theorem dX3_fewestLiars_58 : decode cX3_fewestLiars 58 = .ok (.goto (-44), 3) := by decide +kernel
theorem dX3_fewestLiars_61 : decode cX3_fewestLiars 61 = .ok (.iload_n 1, 1) := by decide +kernel
theorem dX3_fewestLiars_62 : decode cX3_fewestLiars 62 = .ok (.ireturn, 1) := by decide +kernel
theorem dX4_init_0 : decode cX4_init 0 = .ok (.aload_n 0, 1) := by decide +kernel
theorem dX4_init_1 : decode cX4_init 1 = .ok (.invokespecial 3, 3) := by decide +kernel
theorem dX4_init_4 : decode cX4_init 4 = .ok (.aload_n 0, 1) := by decide +kernel
theorem dX4_init_5 : decode cX4_init 5 = .ok (.iconst 5, 1) := by decide +kernel
theorem dX4_init_6 : decode cX4_init 6 = .ok (.newarray .int, 2) := by decide +kernel
theorem dX4_init_8 : decode cX4_init 8 = .ok (.putfield 9, 3) := by decide +kernel
theorem dX4_init_11 : decode cX4_init 11 = .ok (.aload_n 0, 1) := by decide +kernel
theorem dX4_init_12 : decode cX4_init 12 = .ok (.sipush 800, 3) := by decide +kernel
theorem dX4_init_15 : decode cX4_init 15 = .ok (.newarray .long, 2) := by decide +kernel
theorem dX4_init_17 : decode cX4_init 17 = .ok (.putfield 15, 3) := by decide +kernel
theorem dX4_init_20 : decode cX4_init 20 = .ok (.aload_n 0, 1) := by decide +kernel
theorem dX4_init_21 : decode cX4_init 21 = .ok (.sipush 800, 3) := by decide +kernel
theorem dX4_init_24 : decode cX4_init 24 = .ok (.newarray .long, 2) := by decide +kernel
theorem dX4_init_26 : decode cX4_init 26 = .ok (.putfield 19, 3) := by decide +kernel
theorem dX4_init_29 : decode cX4_init 29 = .ok (.aload_n 0, 1) := by decide +kernel
theorem dX4_init_30 : decode cX4_init 30 = .ok (.iconst 1, 1) := by decide +kernel
theorem dX4_init_31 : decode cX4_init 31 = .ok (.putfield 22, 3) := by decide +kernel
theorem dX4_init_34 : decode cX4_init 34 = .ok (.aload_n 0, 1) := by decide +kernel
theorem dX4_init_35 : decode cX4_init 35 = .ok (.aload_n 1, 1) := by decide +kernel
theorem dX4_init_36 : decode cX4_init 36 = .ok (.putfield 26, 3) := by decide +kernel
theorem dX4_init_39 : decode cX4_init 39 = .ok (.aload_n 0, 1) := by decide +kernel
theorem dX4_init_40 : decode cX4_init 40 = .ok (.aload_n 2, 1) := by decide +kernel
theorem dX4_init_41 : decode cX4_init 41 = .ok (.putfield 30, 3) := by decide +kernel
theorem dX4_init_44 : decode cX4_init 44 = .ok (.return_, 1) := by decide +kernel
theorem dX4_isWell_0 : decode cX4_isWell 0 = .ok (.iload_n 1, 1) := by decide +kernel
theorem dX4_isWell_1 : decode cX4_isWell 1 = .ok (.ifCond .ne 5, 3) := by decide +kernel
theorem dX4_isWell_4 : decode cX4_isWell 4 = .ok (.iconst 1, 1) := by decide +kernel
theorem dX4_isWell_5 : decode cX4_isWell 5 = .ok (.ireturn, 1) := by decide +kernel
theorem dX4_isWell_6 : decode cX4_isWell 6 = .ok (.aload_n 0, 1) := by decide +kernel
theorem dX4_isWell_7 : decode cX4_isWell 7 = .ok (.getfield 22, 3) := by decide +kernel
theorem dX4_isWell_10 : decode cX4_isWell 10 = .ok (.ifCond .eq 16, 3) := by decide +kernel
theorem dX4_isWell_13 : decode cX4_isWell 13 = .ok (.aload_n 0, 1) := by decide +kernel
theorem dX4_isWell_14 : decode cX4_isWell 14 = .ok (.getfield 15, 3) := by decide +kernel
theorem dX4_isWell_17 : decode cX4_isWell 17 = .ok (.lconst 0, 1) := by decide +kernel
theorem dX4_isWell_18 : decode cX4_isWell 18 = .ok (.invokestatic 34, 3) := by decide +kernel
theorem dX4_isWell_21 : decode cX4_isWell 21 = .ok (.aload_n 0, 1) := by decide +kernel
theorem dX4_isWell_22 : decode cX4_isWell 22 = .ok (.iconst 0, 1) := by decide +kernel
theorem dX4_isWell_23 : decode cX4_isWell 23 = .ok (.putfield 22, 3) := by decide +kernel
theorem dX4_isWell_26 : decode cX4_isWell 26 = .ok (.aload_n 0, 1) := by decide +kernel
theorem dX4_isWell_27 : decode cX4_isWell 27 = .ok (.getfield 30, 3) := by decide +kernel
theorem dX4_isWell_30 : decode cX4_isWell 30 = .ok (.getfield 40, 3) := by decide +kernel
theorem dX4_isWell_33 : decode cX4_isWell 33 = .ok (.ifCond .eq 7, 3) := by decide +kernel
theorem dX4_isWell_36 : decode cX4_isWell 36 = .ok (.iload_n 2, 1) := by decide +kernel
theorem dX4_isWell_37 : decode cX4_isWell 37 = .ok (.goto 4, 3) := by decide +kernel
theorem dX4_isWell_40 : decode cX4_isWell 40 = .ok (.iconst 0, 1) := by decide +kernel
theorem dX4_isWell_41 : decode cX4_isWell 41 = .ok (.sipush 256, 3) := by decide +kernel
theorem dX4_isWell_44 : decode cX4_isWell 44 = .ok (.imul, 1) := by decide +kernel
theorem dX4_isWell_45 : decode cX4_isWell 45 = .ok (.iload_n 1, 1) := by decide +kernel
theorem dX4_isWell_46 : decode cX4_isWell 46 = .ok (.iadd, 1) := by decide +kernel
theorem dX4_isWell_47 : decode cX4_isWell 47 = .ok (.istore_n 3, 1) := by decide +kernel
theorem dX4_isWell_48 : decode cX4_isWell 48 = .ok (.iload_n 3, 1) := by decide +kernel
theorem dX4_isWell_49 : decode cX4_isWell 49 = .ok (.bipush 6, 2) := by decide +kernel
theorem dX4_isWell_51 : decode cX4_isWell 51 = .ok (.ishr, 1) := by decide +kernel
theorem dX4_isWell_52 : decode cX4_isWell 52 = .ok (.istore 4, 2) := by decide +kernel
theorem dX4_isWell_54 : decode cX4_isWell 54 = .ok (.iload 4, 2) := by decide +kernel
theorem dX4_isWell_56 : decode cX4_isWell 56 = .ok (.ifCond .lt 11, 3) := by decide +kernel
theorem dX4_isWell_59 : decode cX4_isWell 59 = .ok (.iload 4, 2) := by decide +kernel
theorem dX4_isWell_61 : decode cX4_isWell 61 = .ok (.sipush 800, 3) := by decide +kernel
theorem dX4_isWell_64 : decode cX4_isWell 64 = .ok (.if_icmp .lt 5, 3) := by decide +kernel
theorem dX4_isWell_67 : decode cX4_isWell 67 = .ok (.iconst 0, 1) := by decide +kernel
theorem dX4_isWell_68 : decode cX4_isWell 68 = .ok (.ireturn, 1) := by decide +kernel
theorem dX4_isWell_69 : decode cX4_isWell 69 = .ok (.lconst 1, 1) := by decide +kernel
theorem dX4_isWell_70 : decode cX4_isWell 70 = .ok (.iload_n 3, 1) := by decide +kernel
theorem dX4_isWell_71 : decode cX4_isWell 71 = .ok (.bipush 63, 2) := by decide +kernel
theorem dX4_isWell_73 : decode cX4_isWell 73 = .ok (.iand, 1) := by decide +kernel
theorem dX4_isWell_74 : decode cX4_isWell 74 = .ok (.lshl, 1) := by decide +kernel
theorem dX4_isWell_75 : decode cX4_isWell 75 = .ok (.lstore 5, 2) := by decide +kernel
theorem dX4_isWell_77 : decode cX4_isWell 77 = .ok (.aload_n 0, 1) := by decide +kernel
theorem dX4_isWell_78 : decode cX4_isWell 78 = .ok (.getfield 15, 3) := by decide +kernel
theorem dX4_isWell_81 : decode cX4_isWell 81 = .ok (.iload 4, 2) := by decide +kernel
theorem dX4_isWell_83 : decode cX4_isWell 83 = .ok (.laload, 1) := by decide +kernel
theorem dX4_isWell_84 : decode cX4_isWell 84 = .ok (.lload 5, 2) := by decide +kernel
theorem dX4_isWell_86 : decode cX4_isWell 86 = .ok (.land, 1) := by decide +kernel
theorem dX4_isWell_87 : decode cX4_isWell 87 = .ok (.lconst 0, 1) := by decide +kernel
theorem dX4_isWell_88 : decode cX4_isWell 88 = .ok (.lcmp, 1) := by decide +kernel
theorem dX4_isWell_89 : decode cX4_isWell 89 = .ok (.ifCond .ne 59, 3) := by decide +kernel
theorem dX4_isWell_92 : decode cX4_isWell 92 = .ok (.aload_n 0, 1) := by decide +kernel
theorem dX4_isWell_93 : decode cX4_isWell 93 = .ok (.getfield 15, 3) := by decide +kernel
theorem dX4_isWell_96 : decode cX4_isWell 96 = .ok (.iload 4, 2) := by decide +kernel
theorem dX4_isWell_98 : decode cX4_isWell 98 = .ok (.dup2, 1) := by decide +kernel
theorem dX4_isWell_99 : decode cX4_isWell 99 = .ok (.laload, 1) := by decide +kernel
theorem dX4_isWell_100 : decode cX4_isWell 100 = .ok (.lload 5, 2) := by decide +kernel
theorem dX4_isWell_102 : decode cX4_isWell 102 = .ok (.lor, 1) := by decide +kernel
theorem dX4_isWell_103 : decode cX4_isWell 103 = .ok (.lastore, 1) := by decide +kernel
theorem dX4_isWell_104 : decode cX4_isWell 104 = .ok (.aload_n 0, 1) := by decide +kernel
theorem dX4_isWell_105 : decode cX4_isWell 105 = .ok (.getfield 19, 3) := by decide +kernel
theorem dX4_isWell_108 : decode cX4_isWell 108 = .ok (.iload 4, 2) := by decide +kernel
theorem dX4_isWell_110 : decode cX4_isWell 110 = .ok (.aload_n 0, 1) := by decide +kernel
theorem dX4_isWell_111 : decode cX4_isWell 111 = .ok (.iload_n 1, 1) := by decide +kernel
theorem dX4_isWell_112 : decode cX4_isWell 112 = .ok (.iconst 0, 1) := by decide +kernel
theorem dX4_isWell_113 : decode cX4_isWell 113 = .ok (.iload_n 2, 1) := by decide +kernel
theorem dX4_isWell_114 : decode cX4_isWell 114 = .ok (.invokevirtual 45, 3) := by decide +kernel
theorem dX4_isWell_117 : decode cX4_isWell 117 = .ok (.ifCond .eq 16, 3) := by decide +kernel
theorem dX4_isWell_120 : decode cX4_isWell 120 = .ok (.aload_n 0, 1) := by decide +kernel
theorem dX4_isWell_121 : decode cX4_isWell 121 = .ok (.getfield 19, 3) := by decide +kernel
theorem dX4_isWell_124 : decode cX4_isWell 124 = .ok (.iload 4, 2) := by decide +kernel
theorem dX4_isWell_126 : decode cX4_isWell 126 = .ok (.laload, 1) := by decide +kernel
theorem dX4_isWell_127 : decode cX4_isWell 127 = .ok (.lload 5, 2) := by decide +kernel
theorem dX4_isWell_129 : decode cX4_isWell 129 = .ok (.lor, 1) := by decide +kernel
theorem dX4_isWell_130 : decode cX4_isWell 130 = .ok (.goto 17, 3) := by decide +kernel
end
section
theorem dX4_isWell_133 : decode cX4_isWell 133 = .ok (.aload_n 0, 1) := by decide +kernel
theorem dX4_isWell_134 : decode cX4_isWell 134 = .ok (.getfield 19, 3) := by decide +kernel
theorem dX4_isWell_137 : decode cX4_isWell 137 = .ok (.iload 4, 2) := by decide +kernel
theorem dX4_isWell_139 : decode cX4_isWell 139 = .ok (.laload, 1) := by decide +kernel
theorem dX4_isWell_140 : decode cX4_isWell 140 = .ok (.lload 5, 2) := by decide +kernel
theorem dX4_isWell_142 : decode cX4_isWell 142 = .ok (.ldc2_w 49, 3) := by decide +kernel
theorem dX4_isWell_145 : decode cX4_isWell 145 = .ok (.lxor, 1) := by decide +kernel
theorem dX4_isWell_146 : decode cX4_isWell 146 = .ok (.land, 1) := by decide +kernel
theorem dX4_isWell_147 : decode cX4_isWell 147 = .ok (.lastore, 1) := by decide +kernel
theorem dX4_isWell_148 : decode cX4_isWell 148 = .ok (.aload_n 0, 1) := by decide +kernel
theorem dX4_isWell_149 : decode cX4_isWell 149 = .ok (.getfield 19, 3) := by decide +kernel
theorem dX4_isWell_152 : decode cX4_isWell 152 = .ok (.iload 4, 2) := by decide +kernel
theorem dX4_isWell_154 : decode cX4_isWell 154 = .ok (.laload, 1) := by decide +kernel
theorem dX4_isWell_155 : decode cX4_isWell 155 = .ok (.lload 5, 2) := by decide +kernel
theorem dX4_isWell_157 : decode cX4_isWell 157 = .ok (.land, 1) := by decide +kernel
theorem dX4_isWell_158 : decode cX4_isWell 158 = .ok (.lconst 0, 1) := by decide +kernel
theorem dX4_isWell_159 : decode cX4_isWell 159 = .ok (.lcmp, 1) := by decide +kernel
theorem dX4_isWell_160 : decode cX4_isWell 160 = .ok (.ifCond .eq 7, 3) := by decide +kernel
theorem dX4_isWell_163 : decode cX4_isWell 163 = .ok (.iconst 1, 1) := by decide +kernel
theorem dX4_isWell_164 : decode cX4_isWell 164 = .ok (.goto 4, 3) := by decide +kernel
theorem dX4_isWell_167 : decode cX4_isWell 167 = .ok (.iconst 0, 1) := by decide +kernel
theorem dX4_isWell_168 : decode cX4_isWell 168 = .ok (.ireturn, 1) := by decide +kernel
theorem dX4_isOdd_0 : decode cX4_isOdd 0 = .ok (.iconst 0, 1) := by decide +kernel
theorem dX4_isOdd_1 : decode cX4_isOdd 1 = .ok (.istore 4, 2) := by decide +kernel
theorem dX4_isOdd_3 : decode cX4_isOdd 3 = .ok (.iload 4, 2) := by decide +kernel
theorem dX4_isOdd_5 : decode cX4_isOdd 5 = .ok (.iconst 5, 1) := by decide +kernel
theorem dX4_isOdd_6 : decode cX4_isOdd 6 = .ok (.if_icmp .ge 26, 3) := by decide +kernel
theorem dX4_isOdd_9 : decode cX4_isOdd 9 = .ok (.aload_n 0, 1) := by decide +kernel
theorem dX4_isOdd_10 : decode cX4_isOdd 10 = .ok (.getfield 9, 3) := by decide +kernel
theorem dX4_isOdd_13 : decode cX4_isOdd 13 = .ok (.iload 4, 2) := by decide +kernel
theorem dX4_isOdd_15 : decode cX4_isOdd 15 = .ok (.aload_n 0, 1) := by decide +kernel
theorem dX4_isOdd_16 : decode cX4_isOdd 16 = .ok (.getfield 26, 3) := by decide +kernel
theorem dX4_isOdd_19 : decode cX4_isOdd 19 = .ok (.iload_n 1, 1) := by decide +kernel
theorem dX4_isOdd_20 : decode cX4_isOdd 20 = .ok (.iload 4, 2) := by decide +kernel
theorem dX4_isOdd_22 : decode cX4_isOdd 22 = .ok (.invokevirtual 51, 3) := by decide +kernel
theorem dX4_isOdd_25 : decode cX4_isOdd 25 = .ok (.iastore, 1) := by decide +kernel
theorem dX4_isOdd_26 : decode cX4_isOdd 26 = .ok (.iinc 4 1, 3) := by decide +kernel
theorem dX4_isOdd_29 : decode cX4_isOdd 29 = .ok (.goto (-26), 3) := by decide +kernel
theorem dX4_isOdd_32 : decode cX4_isOdd 32 = .ok (.aload_n 0, 1) := by decide +kernel
theorem dX4_isOdd_33 : decode cX4_isOdd 33 = .ok (.getfield 9, 3) := by decide +kernel
theorem dX4_isOdd_36 : decode cX4_isOdd 36 = .ok (.iconst 0, 1) := by decide +kernel
theorem dX4_isOdd_37 : decode cX4_isOdd 37 = .ok (.dup2, 1) := by decide +kernel
theorem dX4_isOdd_38 : decode cX4_isOdd 38 = .ok (.iaload, 1) := by decide +kernel
theorem dX4_isOdd_39 : decode cX4_isOdd 39 = .ok (.iload_n 2, 1) := by decide +kernel
theorem dX4_isOdd_40 : decode cX4_isOdd 40 = .ok (.iadd, 1) := by decide +kernel
theorem dX4_isOdd_41 : decode cX4_isOdd 41 = .ok (.iastore, 1) := by decide +kernel
theorem dX4_isOdd_42 : decode cX4_isOdd 42 = .ok (.aload_n 0, 1) := by decide +kernel
theorem dX4_isOdd_43 : decode cX4_isOdd 43 = .ok (.getfield 30, 3) := by decide +kernel
theorem dX4_isOdd_46 : decode cX4_isOdd 46 = .ok (.aload_n 0, 1) := by decide +kernel
theorem dX4_isOdd_47 : decode cX4_isOdd 47 = .ok (.getfield 9, 3) := by decide +kernel
theorem dX4_isOdd_50 : decode cX4_isOdd 50 = .ok (.iload_n 3, 1) := by decide +kernel
theorem dX4_isOdd_51 : decode cX4_isOdd 51 = .ok (.invokevirtual 57, 3) := by decide +kernel
theorem dX4_isOdd_54 : decode cX4_isOdd 54 = .ok (.lconst 1, 1) := by decide +kernel
theorem dX4_isOdd_55 : decode cX4_isOdd 55 = .ok (.land, 1) := by decide +kernel
theorem dX4_isOdd_56 : decode cX4_isOdd 56 = .ok (.lconst 0, 1) := by decide +kernel
theorem dX4_isOdd_57 : decode cX4_isOdd 57 = .ok (.lcmp, 1) := by decide +kernel
theorem dX4_isOdd_58 : decode cX4_isOdd 58 = .ok (.ifCond .eq 7, 3) := by decide +kernel
theorem dX4_isOdd_61 : decode cX4_isOdd 61 = .ok (.iconst 1, 1) := by decide +kernel
theorem dX4_isOdd_62 : decode cX4_isOdd 62 = .ok (.goto 4, 3) := by decide +kernel
theorem dX4_isOdd_65 : decode cX4_isOdd 65 = .ok (.iconst 0, 1) := by decide +kernel
theorem dX4_isOdd_66 : decode cX4_isOdd 66 = .ok (.ireturn, 1) := by decide +kernel
theorem dX5_init_0 : decode cX5_init 0 = .ok (.aload_n 0, 1) := by decide +kernel
theorem dX5_init_1 : decode cX5_init 1 = .ok (.invokespecial 3, 3) := by decide +kernel
theorem dX5_init_4 : decode cX5_init 4 = .ok (.aload_n 0, 1) := by decide +kernel
theorem dX5_init_5 : decode cX5_init 5 = .ok (.bipush 8, 2) := by decide +kernel
theorem dX5_init_7 : decode cX5_init 7 = .ok (.newarray .int, 2) := by decide +kernel
theorem dX5_init_9 : decode cX5_init 9 = .ok (.putfield 9, 3) := by decide +kernel
theorem dX5_init_12 : decode cX5_init 12 = .ok (.aload_n 0, 1) := by decide +kernel
theorem dX5_init_13 : decode cX5_init 13 = .ok (.bipush 8, 2) := by decide +kernel
theorem dX5_init_15 : decode cX5_init 15 = .ok (.newarray .int, 2) := by decide +kernel
theorem dX5_init_17 : decode cX5_init 17 = .ok (.putfield 15, 3) := by decide +kernel
theorem dX5_init_20 : decode cX5_init 20 = .ok (.aload_n 0, 1) := by decide +kernel
theorem dX5_init_21 : decode cX5_init 21 = .ok (.bipush 8, 2) := by decide +kernel
theorem dX5_init_23 : decode cX5_init 23 = .ok (.newarray .int, 2) := by decide +kernel
theorem dX5_init_25 : decode cX5_init 25 = .ok (.putfield 18, 3) := by decide +kernel
theorem dX5_init_28 : decode cX5_init 28 = .ok (.aload_n 0, 1) := by decide +kernel
theorem dX5_init_29 : decode cX5_init 29 = .ok (.bipush 8, 2) := by decide +kernel
theorem dX5_init_31 : decode cX5_init 31 = .ok (.newarray .int, 2) := by decide +kernel
theorem dX5_init_33 : decode cX5_init 33 = .ok (.putfield 21, 3) := by decide +kernel
theorem dX5_init_36 : decode cX5_init 36 = .ok (.aload_n 0, 1) := by decide +kernel
theorem dX5_init_37 : decode cX5_init 37 = .ok (.iconst 0, 1) := by decide +kernel
theorem dX5_init_38 : decode cX5_init 38 = .ok (.putfield 24, 3) := by decide +kernel
theorem dX5_init_41 : decode cX5_init 41 = .ok (.aload_n 0, 1) := by decide +kernel
theorem dX5_init_42 : decode cX5_init 42 = .ok (.iconst 0, 1) := by decide +kernel
theorem dX5_init_43 : decode cX5_init 43 = .ok (.putfield 28, 3) := by decide +kernel
theorem dX5_init_46 : decode cX5_init 46 = .ok (.aload_n 0, 1) := by decide +kernel
theorem dX5_init_47 : decode cX5_init 47 = .ok (.iconst 3, 1) := by decide +kernel
theorem dX5_init_48 : decode cX5_init 48 = .ok (.putfield 31, 3) := by decide +kernel
theorem dX5_init_51 : decode cX5_init 51 = .ok (.aload_n 0, 1) := by decide +kernel
theorem dX5_init_52 : decode cX5_init 52 = .ok (.bipush 40, 2) := by decide +kernel
theorem dX5_init_54 : decode cX5_init 54 = .ok (.newarray .char, 2) := by decide +kernel
theorem dX5_init_56 : decode cX5_init 56 = .ok (.putfield 34, 3) := by decide +kernel
theorem dX5_init_59 : decode cX5_init 59 = .ok (.aload_n 0, 1) := by decide +kernel
theorem dX5_init_60 : decode cX5_init 60 = .ok (.iconst 0, 1) := by decide +kernel
theorem dX5_init_61 : decode cX5_init 61 = .ok (.putfield 38, 3) := by decide +kernel
theorem dX5_init_64 : decode cX5_init 64 = .ok (.aload_n 0, 1) := by decide +kernel
theorem dX5_init_65 : decode cX5_init 65 = .ok (.bipush 8, 2) := by decide +kernel
theorem dX5_init_67 : decode cX5_init 67 = .ok (.newarray .int, 2) := by decide +kernel
theorem dX5_init_69 : decode cX5_init 69 = .ok (.putfield 41, 3) := by decide +kernel
theorem dX5_init_72 : decode cX5_init 72 = .ok (.aload_n 0, 1) := by decide +kernel
theorem dX5_init_73 : decode cX5_init 73 = .ok (.bipush 8, 2) := by decide +kernel
theorem dX5_init_75 : decode cX5_init 75 = .ok (.newarray .int, 2) := by decide +kernel
theorem dX5_init_77 : decode cX5_init 77 = .ok (.putfield 44, 3) := by decide +kernel
theorem dX5_init_80 : decode cX5_init 80 = .ok (.aload_n 0, 1) := by decide +kernel
theorem dX5_init_81 : decode cX5_init 81 = .ok (.bipush 8, 2) := by decide +kernel
theorem dX5_init_83 : decode cX5_init 83 = .ok (.newarray .int, 2) := by decide +kernel
theorem dX5_init_85 : decode cX5_init 85 = .ok (.putfield 47, 3) := by decide +kernel
theorem dX5_init_88 : decode cX5_init 88 = .ok (.aload_n 0, 1) := by decide +kernel
theorem dX5_init_89 : decode cX5_init 89 = .ok (.iconst 0, 1) := by decide +kernel
theorem dX5_init_90 : decode cX5_init 90 = .ok (.putfield 50, 3) := by decide +kernel
theorem dX5_init_93 : decode cX5_init 93 = .ok (.return_, 1) := by decide +kernel
theorem dX5_addWalker_0 : decode cX5_addWalker 0 = .ok (.aload_n 0, 1) := by decide +kernel
theorem dX5_addWalker_1 : decode cX5_addWalker 1 = .ok (.getfield 24, 3) := by decide +kernel
theorem dX5_addWalker_4 : decode cX5_addWalker 4 = .ok (.bipush 8, 2) := by decide +kernel
theorem dX5_addWalker_6 : decode cX5_addWalker 6 = .ok (.if_icmp .ge 54, 3) := by decide +kernel
theorem dX5_addWalker_9 : decode cX5_addWalker 9 = .ok (.aload_n 0, 1) := by decide +kernel
theorem dX5_addWalker_10 : decode cX5_addWalker 10 = .ok (.getfield 9, 3) := by decide +kernel
theorem dX5_addWalker_13 : decode cX5_addWalker 13 = .ok (.aload_n 0, 1) := by decide +kernel
theorem dX5_addWalker_14 : decode cX5_addWalker 14 = .ok (.getfield 24, 3) := by decide +kernel
theorem dX5_addWalker_17 : decode cX5_addWalker 17 = .ok (.iload_n 1, 1) := by decide +kernel
theorem dX5_addWalker_18 : decode cX5_addWalker 18 = .ok (.iastore, 1) := by decide +kernel
theorem dX5_addWalker_19 : decode cX5_addWalker 19 = .ok (.aload_n 0, 1) := by decide +kernel
theorem dX5_addWalker_20 : decode cX5_addWalker 20 = .ok (.getfield 15, 3) := by decide +kernel
theorem dX5_addWalker_23 : decode cX5_addWalker 23 = .ok (.aload_n 0, 1) := by decide +kernel
theorem dX5_addWalker_24 : decode cX5_addWalker 24 = .ok (.getfield 24, 3) := by decide +kernel
theorem dX5_addWalker_27 : decode cX5_addWalker 27 = .ok (.iload_n 2, 1) := by decide +kernel
theorem dX5_addWalker_28 : decode cX5_addWalker 28 = .ok (.iastore, 1) := by decide +kernel
theorem dX5_addWalker_29 : decode cX5_addWalker 29 = .ok (.aload_n 0, 1) := by decide +kernel
theorem dX5_addWalker_30 : decode cX5_addWalker 30 = .ok (.getfield 18, 3) := by decide +kernel
theorem dX5_addWalker_33 : decode cX5_addWalker 33 = .ok (.aload_n 0, 1) := by decide +kernel
theorem dX5_addWalker_34 : decode cX5_addWalker 34 = .ok (.getfield 24, 3) := by decide +kernel
theorem dX5_addWalker_37 : decode cX5_addWalker 37 = .ok (.iload_n 3, 1) := by decide +kernel
theorem dX5_addWalker_38 : decode cX5_addWalker 38 = .ok (.iastore, 1) := by decide +kernel
theorem dX5_addWalker_39 : decode cX5_addWalker 39 = .ok (.aload_n 0, 1) := by decide +kernel
theorem dX5_addWalker_40 : decode cX5_addWalker 40 = .ok (.getfield 21, 3) := by decide +kernel
theorem dX5_addWalker_43 : decode cX5_addWalker 43 = .ok (.aload_n 0, 1) := by decide +kernel
theorem dX5_addWalker_44 : decode cX5_addWalker 44 = .ok (.getfield 24, 3) := by decide +kernel
theorem dX5_addWalker_47 : decode cX5_addWalker 47 = .ok (.bipush 10, 2) := by decide +kernel
theorem dX5_addWalker_49 : decode cX5_addWalker 49 = .ok (.iastore, 1) := by decide +kernel
theorem dX5_addWalker_50 : decode cX5_addWalker 50 = .ok (.aload_n 0, 1) := by decide +kernel
theorem dX5_addWalker_51 : decode cX5_addWalker 51 = .ok (.dup, 1) := by decide +kernel
theorem dX5_addWalker_52 : decode cX5_addWalker 52 = .ok (.getfield 24, 3) := by decide +kernel
theorem dX5_addWalker_55 : decode cX5_addWalker 55 = .ok (.iconst 1, 1) := by decide +kernel
theorem dX5_addWalker_56 : decode cX5_addWalker 56 = .ok (.iadd, 1) := by decide +kernel
theorem dX5_addWalker_57 : decode cX5_addWalker 57 = .ok (.putfield 24, 3) := by decide +kernel
theorem dX5_addWalker_60 : decode cX5_addWalker 60 = .ok (.return_, 1) := by decide +kernel
theorem dX5_addLetter_0 : decode cX5_addLetter 0 = .ok (.aload_n 0, 1) := by decide +kernel
theorem dX5_addLetter_1 : decode cX5_addLetter 1 = .ok (.getfield 38, 3) := by decide +kernel
theorem dX5_addLetter_4 : decode cX5_addLetter 4 = .ok (.bipush 40, 2) := by decide +kernel
theorem dX5_addLetter_6 : decode cX5_addLetter 6 = .ok (.if_icmp .ge 23, 3) := by decide +kernel
theorem dX5_addLetter_9 : decode cX5_addLetter 9 = .ok (.aload_n 0, 1) := by decide +kernel
theorem dX5_addLetter_10 : decode cX5_addLetter 10 = .ok (.getfield 34, 3) := by decide +kernel
theorem dX5_addLetter_13 : decode cX5_addLetter 13 = .ok (.aload_n 0, 1) := by decide +kernel
theorem dX5_addLetter_14 : decode cX5_addLetter 14 = .ok (.getfield 38, 3) := by decide +kernel
theorem dX5_addLetter_17 : decode cX5_addLetter 17 = .ok (.iload_n 1, 1) := by decide +kernel
theorem dX5_addLetter_18 : decode cX5_addLetter 18 = .ok (.castore, 1) := by decide +kernel
theorem dX5_addLetter_19 : decode cX5_addLetter 19 = .ok (.aload_n 0, 1) := by decide +kernel
theorem dX5_addLetter_20 : decode cX5_addLetter 20 = .ok (.dup, 1) := by decide +kernel
theorem dX5_addLetter_21 : decode cX5_addLetter 21 = .ok (.getfield 38, 3) := by decide +kernel
theorem dX5_addLetter_24 : decode cX5_addLetter 24 = .ok (.iconst 1, 1) := by decide +kernel
theorem dX5_addLetter_25 : decode cX5_addLetter 25 = .ok (.iadd, 1) := by decide +kernel
theorem dX5_addLetter_26 : decode cX5_addLetter 26 = .ok (.putfield 38, 3) := by decide +kernel
theorem dX5_addLetter_29 : decode cX5_addLetter 29 = .ok (.return_, 1) := by decide +kernel
theorem dX5_addSaid_0 : decode cX5_addSaid 0 = .ok (.aload_n 0, 1) := by decide +kernel
theorem dX5_addSaid_1 : decode cX5_addSaid 1 = .ok (.getfield 50, 3) := by decide +kernel
theorem dX5_addSaid_4 : decode cX5_addSaid 4 = .ok (.bipush 8, 2) := by decide +kernel
theorem dX5_addSaid_6 : decode cX5_addSaid 6 = .ok (.if_icmp .ge 43, 3) := by decide +kernel
theorem dX5_addSaid_9 : decode cX5_addSaid 9 = .ok (.aload_n 0, 1) := by decide +kernel
theorem dX5_addSaid_10 : decode cX5_addSaid 10 = .ok (.getfield 41, 3) := by decide +kernel
theorem dX5_addSaid_13 : decode cX5_addSaid 13 = .ok (.aload_n 0, 1) := by decide +kernel
theorem dX5_addSaid_14 : decode cX5_addSaid 14 = .ok (.getfield 50, 3) := by decide +kernel
theorem dX5_addSaid_17 : decode cX5_addSaid 17 = .ok (.iload_n 1, 1) := by decide +kernel
theorem dX5_addSaid_18 : decode cX5_addSaid 18 = .ok (.iastore, 1) := by decide +kernel
theorem dX5_addSaid_19 : decode cX5_addSaid 19 = .ok (.aload_n 0, 1) := by decide +kernel
theorem dX5_addSaid_20 : decode cX5_addSaid 20 = .ok (.getfield 44, 3) := by decide +kernel
theorem dX5_addSaid_23 : decode cX5_addSaid 23 = .ok (.aload_n 0, 1) := by decide +kernel
theorem dX5_addSaid_24 : decode cX5_addSaid 24 = .ok (.getfield 50, 3) := by decide +kernel
theorem dX5_addSaid_27 : decode cX5_addSaid 27 = .ok (.iload_n 2, 1) := by decide +kernel
theorem dX5_addSaid_28 : decode cX5_addSaid 28 = .ok (.iastore, 1) := by decide +kernel
theorem dX5_addSaid_29 : decode cX5_addSaid 29 = .ok (.aload_n 0, 1) := by decide +kernel
theorem dX5_addSaid_30 : decode cX5_addSaid 30 = .ok (.getfield 47, 3) := by decide +kernel
theorem dX5_addSaid_33 : decode cX5_addSaid 33 = .ok (.aload_n 0, 1) := by decide +kernel
theorem dX5_addSaid_34 : decode cX5_addSaid 34 = .ok (.getfield 50, 3) := by decide +kernel
theorem dX5_addSaid_37 : decode cX5_addSaid 37 = .ok (.iload_n 3, 1) := by decide +kernel
theorem dX5_addSaid_38 : decode cX5_addSaid 38 = .ok (.iastore, 1) := by decide +kernel
theorem dX5_addSaid_39 : decode cX5_addSaid 39 = .ok (.aload_n 0, 1) := by decide +kernel
theorem dX5_addSaid_40 : decode cX5_addSaid 40 = .ok (.dup, 1) := by decide +kernel
theorem dX5_addSaid_41 : decode cX5_addSaid 41 = .ok (.getfield 50, 3) := by decide +kernel
theorem dX5_addSaid_44 : decode cX5_addSaid 44 = .ok (.iconst 1, 1) := by decide +kernel
theorem dX5_addSaid_45 : decode cX5_addSaid 45 = .ok (.iadd, 1) := by decide +kernel
theorem dX5_addSaid_46 : decode cX5_addSaid 46 = .ok (.putfield 50, 3) := by decide +kernel
theorem dX5_addSaid_49 : decode cX5_addSaid 49 = .ok (.return_, 1) := by decide +kernel
theorem dX5_become_0 : decode cX5_become 0 = .ok (.aload_n 1, 1) := by decide +kernel
theorem dX5_become_1 : decode cX5_become 1 = .ok (.getfield 9, 3) := by decide +kernel
theorem dX5_become_4 : decode cX5_become 4 = .ok (.iconst 0, 1) := by decide +kernel
theorem dX5_become_5 : decode cX5_become 5 = .ok (.aload_n 0, 1) := by decide +kernel
theorem dX5_become_6 : decode cX5_become 6 = .ok (.getfield 9, 3) := by decide +kernel
theorem dX5_become_9 : decode cX5_become 9 = .ok (.iconst 0, 1) := by decide +kernel
theorem dX5_become_10 : decode cX5_become 10 = .ok (.bipush 8, 2) := by decide +kernel
theorem dX5_become_12 : decode cX5_become 12 = .ok (.invokestatic 53, 3) := by decide +kernel
theorem dX5_become_15 : decode cX5_become 15 = .ok (.aload_n 1, 1) := by decide +kernel
theorem dX5_become_16 : decode cX5_become 16 = .ok (.getfield 15, 3) := by decide +kernel
theorem dX5_become_19 : decode cX5_become 19 = .ok (.iconst 0, 1) := by decide +kernel
theorem dX5_become_20 : decode cX5_become 20 = .ok (.aload_n 0, 1) := by decide +kernel
theorem dX5_become_21 : decode cX5_become 21 = .ok (.getfield 15, 3) := by decide +kernel
theorem dX5_become_24 : decode cX5_become 24 = .ok (.iconst 0, 1) := by decide +kernel
theorem dX5_become_25 : decode cX5_become 25 = .ok (.bipush 8, 2) := by decide +kernel
theorem dX5_become_27 : decode cX5_become 27 = .ok (.invokestatic 53, 3) := by decide +kernel
theorem dX5_become_30 : decode cX5_become 30 = .ok (.aload_n 1, 1) := by decide +kernel
theorem dX5_become_31 : decode cX5_become 31 = .ok (.getfield 18, 3) := by decide +kernel
theorem dX5_become_34 : decode cX5_become 34 = .ok (.iconst 0, 1) := by decide +kernel
theorem dX5_become_35 : decode cX5_become 35 = .ok (.aload_n 0, 1) := by decide +kernel
theorem dX5_become_36 : decode cX5_become 36 = .ok (.getfield 18, 3) := by decide +kernel
theorem dX5_become_39 : decode cX5_become 39 = .ok (.iconst 0, 1) := by decide +kernel
theorem dX5_become_40 : decode cX5_become 40 = .ok (.bipush 8, 2) := by decide +kernel
theorem dX5_become_42 : decode cX5_become 42 = .ok (.invokestatic 53, 3) := by decide +kernel
theorem dX5_become_45 : decode cX5_become 45 = .ok (.aload_n 1, 1) := by decide +kernel
theorem dX5_become_46 : decode cX5_become 46 = .ok (.getfield 21, 3) := by decide +kernel
theorem dX5_become_49 : decode cX5_become 49 = .ok (.iconst 0, 1) := by decide +kernel
theorem dX5_become_50 : decode cX5_become 50 = .ok (.aload_n 0, 1) := by decide +kernel
theorem dX5_become_51 : decode cX5_become 51 = .ok (.getfield 21, 3) := by decide +kernel
theorem dX5_become_54 : decode cX5_become 54 = .ok (.iconst 0, 1) := by decide +kernel
theorem dX5_become_55 : decode cX5_become 55 = .ok (.bipush 8, 2) := by decide +kernel
theorem dX5_become_57 : decode cX5_become 57 = .ok (.invokestatic 53, 3) := by decide +kernel
theorem dX5_become_60 : decode cX5_become 60 = .ok (.aload_n 0, 1) := by decide +kernel
theorem dX5_become_61 : decode cX5_become 61 = .ok (.aload_n 1, 1) := by decide +kernel
theorem dX5_become_62 : decode cX5_become 62 = .ok (.getfield 24, 3) := by decide +kernel
theorem dX5_become_65 : decode cX5_become 65 = .ok (.putfield 24, 3) := by decide +kernel
theorem dX5_become_68 : decode cX5_become 68 = .ok (.aload_n 0, 1) := by decide +kernel
theorem dX5_become_69 : decode cX5_become 69 = .ok (.aload_n 1, 1) := by decide +kernel
theorem dX5_become_70 : decode cX5_become 70 = .ok (.getfield 28, 3) := by decide +kernel
theorem dX5_become_73 : decode cX5_become 73 = .ok (.putfield 28, 3) := by decide +kernel
theorem dX5_become_76 : decode cX5_become 76 = .ok (.aload_n 0, 1) := by decide +kernel
theorem dX5_become_77 : decode cX5_become 77 = .ok (.aload_n 1, 1) := by decide +kernel
theorem dX5_become_78 : decode cX5_become 78 = .ok (.getfield 31, 3) := by decide +kernel
theorem dX5_become_81 : decode cX5_become 81 = .ok (.putfield 31, 3) := by decide +kernel
theorem dX5_become_84 : decode cX5_become 84 = .ok (.aload_n 1, 1) := by decide +kernel
theorem dX5_become_85 : decode cX5_become 85 = .ok (.getfield 34, 3) := by decide +kernel
theorem dX5_become_88 : decode cX5_become 88 = .ok (.iconst 0, 1) := by decide +kernel
theorem dX5_become_89 : decode cX5_become 89 = .ok (.aload_n 0, 1) := by decide +kernel
theorem dX5_become_90 : decode cX5_become 90 = .ok (.getfield 34, 3) := by decide +kernel
theorem dX5_become_93 : decode cX5_become 93 = .ok (.iconst 0, 1) := by decide +kernel
theorem dX5_become_94 : decode cX5_become 94 = .ok (.bipush 40, 2) := by decide +kernel
theorem dX5_become_96 : decode cX5_become 96 = .ok (.invokestatic 53, 3) := by decide +kernel
theorem dX5_become_99 : decode cX5_become 99 = .ok (.aload_n 0, 1) := by decide +kernel
theorem dX5_become_100 : decode cX5_become 100 = .ok (.aload_n 1, 1) := by decide +kernel
theorem dX5_become_101 : decode cX5_become 101 = .ok (.getfield 38, 3) := by decide +kernel
theorem dX5_become_104 : decode cX5_become 104 = .ok (.putfield 38, 3) := by decide +kernel
theorem dX5_become_107 : decode cX5_become 107 = .ok (.aload_n 1, 1) := by decide +kernel
theorem dX5_become_108 : decode cX5_become 108 = .ok (.getfield 41, 3) := by decide +kernel
theorem dX5_become_111 : decode cX5_become 111 = .ok (.iconst 0, 1) := by decide +kernel
theorem dX5_become_112 : decode cX5_become 112 = .ok (.aload_n 0, 1) := by decide +kernel
theorem dX5_become_113 : decode cX5_become 113 = .ok (.getfield 41, 3) := by decide +kernel
theorem dX5_become_116 : decode cX5_become 116 = .ok (.iconst 0, 1) := by decide +kernel
theorem dX5_become_117 : decode cX5_become 117 = .ok (.bipush 8, 2) := by decide +kernel
theorem dX5_become_119 : decode cX5_become 119 = .ok (.invokestatic 53, 3) := by decide +kernel
theorem dX5_become_122 : decode cX5_become 122 = .ok (.aload_n 1, 1) := by decide +kernel
theorem dX5_become_123 : decode cX5_become 123 = .ok (.getfield 44, 3) := by decide +kernel
theorem dX5_become_126 : decode cX5_become 126 = .ok (.iconst 0, 1) := by decide +kernel
theorem dX5_become_127 : decode cX5_become 127 = .ok (.aload_n 0, 1) := by decide +kernel
theorem dX5_become_128 : decode cX5_become 128 = .ok (.getfield 44, 3) := by decide +kernel
theorem dX5_become_131 : decode cX5_become 131 = .ok (.iconst 0, 1) := by decide +kernel
theorem dX5_become_132 : decode cX5_become 132 = .ok (.bipush 8, 2) := by decide +kernel
theorem dX5_become_134 : decode cX5_become 134 = .ok (.invokestatic 53, 3) := by decide +kernel
theorem dX5_become_137 : decode cX5_become 137 = .ok (.aload_n 1, 1) := by decide +kernel
theorem dX5_become_138 : decode cX5_become 138 = .ok (.getfield 47, 3) := by decide +kernel
theorem dX5_become_141 : decode cX5_become 141 = .ok (.iconst 0, 1) := by decide +kernel
theorem dX5_become_142 : decode cX5_become 142 = .ok (.aload_n 0, 1) := by decide +kernel
theorem dX5_become_143 : decode cX5_become 143 = .ok (.getfield 47, 3) := by decide +kernel
theorem dX5_become_146 : decode cX5_become 146 = .ok (.iconst 0, 1) := by decide +kernel
theorem dX5_become_147 : decode cX5_become 147 = .ok (.bipush 8, 2) := by decide +kernel
theorem dX5_become_149 : decode cX5_become 149 = .ok (.invokestatic 53, 3) := by decide +kernel
theorem dX5_become_152 : decode cX5_become 152 = .ok (.aload_n 0, 1) := by decide +kernel
theorem dX5_become_153 : decode cX5_become 153 = .ok (.aload_n 1, 1) := by decide +kernel
theorem dX5_become_154 : decode cX5_become 154 = .ok (.getfield 50, 3) := by decide +kernel
theorem dX5_become_157 : decode cX5_become 157 = .ok (.putfield 50, 3) := by decide +kernel
theorem dX5_become_160 : decode cX5_become 160 = .ok (.return_, 1) := by decide +kernel
theorem dX5_sumBrought_0 : decode cX5_sumBrought 0 = .ok (.iconst 0, 1) := by decide +kernel
theorem dX5_sumBrought_1 : decode cX5_sumBrought 1 = .ok (.istore_n 3, 1) := by decide +kernel
theorem dX5_sumBrought_2 : decode cX5_sumBrought 2 = .ok (.iconst 0, 1) := by decide +kernel
theorem dX5_sumBrought_3 : decode cX5_sumBrought 3 = .ok (.istore 4, 2) := by decide +kernel
theorem dX5_sumBrought_5 : decode cX5_sumBrought 5 = .ok (.iload 4, 2) := by decide +kernel
theorem dX5_sumBrought_7 : decode cX5_sumBrought 7 = .ok (.aload_n 0, 1) := by decide +kernel
theorem dX5_sumBrought_8 : decode cX5_sumBrought 8 = .ok (.getfield 24, 3) := by decide +kernel
theorem dX5_sumBrought_11 : decode cX5_sumBrought 11 = .ok (.if_icmp .ge 61, 3) := by decide +kernel
theorem dX5_sumBrought_14 : decode cX5_sumBrought 14 = .ok (.iload 4, 2) := by decide +kernel
theorem dX5_sumBrought_16 : decode cX5_sumBrought 16 = .ok (.bipush 8, 2) := by decide +kernel
theorem dX5_sumBrought_18 : decode cX5_sumBrought 18 = .ok (.if_icmp .ge 54, 3) := by decide +kernel
theorem dX5_sumBrought_21 : decode cX5_sumBrought 21 = .ok (.aload_n 0, 1) := by decide +kernel
theorem dX5_sumBrought_22 : decode cX5_sumBrought 22 = .ok (.getfield 9, 3) := by decide +kernel
theorem dX5_sumBrought_25 : decode cX5_sumBrought 25 = .ok (.iload 4, 2) := by decide +kernel
theorem dX5_sumBrought_27 : decode cX5_sumBrought 27 = .ok (.iaload, 1) := by decide +kernel
theorem dX5_sumBrought_28 : decode cX5_sumBrought 28 = .ok (.iconst 5, 1) := by decide +kernel
theorem dX5_sumBrought_29 : decode cX5_sumBrought 29 = .ok (.imul, 1) := by decide +kernel
theorem dX5_sumBrought_30 : decode cX5_sumBrought 30 = .ok (.iload_n 2, 1) := by decide +kernel
theorem dX5_sumBrought_31 : decode cX5_sumBrought 31 = .ok (.iadd, 1) := by decide +kernel
theorem dX5_sumBrought_32 : decode cX5_sumBrought 32 = .ok (.istore 5, 2) := by decide +kernel
theorem dX5_sumBrought_34 : decode cX5_sumBrought 34 = .ok (.iload_n 1, 1) := by decide +kernel
theorem dX5_sumBrought_35 : decode cX5_sumBrought 35 = .ok (.iload 4, 2) := by decide +kernel
theorem dX5_sumBrought_37 : decode cX5_sumBrought 37 = .ok (.invokestatic 59, 3) := by decide +kernel
theorem dX5_sumBrought_40 : decode cX5_sumBrought 40 = .ok (.ifCond .eq 26, 3) := by decide +kernel
theorem dX5_sumBrought_43 : decode cX5_sumBrought 43 = .ok (.iload 5, 2) := by decide +kernel
theorem dX5_sumBrought_45 : decode cX5_sumBrought 45 = .ok (.ifCond .lt 21, 3) := by decide +kernel
theorem dX5_sumBrought_48 : decode cX5_sumBrought 48 = .ok (.iload 5, 2) := by decide +kernel
theorem dX5_sumBrought_50 : decode cX5_sumBrought 50 = .ok (.getstatic 63, 3) := by decide +kernel
theorem dX5_sumBrought_53 : decode cX5_sumBrought 53 = .ok (.arraylength, 1) := by decide +kernel
theorem dX5_sumBrought_54 : decode cX5_sumBrought 54 = .ok (.if_icmp .ge 12, 3) := by decide +kernel
theorem dX5_sumBrought_57 : decode cX5_sumBrought 57 = .ok (.iload_n 3, 1) := by decide +kernel
theorem dX5_sumBrought_58 : decode cX5_sumBrought 58 = .ok (.getstatic 63, 3) := by decide +kernel
theorem dX5_sumBrought_61 : decode cX5_sumBrought 61 = .ok (.iload 5, 2) := by decide +kernel
theorem dX5_sumBrought_63 : decode cX5_sumBrought 63 = .ok (.iaload, 1) := by decide +kernel
theorem dX5_sumBrought_64 : decode cX5_sumBrought 64 = .ok (.iadd, 1) := by decide +kernel
theorem dX5_sumBrought_65 : decode cX5_sumBrought 65 = .ok (.istore_n 3, 1) := by decide +kernel
theorem dX5_sumBrought_66 : decode cX5_sumBrought 66 = .ok (.iinc 4 1, 3) := by decide +kernel
theorem dX5_sumBrought_69 : decode cX5_sumBrought 69 = .ok (.goto (-64), 3) := by decide +kernel
theorem dX5_sumBrought_72 : decode cX5_sumBrought 72 = .ok (.iload_n 3, 1) := by decide +kernel
theorem dX5_sumBrought_73 : decode cX5_sumBrought 73 = .ok (.ireturn, 1) := by decide +kernel
theorem dX5_addedTo_0 : decode cX5_addedTo 0 = .ok (.ldc2_w 66, 3) := by decide +kernel
theorem dX5_addedTo_3 : decode cX5_addedTo 3 = .ok (.lload_n 1, 1) := by decide +kernel
theorem dX5_addedTo_4 : decode cX5_addedTo 4 = .ok (.lmul, 1) := by decide +kernel
theorem dX5_addedTo_5 : decode cX5_addedTo 5 = .ok (.aload_n 0, 1) := by decide +kernel
theorem dX5_addedTo_6 : decode cX5_addedTo 6 = .ok (.getfield 24, 3) := by decide +kernel
theorem dX5_addedTo_9 : decode cX5_addedTo 9 = .ok (.i2l, 1) := by decide +kernel
theorem dX5_addedTo_10 : decode cX5_addedTo 10 = .ok (.ladd, 1) := by decide +kernel
theorem dX5_addedTo_11 : decode cX5_addedTo 11 = .ok (.lstore_n 3, 1) := by decide +kernel
theorem dX5_addedTo_12 : decode cX5_addedTo 12 = .ok (.ldc2_w 66, 3) := by decide +kernel
theorem dX5_addedTo_15 : decode cX5_addedTo 15 = .ok (.lload_n 3, 1) := by decide +kernel
theorem dX5_addedTo_16 : decode cX5_addedTo 16 = .ok (.lmul, 1) := by decide +kernel
theorem dX5_addedTo_17 : decode cX5_addedTo 17 = .ok (.aload_n 0, 1) := by decide +kernel
theorem dX5_addedTo_18 : decode cX5_addedTo 18 = .ok (.getfield 38, 3) := by decide +kernel
theorem dX5_addedTo_21 : decode cX5_addedTo 21 = .ok (.i2l, 1) := by decide +kernel
theorem dX5_addedTo_22 : decode cX5_addedTo 22 = .ok (.ladd, 1) := by decide +kernel
theorem dX5_addedTo_23 : decode cX5_addedTo 23 = .ok (.lstore_n 3, 1) := by decide +kernel
theorem dX5_addedTo_24 : decode cX5_addedTo 24 = .ok (.ldc2_w 66, 3) := by decide +kernel
theorem dX5_addedTo_27 : decode cX5_addedTo 27 = .ok (.lload_n 3, 1) := by decide +kernel
theorem dX5_addedTo_28 : decode cX5_addedTo 28 = .ok (.lmul, 1) := by decide +kernel
theorem dX5_addedTo_29 : decode cX5_addedTo 29 = .ok (.aload_n 0, 1) := by decide +kernel
theorem dX5_addedTo_30 : decode cX5_addedTo 30 = .ok (.getfield 50, 3) := by decide +kernel
theorem dX5_addedTo_33 : decode cX5_addedTo 33 = .ok (.i2l, 1) := by decide +kernel
theorem dX5_addedTo_34 : decode cX5_addedTo 34 = .ok (.ladd, 1) := by decide +kernel
theorem dX5_addedTo_35 : decode cX5_addedTo 35 = .ok (.lstore_n 3, 1) := by decide +kernel
theorem dX5_addedTo_36 : decode cX5_addedTo 36 = .ok (.iconst 0, 1) := by decide +kernel
theorem dX5_addedTo_37 : decode cX5_addedTo 37 = .ok (.istore 5, 2) := by decide +kernel
theorem dX5_addedTo_39 : decode cX5_addedTo 39 = .ok (.iload 5, 2) := by decide +kernel
theorem dX5_addedTo_41 : decode cX5_addedTo 41 = .ok (.aload_n 0, 1) := by decide +kernel
theorem dX5_addedTo_42 : decode cX5_addedTo 42 = .ok (.getfield 24, 3) := by decide +kernel
theorem dX5_addedTo_45 : decode cX5_addedTo 45 = .ok (.if_icmp .ge 76, 3) := by decide +kernel
theorem dX5_addedTo_48 : decode cX5_addedTo 48 = .ok (.iload 5, 2) := by decide +kernel
theorem dX5_addedTo_50 : decode cX5_addedTo 50 = .ok (.bipush 8, 2) := by decide +kernel
theorem dX5_addedTo_52 : decode cX5_addedTo 52 = .ok (.if_icmp .ge 69, 3) := by decide +kernel
theorem dX5_addedTo_55 : decode cX5_addedTo 55 = .ok (.ldc2_w 66, 3) := by decide +kernel
theorem dX5_addedTo_58 : decode cX5_addedTo 58 = .ok (.lload_n 3, 1) := by decide +kernel
theorem dX5_addedTo_59 : decode cX5_addedTo 59 = .ok (.lmul, 1) := by decide +kernel
theorem dX5_addedTo_60 : decode cX5_addedTo 60 = .ok (.aload_n 0, 1) := by decide +kernel
theorem dX5_addedTo_61 : decode cX5_addedTo 61 = .ok (.getfield 9, 3) := by decide +kernel
theorem dX5_addedTo_64 : decode cX5_addedTo 64 = .ok (.iload 5, 2) := by decide +kernel
theorem dX5_addedTo_66 : decode cX5_addedTo 66 = .ok (.iaload, 1) := by decide +kernel
theorem dX5_addedTo_67 : decode cX5_addedTo 67 = .ok (.i2l, 1) := by decide +kernel
theorem dX5_addedTo_68 : decode cX5_addedTo 68 = .ok (.ladd, 1) := by decide +kernel
theorem dX5_addedTo_69 : decode cX5_addedTo 69 = .ok (.lstore_n 3, 1) := by decide +kernel
theorem dX5_addedTo_70 : decode cX5_addedTo 70 = .ok (.ldc2_w 66, 3) := by decide +kernel
theorem dX5_addedTo_73 : decode cX5_addedTo 73 = .ok (.lload_n 3, 1) := by decide +kernel
theorem dX5_addedTo_74 : decode cX5_addedTo 74 = .ok (.lmul, 1) := by decide +kernel
theorem dX5_addedTo_75 : decode cX5_addedTo 75 = .ok (.aload_n 0, 1) := by decide +kernel
theorem dX5_addedTo_76 : decode cX5_addedTo 76 = .ok (.getfield 15, 3) := by decide +kernel
theorem dX5_addedTo_79 : decode cX5_addedTo 79 = .ok (.iload 5, 2) := by decide +kernel
theorem dX5_addedTo_81 : decode cX5_addedTo 81 = .ok (.iaload, 1) := by decide +kernel
theorem dX5_addedTo_82 : decode cX5_addedTo 82 = .ok (.i2l, 1) := by decide +kernel
theorem dX5_addedTo_83 : decode cX5_addedTo 83 = .ok (.ladd, 1) := by decide +kernel
theorem dX5_addedTo_84 : decode cX5_addedTo 84 = .ok (.lstore_n 3, 1) := by decide +kernel
theorem dX5_addedTo_85 : decode cX5_addedTo 85 = .ok (.ldc2_w 66, 3) := by decide +kernel
theorem dX5_addedTo_88 : decode cX5_addedTo 88 = .ok (.lload_n 3, 1) := by decide +kernel
theorem dX5_addedTo_89 : decode cX5_addedTo 89 = .ok (.lmul, 1) := by decide +kernel
theorem dX5_addedTo_90 : decode cX5_addedTo 90 = .ok (.aload_n 0, 1) := by decide +kernel
theorem dX5_addedTo_91 : decode cX5_addedTo 91 = .ok (.getfield 18, 3) := by decide +kernel
theorem dX5_addedTo_94 : decode cX5_addedTo 94 = .ok (.iload 5, 2) := by decide +kernel
theorem dX5_addedTo_96 : decode cX5_addedTo 96 = .ok (.iaload, 1) := by decide +kernel
theorem dX5_addedTo_97 : decode cX5_addedTo 97 = .ok (.i2l, 1) := by decide +kernel
theorem dX5_addedTo_98 : decode cX5_addedTo 98 = .ok (.ladd, 1) := by decide +kernel
theorem dX5_addedTo_99 : decode cX5_addedTo 99 = .ok (.lstore_n 3, 1) := by decide +kernel
theorem dX5_addedTo_100 : decode cX5_addedTo 100 = .ok (.ldc2_w 66, 3) := by decide +kernel
theorem dX5_addedTo_103 : decode cX5_addedTo 103 = .ok (.lload_n 3, 1) := by decide +kernel
theorem dX5_addedTo_104 : decode cX5_addedTo 104 = .ok (.lmul, 1) := by decide +kernel
theorem dX5_addedTo_105 : decode cX5_addedTo 105 = .ok (.aload_n 0, 1) := by decide +kernel
theorem dX5_addedTo_106 : decode cX5_addedTo 106 = .ok (.getfield 21, 3) := by decide +kernel
theorem dX5_addedTo_109 : decode cX5_addedTo 109 = .ok (.iload 5, 2) := by decide +kernel
theorem dX5_addedTo_111 : decode cX5_addedTo 111 = .ok (.iaload, 1) := by decide +kernel
theorem dX5_addedTo_112 : decode cX5_addedTo 112 = .ok (.i2l, 1) := by decide +kernel
theorem dX5_addedTo_113 : decode cX5_addedTo 113 = .ok (.ladd, 1) := by decide +kernel
theorem dX5_addedTo_114 : decode cX5_addedTo 114 = .ok (.lstore_n 3, 1) := by decide +kernel
theorem dX5_addedTo_115 : decode cX5_addedTo 115 = .ok (.iinc 5 1, 3) := by decide +kernel
theorem dX5_addedTo_118 : decode cX5_addedTo 118 = .ok (.goto (-79), 3) := by decide +kernel
theorem dX5_addedTo_121 : decode cX5_addedTo 121 = .ok (.ldc2_w 66, 3) := by decide +kernel
theorem dX5_addedTo_124 : decode cX5_addedTo 124 = .ok (.lload_n 3, 1) := by decide +kernel
theorem dX5_addedTo_125 : decode cX5_addedTo 125 = .ok (.lmul, 1) := by decide +kernel
theorem dX5_addedTo_126 : decode cX5_addedTo 126 = .ok (.aload_n 0, 1) := by decide +kernel
theorem dX5_addedTo_127 : decode cX5_addedTo 127 = .ok (.getfield 28, 3) := by decide +kernel
theorem dX5_addedTo_130 : decode cX5_addedTo 130 = .ok (.i2l, 1) := by decide +kernel
theorem dX5_addedTo_131 : decode cX5_addedTo 131 = .ok (.ladd, 1) := by decide +kernel
theorem dX5_addedTo_132 : decode cX5_addedTo 132 = .ok (.lstore_n 3, 1) := by decide +kernel
theorem dX5_addedTo_133 : decode cX5_addedTo 133 = .ok (.ldc2_w 66, 3) := by decide +kernel
theorem dX5_addedTo_136 : decode cX5_addedTo 136 = .ok (.lload_n 3, 1) := by decide +kernel
theorem dX5_addedTo_137 : decode cX5_addedTo 137 = .ok (.lmul, 1) := by decide +kernel
theorem dX5_addedTo_138 : decode cX5_addedTo 138 = .ok (.aload_n 0, 1) := by decide +kernel
theorem dX5_addedTo_139 : decode cX5_addedTo 139 = .ok (.getfield 31, 3) := by decide +kernel
theorem dX5_addedTo_142 : decode cX5_addedTo 142 = .ok (.i2l, 1) := by decide +kernel
theorem dX5_addedTo_143 : decode cX5_addedTo 143 = .ok (.ladd, 1) := by decide +kernel
theorem dX5_addedTo_144 : decode cX5_addedTo 144 = .ok (.lstore_n 3, 1) := by decide +kernel
theorem dX5_addedTo_145 : decode cX5_addedTo 145 = .ok (.iconst 0, 1) := by decide +kernel
theorem dX5_addedTo_146 : decode cX5_addedTo 146 = .ok (.istore 5, 2) := by decide +kernel
theorem dX5_addedTo_148 : decode cX5_addedTo 148 = .ok (.iload 5, 2) := by decide +kernel
theorem dX5_addedTo_150 : decode cX5_addedTo 150 = .ok (.aload_n 0, 1) := by decide +kernel
theorem dX5_addedTo_151 : decode cX5_addedTo 151 = .ok (.getfield 38, 3) := by decide +kernel
theorem dX5_addedTo_154 : decode cX5_addedTo 154 = .ok (.if_icmp .ge 31, 3) := by decide +kernel
theorem dX5_addedTo_157 : decode cX5_addedTo 157 = .ok (.iload 5, 2) := by decide +kernel
theorem dX5_addedTo_159 : decode cX5_addedTo 159 = .ok (.bipush 40, 2) := by decide +kernel
theorem dX5_addedTo_161 : decode cX5_addedTo 161 = .ok (.if_icmp .ge 24, 3) := by decide +kernel
theorem dX5_addedTo_164 : decode cX5_addedTo 164 = .ok (.ldc2_w 66, 3) := by decide +kernel
theorem dX5_addedTo_167 : decode cX5_addedTo 167 = .ok (.lload_n 3, 1) := by decide +kernel
theorem dX5_addedTo_168 : decode cX5_addedTo 168 = .ok (.lmul, 1) := by decide +kernel
theorem dX5_addedTo_169 : decode cX5_addedTo 169 = .ok (.aload_n 0, 1) := by decide +kernel
theorem dX5_addedTo_170 : decode cX5_addedTo 170 = .ok (.getfield 34, 3) := by decide +kernel
theorem dX5_addedTo_173 : decode cX5_addedTo 173 = .ok (.iload 5, 2) := by decide +kernel
theorem dX5_addedTo_175 : decode cX5_addedTo 175 = .ok (.caload, 1) := by decide +kernel
theorem dX5_addedTo_176 : decode cX5_addedTo 176 = .ok (.i2l, 1) := by decide +kernel
theorem dX5_addedTo_177 : decode cX5_addedTo 177 = .ok (.ladd, 1) := by decide +kernel
theorem dX5_addedTo_178 : decode cX5_addedTo 178 = .ok (.lstore_n 3, 1) := by decide +kernel
theorem dX5_addedTo_179 : decode cX5_addedTo 179 = .ok (.iinc 5 1, 3) := by decide +kernel
theorem dX5_addedTo_182 : decode cX5_addedTo 182 = .ok (.goto (-34), 3) := by decide +kernel
theorem dX5_addedTo_185 : decode cX5_addedTo 185 = .ok (.iconst 0, 1) := by decide +kernel
theorem dX5_addedTo_186 : decode cX5_addedTo 186 = .ok (.istore 5, 2) := by decide +kernel
theorem dX5_addedTo_188 : decode cX5_addedTo 188 = .ok (.iload 5, 2) := by decide +kernel
theorem dX5_addedTo_190 : decode cX5_addedTo 190 = .ok (.aload_n 0, 1) := by decide +kernel
theorem dX5_addedTo_191 : decode cX5_addedTo 191 = .ok (.getfield 50, 3) := by decide +kernel
theorem dX5_addedTo_194 : decode cX5_addedTo 194 = .ok (.if_icmp .ge 61, 3) := by decide +kernel
theorem dX5_addedTo_197 : decode cX5_addedTo 197 = .ok (.iload 5, 2) := by decide +kernel
theorem dX5_addedTo_199 : decode cX5_addedTo 199 = .ok (.bipush 8, 2) := by decide +kernel
theorem dX5_addedTo_201 : decode cX5_addedTo 201 = .ok (.if_icmp .ge 54, 3) := by decide +kernel
theorem dX5_addedTo_204 : decode cX5_addedTo 204 = .ok (.ldc2_w 66, 3) := by decide +kernel
theorem dX5_addedTo_207 : decode cX5_addedTo 207 = .ok (.lload_n 3, 1) := by decide +kernel
theorem dX5_addedTo_208 : decode cX5_addedTo 208 = .ok (.lmul, 1) := by decide +kernel
theorem dX5_addedTo_209 : decode cX5_addedTo 209 = .ok (.aload_n 0, 1) := by decide +kernel
theorem dX5_addedTo_210 : decode cX5_addedTo 210 = .ok (.getfield 41, 3) := by decide +kernel
theorem dX5_addedTo_213 : decode cX5_addedTo 213 = .ok (.iload 5, 2) := by decide +kernel
theorem dX5_addedTo_215 : decode cX5_addedTo 215 = .ok (.iaload, 1) := by decide +kernel
theorem dX5_addedTo_216 : decode cX5_addedTo 216 = .ok (.i2l, 1) := by decide +kernel
theorem dX5_addedTo_217 : decode cX5_addedTo 217 = .ok (.ladd, 1) := by decide +kernel
theorem dX5_addedTo_218 : decode cX5_addedTo 218 = .ok (.lstore_n 3, 1) := by decide +kernel
theorem dX5_addedTo_219 : decode cX5_addedTo 219 = .ok (.ldc2_w 66, 3) := by decide +kernel
theorem dX5_addedTo_222 : decode cX5_addedTo 222 = .ok (.lload_n 3, 1) := by decide +kernel
theorem dX5_addedTo_223 : decode cX5_addedTo 223 = .ok (.lmul, 1) := by decide +kernel
theorem dX5_addedTo_224 : decode cX5_addedTo 224 = .ok (.aload_n 0, 1) := by decide +kernel
theorem dX5_addedTo_225 : decode cX5_addedTo 225 = .ok (.getfield 44, 3) := by decide +kernel
theorem dX5_addedTo_228 : decode cX5_addedTo 228 = .ok (.iload 5, 2) := by decide +kernel
theorem dX5_addedTo_230 : decode cX5_addedTo 230 = .ok (.iaload, 1) := by decide +kernel
theorem dX5_addedTo_231 : decode cX5_addedTo 231 = .ok (.i2l, 1) := by decide +kernel
theorem dX5_addedTo_232 : decode cX5_addedTo 232 = .ok (.ladd, 1) := by decide +kernel
theorem dX5_addedTo_233 : decode cX5_addedTo 233 = .ok (.lstore_n 3, 1) := by decide +kernel
theorem dX5_addedTo_234 : decode cX5_addedTo 234 = .ok (.ldc2_w 66, 3) := by decide +kernel
theorem dX5_addedTo_237 : decode cX5_addedTo 237 = .ok (.lload_n 3, 1) := by decide +kernel
theorem dX5_addedTo_238 : decode cX5_addedTo 238 = .ok (.lmul, 1) := by decide +kernel
theorem dX5_addedTo_239 : decode cX5_addedTo 239 = .ok (.aload_n 0, 1) := by decide +kernel
theorem dX5_addedTo_240 : decode cX5_addedTo 240 = .ok (.getfield 47, 3) := by decide +kernel
theorem dX5_addedTo_243 : decode cX5_addedTo 243 = .ok (.iload 5, 2) := by decide +kernel
theorem dX5_addedTo_245 : decode cX5_addedTo 245 = .ok (.iaload, 1) := by decide +kernel
theorem dX5_addedTo_246 : decode cX5_addedTo 246 = .ok (.i2l, 1) := by decide +kernel
theorem dX5_addedTo_247 : decode cX5_addedTo 247 = .ok (.ladd, 1) := by decide +kernel
theorem dX5_addedTo_248 : decode cX5_addedTo 248 = .ok (.lstore_n 3, 1) := by decide +kernel
theorem dX5_addedTo_249 : decode cX5_addedTo 249 = .ok (.iinc 5 1, 3) := by decide +kernel
theorem dX5_addedTo_252 : decode cX5_addedTo 252 = .ok (.goto (-64), 3) := by decide +kernel
theorem dX5_addedTo_255 : decode cX5_addedTo 255 = .ok (.lload_n 3, 1) := by decide +kernel
theorem dX5_addedTo_256 : decode cX5_addedTo 256 = .ok (.lreturn, 1) := by decide +kernel
theorem dX6_init_0 : decode cX6_init 0 = .ok (.aload_n 0, 1) := by decide +kernel
theorem dX6_init_1 : decode cX6_init 1 = .ok (.invokespecial 3, 3) := by decide +kernel
theorem dX6_init_4 : decode cX6_init 4 = .ok (.aload_n 0, 1) := by decide +kernel
theorem dX6_init_5 : decode cX6_init 5 = .ok (.bipush 40, 2) := by decide +kernel
theorem dX6_init_7 : decode cX6_init 7 = .ok (.newarray .char, 2) := by decide +kernel
theorem dX6_init_9 : decode cX6_init 9 = .ok (.putfield 9, 3) := by decide +kernel
theorem dX6_init_12 : decode cX6_init 12 = .ok (.aload_n 0, 1) := by decide +kernel
theorem dX6_init_13 : decode cX6_init 13 = .ok (.bipush 40, 2) := by decide +kernel
theorem dX6_init_15 : decode cX6_init 15 = .ok (.newarray .int, 2) := by decide +kernel
theorem dX6_init_17 : decode cX6_init 17 = .ok (.putfield 15, 3) := by decide +kernel
theorem dX6_init_20 : decode cX6_init 20 = .ok (.aload_n 0, 1) := by decide +kernel
theorem dX6_init_21 : decode cX6_init 21 = .ok (.bipush 40, 2) := by decide +kernel
theorem dX6_init_23 : decode cX6_init 23 = .ok (.newarray .long, 2) := by decide +kernel
theorem dX6_init_25 : decode cX6_init 25 = .ok (.putfield 19, 3) := by decide +kernel
theorem dX6_init_28 : decode cX6_init 28 = .ok (.aload_n 0, 1) := by decide +kernel
theorem dX6_init_29 : decode cX6_init 29 = .ok (.aload_n 1, 1) := by decide +kernel
theorem dX6_init_30 : decode cX6_init 30 = .ok (.putfield 23, 3) := by decide +kernel
theorem dX6_init_33 : decode cX6_init 33 = .ok (.aload_n 0, 1) := by decide +kernel
theorem dX6_init_34 : decode cX6_init 34 = .ok (.invokevirtual 27, 3) := by decide +kernel
theorem dX6_init_37 : decode cX6_init 37 = .ok (.return_, 1) := by decide +kernel
theorem dX6_read_0 : decode cX6_read 0 = .ok (.aload_n 0, 1) := by decide +kernel
theorem dX6_read_1 : decode cX6_read 1 = .ok (.iconst 0, 1) := by decide +kernel
theorem dX6_read_2 : decode cX6_read 2 = .ok (.putfield 30, 3) := by decide +kernel
theorem dX6_read_5 : decode cX6_read 5 = .ok (.aload_n 0, 1) := by decide +kernel
theorem dX6_read_6 : decode cX6_read 6 = .ok (.iconst 0, 1) := by decide +kernel
theorem dX6_read_7 : decode cX6_read 7 = .ok (.putfield 34, 3) := by decide +kernel
theorem dX6_read_10 : decode cX6_read 10 = .ok (.aload_n 0, 1) := by decide +kernel
theorem dX6_read_11 : decode cX6_read 11 = .ok (.iconst (-1), 1) := by decide +kernel
theorem dX6_read_12 : decode cX6_read 12 = .ok (.putfield 37, 3) := by decide +kernel
theorem dX6_read_15 : decode cX6_read 15 = .ok (.aload_n 0, 1) := by decide +kernel
theorem dX6_read_16 : decode cX6_read 16 = .ok (.iconst 0, 1) := by decide +kernel
theorem dX6_read_17 : decode cX6_read 17 = .ok (.putfield 40, 3) := by decide +kernel
theorem dX6_read_20 : decode cX6_read 20 = .ok (.aload_n 0, 1) := by decide +kernel
theorem dX6_read_21 : decode cX6_read 21 = .ok (.iconst 0, 1) := by decide +kernel
theorem dX6_read_22 : decode cX6_read 22 = .ok (.invokevirtual 44, 3) := by decide +kernel
theorem dX6_read_25 : decode cX6_read 25 = .ok (.aload_n 0, 1) := by decide +kernel
theorem dX6_read_26 : decode cX6_read 26 = .ok (.invokevirtual 48, 3) := by decide +kernel
theorem dX6_read_29 : decode cX6_read 29 = .ok (.iconst (-1), 1) := by decide +kernel
theorem dX6_read_30 : decode cX6_read 30 = .ok (.if_icmp .eq 12, 3) := by decide +kernel
theorem dX6_read_33 : decode cX6_read 33 = .ok (.aload_n 0, 1) := by decide +kernel
theorem dX6_read_34 : decode cX6_read 34 = .ok (.aload_n 0, 1) := by decide +kernel
theorem dX6_read_35 : decode cX6_read 35 = .ok (.getfield 30, 3) := by decide +kernel
theorem dX6_read_38 : decode cX6_read 38 = .ok (.iconst 1, 1) := by decide +kernel
theorem dX6_read_39 : decode cX6_read 39 = .ok (.invokevirtual 52, 3) := by decide +kernel
theorem dX6_read_42 : decode cX6_read 42 = .ok (.return_, 1) := by decide +kernel
theorem dX6_readValue_0 : decode cX6_readValue 0 = .ok (.aload_n 0, 1) := by decide +kernel
theorem dX6_readValue_1 : decode cX6_readValue 1 = .ok (.iload_n 1, 1) := by decide +kernel
theorem dX6_readValue_2 : decode cX6_readValue 2 = .ok (.invokevirtual 56, 3) := by decide +kernel
theorem dX6_readValue_5 : decode cX6_readValue 5 = .ok (.iconst 0, 1) := by decide +kernel
theorem dX6_readValue_6 : decode cX6_readValue 6 = .ok (.istore_n 2, 1) := by decide +kernel
theorem dX6_readValue_7 : decode cX6_readValue 7 = .ok (.iload_n 2, 1) := by decide +kernel
theorem dX6_readValue_8 : decode cX6_readValue 8 = .ok (.bipush 40, 2) := by decide +kernel
theorem dX6_readValue_10 : decode cX6_readValue 10 = .ok (.if_icmp .ge 31, 3) := by decide +kernel
theorem dX6_readValue_13 : decode cX6_readValue 13 = .ok (.aload_n 0, 1) := by decide +kernel
theorem dX6_readValue_14 : decode cX6_readValue 14 = .ok (.ldc 59, 2) := by decide +kernel
theorem dX6_readValue_16 : decode cX6_readValue 16 = .ok (.invokevirtual 61, 3) := by decide +kernel
theorem dX6_readValue_19 : decode cX6_readValue 19 = .ok (.iconst (-1), 1) := by decide +kernel
theorem dX6_readValue_20 : decode cX6_readValue 20 = .ok (.if_icmp .eq 21, 3) := by decide +kernel
theorem dX6_readValue_23 : decode cX6_readValue 23 = .ok (.aload_n 0, 1) := by decide +kernel
theorem dX6_readValue_24 : decode cX6_readValue 24 = .ok (.iload_n 1, 1) := by decide +kernel
theorem dX6_readValue_25 : decode cX6_readValue 25 = .ok (.invokevirtual 56, 3) := by decide +kernel
theorem dX6_readValue_28 : decode cX6_readValue 28 = .ok (.aload_n 0, 1) := by decide +kernel
theorem dX6_readValue_29 : decode cX6_readValue 29 = .ok (.bipush 124, 2) := by decide +kernel
theorem dX6_readValue_31 : decode cX6_readValue 31 = .ok (.iconst 0, 1) := by decide +kernel
theorem dX6_readValue_32 : decode cX6_readValue 32 = .ok (.invokevirtual 65, 3) := by decide +kernel
theorem dX6_readValue_35 : decode cX6_readValue 35 = .ok (.iinc 2 1, 3) := by decide +kernel
theorem dX6_readValue_38 : decode cX6_readValue 38 = .ok (.goto (-31), 3) := by decide +kernel
theorem dX6_readValue_41 : decode cX6_readValue 41 = .ok (.return_, 1) := by decide +kernel
theorem dX6_readBoth_0 : decode cX6_readBoth 0 = .ok (.aload_n 0, 1) := by decide +kernel
theorem dX6_readBoth_1 : decode cX6_readBoth 1 = .ok (.iload_n 1, 1) := by decide +kernel
theorem dX6_readBoth_2 : decode cX6_readBoth 2 = .ok (.invokevirtual 69, 3) := by decide +kernel
theorem dX6_readBoth_5 : decode cX6_readBoth 5 = .ok (.iconst 0, 1) := by decide +kernel
theorem dX6_readBoth_6 : decode cX6_readBoth 6 = .ok (.istore_n 2, 1) := by decide +kernel
theorem dX6_readBoth_7 : decode cX6_readBoth 7 = .ok (.iload_n 2, 1) := by decide +kernel
theorem dX6_readBoth_8 : decode cX6_readBoth 8 = .ok (.bipush 40, 2) := by decide +kernel
theorem dX6_readBoth_10 : decode cX6_readBoth 10 = .ok (.if_icmp .ge 31, 3) := by decide +kernel
theorem dX6_readBoth_13 : decode cX6_readBoth 13 = .ok (.aload_n 0, 1) := by decide +kernel
theorem dX6_readBoth_14 : decode cX6_readBoth 14 = .ok (.ldc 72, 2) := by decide +kernel
theorem dX6_readBoth_16 : decode cX6_readBoth 16 = .ok (.invokevirtual 61, 3) := by decide +kernel
theorem dX6_readBoth_19 : decode cX6_readBoth 19 = .ok (.iconst (-1), 1) := by decide +kernel
theorem dX6_readBoth_20 : decode cX6_readBoth 20 = .ok (.if_icmp .eq 21, 3) := by decide +kernel
theorem dX6_readBoth_23 : decode cX6_readBoth 23 = .ok (.aload_n 0, 1) := by decide +kernel
theorem dX6_readBoth_24 : decode cX6_readBoth 24 = .ok (.iload_n 1, 1) := by decide +kernel
theorem dX6_readBoth_25 : decode cX6_readBoth 25 = .ok (.invokevirtual 69, 3) := by decide +kernel
theorem dX6_readBoth_28 : decode cX6_readBoth 28 = .ok (.aload_n 0, 1) := by decide +kernel
theorem dX6_readBoth_29 : decode cX6_readBoth 29 = .ok (.bipush 38, 2) := by decide +kernel
theorem dX6_readBoth_31 : decode cX6_readBoth 31 = .ok (.iconst 0, 1) := by decide +kernel
theorem dX6_readBoth_32 : decode cX6_readBoth 32 = .ok (.invokevirtual 65, 3) := by decide +kernel
theorem dX6_readBoth_35 : decode cX6_readBoth 35 = .ok (.iinc 2 1, 3) := by decide +kernel
theorem dX6_readBoth_38 : decode cX6_readBoth 38 = .ok (.goto (-31), 3) := by decide +kernel
theorem dX6_readBoth_41 : decode cX6_readBoth 41 = .ok (.return_, 1) := by decide +kernel
theorem dX6_readHeld_0 : decode cX6_readHeld 0 = .ok (.aload_n 0, 1) := by decide +kernel
theorem dX6_readHeld_1 : decode cX6_readHeld 1 = .ok (.iload_n 1, 1) := by decide +kernel
theorem dX6_readHeld_2 : decode cX6_readHeld 2 = .ok (.invokevirtual 74, 3) := by decide +kernel
theorem dX6_readHeld_5 : decode cX6_readHeld 5 = .ok (.aload_n 0, 1) := by decide +kernel
theorem dX6_readHeld_6 : decode cX6_readHeld 6 = .ok (.ldc 77, 2) := by decide +kernel
theorem dX6_readHeld_8 : decode cX6_readHeld 8 = .ok (.invokevirtual 61, 3) := by decide +kernel
theorem dX6_readHeld_11 : decode cX6_readHeld 11 = .ok (.istore_n 2, 1) := by decide +kernel
theorem dX6_readHeld_12 : decode cX6_readHeld 12 = .ok (.iload_n 2, 1) := by decide +kernel
theorem dX6_readHeld_13 : decode cX6_readHeld 13 = .ok (.iconst (-1), 1) := by decide +kernel
theorem dX6_readHeld_14 : decode cX6_readHeld 14 = .ok (.if_icmp .eq 15, 3) := by decide +kernel
theorem dX6_readHeld_17 : decode cX6_readHeld 17 = .ok (.aload_n 0, 1) := by decide +kernel
theorem dX6_readHeld_18 : decode cX6_readHeld 18 = .ok (.iload_n 1, 1) := by decide +kernel
theorem dX6_readHeld_19 : decode cX6_readHeld 19 = .ok (.invokevirtual 74, 3) := by decide +kernel
theorem dX6_readHeld_22 : decode cX6_readHeld 22 = .ok (.aload_n 0, 1) := by decide +kernel
theorem dX6_readHeld_23 : decode cX6_readHeld 23 = .ok (.iload_n 2, 1) := by decide +kernel
theorem dX6_readHeld_24 : decode cX6_readHeld 24 = .ok (.i2c, 1) := by decide +kernel
theorem dX6_readHeld_25 : decode cX6_readHeld 25 = .ok (.iconst 0, 1) := by decide +kernel
theorem dX6_readHeld_26 : decode cX6_readHeld 26 = .ok (.invokevirtual 65, 3) := by decide +kernel
theorem dX6_readHeld_29 : decode cX6_readHeld 29 = .ok (.return_, 1) := by decide +kernel
theorem dX6_readSum_0 : decode cX6_readSum 0 = .ok (.aload_n 0, 1) := by decide +kernel
theorem dX6_readSum_1 : decode cX6_readSum 1 = .ok (.iload_n 1, 1) := by decide +kernel
theorem dX6_readSum_2 : decode cX6_readSum 2 = .ok (.invokevirtual 79, 3) := by decide +kernel
theorem dX6_readSum_5 : decode cX6_readSum 5 = .ok (.aload_n 0, 1) := by decide +kernel
theorem dX6_readSum_6 : decode cX6_readSum 6 = .ok (.ldc 82, 2) := by decide +kernel
theorem dX6_readSum_8 : decode cX6_readSum 8 = .ok (.invokevirtual 61, 3) := by decide +kernel
theorem dX6_readSum_11 : decode cX6_readSum 11 = .ok (.istore_n 2, 1) := by decide +kernel
theorem dX6_readSum_12 : decode cX6_readSum 12 = .ok (.iconst 0, 1) := by decide +kernel
theorem dX6_readSum_13 : decode cX6_readSum 13 = .ok (.istore_n 3, 1) := by decide +kernel
theorem dX6_readSum_14 : decode cX6_readSum 14 = .ok (.iload_n 3, 1) := by decide +kernel
theorem dX6_readSum_15 : decode cX6_readSum 15 = .ok (.bipush 40, 2) := by decide +kernel
theorem dX6_readSum_17 : decode cX6_readSum 17 = .ok (.if_icmp .ge 33, 3) := by decide +kernel
theorem dX6_readSum_20 : decode cX6_readSum 20 = .ok (.iload_n 2, 1) := by decide +kernel
theorem dX6_readSum_21 : decode cX6_readSum 21 = .ok (.iconst (-1), 1) := by decide +kernel
theorem dX6_readSum_22 : decode cX6_readSum 22 = .ok (.if_icmp .eq 28, 3) := by decide +kernel
theorem dX6_readSum_25 : decode cX6_readSum 25 = .ok (.aload_n 0, 1) := by decide +kernel
theorem dX6_readSum_26 : decode cX6_readSum 26 = .ok (.iload_n 1, 1) := by decide +kernel
theorem dX6_readSum_27 : decode cX6_readSum 27 = .ok (.invokevirtual 79, 3) := by decide +kernel
theorem dX6_readSum_30 : decode cX6_readSum 30 = .ok (.aload_n 0, 1) := by decide +kernel
theorem dX6_readSum_31 : decode cX6_readSum 31 = .ok (.iload_n 2, 1) := by decide +kernel
theorem dX6_readSum_32 : decode cX6_readSum 32 = .ok (.i2c, 1) := by decide +kernel
theorem dX6_readSum_33 : decode cX6_readSum 33 = .ok (.iconst 0, 1) := by decide +kernel
theorem dX6_readSum_34 : decode cX6_readSum 34 = .ok (.invokevirtual 65, 3) := by decide +kernel
theorem dX6_readSum_37 : decode cX6_readSum 37 = .ok (.aload_n 0, 1) := by decide +kernel
theorem dX6_readSum_38 : decode cX6_readSum 38 = .ok (.ldc 82, 2) := by decide +kernel
theorem dX6_readSum_40 : decode cX6_readSum 40 = .ok (.invokevirtual 61, 3) := by decide +kernel
theorem dX6_readSum_43 : decode cX6_readSum 43 = .ok (.istore_n 2, 1) := by decide +kernel
theorem dX6_readSum_44 : decode cX6_readSum 44 = .ok (.iinc 3 1, 3) := by decide +kernel
theorem dX6_readSum_47 : decode cX6_readSum 47 = .ok (.goto (-33), 3) := by decide +kernel
theorem dX6_readSum_50 : decode cX6_readSum 50 = .ok (.return_, 1) := by decide +kernel
theorem dX6_readTerm_0 : decode cX6_readTerm 0 = .ok (.aload_n 0, 1) := by decide +kernel
theorem dX6_readTerm_1 : decode cX6_readTerm 1 = .ok (.iload_n 1, 1) := by decide +kernel
theorem dX6_readTerm_2 : decode cX6_readTerm 2 = .ok (.invokevirtual 84, 3) := by decide +kernel
theorem dX6_readTerm_5 : decode cX6_readTerm 5 = .ok (.aload_n 0, 1) := by decide +kernel
theorem dX6_readTerm_6 : decode cX6_readTerm 6 = .ok (.ldc 87, 2) := by decide +kernel
theorem dX6_readTerm_8 : decode cX6_readTerm 8 = .ok (.invokevirtual 61, 3) := by decide +kernel
theorem dX6_readTerm_11 : decode cX6_readTerm 11 = .ok (.istore_n 2, 1) := by decide +kernel
theorem dX6_readTerm_12 : decode cX6_readTerm 12 = .ok (.iconst 0, 1) := by decide +kernel
theorem dX6_readTerm_13 : decode cX6_readTerm 13 = .ok (.istore_n 3, 1) := by decide +kernel
theorem dX6_readTerm_14 : decode cX6_readTerm 14 = .ok (.iload_n 3, 1) := by decide +kernel
theorem dX6_readTerm_15 : decode cX6_readTerm 15 = .ok (.bipush 40, 2) := by decide +kernel
theorem dX6_readTerm_17 : decode cX6_readTerm 17 = .ok (.if_icmp .ge 33, 3) := by decide +kernel
theorem dX6_readTerm_20 : decode cX6_readTerm 20 = .ok (.iload_n 2, 1) := by decide +kernel
theorem dX6_readTerm_21 : decode cX6_readTerm 21 = .ok (.iconst (-1), 1) := by decide +kernel
theorem dX6_readTerm_22 : decode cX6_readTerm 22 = .ok (.if_icmp .eq 28, 3) := by decide +kernel
theorem dX6_readTerm_25 : decode cX6_readTerm 25 = .ok (.aload_n 0, 1) := by decide +kernel
theorem dX6_readTerm_26 : decode cX6_readTerm 26 = .ok (.iload_n 1, 1) := by decide +kernel
theorem dX6_readTerm_27 : decode cX6_readTerm 27 = .ok (.invokevirtual 84, 3) := by decide +kernel
theorem dX6_readTerm_30 : decode cX6_readTerm 30 = .ok (.aload_n 0, 1) := by decide +kernel
theorem dX6_readTerm_31 : decode cX6_readTerm 31 = .ok (.iload_n 2, 1) := by decide +kernel
theorem dX6_readTerm_32 : decode cX6_readTerm 32 = .ok (.i2c, 1) := by decide +kernel
theorem dX6_readTerm_33 : decode cX6_readTerm 33 = .ok (.iconst 0, 1) := by decide +kernel
theorem dX6_readTerm_34 : decode cX6_readTerm 34 = .ok (.invokevirtual 65, 3) := by decide +kernel
theorem dX6_readTerm_37 : decode cX6_readTerm 37 = .ok (.aload_n 0, 1) := by decide +kernel
theorem dX6_readTerm_38 : decode cX6_readTerm 38 = .ok (.ldc 87, 2) := by decide +kernel
theorem dX6_readTerm_40 : decode cX6_readTerm 40 = .ok (.invokevirtual 61, 3) := by decide +kernel
theorem dX6_readTerm_43 : decode cX6_readTerm 43 = .ok (.istore_n 2, 1) := by decide +kernel
theorem dX6_readTerm_44 : decode cX6_readTerm 44 = .ok (.iinc 3 1, 3) := by decide +kernel
theorem dX6_readTerm_47 : decode cX6_readTerm 47 = .ok (.goto (-33), 3) := by decide +kernel
theorem dX6_readTerm_50 : decode cX6_readTerm 50 = .ok (.return_, 1) := by decide +kernel
theorem dX6_readUnit_0 : decode cX6_readUnit 0 = .ok (.aload_n 0, 1) := by decide +kernel
theorem dX6_readUnit_1 : decode cX6_readUnit 1 = .ok (.getfield 30, 3) := by decide +kernel
theorem dX6_readUnit_4 : decode cX6_readUnit 4 = .ok (.istore_n 2, 1) := by decide +kernel
theorem dX6_readUnit_5 : decode cX6_readUnit 5 = .ok (.aload_n 0, 1) := by decide +kernel
theorem dX6_readUnit_6 : decode cX6_readUnit 6 = .ok (.ldc 89, 2) := by decide +kernel
theorem dX6_readUnit_8 : decode cX6_readUnit 8 = .ok (.invokevirtual 61, 3) := by decide +kernel
theorem dX6_readUnit_11 : decode cX6_readUnit 11 = .ok (.istore_n 3, 1) := by decide +kernel
theorem dX6_readUnit_12 : decode cX6_readUnit 12 = .ok (.iconst 0, 1) := by decide +kernel
theorem dX6_readUnit_13 : decode cX6_readUnit 13 = .ok (.istore 4, 2) := by decide +kernel
theorem dX6_readUnit_15 : decode cX6_readUnit 15 = .ok (.iload 4, 2) := by decide +kernel
theorem dX6_readUnit_17 : decode cX6_readUnit 17 = .ok (.bipush 40, 2) := by decide +kernel
theorem dX6_readUnit_19 : decode cX6_readUnit 19 = .ok (.if_icmp .ge 21, 3) := by decide +kernel
theorem dX6_readUnit_22 : decode cX6_readUnit 22 = .ok (.iload_n 3, 1) := by decide +kernel
theorem dX6_readUnit_23 : decode cX6_readUnit 23 = .ok (.iconst (-1), 1) := by decide +kernel
theorem dX6_readUnit_24 : decode cX6_readUnit 24 = .ok (.if_icmp .eq 16, 3) := by decide +kernel
theorem dX6_readUnit_27 : decode cX6_readUnit 27 = .ok (.aload_n 0, 1) := by decide +kernel
theorem dX6_readUnit_28 : decode cX6_readUnit 28 = .ok (.ldc 89, 2) := by decide +kernel
theorem dX6_readUnit_30 : decode cX6_readUnit 30 = .ok (.invokevirtual 61, 3) := by decide +kernel
theorem dX6_readUnit_33 : decode cX6_readUnit 33 = .ok (.istore_n 3, 1) := by decide +kernel
theorem dX6_readUnit_34 : decode cX6_readUnit 34 = .ok (.iinc 4 1, 3) := by decide +kernel
theorem dX6_readUnit_37 : decode cX6_readUnit 37 = .ok (.goto (-22), 3) := by decide +kernel
theorem dX6_readUnit_40 : decode cX6_readUnit 40 = .ok (.aload_n 0, 1) := by decide +kernel
theorem dX6_readUnit_41 : decode cX6_readUnit 41 = .ok (.getfield 30, 3) := by decide +kernel
theorem dX6_readUnit_44 : decode cX6_readUnit 44 = .ok (.istore 4, 2) := by decide +kernel
theorem dX6_readUnit_46 : decode cX6_readUnit 46 = .ok (.aload_n 0, 1) := by decide +kernel
theorem dX6_readUnit_47 : decode cX6_readUnit 47 = .ok (.iload_n 1, 1) := by decide +kernel
theorem dX6_readUnit_48 : decode cX6_readUnit 48 = .ok (.invokevirtual 91, 3) := by decide +kernel
theorem dX6_readUnit_51 : decode cX6_readUnit 51 = .ok (.iload 4, 2) := by decide +kernel
theorem dX6_readUnit_53 : decode cX6_readUnit 53 = .ok (.iconst 1, 1) := by decide +kernel
theorem dX6_readUnit_54 : decode cX6_readUnit 54 = .ok (.isub, 1) := by decide +kernel
theorem dX6_readUnit_55 : decode cX6_readUnit 55 = .ok (.istore 5, 2) := by decide +kernel
theorem dX6_readUnit_57 : decode cX6_readUnit 57 = .ok (.iload 5, 2) := by decide +kernel
theorem dX6_readUnit_59 : decode cX6_readUnit 59 = .ok (.iload_n 2, 1) := by decide +kernel
theorem dX6_readUnit_60 : decode cX6_readUnit 60 = .ok (.if_icmp .lt 68, 3) := by decide +kernel
theorem dX6_readUnit_63 : decode cX6_readUnit 63 = .ok (.iload 5, 2) := by decide +kernel
theorem dX6_readUnit_65 : decode cX6_readUnit 65 = .ok (.ifCond .lt 63, 3) := by decide +kernel
theorem dX6_readUnit_68 : decode cX6_readUnit 68 = .ok (.iload 5, 2) := by decide +kernel
theorem dX6_readUnit_70 : decode cX6_readUnit 70 = .ok (.bipush 40, 2) := by decide +kernel
theorem dX6_readUnit_72 : decode cX6_readUnit 72 = .ok (.if_icmp .ge 56, 3) := by decide +kernel
theorem dX6_readUnit_75 : decode cX6_readUnit 75 = .ok (.aload_n 0, 1) := by decide +kernel
theorem dX6_readUnit_76 : decode cX6_readUnit 76 = .ok (.getfield 23, 3) := by decide +kernel
theorem dX6_readUnit_79 : decode cX6_readUnit 79 = .ok (.getfield 94, 3) := by decide +kernel
theorem dX6_readUnit_82 : decode cX6_readUnit 82 = .ok (.iload 5, 2) := by decide +kernel
theorem dX6_readUnit_84 : decode cX6_readUnit 84 = .ok (.caload, 1) := by decide +kernel
theorem dX6_readUnit_85 : decode cX6_readUnit 85 = .ok (.bipush 33, 2) := by decide +kernel
theorem dX6_readUnit_87 : decode cX6_readUnit 87 = .ok (.if_icmp .ne 13, 3) := by decide +kernel
theorem dX6_readUnit_90 : decode cX6_readUnit 90 = .ok (.aload_n 0, 1) := by decide +kernel
theorem dX6_readUnit_91 : decode cX6_readUnit 91 = .ok (.bipush 33, 2) := by decide +kernel
theorem dX6_readUnit_93 : decode cX6_readUnit 93 = .ok (.iconst 0, 1) := by decide +kernel
theorem dX6_readUnit_94 : decode cX6_readUnit 94 = .ok (.invokevirtual 65, 3) := by decide +kernel
theorem dX6_readUnit_97 : decode cX6_readUnit 97 = .ok (.goto 25, 3) := by decide +kernel
theorem dX6_readUnit_100 : decode cX6_readUnit 100 = .ok (.aload_n 0, 1) := by decide +kernel
theorem dX6_readUnit_101 : decode cX6_readUnit 101 = .ok (.getfield 23, 3) := by decide +kernel
theorem dX6_readUnit_104 : decode cX6_readUnit 104 = .ok (.getfield 94, 3) := by decide +kernel
theorem dX6_readUnit_107 : decode cX6_readUnit 107 = .ok (.iload 5, 2) := by decide +kernel
theorem dX6_readUnit_109 : decode cX6_readUnit 109 = .ok (.caload, 1) := by decide +kernel
theorem dX6_readUnit_110 : decode cX6_readUnit 110 = .ok (.bipush 45, 2) := by decide +kernel
theorem dX6_readUnit_112 : decode cX6_readUnit 112 = .ok (.if_icmp .ne 10, 3) := by decide +kernel
theorem dX6_readUnit_115 : decode cX6_readUnit 115 = .ok (.aload_n 0, 1) := by decide +kernel
theorem dX6_readUnit_116 : decode cX6_readUnit 116 = .ok (.bipush 126, 2) := by decide +kernel
theorem dX6_readUnit_118 : decode cX6_readUnit 118 = .ok (.iconst 0, 1) := by decide +kernel
theorem dX6_readUnit_119 : decode cX6_readUnit 119 = .ok (.invokevirtual 65, 3) := by decide +kernel
theorem dX6_readUnit_122 : decode cX6_readUnit 122 = .ok (.iinc 5 (-1), 3) := by decide +kernel
theorem dX6_readUnit_125 : decode cX6_readUnit 125 = .ok (.goto (-68), 3) := by decide +kernel
theorem dX6_readUnit_128 : decode cX6_readUnit 128 = .ok (.return_, 1) := by decide +kernel
theorem dX6_readBareUnit_0 : decode cX6_readBareUnit 0 = .ok (.aload_n 0, 1) := by decide +kernel
theorem dX6_readBareUnit_1 : decode cX6_readBareUnit 1 = .ok (.invokevirtual 48, 3) := by decide +kernel
theorem dX6_readBareUnit_4 : decode cX6_readBareUnit 4 = .ok (.istore_n 2, 1) := by decide +kernel
theorem dX6_readBareUnit_5 : decode cX6_readBareUnit 5 = .ok (.iload_n 2, 1) := by decide +kernel
theorem dX6_readBareUnit_6 : decode cX6_readBareUnit 6 = .ok (.invokestatic 99, 3) := by decide +kernel
theorem dX6_readBareUnit_9 : decode cX6_readBareUnit 9 = .ok (.ifCond .eq 10, 3) := by decide +kernel
theorem dX6_readBareUnit_12 : decode cX6_readBareUnit 12 = .ok (.aload_n 0, 1) := by decide +kernel
theorem dX6_readBareUnit_13 : decode cX6_readBareUnit 13 = .ok (.invokevirtual 103, 3) := by decide +kernel
theorem dX6_readBareUnit_16 : decode cX6_readBareUnit 16 = .ok (.goto 92, 3) := by decide +kernel
theorem dX6_readBareUnit_19 : decode cX6_readBareUnit 19 = .ok (.iload_n 2, 1) := by decide +kernel
theorem dX6_readBareUnit_20 : decode cX6_readBareUnit 20 = .ok (.bipush 40, 2) := by decide +kernel
theorem dX6_readBareUnit_22 : decode cX6_readBareUnit 22 = .ok (.if_icmp .ne 11, 3) := by decide +kernel
theorem dX6_readBareUnit_25 : decode cX6_readBareUnit 25 = .ok (.aload_n 0, 1) := by decide +kernel
theorem dX6_readBareUnit_26 : decode cX6_readBareUnit 26 = .ok (.iload_n 1, 1) := by decide +kernel
theorem dX6_readBareUnit_27 : decode cX6_readBareUnit 27 = .ok (.invokevirtual 106, 3) := by decide +kernel
theorem dX6_readBareUnit_30 : decode cX6_readBareUnit 30 = .ok (.goto 78, 3) := by decide +kernel
theorem dX6_readBareUnit_33 : decode cX6_readBareUnit 33 = .ok (.iload_n 2, 1) := by decide +kernel
theorem dX6_readBareUnit_34 : decode cX6_readBareUnit 34 = .ok (.bipush 109, 2) := by decide +kernel
theorem dX6_readBareUnit_36 : decode cX6_readBareUnit 36 = .ok (.if_icmp .ne 28, 3) := by decide +kernel
theorem dX6_readBareUnit_39 : decode cX6_readBareUnit 39 = .ok (.aload_n 0, 1) := by decide +kernel
theorem dX6_readBareUnit_40 : decode cX6_readBareUnit 40 = .ok (.iconst 1, 1) := by decide +kernel
theorem dX6_readBareUnit_41 : decode cX6_readBareUnit 41 = .ok (.putfield 40, 3) := by decide +kernel
theorem dX6_readBareUnit_44 : decode cX6_readBareUnit 44 = .ok (.aload_n 0, 1) := by decide +kernel
theorem dX6_readBareUnit_45 : decode cX6_readBareUnit 45 = .ok (.dup, 1) := by decide +kernel
theorem dX6_readBareUnit_46 : decode cX6_readBareUnit 46 = .ok (.getfield 30, 3) := by decide +kernel
theorem dX6_readBareUnit_49 : decode cX6_readBareUnit 49 = .ok (.iconst 1, 1) := by decide +kernel
theorem dX6_readBareUnit_50 : decode cX6_readBareUnit 50 = .ok (.iadd, 1) := by decide +kernel
theorem dX6_readBareUnit_51 : decode cX6_readBareUnit 51 = .ok (.putfield 30, 3) := by decide +kernel
theorem dX6_readBareUnit_54 : decode cX6_readBareUnit 54 = .ok (.aload_n 0, 1) := by decide +kernel
theorem dX6_readBareUnit_55 : decode cX6_readBareUnit 55 = .ok (.bipush 109, 2) := by decide +kernel
theorem dX6_readBareUnit_57 : decode cX6_readBareUnit 57 = .ok (.iconst 0, 1) := by decide +kernel
theorem dX6_readBareUnit_58 : decode cX6_readBareUnit 58 = .ok (.invokevirtual 65, 3) := by decide +kernel
theorem dX6_readBareUnit_61 : decode cX6_readBareUnit 61 = .ok (.goto 47, 3) := by decide +kernel
theorem dX6_readBareUnit_64 : decode cX6_readBareUnit 64 = .ok (.iload_n 2, 1) := by decide +kernel
theorem dX6_readBareUnit_65 : decode cX6_readBareUnit 65 = .ok (.iconst (-1), 1) := by decide +kernel
theorem dX6_readBareUnit_66 : decode cX6_readBareUnit 66 = .ok (.if_icmp .eq 33, 3) := by decide +kernel
theorem dX6_readBareUnit_69 : decode cX6_readBareUnit 69 = .ok (.ldc 109, 2) := by decide +kernel
theorem dX6_readBareUnit_71 : decode cX6_readBareUnit 71 = .ok (.iload_n 2, 1) := by decide +kernel
theorem dX6_readBareUnit_72 : decode cX6_readBareUnit 72 = .ok (.i2c, 1) := by decide +kernel
theorem dX6_readBareUnit_73 : decode cX6_readBareUnit 73 = .ok (.invokevirtual 111, 3) := by decide +kernel
theorem dX6_readBareUnit_76 : decode cX6_readBareUnit 76 = .ok (.ifCond .lt 23, 3) := by decide +kernel
theorem dX6_readBareUnit_79 : decode cX6_readBareUnit 79 = .ok (.aload_n 0, 1) := by decide +kernel
theorem dX6_readBareUnit_80 : decode cX6_readBareUnit 80 = .ok (.dup, 1) := by decide +kernel
theorem dX6_readBareUnit_81 : decode cX6_readBareUnit 81 = .ok (.getfield 30, 3) := by decide +kernel
theorem dX6_readBareUnit_84 : decode cX6_readBareUnit 84 = .ok (.iconst 1, 1) := by decide +kernel
theorem dX6_readBareUnit_85 : decode cX6_readBareUnit 85 = .ok (.iadd, 1) := by decide +kernel
theorem dX6_readBareUnit_86 : decode cX6_readBareUnit 86 = .ok (.putfield 30, 3) := by decide +kernel
theorem dX6_readBareUnit_89 : decode cX6_readBareUnit 89 = .ok (.aload_n 0, 1) := by decide +kernel
theorem dX6_readBareUnit_90 : decode cX6_readBareUnit 90 = .ok (.iload_n 2, 1) := by decide +kernel
theorem dX6_readBareUnit_91 : decode cX6_readBareUnit 91 = .ok (.i2c, 1) := by decide +kernel
theorem dX6_readBareUnit_92 : decode cX6_readBareUnit 92 = .ok (.iconst 0, 1) := by decide +kernel
theorem dX6_readBareUnit_93 : decode cX6_readBareUnit 93 = .ok (.invokevirtual 65, 3) := by decide +kernel
theorem dX6_readBareUnit_96 : decode cX6_readBareUnit 96 = .ok (.goto 12, 3) := by decide +kernel
theorem dX6_readBareUnit_99 : decode cX6_readBareUnit 99 = .ok (.aload_n 0, 1) := by decide +kernel
theorem dX6_readBareUnit_100 : decode cX6_readBareUnit 100 = .ok (.aload_n 0, 1) := by decide +kernel
theorem dX6_readBareUnit_101 : decode cX6_readBareUnit 101 = .ok (.getfield 30, 3) := by decide +kernel
theorem dX6_readBareUnit_104 : decode cX6_readBareUnit 104 = .ok (.iconst 1, 1) := by decide +kernel
theorem dX6_readBareUnit_105 : decode cX6_readBareUnit 105 = .ok (.invokevirtual 52, 3) := by decide +kernel
theorem dX6_readBareUnit_108 : decode cX6_readBareUnit 108 = .ok (.return_, 1) := by decide +kernel
theorem dX6_readDigits_0 : decode cX6_readDigits 0 = .ok (.aload_n 0, 1) := by decide +kernel
theorem dX6_readDigits_1 : decode cX6_readDigits 1 = .ok (.getfield 30, 3) := by decide +kernel
theorem dX6_readDigits_4 : decode cX6_readDigits 4 = .ok (.istore_n 1, 1) := by decide +kernel
theorem dX6_readDigits_5 : decode cX6_readDigits 5 = .ok (.iconst 0, 1) := by decide +kernel
theorem dX6_readDigits_6 : decode cX6_readDigits 6 = .ok (.istore_n 2, 1) := by decide +kernel
theorem dX6_readDigits_7 : decode cX6_readDigits 7 = .ok (.aload_n 0, 1) := by decide +kernel
theorem dX6_readDigits_8 : decode cX6_readDigits 8 = .ok (.getfield 30, 3) := by decide +kernel
theorem dX6_readDigits_11 : decode cX6_readDigits 11 = .ok (.bipush 40, 2) := by decide +kernel
theorem dX6_readDigits_13 : decode cX6_readDigits 13 = .ok (.if_icmp .ge 65, 3) := by decide +kernel
theorem dX6_readDigits_16 : decode cX6_readDigits 16 = .ok (.aload_n 0, 1) := by decide +kernel
theorem dX6_readDigits_17 : decode cX6_readDigits 17 = .ok (.aload_n 0, 1) := by decide +kernel
theorem dX6_readDigits_18 : decode cX6_readDigits 18 = .ok (.getfield 30, 3) := by decide +kernel
theorem dX6_readDigits_21 : decode cX6_readDigits 21 = .ok (.invokevirtual 117, 3) := by decide +kernel
theorem dX6_readDigits_24 : decode cX6_readDigits 24 = .ok (.invokestatic 99, 3) := by decide +kernel
theorem dX6_readDigits_27 : decode cX6_readDigits 27 = .ok (.ifCond .eq 51, 3) := by decide +kernel
theorem dX6_readDigits_30 : decode cX6_readDigits 30 = .ok (.aload_n 0, 1) := by decide +kernel
theorem dX6_readDigits_31 : decode cX6_readDigits 31 = .ok (.getfield 30, 3) := by decide +kernel
theorem dX6_readDigits_34 : decode cX6_readDigits 34 = .ok (.iload_n 1, 1) := by decide +kernel
theorem dX6_readDigits_35 : decode cX6_readDigits 35 = .ok (.isub, 1) := by decide +kernel
theorem dX6_readDigits_36 : decode cX6_readDigits 36 = .ok (.bipush 6, 2) := by decide +kernel
theorem dX6_readDigits_38 : decode cX6_readDigits 38 = .ok (.if_icmp .lt 10, 3) := by decide +kernel
theorem dX6_readDigits_41 : decode cX6_readDigits 41 = .ok (.aload_n 0, 1) := by decide +kernel
theorem dX6_readDigits_42 : decode cX6_readDigits 42 = .ok (.iload_n 1, 1) := by decide +kernel
theorem dX6_readDigits_43 : decode cX6_readDigits 43 = .ok (.iconst 2, 1) := by decide +kernel
theorem dX6_readDigits_44 : decode cX6_readDigits 44 = .ok (.invokevirtual 52, 3) := by decide +kernel
theorem dX6_readDigits_47 : decode cX6_readDigits 47 = .ok (.return_, 1) := by decide +kernel
theorem dX6_readDigits_48 : decode cX6_readDigits 48 = .ok (.bipush 10, 2) := by decide +kernel
theorem dX6_readDigits_50 : decode cX6_readDigits 50 = .ok (.iload_n 2, 1) := by decide +kernel
theorem dX6_readDigits_51 : decode cX6_readDigits 51 = .ok (.imul, 1) := by decide +kernel
theorem dX6_readDigits_52 : decode cX6_readDigits 52 = .ok (.aload_n 0, 1) := by decide +kernel
theorem dX6_readDigits_53 : decode cX6_readDigits 53 = .ok (.aload_n 0, 1) := by decide +kernel
theorem dX6_readDigits_54 : decode cX6_readDigits 54 = .ok (.getfield 30, 3) := by decide +kernel
theorem dX6_readDigits_57 : decode cX6_readDigits 57 = .ok (.invokevirtual 117, 3) := by decide +kernel
theorem dX6_readDigits_60 : decode cX6_readDigits 60 = .ok (.iadd, 1) := by decide +kernel
theorem dX6_readDigits_61 : decode cX6_readDigits 61 = .ok (.bipush 48, 2) := by decide +kernel
theorem dX6_readDigits_63 : decode cX6_readDigits 63 = .ok (.isub, 1) := by decide +kernel
theorem dX6_readDigits_64 : decode cX6_readDigits 64 = .ok (.istore_n 2, 1) := by decide +kernel
theorem dX6_readDigits_65 : decode cX6_readDigits 65 = .ok (.aload_n 0, 1) := by decide +kernel
theorem dX6_readDigits_66 : decode cX6_readDigits 66 = .ok (.dup, 1) := by decide +kernel
theorem dX6_readDigits_67 : decode cX6_readDigits 67 = .ok (.getfield 30, 3) := by decide +kernel
theorem dX6_readDigits_70 : decode cX6_readDigits 70 = .ok (.iconst 1, 1) := by decide +kernel
theorem dX6_readDigits_71 : decode cX6_readDigits 71 = .ok (.iadd, 1) := by decide +kernel
theorem dX6_readDigits_72 : decode cX6_readDigits 72 = .ok (.putfield 30, 3) := by decide +kernel
theorem dX6_readDigits_75 : decode cX6_readDigits 75 = .ok (.goto (-68), 3) := by decide +kernel
theorem dX6_readDigits_78 : decode cX6_readDigits 78 = .ok (.aload_n 0, 1) := by decide +kernel
theorem dX6_readDigits_79 : decode cX6_readDigits 79 = .ok (.bipush 35, 2) := by decide +kernel
theorem dX6_readDigits_81 : decode cX6_readDigits 81 = .ok (.iload_n 2, 1) := by decide +kernel
theorem dX6_readDigits_82 : decode cX6_readDigits 82 = .ok (.invokevirtual 65, 3) := by decide +kernel
theorem dX6_readDigits_85 : decode cX6_readDigits 85 = .ok (.return_, 1) := by decide +kernel
theorem dX6_readOpened_0 : decode cX6_readOpened 0 = .ok (.iload_n 1, 1) := by decide +kernel
theorem dX6_readOpened_1 : decode cX6_readOpened 1 = .ok (.bipush 8, 2) := by decide +kernel
theorem dX6_readOpened_3 : decode cX6_readOpened 3 = .ok (.if_icmp .lt 13, 3) := by decide +kernel
theorem dX6_readOpened_6 : decode cX6_readOpened 6 = .ok (.aload_n 0, 1) := by decide +kernel
theorem dX6_readOpened_7 : decode cX6_readOpened 7 = .ok (.aload_n 0, 1) := by decide +kernel
theorem dX6_readOpened_8 : decode cX6_readOpened 8 = .ok (.getfield 30, 3) := by decide +kernel
theorem dX6_readOpened_11 : decode cX6_readOpened 11 = .ok (.iconst 3, 1) := by decide +kernel
theorem dX6_readOpened_12 : decode cX6_readOpened 12 = .ok (.invokevirtual 52, 3) := by decide +kernel
theorem dX6_readOpened_15 : decode cX6_readOpened 15 = .ok (.return_, 1) := by decide +kernel
theorem dX6_readOpened_16 : decode cX6_readOpened 16 = .ok (.aload_n 0, 1) := by decide +kernel
theorem dX6_readOpened_17 : decode cX6_readOpened 17 = .ok (.dup, 1) := by decide +kernel
theorem dX6_readOpened_18 : decode cX6_readOpened 18 = .ok (.getfield 30, 3) := by decide +kernel
theorem dX6_readOpened_21 : decode cX6_readOpened 21 = .ok (.iconst 1, 1) := by decide +kernel
theorem dX6_readOpened_22 : decode cX6_readOpened 22 = .ok (.iadd, 1) := by decide +kernel
theorem dX6_readOpened_23 : decode cX6_readOpened 23 = .ok (.putfield 30, 3) := by decide +kernel
theorem dX6_readOpened_26 : decode cX6_readOpened 26 = .ok (.aload_n 0, 1) := by decide +kernel
theorem dX6_readOpened_27 : decode cX6_readOpened 27 = .ok (.iload_n 1, 1) := by decide +kernel
theorem dX6_readOpened_28 : decode cX6_readOpened 28 = .ok (.iconst 1, 1) := by decide +kernel
theorem dX6_readOpened_29 : decode cX6_readOpened 29 = .ok (.iadd, 1) := by decide +kernel
theorem dX6_readOpened_30 : decode cX6_readOpened 30 = .ok (.invokevirtual 44, 3) := by decide +kernel
theorem dX6_readOpened_33 : decode cX6_readOpened 33 = .ok (.aload_n 0, 1) := by decide +kernel
theorem dX6_readOpened_34 : decode cX6_readOpened 34 = .ok (.ldc 120, 2) := by decide +kernel
theorem dX6_readOpened_36 : decode cX6_readOpened 36 = .ok (.invokevirtual 61, 3) := by decide +kernel
theorem dX6_readOpened_39 : decode cX6_readOpened 39 = .ok (.iconst (-1), 1) := by decide +kernel
theorem dX6_readOpened_40 : decode cX6_readOpened 40 = .ok (.if_icmp .ne 12, 3) := by decide +kernel
theorem dX6_readOpened_43 : decode cX6_readOpened 43 = .ok (.aload_n 0, 1) := by decide +kernel
theorem dX6_readOpened_44 : decode cX6_readOpened 44 = .ok (.aload_n 0, 1) := by decide +kernel
theorem dX6_readOpened_45 : decode cX6_readOpened 45 = .ok (.getfield 30, 3) := by decide +kernel
theorem dX6_readOpened_48 : decode cX6_readOpened 48 = .ok (.iconst 1, 1) := by decide +kernel
theorem dX6_readOpened_49 : decode cX6_readOpened 49 = .ok (.invokevirtual 52, 3) := by decide +kernel
theorem dX6_readOpened_52 : decode cX6_readOpened 52 = .ok (.return_, 1) := by decide +kernel
theorem dX6_isDigit_0 : decode cX6_isDigit 0 = .ok (.iload_n 0, 1) := by decide +kernel
theorem dX6_isDigit_1 : decode cX6_isDigit 1 = .ok (.bipush 48, 2) := by decide +kernel
theorem dX6_isDigit_3 : decode cX6_isDigit 3 = .ok (.if_icmp .lt 13, 3) := by decide +kernel
theorem dX6_isDigit_6 : decode cX6_isDigit 6 = .ok (.iload_n 0, 1) := by decide +kernel
theorem dX6_isDigit_7 : decode cX6_isDigit 7 = .ok (.bipush 57, 2) := by decide +kernel
theorem dX6_isDigit_9 : decode cX6_isDigit 9 = .ok (.if_icmp .gt 7, 3) := by decide +kernel
theorem dX6_isDigit_12 : decode cX6_isDigit 12 = .ok (.iconst 1, 1) := by decide +kernel
theorem dX6_isDigit_13 : decode cX6_isDigit 13 = .ok (.goto 4, 3) := by decide +kernel
theorem dX6_isDigit_16 : decode cX6_isDigit 16 = .ok (.iconst 0, 1) := by decide +kernel
theorem dX6_isDigit_17 : decode cX6_isDigit 17 = .ok (.ireturn, 1) := by decide +kernel
theorem dX6_signAt_0 : decode cX6_signAt 0 = .ok (.iload_n 1, 1) := by decide +kernel
theorem dX6_signAt_1 : decode cX6_signAt 1 = .ok (.ifCond .lt 32, 3) := by decide +kernel
theorem dX6_signAt_4 : decode cX6_signAt 4 = .ok (.iload_n 1, 1) := by decide +kernel
theorem dX6_signAt_5 : decode cX6_signAt 5 = .ok (.aload_n 0, 1) := by decide +kernel
theorem dX6_signAt_6 : decode cX6_signAt 6 = .ok (.getfield 23, 3) := by decide +kernel
theorem dX6_signAt_9 : decode cX6_signAt 9 = .ok (.getfield 122, 3) := by decide +kernel
theorem dX6_signAt_12 : decode cX6_signAt 12 = .ok (.if_icmp .ge 21, 3) := by decide +kernel
theorem dX6_signAt_15 : decode cX6_signAt 15 = .ok (.iload_n 1, 1) := by decide +kernel
theorem dX6_signAt_16 : decode cX6_signAt 16 = .ok (.bipush 40, 2) := by decide +kernel
theorem dX6_signAt_18 : decode cX6_signAt 18 = .ok (.if_icmp .ge 15, 3) := by decide +kernel
theorem dX6_signAt_21 : decode cX6_signAt 21 = .ok (.aload_n 0, 1) := by decide +kernel
theorem dX6_signAt_22 : decode cX6_signAt 22 = .ok (.getfield 23, 3) := by decide +kernel
theorem dX6_signAt_25 : decode cX6_signAt 25 = .ok (.getfield 94, 3) := by decide +kernel
theorem dX6_signAt_28 : decode cX6_signAt 28 = .ok (.iload_n 1, 1) := by decide +kernel
theorem dX6_signAt_29 : decode cX6_signAt 29 = .ok (.caload, 1) := by decide +kernel
theorem dX6_signAt_30 : decode cX6_signAt 30 = .ok (.goto 4, 3) := by decide +kernel
theorem dX6_signAt_33 : decode cX6_signAt 33 = .ok (.iconst (-1), 1) := by decide +kernel
theorem dX6_signAt_34 : decode cX6_signAt 34 = .ok (.ireturn, 1) := by decide +kernel
theorem dX6_nextSign_0 : decode cX6_nextSign 0 = .ok (.aload_n 0, 1) := by decide +kernel
theorem dX6_nextSign_1 : decode cX6_nextSign 1 = .ok (.getfield 37, 3) := by decide +kernel
theorem dX6_nextSign_4 : decode cX6_nextSign 4 = .ok (.iconst (-1), 1) := by decide +kernel
theorem dX6_nextSign_5 : decode cX6_nextSign 5 = .ok (.if_icmp .eq 5, 3) := by decide +kernel
theorem dX6_nextSign_8 : decode cX6_nextSign 8 = .ok (.iconst (-1), 1) := by decide +kernel
theorem dX6_nextSign_9 : decode cX6_nextSign 9 = .ok (.ireturn, 1) := by decide +kernel
theorem dX6_nextSign_10 : decode cX6_nextSign 10 = .ok (.aload_n 0, 1) := by decide +kernel
theorem dX6_nextSign_11 : decode cX6_nextSign 11 = .ok (.getfield 30, 3) := by decide +kernel
theorem dX6_nextSign_14 : decode cX6_nextSign 14 = .ok (.bipush 40, 2) := by decide +kernel
theorem dX6_nextSign_16 : decode cX6_nextSign 16 = .ok (.if_icmp .ge 29, 3) := by decide +kernel
theorem dX6_nextSign_19 : decode cX6_nextSign 19 = .ok (.aload_n 0, 1) := by decide +kernel
theorem dX6_nextSign_20 : decode cX6_nextSign 20 = .ok (.aload_n 0, 1) := by decide +kernel
theorem dX6_nextSign_21 : decode cX6_nextSign 21 = .ok (.getfield 30, 3) := by decide +kernel
theorem dX6_nextSign_24 : decode cX6_nextSign 24 = .ok (.invokevirtual 117, 3) := by decide +kernel
theorem dX6_nextSign_27 : decode cX6_nextSign 27 = .ok (.bipush 32, 2) := by decide +kernel
theorem dX6_nextSign_29 : decode cX6_nextSign 29 = .ok (.if_icmp .ne 16, 3) := by decide +kernel
theorem dX6_nextSign_32 : decode cX6_nextSign 32 = .ok (.aload_n 0, 1) := by decide +kernel
theorem dX6_nextSign_33 : decode cX6_nextSign 33 = .ok (.dup, 1) := by decide +kernel
theorem dX6_nextSign_34 : decode cX6_nextSign 34 = .ok (.getfield 30, 3) := by decide +kernel
theorem dX6_nextSign_37 : decode cX6_nextSign 37 = .ok (.iconst 1, 1) := by decide +kernel
theorem dX6_nextSign_38 : decode cX6_nextSign 38 = .ok (.iadd, 1) := by decide +kernel
theorem dX6_nextSign_39 : decode cX6_nextSign 39 = .ok (.putfield 30, 3) := by decide +kernel
theorem dX6_nextSign_42 : decode cX6_nextSign 42 = .ok (.goto (-32), 3) := by decide +kernel
theorem dX6_nextSign_45 : decode cX6_nextSign 45 = .ok (.aload_n 0, 1) := by decide +kernel
theorem dX6_nextSign_46 : decode cX6_nextSign 46 = .ok (.aload_n 0, 1) := by decide +kernel
theorem dX6_nextSign_47 : decode cX6_nextSign 47 = .ok (.getfield 30, 3) := by decide +kernel
theorem dX6_nextSign_50 : decode cX6_nextSign 50 = .ok (.invokevirtual 117, 3) := by decide +kernel
theorem dX6_nextSign_53 : decode cX6_nextSign 53 = .ok (.ireturn, 1) := by decide +kernel
theorem dX6_take_0 : decode cX6_take 0 = .ok (.aload_n 0, 1) := by decide +kernel
theorem dX6_take_1 : decode cX6_take 1 = .ok (.invokevirtual 48, 3) := by decide +kernel
theorem dX6_take_4 : decode cX6_take 4 = .ok (.istore_n 2, 1) := by decide +kernel
theorem dX6_take_5 : decode cX6_take 5 = .ok (.iload_n 2, 1) := by decide +kernel
theorem dX6_take_6 : decode cX6_take 6 = .ok (.iconst (-1), 1) := by decide +kernel
theorem dX6_take_7 : decode cX6_take 7 = .ok (.if_icmp .eq 12, 3) := by decide +kernel
theorem dX6_take_10 : decode cX6_take 10 = .ok (.aload_n 1, 1) := by decide +kernel
theorem dX6_take_11 : decode cX6_take 11 = .ok (.iload_n 2, 1) := by decide +kernel
theorem dX6_take_12 : decode cX6_take 12 = .ok (.i2c, 1) := by decide +kernel
theorem dX6_take_13 : decode cX6_take 13 = .ok (.invokevirtual 111, 3) := by decide +kernel
theorem dX6_take_16 : decode cX6_take 16 = .ok (.ifCond .ge 5, 3) := by decide +kernel
theorem dX6_take_19 : decode cX6_take 19 = .ok (.iconst (-1), 1) := by decide +kernel
theorem dX6_take_20 : decode cX6_take 20 = .ok (.ireturn, 1) := by decide +kernel
theorem dX6_take_21 : decode cX6_take 21 = .ok (.aload_n 0, 1) := by decide +kernel
theorem dX6_take_22 : decode cX6_take 22 = .ok (.dup, 1) := by decide +kernel
theorem dX6_take_23 : decode cX6_take 23 = .ok (.getfield 30, 3) := by decide +kernel
theorem dX6_take_26 : decode cX6_take 26 = .ok (.iconst 1, 1) := by decide +kernel
theorem dX6_take_27 : decode cX6_take 27 = .ok (.iadd, 1) := by decide +kernel
theorem dX6_take_28 : decode cX6_take 28 = .ok (.putfield 30, 3) := by decide +kernel
theorem dX6_take_31 : decode cX6_take 31 = .ok (.iload_n 2, 1) := by decide +kernel
theorem dX6_take_32 : decode cX6_take 32 = .ok (.ireturn, 1) := by decide +kernel
theorem dX6_setFlaw_0 : decode cX6_setFlaw 0 = .ok (.aload_n 0, 1) := by decide +kernel
theorem dX6_setFlaw_1 : decode cX6_setFlaw 1 = .ok (.getfield 37, 3) := by decide +kernel
theorem dX6_setFlaw_4 : decode cX6_setFlaw 4 = .ok (.iconst (-1), 1) := by decide +kernel
theorem dX6_setFlaw_5 : decode cX6_setFlaw 5 = .ok (.if_icmp .ne 13, 3) := by decide +kernel
theorem dX6_setFlaw_8 : decode cX6_setFlaw 8 = .ok (.aload_n 0, 1) := by decide +kernel
theorem dX6_setFlaw_9 : decode cX6_setFlaw 9 = .ok (.bipush 10, 2) := by decide +kernel
theorem dX6_setFlaw_11 : decode cX6_setFlaw 11 = .ok (.iload_n 1, 1) := by decide +kernel
theorem dX6_setFlaw_12 : decode cX6_setFlaw 12 = .ok (.imul, 1) := by decide +kernel
theorem dX6_setFlaw_13 : decode cX6_setFlaw 13 = .ok (.iload_n 2, 1) := by decide +kernel
theorem dX6_setFlaw_14 : decode cX6_setFlaw 14 = .ok (.iadd, 1) := by decide +kernel
theorem dX6_setFlaw_15 : decode cX6_setFlaw 15 = .ok (.putfield 37, 3) := by decide +kernel
theorem dX6_setFlaw_18 : decode cX6_setFlaw 18 = .ok (.return_, 1) := by decide +kernel
theorem dX6_addSign_0 : decode cX6_addSign 0 = .ok (.aload_n 0, 1) := by decide +kernel
theorem dX6_addSign_1 : decode cX6_addSign 1 = .ok (.getfield 34, 3) := by decide +kernel
theorem dX6_addSign_4 : decode cX6_addSign 4 = .ok (.bipush 40, 2) := by decide +kernel
theorem dX6_addSign_6 : decode cX6_addSign 6 = .ok (.if_icmp .ge 33, 3) := by decide +kernel
theorem dX6_addSign_9 : decode cX6_addSign 9 = .ok (.aload_n 0, 1) := by decide +kernel
theorem dX6_addSign_10 : decode cX6_addSign 10 = .ok (.getfield 9, 3) := by decide +kernel
theorem dX6_addSign_13 : decode cX6_addSign 13 = .ok (.aload_n 0, 1) := by decide +kernel
theorem dX6_addSign_14 : decode cX6_addSign 14 = .ok (.getfield 34, 3) := by decide +kernel
theorem dX6_addSign_17 : decode cX6_addSign 17 = .ok (.iload_n 1, 1) := by decide +kernel
theorem dX6_addSign_18 : decode cX6_addSign 18 = .ok (.castore, 1) := by decide +kernel
theorem dX6_addSign_19 : decode cX6_addSign 19 = .ok (.aload_n 0, 1) := by decide +kernel
theorem dX6_addSign_20 : decode cX6_addSign 20 = .ok (.getfield 15, 3) := by decide +kernel
theorem dX6_addSign_23 : decode cX6_addSign 23 = .ok (.aload_n 0, 1) := by decide +kernel
theorem dX6_addSign_24 : decode cX6_addSign 24 = .ok (.getfield 34, 3) := by decide +kernel
theorem dX6_addSign_27 : decode cX6_addSign 27 = .ok (.iload_n 2, 1) := by decide +kernel
theorem dX6_addSign_28 : decode cX6_addSign 28 = .ok (.iastore, 1) := by decide +kernel
theorem dX6_addSign_29 : decode cX6_addSign 29 = .ok (.aload_n 0, 1) := by decide +kernel
theorem dX6_addSign_30 : decode cX6_addSign 30 = .ok (.dup, 1) := by decide +kernel
theorem dX6_addSign_31 : decode cX6_addSign 31 = .ok (.getfield 34, 3) := by decide +kernel
theorem dX6_addSign_34 : decode cX6_addSign 34 = .ok (.iconst 1, 1) := by decide +kernel
theorem dX6_addSign_35 : decode cX6_addSign 35 = .ok (.iadd, 1) := by decide +kernel
theorem dX6_addSign_36 : decode cX6_addSign 36 = .ok (.putfield 34, 3) := by decide +kernel
theorem dX6_addSign_39 : decode cX6_addSign 39 = .ok (.return_, 1) := by decide +kernel
theorem dX6_value_0 : decode cX6_value 0 = .ok (.aload_n 0, 1) := by decide +kernel
theorem dX6_value_1 : decode cX6_value 1 = .ok (.getfield 37, 3) := by decide +kernel
theorem dX6_value_4 : decode cX6_value 4 = .ok (.iconst (-1), 1) := by decide +kernel
theorem dX6_value_5 : decode cX6_value 5 = .ok (.if_icmp .eq 8, 3) := by decide +kernel
theorem dX6_value_8 : decode cX6_value 8 = .ok (.aload_n 1, 1) := by decide +kernel
theorem dX6_value_9 : decode cX6_value 9 = .ok (.iconst 0, 1) := by decide +kernel
theorem dX6_value_10 : decode cX6_value 10 = .ok (.iaload, 1) := by decide +kernel
theorem dX6_value_11 : decode cX6_value 11 = .ok (.i2l, 1) := by decide +kernel
theorem dX6_value_12 : decode cX6_value 12 = .ok (.lreturn, 1) := by decide +kernel
theorem dX6_value_13 : decode cX6_value 13 = .ok (.aload_n 0, 1) := by decide +kernel
theorem dX6_value_14 : decode cX6_value 14 = .ok (.iconst 0, 1) := by decide +kernel
theorem dX6_value_15 : decode cX6_value 15 = .ok (.putfield 125, 3) := by decide +kernel
theorem dX6_value_18 : decode cX6_value 18 = .ok (.iconst 0, 1) := by decide +kernel
theorem dX6_value_19 : decode cX6_value 19 = .ok (.istore_n 3, 1) := by decide +kernel
theorem dX6_value_20 : decode cX6_value 20 = .ok (.iload_n 3, 1) := by decide +kernel
theorem dX6_value_21 : decode cX6_value 21 = .ok (.aload_n 0, 1) := by decide +kernel
theorem dX6_value_22 : decode cX6_value 22 = .ok (.getfield 34, 3) := by decide +kernel
theorem dX6_value_25 : decode cX6_value 25 = .ok (.if_icmp .ge 160, 3) := by decide +kernel
theorem dX6_value_28 : decode cX6_value 28 = .ok (.iload_n 3, 1) := by decide +kernel
theorem dX6_value_29 : decode cX6_value 29 = .ok (.bipush 40, 2) := by decide +kernel
theorem dX6_value_31 : decode cX6_value 31 = .ok (.if_icmp .ge 154, 3) := by decide +kernel
theorem dX6_value_34 : decode cX6_value 34 = .ok (.aload_n 0, 1) := by decide +kernel
theorem dX6_value_35 : decode cX6_value 35 = .ok (.getfield 9, 3) := by decide +kernel
theorem dX6_value_38 : decode cX6_value 38 = .ok (.iload_n 3, 1) := by decide +kernel
theorem dX6_value_39 : decode cX6_value 39 = .ok (.caload, 1) := by decide +kernel
theorem dX6_value_40 : decode cX6_value 40 = .ok (.istore 4, 2) := by decide +kernel
theorem dX6_value_42 : decode cX6_value 42 = .ok (.ldc 109, 2) := by decide +kernel
theorem dX6_value_44 : decode cX6_value 44 = .ok (.iload 4, 2) := by decide +kernel
theorem dX6_value_46 : decode cX6_value 46 = .ok (.invokevirtual 111, 3) := by decide +kernel
theorem dX6_value_49 : decode cX6_value 49 = .ok (.istore 5, 2) := by decide +kernel
theorem dX6_value_51 : decode cX6_value 51 = .ok (.iload 5, 2) := by decide +kernel
theorem dX6_value_53 : decode cX6_value 53 = .ok (.ifCond .lt 21, 3) := by decide +kernel
theorem dX6_value_56 : decode cX6_value 56 = .ok (.iload 5, 2) := by decide +kernel
theorem dX6_value_58 : decode cX6_value 58 = .ok (.iconst 5, 1) := by decide +kernel
theorem dX6_value_59 : decode cX6_value 59 = .ok (.if_icmp .ge 15, 3) := by decide +kernel
theorem dX6_value_62 : decode cX6_value 62 = .ok (.aload_n 0, 1) := by decide +kernel
theorem dX6_value_63 : decode cX6_value 63 = .ok (.aload_n 1, 1) := by decide +kernel
theorem dX6_value_64 : decode cX6_value 64 = .ok (.iload 5, 2) := by decide +kernel
theorem dX6_value_66 : decode cX6_value 66 = .ok (.iaload, 1) := by decide +kernel
theorem dX6_value_67 : decode cX6_value 67 = .ok (.i2l, 1) := by decide +kernel
theorem dX6_value_68 : decode cX6_value 68 = .ok (.invokevirtual 128, 3) := by decide +kernel
theorem dX6_value_71 : decode cX6_value 71 = .ok (.goto 108, 3) := by decide +kernel
end
section
theorem dX6_value_74 : decode cX6_value 74 = .ok (.iload 4, 2) := by decide +kernel
theorem dX6_value_76 : decode cX6_value 76 = .ok (.bipush 35, 2) := by decide +kernel
theorem dX6_value_78 : decode cX6_value 78 = .ok (.if_icmp .ne 17, 3) := by decide +kernel
theorem dX6_value_81 : decode cX6_value 81 = .ok (.aload_n 0, 1) := by decide +kernel
theorem dX6_value_82 : decode cX6_value 82 = .ok (.aload_n 0, 1) := by decide +kernel
theorem dX6_value_83 : decode cX6_value 83 = .ok (.getfield 15, 3) := by decide +kernel
theorem dX6_value_86 : decode cX6_value 86 = .ok (.iload_n 3, 1) := by decide +kernel
theorem dX6_value_87 : decode cX6_value 87 = .ok (.iaload, 1) := by decide +kernel
theorem dX6_value_88 : decode cX6_value 88 = .ok (.i2l, 1) := by decide +kernel
theorem dX6_value_89 : decode cX6_value 89 = .ok (.invokevirtual 128, 3) := by decide +kernel
theorem dX6_value_92 : decode cX6_value 92 = .ok (.goto 87, 3) := by decide +kernel
theorem dX6_value_95 : decode cX6_value 95 = .ok (.iload 4, 2) := by decide +kernel
theorem dX6_value_97 : decode cX6_value 97 = .ok (.bipush 109, 2) := by decide +kernel
theorem dX6_value_99 : decode cX6_value 99 = .ok (.if_icmp .ne 12, 3) := by decide +kernel
theorem dX6_value_102 : decode cX6_value 102 = .ok (.aload_n 0, 1) := by decide +kernel
theorem dX6_value_103 : decode cX6_value 103 = .ok (.iload_n 2, 1) := by decide +kernel
theorem dX6_value_104 : decode cX6_value 104 = .ok (.i2l, 1) := by decide +kernel
theorem dX6_value_105 : decode cX6_value 105 = .ok (.invokevirtual 128, 3) := by decide +kernel
theorem dX6_value_108 : decode cX6_value 108 = .ok (.goto 71, 3) := by decide +kernel
theorem dX6_value_111 : decode cX6_value 111 = .ok (.iload 4, 2) := by decide +kernel
theorem dX6_value_113 : decode cX6_value 113 = .ok (.bipush 33, 2) := by decide +kernel
theorem dX6_value_115 : decode cX6_value 115 = .ok (.if_icmp .ne 24, 3) := by decide +kernel
theorem dX6_value_118 : decode cX6_value 118 = .ok (.aload_n 0, 1) := by decide +kernel
theorem dX6_value_119 : decode cX6_value 119 = .ok (.aload_n 0, 1) := by decide +kernel
theorem dX6_value_120 : decode cX6_value 120 = .ok (.invokevirtual 132, 3) := by decide +kernel
theorem dX6_value_123 : decode cX6_value 123 = .ok (.lconst 0, 1) := by decide +kernel
theorem dX6_value_124 : decode cX6_value 124 = .ok (.lcmp, 1) := by decide +kernel
theorem dX6_value_125 : decode cX6_value 125 = .ok (.ifCond .ne 7, 3) := by decide +kernel
theorem dX6_value_128 : decode cX6_value 128 = .ok (.lconst 1, 1) := by decide +kernel
theorem dX6_value_129 : decode cX6_value 129 = .ok (.goto 4, 3) := by decide +kernel
theorem dX6_value_132 : decode cX6_value 132 = .ok (.lconst 0, 1) := by decide +kernel
theorem dX6_value_133 : decode cX6_value 133 = .ok (.invokevirtual 128, 3) := by decide +kernel
theorem dX6_value_136 : decode cX6_value 136 = .ok (.goto 43, 3) := by decide +kernel
theorem dX6_value_139 : decode cX6_value 139 = .ok (.iload 4, 2) := by decide +kernel
theorem dX6_value_141 : decode cX6_value 141 = .ok (.bipush 126, 2) := by decide +kernel
theorem dX6_value_143 : decode cX6_value 143 = .ok (.if_icmp .ne 15, 3) := by decide +kernel
theorem dX6_value_146 : decode cX6_value 146 = .ok (.aload_n 0, 1) := by decide +kernel
theorem dX6_value_147 : decode cX6_value 147 = .ok (.aload_n 0, 1) := by decide +kernel
theorem dX6_value_148 : decode cX6_value 148 = .ok (.invokevirtual 132, 3) := by decide +kernel
theorem dX6_value_151 : decode cX6_value 151 = .ok (.lneg, 1) := by decide +kernel
theorem dX6_value_152 : decode cX6_value 152 = .ok (.invokevirtual 128, 3) := by decide +kernel
theorem dX6_value_155 : decode cX6_value 155 = .ok (.goto 24, 3) := by decide +kernel
theorem dX6_value_158 : decode cX6_value 158 = .ok (.aload_n 0, 1) := by decide +kernel
theorem dX6_value_159 : decode cX6_value 159 = .ok (.invokevirtual 132, 3) := by decide +kernel
theorem dX6_value_162 : decode cX6_value 162 = .ok (.lstore 6, 2) := by decide +kernel
theorem dX6_value_164 : decode cX6_value 164 = .ok (.aload_n 0, 1) := by decide +kernel
theorem dX6_value_165 : decode cX6_value 165 = .ok (.iload 4, 2) := by decide +kernel
theorem dX6_value_167 : decode cX6_value 167 = .ok (.aload_n 0, 1) := by decide +kernel
theorem dX6_value_168 : decode cX6_value 168 = .ok (.invokevirtual 132, 3) := by decide +kernel
theorem dX6_value_171 : decode cX6_value 171 = .ok (.lload 6, 2) := by decide +kernel
theorem dX6_value_173 : decode cX6_value 173 = .ok (.invokestatic 136, 3) := by decide +kernel
theorem dX6_value_176 : decode cX6_value 176 = .ok (.invokevirtual 128, 3) := by decide +kernel
theorem dX6_value_179 : decode cX6_value 179 = .ok (.iinc 3 1, 3) := by decide +kernel
theorem dX6_value_182 : decode cX6_value 182 = .ok (.goto (-162), 3) := by decide +kernel
theorem dX6_value_185 : decode cX6_value 185 = .ok (.aload_n 0, 1) := by decide +kernel
theorem dX6_value_186 : decode cX6_value 186 = .ok (.invokevirtual 132, 3) := by decide +kernel
theorem dX6_value_189 : decode cX6_value 189 = .ok (.lreturn, 1) := by decide +kernel
theorem dX6_push_0 : decode cX6_push 0 = .ok (.aload_n 0, 1) := by decide +kernel
theorem dX6_push_1 : decode cX6_push 1 = .ok (.getfield 125, 3) := by decide +kernel
theorem dX6_push_4 : decode cX6_push 4 = .ok (.ifCond .lt 32, 3) := by decide +kernel
theorem dX6_push_7 : decode cX6_push 7 = .ok (.aload_n 0, 1) := by decide +kernel
theorem dX6_push_8 : decode cX6_push 8 = .ok (.getfield 125, 3) := by decide +kernel
theorem dX6_push_11 : decode cX6_push 11 = .ok (.bipush 40, 2) := by decide +kernel
theorem dX6_push_13 : decode cX6_push 13 = .ok (.if_icmp .ge 23, 3) := by decide +kernel
theorem dX6_push_16 : decode cX6_push 16 = .ok (.aload_n 0, 1) := by decide +kernel
theorem dX6_push_17 : decode cX6_push 17 = .ok (.getfield 19, 3) := by decide +kernel
theorem dX6_push_20 : decode cX6_push 20 = .ok (.aload_n 0, 1) := by decide +kernel
theorem dX6_push_21 : decode cX6_push 21 = .ok (.getfield 125, 3) := by decide +kernel
theorem dX6_push_24 : decode cX6_push 24 = .ok (.lload_n 1, 1) := by decide +kernel
theorem dX6_push_25 : decode cX6_push 25 = .ok (.lastore, 1) := by decide +kernel
theorem dX6_push_26 : decode cX6_push 26 = .ok (.aload_n 0, 1) := by decide +kernel
theorem dX6_push_27 : decode cX6_push 27 = .ok (.dup, 1) := by decide +kernel
theorem dX6_push_28 : decode cX6_push 28 = .ok (.getfield 125, 3) := by decide +kernel
theorem dX6_push_31 : decode cX6_push 31 = .ok (.iconst 1, 1) := by decide +kernel
theorem dX6_push_32 : decode cX6_push 32 = .ok (.iadd, 1) := by decide +kernel
theorem dX6_push_33 : decode cX6_push 33 = .ok (.putfield 125, 3) := by decide +kernel
theorem dX6_push_36 : decode cX6_push 36 = .ok (.return_, 1) := by decide +kernel
theorem dX6_pop_0 : decode cX6_pop 0 = .ok (.aload_n 0, 1) := by decide +kernel
theorem dX6_pop_1 : decode cX6_pop 1 = .ok (.getfield 125, 3) := by decide +kernel
theorem dX6_pop_4 : decode cX6_pop 4 = .ok (.ifCond .le 12, 3) := by decide +kernel
theorem dX6_pop_7 : decode cX6_pop 7 = .ok (.aload_n 0, 1) := by decide +kernel
theorem dX6_pop_8 : decode cX6_pop 8 = .ok (.getfield 125, 3) := by decide +kernel
theorem dX6_pop_11 : decode cX6_pop 11 = .ok (.bipush 40, 2) := by decide +kernel
theorem dX6_pop_13 : decode cX6_pop 13 = .ok (.if_icmp .le 5, 3) := by decide +kernel
theorem dX6_pop_16 : decode cX6_pop 16 = .ok (.lconst 0, 1) := by decide +kernel
theorem dX6_pop_17 : decode cX6_pop 17 = .ok (.lreturn, 1) := by decide +kernel
theorem dX6_pop_18 : decode cX6_pop 18 = .ok (.aload_n 0, 1) := by decide +kernel
theorem dX6_pop_19 : decode cX6_pop 19 = .ok (.dup, 1) := by decide +kernel
theorem dX6_pop_20 : decode cX6_pop 20 = .ok (.getfield 125, 3) := by decide +kernel
theorem dX6_pop_23 : decode cX6_pop 23 = .ok (.iconst 1, 1) := by decide +kernel
theorem dX6_pop_24 : decode cX6_pop 24 = .ok (.isub, 1) := by decide +kernel
theorem dX6_pop_25 : decode cX6_pop 25 = .ok (.putfield 125, 3) := by decide +kernel
theorem dX6_pop_28 : decode cX6_pop 28 = .ok (.aload_n 0, 1) := by decide +kernel
theorem dX6_pop_29 : decode cX6_pop 29 = .ok (.getfield 19, 3) := by decide +kernel
theorem dX6_pop_32 : decode cX6_pop 32 = .ok (.aload_n 0, 1) := by decide +kernel
theorem dX6_pop_33 : decode cX6_pop 33 = .ok (.getfield 125, 3) := by decide +kernel
theorem dX6_pop_36 : decode cX6_pop 36 = .ok (.laload, 1) := by decide +kernel
theorem dX6_pop_37 : decode cX6_pop 37 = .ok (.lreturn, 1) := by decide +kernel
theorem dX6_work_0 : decode cX6_work 0 = .ok (.iload_n 0, 1) := by decide +kernel
theorem dX6_work_1 : decode cX6_work 1 = .ok (.lookupswitch 159 #[(38, 93), (42, 155), (43, 147), (45, 151), (60, 111), (61, 135), (62, 123), (124, 75)], 75) := by decide +kernel
theorem dX6_work_76 : decode cX6_work 76 = .ok (.lload_n 1, 1) := by decide +kernel
theorem dX6_work_77 : decode cX6_work 77 = .ok (.lconst 0, 1) := by decide +kernel
theorem dX6_work_78 : decode cX6_work 78 = .ok (.lcmp, 1) := by decide +kernel
theorem dX6_work_79 : decode cX6_work 79 = .ok (.ifCond .ne 9, 3) := by decide +kernel
theorem dX6_work_82 : decode cX6_work 82 = .ok (.lload_n 3, 1) := by decide +kernel
theorem dX6_work_83 : decode cX6_work 83 = .ok (.lconst 0, 1) := by decide +kernel
theorem dX6_work_84 : decode cX6_work 84 = .ok (.lcmp, 1) := by decide +kernel
theorem dX6_work_85 : decode cX6_work 85 = .ok (.ifCond .eq 7, 3) := by decide +kernel
theorem dX6_work_88 : decode cX6_work 88 = .ok (.lconst 1, 1) := by decide +kernel
theorem dX6_work_89 : decode cX6_work 89 = .ok (.goto 4, 3) := by decide +kernel
theorem dX6_work_92 : decode cX6_work 92 = .ok (.lconst 0, 1) := by decide +kernel
theorem dX6_work_93 : decode cX6_work 93 = .ok (.lreturn, 1) := by decide +kernel
theorem dX6_work_94 : decode cX6_work 94 = .ok (.lload_n 1, 1) := by decide +kernel
theorem dX6_work_95 : decode cX6_work 95 = .ok (.lconst 0, 1) := by decide +kernel
theorem dX6_work_96 : decode cX6_work 96 = .ok (.lcmp, 1) := by decide +kernel
theorem dX6_work_97 : decode cX6_work 97 = .ok (.ifCond .eq 13, 3) := by decide +kernel
theorem dX6_work_100 : decode cX6_work 100 = .ok (.lload_n 3, 1) := by decide +kernel
theorem dX6_work_101 : decode cX6_work 101 = .ok (.lconst 0, 1) := by decide +kernel
theorem dX6_work_102 : decode cX6_work 102 = .ok (.lcmp, 1) := by decide +kernel
theorem dX6_work_103 : decode cX6_work 103 = .ok (.ifCond .eq 7, 3) := by decide +kernel
theorem dX6_work_106 : decode cX6_work 106 = .ok (.lconst 1, 1) := by decide +kernel
theorem dX6_work_107 : decode cX6_work 107 = .ok (.goto 4, 3) := by decide +kernel
theorem dX6_work_110 : decode cX6_work 110 = .ok (.lconst 0, 1) := by decide +kernel
theorem dX6_work_111 : decode cX6_work 111 = .ok (.lreturn, 1) := by decide +kernel
theorem dX6_work_112 : decode cX6_work 112 = .ok (.lload_n 1, 1) := by decide +kernel
theorem dX6_work_113 : decode cX6_work 113 = .ok (.lload_n 3, 1) := by decide +kernel
theorem dX6_work_114 : decode cX6_work 114 = .ok (.lcmp, 1) := by decide +kernel
theorem dX6_work_115 : decode cX6_work 115 = .ok (.ifCond .ge 7, 3) := by decide +kernel
theorem dX6_work_118 : decode cX6_work 118 = .ok (.lconst 1, 1) := by decide +kernel
theorem dX6_work_119 : decode cX6_work 119 = .ok (.goto 4, 3) := by decide +kernel
theorem dX6_work_122 : decode cX6_work 122 = .ok (.lconst 0, 1) := by decide +kernel
theorem dX6_work_123 : decode cX6_work 123 = .ok (.lreturn, 1) := by decide +kernel
theorem dX6_work_124 : decode cX6_work 124 = .ok (.lload_n 1, 1) := by decide +kernel
theorem dX6_work_125 : decode cX6_work 125 = .ok (.lload_n 3, 1) := by decide +kernel
theorem dX6_work_126 : decode cX6_work 126 = .ok (.lcmp, 1) := by decide +kernel
theorem dX6_work_127 : decode cX6_work 127 = .ok (.ifCond .le 7, 3) := by decide +kernel
theorem dX6_work_130 : decode cX6_work 130 = .ok (.lconst 1, 1) := by decide +kernel
theorem dX6_work_131 : decode cX6_work 131 = .ok (.goto 4, 3) := by decide +kernel
theorem dX6_work_134 : decode cX6_work 134 = .ok (.lconst 0, 1) := by decide +kernel
theorem dX6_work_135 : decode cX6_work 135 = .ok (.lreturn, 1) := by decide +kernel
theorem dX6_work_136 : decode cX6_work 136 = .ok (.lload_n 1, 1) := by decide +kernel
theorem dX6_work_137 : decode cX6_work 137 = .ok (.lload_n 3, 1) := by decide +kernel
theorem dX6_work_138 : decode cX6_work 138 = .ok (.lcmp, 1) := by decide +kernel
theorem dX6_work_139 : decode cX6_work 139 = .ok (.ifCond .ne 7, 3) := by decide +kernel
theorem dX6_work_142 : decode cX6_work 142 = .ok (.lconst 1, 1) := by decide +kernel
theorem dX6_work_143 : decode cX6_work 143 = .ok (.goto 4, 3) := by decide +kernel
theorem dX6_work_146 : decode cX6_work 146 = .ok (.lconst 0, 1) := by decide +kernel
theorem dX6_work_147 : decode cX6_work 147 = .ok (.lreturn, 1) := by decide +kernel
theorem dX6_work_148 : decode cX6_work 148 = .ok (.lload_n 1, 1) := by decide +kernel
theorem dX6_work_149 : decode cX6_work 149 = .ok (.lload_n 3, 1) := by decide +kernel
theorem dX6_work_150 : decode cX6_work 150 = .ok (.ladd, 1) := by decide +kernel
theorem dX6_work_151 : decode cX6_work 151 = .ok (.lreturn, 1) := by decide +kernel
theorem dX6_work_152 : decode cX6_work 152 = .ok (.lload_n 1, 1) := by decide +kernel
theorem dX6_work_153 : decode cX6_work 153 = .ok (.lload_n 3, 1) := by decide +kernel
theorem dX6_work_154 : decode cX6_work 154 = .ok (.lsub, 1) := by decide +kernel
theorem dX6_work_155 : decode cX6_work 155 = .ok (.lreturn, 1) := by decide +kernel
theorem dX6_work_156 : decode cX6_work 156 = .ok (.lload_n 1, 1) := by decide +kernel
theorem dX6_work_157 : decode cX6_work 157 = .ok (.lload_n 3, 1) := by decide +kernel
theorem dX6_work_158 : decode cX6_work 158 = .ok (.lmul, 1) := by decide +kernel
theorem dX6_work_159 : decode cX6_work 159 = .ok (.lreturn, 1) := by decide +kernel
theorem dX6_work_160 : decode cX6_work 160 = .ok (.lload_n 3, 1) := by decide +kernel
theorem dX6_work_161 : decode cX6_work 161 = .ok (.lconst 0, 1) := by decide +kernel
theorem dX6_work_162 : decode cX6_work 162 = .ok (.lcmp, 1) := by decide +kernel
theorem dX6_work_163 : decode cX6_work 163 = .ok (.ifCond .ne 7, 3) := by decide +kernel
theorem dX6_work_166 : decode cX6_work 166 = .ok (.lconst 0, 1) := by decide +kernel
theorem dX6_work_167 : decode cX6_work 167 = .ok (.goto 6, 3) := by decide +kernel
theorem dX6_work_170 : decode cX6_work 170 = .ok (.lload_n 1, 1) := by decide +kernel
theorem dX6_work_171 : decode cX6_work 171 = .ok (.lload_n 3, 1) := by decide +kernel
theorem dX6_work_172 : decode cX6_work 172 = .ok (.ldiv, 1) := by decide +kernel
theorem dX6_work_173 : decode cX6_work 173 = .ok (.lreturn, 1) := by decide +kernel
theorem dX7_init_0 : decode cX7_init 0 = .ok (.aload_n 0, 1) := by decide +kernel
theorem dX7_init_1 : decode cX7_init 1 = .ok (.invokespecial 1, 3) := by decide +kernel
theorem dX7_init_4 : decode cX7_init 4 = .ok (.aload_n 0, 1) := by decide +kernel
theorem dX7_init_5 : decode cX7_init 5 = .ok (.new 7, 3) := by decide +kernel
theorem dX7_init_8 : decode cX7_init 8 = .ok (.dup, 1) := by decide +kernel
theorem dX7_init_9 : decode cX7_init 9 = .ok (.invokespecial 9, 3) := by decide +kernel
theorem dX7_init_12 : decode cX7_init 12 = .ok (.putfield 10, 3) := by decide +kernel
theorem dX7_init_15 : decode cX7_init 15 = .ok (.aload_n 0, 1) := by decide +kernel
theorem dX7_init_16 : decode cX7_init 16 = .ok (.new 7, 3) := by decide +kernel
theorem dX7_init_19 : decode cX7_init 19 = .ok (.dup, 1) := by decide +kernel
theorem dX7_init_20 : decode cX7_init 20 = .ok (.invokespecial 9, 3) := by decide +kernel
theorem dX7_init_23 : decode cX7_init 23 = .ok (.putfield 16, 3) := by decide +kernel
theorem dX7_init_26 : decode cX7_init 26 = .ok (.aload_n 0, 1) := by decide +kernel
theorem dX7_init_27 : decode cX7_init 27 = .ok (.new 7, 3) := by decide +kernel
theorem dX7_init_30 : decode cX7_init 30 = .ok (.dup, 1) := by decide +kernel
theorem dX7_init_31 : decode cX7_init 31 = .ok (.invokespecial 9, 3) := by decide +kernel
theorem dX7_init_34 : decode cX7_init 34 = .ok (.putfield 19, 3) := by decide +kernel
theorem dX7_init_37 : decode cX7_init 37 = .ok (.aload_n 0, 1) := by decide +kernel
theorem dX7_init_38 : decode cX7_init 38 = .ok (.iconst 2, 1) := by decide +kernel
theorem dX7_init_39 : decode cX7_init 39 = .ok (.newarray .boolean, 2) := by decide +kernel
theorem dX7_init_41 : decode cX7_init 41 = .ok (.putfield 22, 3) := by decide +kernel
theorem dX7_init_44 : decode cX7_init 44 = .ok (.aload_n 0, 1) := by decide +kernel
theorem dX7_init_45 : decode cX7_init 45 = .ok (.new 26, 3) := by decide +kernel
theorem dX7_init_48 : decode cX7_init 48 = .ok (.dup, 1) := by decide +kernel
theorem dX7_init_49 : decode cX7_init 49 = .ok (.aload_n 0, 1) := by decide +kernel
theorem dX7_init_50 : decode cX7_init 50 = .ok (.getfield 10, 3) := by decide +kernel
theorem dX7_init_53 : decode cX7_init 53 = .ok (.invokespecial 28, 3) := by decide +kernel
theorem dX7_init_56 : decode cX7_init 56 = .ok (.putfield 31, 3) := by decide +kernel
theorem dX7_init_59 : decode cX7_init 59 = .ok (.aload_n 0, 1) := by decide +kernel
theorem dX7_init_60 : decode cX7_init 60 = .ok (.new 35, 3) := by decide +kernel
theorem dX7_init_63 : decode cX7_init 63 = .ok (.dup, 1) := by decide +kernel
theorem dX7_init_64 : decode cX7_init 64 = .ok (.aload_n 0, 1) := by decide +kernel
theorem dX7_init_65 : decode cX7_init 65 = .ok (.getfield 10, 3) := by decide +kernel
theorem dX7_init_68 : decode cX7_init 68 = .ok (.aload_n 0, 1) := by decide +kernel
theorem dX7_init_69 : decode cX7_init 69 = .ok (.getfield 31, 3) := by decide +kernel
theorem dX7_init_72 : decode cX7_init 72 = .ok (.invokespecial 37, 3) := by decide +kernel
theorem dX7_init_75 : decode cX7_init 75 = .ok (.putfield 40, 3) := by decide +kernel
theorem dX7_init_78 : decode cX7_init 78 = .ok (.aload_n 0, 1) := by decide +kernel
theorem dX7_init_79 : decode cX7_init 79 = .ok (.new 44, 3) := by decide +kernel
theorem dX7_init_82 : decode cX7_init 82 = .ok (.dup, 1) := by decide +kernel
theorem dX7_init_83 : decode cX7_init 83 = .ok (.aload_n 0, 1) := by decide +kernel
theorem dX7_init_84 : decode cX7_init 84 = .ok (.getfield 10, 3) := by decide +kernel
theorem dX7_init_87 : decode cX7_init 87 = .ok (.aload_n 0, 1) := by decide +kernel
theorem dX7_init_88 : decode cX7_init 88 = .ok (.getfield 40, 3) := by decide +kernel
theorem dX7_init_91 : decode cX7_init 91 = .ok (.invokespecial 46, 3) := by decide +kernel
theorem dX7_init_94 : decode cX7_init 94 = .ok (.putfield 49, 3) := by decide +kernel
theorem dX7_init_97 : decode cX7_init 97 = .ok (.aload_n 0, 1) := by decide +kernel
theorem dX7_init_98 : decode cX7_init 98 = .ok (.new 53, 3) := by decide +kernel
theorem dX7_init_101 : decode cX7_init 101 = .ok (.dup, 1) := by decide +kernel
theorem dX7_init_102 : decode cX7_init 102 = .ok (.aload_n 0, 1) := by decide +kernel
theorem dX7_init_103 : decode cX7_init 103 = .ok (.getfield 10, 3) := by decide +kernel
theorem dX7_init_106 : decode cX7_init 106 = .ok (.aload_n 0, 1) := by decide +kernel
theorem dX7_init_107 : decode cX7_init 107 = .ok (.getfield 40, 3) := by decide +kernel
theorem dX7_init_110 : decode cX7_init 110 = .ok (.invokespecial 55, 3) := by decide +kernel
theorem dX7_init_113 : decode cX7_init 113 = .ok (.putfield 56, 3) := by decide +kernel
theorem dX7_init_116 : decode cX7_init 116 = .ok (.aload_n 0, 1) := by decide +kernel
theorem dX7_init_117 : decode cX7_init 117 = .ok (.new 60, 3) := by decide +kernel
theorem dX7_init_120 : decode cX7_init 120 = .ok (.dup, 1) := by decide +kernel
theorem dX7_init_121 : decode cX7_init 121 = .ok (.aload_n 0, 1) := by decide +kernel
theorem dX7_init_122 : decode cX7_init 122 = .ok (.getfield 10, 3) := by decide +kernel
theorem dX7_init_125 : decode cX7_init 125 = .ok (.aload_n 0, 1) := by decide +kernel
theorem dX7_init_126 : decode cX7_init 126 = .ok (.getfield 40, 3) := by decide +kernel
theorem dX7_init_129 : decode cX7_init 129 = .ok (.invokespecial 62, 3) := by decide +kernel
theorem dX7_init_132 : decode cX7_init 132 = .ok (.putfield 63, 3) := by decide +kernel
theorem dX7_init_135 : decode cX7_init 135 = .ok (.aload_n 0, 1) := by decide +kernel
theorem dX7_init_136 : decode cX7_init 136 = .ok (.new 67, 3) := by decide +kernel
theorem dX7_init_139 : decode cX7_init 139 = .ok (.dup, 1) := by decide +kernel
theorem dX7_init_140 : decode cX7_init 140 = .ok (.invokespecial 69, 3) := by decide +kernel
theorem dX7_init_143 : decode cX7_init 143 = .ok (.putfield 70, 3) := by decide +kernel
theorem dX7_init_146 : decode cX7_init 146 = .ok (.aload_n 0, 1) := by decide +kernel
theorem dX7_init_147 : decode cX7_init 147 = .ok (.bipush 9, 2) := by decide +kernel
theorem dX7_init_149 : decode cX7_init 149 = .ok (.newarray .long, 2) := by decide +kernel
theorem dX7_init_151 : decode cX7_init 151 = .ok (.putfield 74, 3) := by decide +kernel
theorem dX7_init_154 : decode cX7_init 154 = .ok (.aload_n 0, 1) := by decide +kernel
theorem dX7_init_155 : decode cX7_init 155 = .ok (.bipush 40, 2) := by decide +kernel
theorem dX7_init_157 : decode cX7_init 157 = .ok (.newarray .int, 2) := by decide +kernel
theorem dX7_init_159 : decode cX7_init 159 = .ok (.putfield 78, 3) := by decide +kernel
theorem dX7_init_162 : decode cX7_init 162 = .ok (.return_, 1) := by decide +kernel
theorem dX7_walker_0 : decode cX7_walker 0 = .ok (.iload_n 1, 1) := by decide +kernel
theorem dX7_walker_1 : decode cX7_walker 1 = .ok (.iconst 0, 1) := by decide +kernel
theorem dX7_walker_2 : decode cX7_walker 2 = .ok (.bipush 7, 2) := by decide +kernel
theorem dX7_walker_4 : decode cX7_walker 4 = .ok (.invokestatic 82, 3) := by decide +kernel
theorem dX7_walker_7 : decode cX7_walker 7 = .ok (.ifCond .eq 23, 3) := by decide +kernel
theorem dX7_walker_10 : decode cX7_walker 10 = .ok (.iload_n 2, 1) := by decide +kernel
theorem dX7_walker_11 : decode cX7_walker 11 = .ok (.iconst 1, 1) := by decide +kernel
theorem dX7_walker_12 : decode cX7_walker 12 = .ok (.bipush 20, 2) := by decide +kernel
theorem dX7_walker_14 : decode cX7_walker 14 = .ok (.invokestatic 82, 3) := by decide +kernel
theorem dX7_walker_17 : decode cX7_walker 17 = .ok (.ifCond .eq 13, 3) := by decide +kernel
theorem dX7_walker_20 : decode cX7_walker 20 = .ok (.iload_n 3, 1) := by decide +kernel
theorem dX7_walker_21 : decode cX7_walker 21 = .ok (.iconst 0, 1) := by decide +kernel
theorem dX7_walker_22 : decode cX7_walker 22 = .ok (.bipush 99, 2) := by decide +kernel
theorem dX7_walker_24 : decode cX7_walker 24 = .ok (.invokestatic 82, 3) := by decide +kernel
theorem dX7_walker_27 : decode cX7_walker 27 = .ok (.ifCond .ne 8, 3) := by decide +kernel
theorem dX7_walker_30 : decode cX7_walker 30 = .ok (.aload_n 0, 1) := by decide +kernel
theorem dX7_walker_31 : decode cX7_walker 31 = .ok (.invokevirtual 86, 3) := by decide +kernel
theorem dX7_walker_34 : decode cX7_walker 34 = .ok (.ireturn, 1) := by decide +kernel
theorem dX7_walker_35 : decode cX7_walker 35 = .ok (.aload_n 0, 1) := by decide +kernel
theorem dX7_walker_36 : decode cX7_walker 36 = .ok (.getfield 10, 3) := by decide +kernel
theorem dX7_walker_39 : decode cX7_walker 39 = .ok (.getfield 90, 3) := by decide +kernel
theorem dX7_walker_42 : decode cX7_walker 42 = .ok (.bipush 8, 2) := by decide +kernel
theorem dX7_walker_44 : decode cX7_walker 44 = .ok (.if_icmp .lt 8, 3) := by decide +kernel
theorem dX7_walker_47 : decode cX7_walker 47 = .ok (.aload_n 0, 1) := by decide +kernel
theorem dX7_walker_48 : decode cX7_walker 48 = .ok (.invokevirtual 94, 3) := by decide +kernel
theorem dX7_walker_51 : decode cX7_walker 51 = .ok (.ireturn, 1) := by decide +kernel
theorem dX7_walker_52 : decode cX7_walker 52 = .ok (.aload_n 0, 1) := by decide +kernel
theorem dX7_walker_53 : decode cX7_walker 53 = .ok (.getfield 10, 3) := by decide +kernel
theorem dX7_walker_56 : decode cX7_walker 56 = .ok (.getfield 90, 3) := by decide +kernel
theorem dX7_walker_59 : decode cX7_walker 59 = .ok (.istore 4, 2) := by decide +kernel
theorem dX7_walker_61 : decode cX7_walker 61 = .ok (.aload_n 0, 1) := by decide +kernel
theorem dX7_walker_62 : decode cX7_walker 62 = .ok (.getfield 10, 3) := by decide +kernel
theorem dX7_walker_65 : decode cX7_walker 65 = .ok (.iload_n 1, 1) := by decide +kernel
theorem dX7_walker_66 : decode cX7_walker 66 = .ok (.iload_n 2, 1) := by decide +kernel
theorem dX7_walker_67 : decode cX7_walker 67 = .ok (.iload_n 3, 1) := by decide +kernel
theorem dX7_walker_68 : decode cX7_walker 68 = .ok (.invokevirtual 97, 3) := by decide +kernel
theorem dX7_walker_71 : decode cX7_walker 71 = .ok (.aload_n 0, 1) := by decide +kernel
theorem dX7_walker_72 : decode cX7_walker 72 = .ok (.invokevirtual 101, 3) := by decide +kernel
theorem dX7_walker_75 : decode cX7_walker 75 = .ok (.iload 4, 2) := by decide +kernel
theorem dX7_walker_77 : decode cX7_walker 77 = .ok (.ireturn, 1) := by decide +kernel
theorem dX7_put_0 : decode cX7_put 0 = .ok (.iload_n 1, 1) := by decide +kernel
theorem dX7_put_1 : decode cX7_put 1 = .ok (.ifCond .ne 39, 3) := by decide +kernel
theorem dX7_put_4 : decode cX7_put 4 = .ok (.iload_n 2, 1) := by decide +kernel
theorem dX7_put_5 : decode cX7_put 5 = .ok (.iconst 0, 1) := by decide +kernel
theorem dX7_put_6 : decode cX7_put 6 = .ok (.bipush 19, 2) := by decide +kernel
theorem dX7_put_8 : decode cX7_put 8 = .ok (.invokestatic 82, 3) := by decide +kernel
theorem dX7_put_11 : decode cX7_put 11 = .ok (.ifCond .eq 29, 3) := by decide +kernel
theorem dX7_put_14 : decode cX7_put 14 = .ok (.aload_n 0, 1) := by decide +kernel
theorem dX7_put_15 : decode cX7_put 15 = .ok (.getfield 10, 3) := by decide +kernel
theorem dX7_put_18 : decode cX7_put 18 = .ok (.getfield 104, 3) := by decide +kernel
theorem dX7_put_21 : decode cX7_put 21 = .ok (.istore_n 3, 1) := by decide +kernel
theorem dX7_put_22 : decode cX7_put 22 = .ok (.aload_n 0, 1) := by decide +kernel
theorem dX7_put_23 : decode cX7_put 23 = .ok (.getfield 10, 3) := by decide +kernel
theorem dX7_put_26 : decode cX7_put 26 = .ok (.iload_n 2, 1) := by decide +kernel
theorem dX7_put_27 : decode cX7_put 27 = .ok (.putfield 104, 3) := by decide +kernel
theorem dX7_put_30 : decode cX7_put 30 = .ok (.aload_n 0, 1) := by decide +kernel
theorem dX7_put_31 : decode cX7_put 31 = .ok (.getfield 49, 3) := by decide +kernel
theorem dX7_put_34 : decode cX7_put 34 = .ok (.iconst 0, 1) := by decide +kernel
theorem dX7_put_35 : decode cX7_put 35 = .ok (.putfield 107, 3) := by decide +kernel
theorem dX7_put_38 : decode cX7_put 38 = .ok (.iload_n 3, 1) := by decide +kernel
theorem dX7_put_39 : decode cX7_put 39 = .ok (.ireturn, 1) := by decide +kernel
theorem dX7_put_40 : decode cX7_put 40 = .ok (.iload_n 1, 1) := by decide +kernel
theorem dX7_put_41 : decode cX7_put 41 = .ok (.iconst 1, 1) := by decide +kernel
theorem dX7_put_42 : decode cX7_put 42 = .ok (.if_icmp .ne 39, 3) := by decide +kernel
theorem dX7_put_45 : decode cX7_put 45 = .ok (.iload_n 2, 1) := by decide +kernel
theorem dX7_put_46 : decode cX7_put 46 = .ok (.iconst 0, 1) := by decide +kernel
theorem dX7_put_47 : decode cX7_put 47 = .ok (.bipush 99, 2) := by decide +kernel
theorem dX7_put_49 : decode cX7_put 49 = .ok (.invokestatic 82, 3) := by decide +kernel
theorem dX7_put_52 : decode cX7_put 52 = .ok (.ifCond .eq 29, 3) := by decide +kernel
theorem dX7_put_55 : decode cX7_put 55 = .ok (.aload_n 0, 1) := by decide +kernel
theorem dX7_put_56 : decode cX7_put 56 = .ok (.getfield 10, 3) := by decide +kernel
theorem dX7_put_59 : decode cX7_put 59 = .ok (.getfield 111, 3) := by decide +kernel
theorem dX7_put_62 : decode cX7_put 62 = .ok (.istore_n 3, 1) := by decide +kernel
theorem dX7_put_63 : decode cX7_put 63 = .ok (.aload_n 0, 1) := by decide +kernel
theorem dX7_put_64 : decode cX7_put 64 = .ok (.getfield 10, 3) := by decide +kernel
theorem dX7_put_67 : decode cX7_put 67 = .ok (.iload_n 2, 1) := by decide +kernel
theorem dX7_put_68 : decode cX7_put 68 = .ok (.putfield 111, 3) := by decide +kernel
theorem dX7_put_71 : decode cX7_put 71 = .ok (.aload_n 0, 1) := by decide +kernel
theorem dX7_put_72 : decode cX7_put 72 = .ok (.getfield 56, 3) := by decide +kernel
theorem dX7_put_75 : decode cX7_put 75 = .ok (.iconst 0, 1) := by decide +kernel
theorem dX7_put_76 : decode cX7_put 76 = .ok (.putfield 114, 3) := by decide +kernel
theorem dX7_put_79 : decode cX7_put 79 = .ok (.iload_n 3, 1) := by decide +kernel
theorem dX7_put_80 : decode cX7_put 80 = .ok (.ireturn, 1) := by decide +kernel
theorem dX7_put_81 : decode cX7_put 81 = .ok (.aload_n 0, 1) := by decide +kernel
theorem dX7_put_82 : decode cX7_put 82 = .ok (.invokevirtual 86, 3) := by decide +kernel
theorem dX7_put_85 : decode cX7_put 85 = .ok (.ireturn, 1) := by decide +kernel
theorem dX7_write_0 : decode cX7_write 0 = .ok (.iload_n 1, 1) := by decide +kernel
theorem dX7_write_1 : decode cX7_write 1 = .ok (.iconst 0, 1) := by decide +kernel
theorem dX7_write_2 : decode cX7_write 2 = .ok (.bipush 127, 2) := by decide +kernel
theorem dX7_write_4 : decode cX7_write 4 = .ok (.invokestatic 82, 3) := by decide +kernel
theorem dX7_write_7 : decode cX7_write 7 = .ok (.ifCond .ne 8, 3) := by decide +kernel
theorem dX7_write_10 : decode cX7_write 10 = .ok (.aload_n 0, 1) := by decide +kernel
theorem dX7_write_11 : decode cX7_write 11 = .ok (.invokevirtual 86, 3) := by decide +kernel
theorem dX7_write_14 : decode cX7_write 14 = .ok (.ireturn, 1) := by decide +kernel
theorem dX7_write_15 : decode cX7_write 15 = .ok (.aload_n 0, 1) := by decide +kernel
theorem dX7_write_16 : decode cX7_write 16 = .ok (.getfield 10, 3) := by decide +kernel
theorem dX7_write_19 : decode cX7_write 19 = .ok (.getfield 115, 3) := by decide +kernel
theorem dX7_write_22 : decode cX7_write 22 = .ok (.bipush 40, 2) := by decide +kernel
theorem dX7_write_24 : decode cX7_write 24 = .ok (.if_icmp .lt 8, 3) := by decide +kernel
theorem dX7_write_27 : decode cX7_write 27 = .ok (.aload_n 0, 1) := by decide +kernel
theorem dX7_write_28 : decode cX7_write 28 = .ok (.invokevirtual 94, 3) := by decide +kernel
theorem dX7_write_31 : decode cX7_write 31 = .ok (.ireturn, 1) := by decide +kernel
theorem dX7_write_32 : decode cX7_write 32 = .ok (.aload_n 0, 1) := by decide +kernel
theorem dX7_write_33 : decode cX7_write 33 = .ok (.getfield 10, 3) := by decide +kernel
theorem dX7_write_36 : decode cX7_write 36 = .ok (.iload_n 1, 1) := by decide +kernel
theorem dX7_write_37 : decode cX7_write 37 = .ok (.i2c, 1) := by decide +kernel
theorem dX7_write_38 : decode cX7_write 38 = .ok (.invokevirtual 118, 3) := by decide +kernel
theorem dX7_write_41 : decode cX7_write 41 = .ok (.aload_n 0, 1) := by decide +kernel
theorem dX7_write_42 : decode cX7_write 42 = .ok (.getfield 31, 3) := by decide +kernel
theorem dX7_write_45 : decode cX7_write 45 = .ok (.invokevirtual 122, 3) := by decide +kernel
theorem dX7_write_48 : decode cX7_write 48 = .ok (.aload_n 0, 1) := by decide +kernel
theorem dX7_write_49 : decode cX7_write 49 = .ok (.invokevirtual 101, 3) := by decide +kernel
theorem dX7_write_52 : decode cX7_write 52 = .ok (.aload_n 0, 1) := by decide +kernel
theorem dX7_write_53 : decode cX7_write 53 = .ok (.getfield 10, 3) := by decide +kernel
theorem dX7_write_56 : decode cX7_write 56 = .ok (.getfield 115, 3) := by decide +kernel
theorem dX7_write_59 : decode cX7_write 59 = .ok (.ireturn, 1) := by decide +kernel
theorem dX7_erase_0 : decode cX7_erase 0 = .ok (.aload_n 0, 1) := by decide +kernel
theorem dX7_erase_1 : decode cX7_erase 1 = .ok (.getfield 10, 3) := by decide +kernel
theorem dX7_erase_4 : decode cX7_erase 4 = .ok (.getfield 115, 3) := by decide +kernel
theorem dX7_erase_7 : decode cX7_erase 7 = .ok (.istore_n 1, 1) := by decide +kernel
theorem dX7_erase_8 : decode cX7_erase 8 = .ok (.aload_n 0, 1) := by decide +kernel
theorem dX7_erase_9 : decode cX7_erase 9 = .ok (.getfield 10, 3) := by decide +kernel
theorem dX7_erase_12 : decode cX7_erase 12 = .ok (.iconst 0, 1) := by decide +kernel
theorem dX7_erase_13 : decode cX7_erase 13 = .ok (.putfield 115, 3) := by decide +kernel
theorem dX7_erase_16 : decode cX7_erase 16 = .ok (.aload_n 0, 1) := by decide +kernel
theorem dX7_erase_17 : decode cX7_erase 17 = .ok (.getfield 31, 3) := by decide +kernel
theorem dX7_erase_20 : decode cX7_erase 20 = .ok (.invokevirtual 122, 3) := by decide +kernel
theorem dX7_erase_23 : decode cX7_erase 23 = .ok (.aload_n 0, 1) := by decide +kernel
theorem dX7_erase_24 : decode cX7_erase 24 = .ok (.invokevirtual 101, 3) := by decide +kernel
theorem dX7_erase_27 : decode cX7_erase 27 = .ok (.iload_n 1, 1) := by decide +kernel
theorem dX7_erase_28 : decode cX7_erase 28 = .ok (.ireturn, 1) := by decide +kernel
theorem dX7_fault_0 : decode cX7_fault 0 = .ok (.aload_n 0, 1) := by decide +kernel
theorem dX7_fault_1 : decode cX7_fault 1 = .ok (.getfield 31, 3) := by decide +kernel
theorem dX7_fault_4 : decode cX7_fault 4 = .ok (.getfield 125, 3) := by decide +kernel
theorem dX7_fault_7 : decode cX7_fault 7 = .ok (.ireturn, 1) := by decide +kernel
theorem dX7_brings_0 : decode cX7_brings 0 = .ok (.iload_n 1, 1) := by decide +kernel
theorem dX7_brings_1 : decode cX7_brings 1 = .ok (.aload_n 0, 1) := by decide +kernel
theorem dX7_brings_2 : decode cX7_brings 2 = .ok (.getfield 10, 3) := by decide +kernel
theorem dX7_brings_5 : decode cX7_brings 5 = .ok (.getfield 90, 3) := by decide +kernel
theorem dX7_brings_8 : decode cX7_brings 8 = .ok (.invokestatic 128, 3) := by decide +kernel
theorem dX7_brings_11 : decode cX7_brings 11 = .ok (.ifCond .eq 12, 3) := by decide +kernel
theorem dX7_brings_14 : decode cX7_brings 14 = .ok (.iload_n 2, 1) := by decide +kernel
theorem dX7_brings_15 : decode cX7_brings 15 = .ok (.iconst 0, 1) := by decide +kernel
theorem dX7_brings_16 : decode cX7_brings 16 = .ok (.iconst 4, 1) := by decide +kernel
theorem dX7_brings_17 : decode cX7_brings 17 = .ok (.invokestatic 82, 3) := by decide +kernel
theorem dX7_brings_20 : decode cX7_brings 20 = .ok (.ifCond .ne 8, 3) := by decide +kernel
theorem dX7_brings_23 : decode cX7_brings 23 = .ok (.aload_n 0, 1) := by decide +kernel
theorem dX7_brings_24 : decode cX7_brings 24 = .ok (.invokevirtual 86, 3) := by decide +kernel
theorem dX7_brings_27 : decode cX7_brings 27 = .ok (.ireturn, 1) := by decide +kernel
theorem dX7_brings_28 : decode cX7_brings 28 = .ok (.aload_n 0, 1) := by decide +kernel
theorem dX7_brings_29 : decode cX7_brings 29 = .ok (.getfield 10, 3) := by decide +kernel
theorem dX7_brings_32 : decode cX7_brings 32 = .ok (.iload_n 1, 1) := by decide +kernel
theorem dX7_brings_33 : decode cX7_brings 33 = .ok (.iload_n 2, 1) := by decide +kernel
theorem dX7_brings_34 : decode cX7_brings 34 = .ok (.invokevirtual 132, 3) := by decide +kernel
theorem dX7_brings_37 : decode cX7_brings 37 = .ok (.ireturn, 1) := by decide +kernel
theorem dX7_well_0 : decode cX7_well 0 = .ok (.iload_n 1, 1) := by decide +kernel
theorem dX7_well_1 : decode cX7_well 1 = .ok (.aload_n 0, 1) := by decide +kernel
theorem dX7_well_2 : decode cX7_well 2 = .ok (.getfield 10, 3) := by decide +kernel
theorem dX7_well_5 : decode cX7_well 5 = .ok (.getfield 90, 3) := by decide +kernel
theorem dX7_well_8 : decode cX7_well 8 = .ok (.invokestatic 128, 3) := by decide +kernel
theorem dX7_well_11 : decode cX7_well 11 = .ok (.ifCond .eq 14, 3) := by decide +kernel
theorem dX7_well_14 : decode cX7_well 14 = .ok (.iload_n 2, 1) := by decide +kernel
theorem dX7_well_15 : decode cX7_well 15 = .ok (.iconst 0, 1) := by decide +kernel
theorem dX7_well_16 : decode cX7_well 16 = .ok (.sipush 199, 3) := by decide +kernel
theorem dX7_well_19 : decode cX7_well 19 = .ok (.invokestatic 82, 3) := by decide +kernel
theorem dX7_well_22 : decode cX7_well 22 = .ok (.ifCond .ne 8, 3) := by decide +kernel
theorem dX7_well_25 : decode cX7_well 25 = .ok (.aload_n 0, 1) := by decide +kernel
theorem dX7_well_26 : decode cX7_well 26 = .ok (.invokevirtual 86, 3) := by decide +kernel
theorem dX7_well_29 : decode cX7_well 29 = .ok (.ireturn, 1) := by decide +kernel
theorem dX7_well_30 : decode cX7_well 30 = .ok (.aload_n 0, 1) := by decide +kernel
theorem dX7_well_31 : decode cX7_well 31 = .ok (.getfield 40, 3) := by decide +kernel
theorem dX7_well_34 : decode cX7_well 34 = .ok (.iload_n 1, 1) := by decide +kernel
theorem dX7_well_35 : decode cX7_well 35 = .ok (.iload_n 2, 1) := by decide +kernel
theorem dX7_well_36 : decode cX7_well 36 = .ok (.invokevirtual 136, 3) := by decide +kernel
theorem dX7_well_39 : decode cX7_well 39 = .ok (.ifCond .eq 7, 3) := by decide +kernel
theorem dX7_well_42 : decode cX7_well 42 = .ok (.iconst 1, 1) := by decide +kernel
theorem dX7_well_43 : decode cX7_well 43 = .ok (.goto 4, 3) := by decide +kernel
theorem dX7_well_46 : decode cX7_well 46 = .ok (.iconst 0, 1) := by decide +kernel
theorem dX7_well_47 : decode cX7_well 47 = .ok (.ireturn, 1) := by decide +kernel
theorem dX7_on_0 : decode cX7_on 0 = .ok (.iload_n 1, 1) := by decide +kernel
theorem dX7_on_1 : decode cX7_on 1 = .ok (.iconst 0, 1) := by decide +kernel
theorem dX7_on_2 : decode cX7_on 2 = .ok (.sipush 199, 3) := by decide +kernel
theorem dX7_on_5 : decode cX7_on 5 = .ok (.invokestatic 82, 3) := by decide +kernel
theorem dX7_on_8 : decode cX7_on 8 = .ok (.ifCond .ne 8, 3) := by decide +kernel
theorem dX7_on_11 : decode cX7_on 11 = .ok (.aload_n 0, 1) := by decide +kernel
theorem dX7_on_12 : decode cX7_on 12 = .ok (.invokevirtual 86, 3) := by decide +kernel
theorem dX7_on_15 : decode cX7_on 15 = .ok (.ireturn, 1) := by decide +kernel
theorem dX7_on_16 : decode cX7_on 16 = .ok (.aload_n 0, 1) := by decide +kernel
theorem dX7_on_17 : decode cX7_on 17 = .ok (.getfield 49, 3) := by decide +kernel
theorem dX7_on_20 : decode cX7_on 20 = .ok (.invokevirtual 139, 3) := by decide +kernel
theorem dX7_on_23 : decode cX7_on 23 = .ok (.aload_n 0, 1) := by decide +kernel
theorem dX7_on_24 : decode cX7_on 24 = .ok (.getfield 49, 3) := by decide +kernel
theorem dX7_on_27 : decode cX7_on 27 = .ok (.getfield 142, 3) := by decide +kernel
theorem dX7_on_30 : decode cX7_on 30 = .ok (.iload_n 1, 1) := by decide +kernel
theorem dX7_on_31 : decode cX7_on 31 = .ok (.iaload, 1) := by decide +kernel
theorem dX7_on_32 : decode cX7_on 32 = .ok (.ireturn, 1) := by decide +kernel
theorem dX7_stepped_0 : decode cX7_stepped 0 = .ok (.aload_n 0, 1) := by decide +kernel
theorem dX7_stepped_1 : decode cX7_stepped 1 = .ok (.iload_n 1, 1) := by decide +kernel
theorem dX7_stepped_2 : decode cX7_stepped 2 = .ok (.invokevirtual 145, 3) := by decide +kernel
theorem dX7_stepped_5 : decode cX7_stepped 5 = .ok (.ifCond .eq 12, 3) := by decide +kernel
theorem dX7_stepped_8 : decode cX7_stepped 8 = .ok (.iload_n 2, 1) := by decide +kernel
theorem dX7_stepped_9 : decode cX7_stepped 9 = .ok (.iconst 0, 1) := by decide +kernel
theorem dX7_stepped_10 : decode cX7_stepped 10 = .ok (.iconst 1, 1) := by decide +kernel
theorem dX7_stepped_11 : decode cX7_stepped 11 = .ok (.invokestatic 82, 3) := by decide +kernel
theorem dX7_stepped_14 : decode cX7_stepped 14 = .ok (.ifCond .ne 8, 3) := by decide +kernel
theorem dX7_stepped_17 : decode cX7_stepped 17 = .ok (.aload_n 0, 1) := by decide +kernel
theorem dX7_stepped_18 : decode cX7_stepped 18 = .ok (.invokevirtual 86, 3) := by decide +kernel
theorem dX7_stepped_21 : decode cX7_stepped 21 = .ok (.ireturn, 1) := by decide +kernel
theorem dX7_stepped_22 : decode cX7_stepped 22 = .ok (.aload_n 0, 1) := by decide +kernel
theorem dX7_stepped_23 : decode cX7_stepped 23 = .ok (.getfield 49, 3) := by decide +kernel
theorem dX7_stepped_26 : decode cX7_stepped 26 = .ok (.invokevirtual 139, 3) := by decide +kernel
theorem dX7_stepped_29 : decode cX7_stepped 29 = .ok (.iload_n 2, 1) := by decide +kernel
theorem dX7_stepped_30 : decode cX7_stepped 30 = .ok (.ifCond .ne 15, 3) := by decide +kernel
theorem dX7_stepped_33 : decode cX7_stepped 33 = .ok (.aload_n 0, 1) := by decide +kernel
theorem dX7_stepped_34 : decode cX7_stepped 34 = .ok (.getfield 49, 3) := by decide +kernel
theorem dX7_stepped_37 : decode cX7_stepped 37 = .ok (.getfield 149, 3) := by decide +kernel
theorem dX7_stepped_40 : decode cX7_stepped 40 = .ok (.iload_n 1, 1) := by decide +kernel
theorem dX7_stepped_41 : decode cX7_stepped 41 = .ok (.iaload, 1) := by decide +kernel
theorem dX7_stepped_42 : decode cX7_stepped 42 = .ok (.goto 12, 3) := by decide +kernel
theorem dX7_stepped_45 : decode cX7_stepped 45 = .ok (.aload_n 0, 1) := by decide +kernel
theorem dX7_stepped_46 : decode cX7_stepped 46 = .ok (.getfield 49, 3) := by decide +kernel
theorem dX7_stepped_49 : decode cX7_stepped 49 = .ok (.getfield 152, 3) := by decide +kernel
theorem dX7_stepped_52 : decode cX7_stepped 52 = .ok (.iload_n 1, 1) := by decide +kernel
theorem dX7_stepped_53 : decode cX7_stepped 53 = .ok (.iaload, 1) := by decide +kernel
theorem dX7_stepped_54 : decode cX7_stepped 54 = .ok (.ireturn, 1) := by decide +kernel
theorem dX7_faulty_0 : decode cX7_faulty 0 = .ok (.iload_n 1, 1) := by decide +kernel
theorem dX7_faulty_1 : decode cX7_faulty 1 = .ok (.iconst 0, 1) := by decide +kernel
theorem dX7_faulty_2 : decode cX7_faulty 2 = .ok (.iconst 1, 1) := by decide +kernel
theorem dX7_faulty_3 : decode cX7_faulty 3 = .ok (.invokestatic 82, 3) := by decide +kernel
theorem dX7_faulty_6 : decode cX7_faulty 6 = .ok (.ifCond .ne 8, 3) := by decide +kernel
theorem dX7_faulty_9 : decode cX7_faulty 9 = .ok (.aload_n 0, 1) := by decide +kernel
theorem dX7_faulty_10 : decode cX7_faulty 10 = .ok (.invokevirtual 86, 3) := by decide +kernel
theorem dX7_faulty_13 : decode cX7_faulty 13 = .ok (.ireturn, 1) := by decide +kernel
theorem dX7_faulty_14 : decode cX7_faulty 14 = .ok (.aload_n 0, 1) := by decide +kernel
theorem dX7_faulty_15 : decode cX7_faulty 15 = .ok (.getfield 49, 3) := by decide +kernel
theorem dX7_faulty_18 : decode cX7_faulty 18 = .ok (.invokevirtual 139, 3) := by decide +kernel
theorem dX7_faulty_21 : decode cX7_faulty 21 = .ok (.iload_n 1, 1) := by decide +kernel
theorem dX7_faulty_22 : decode cX7_faulty 22 = .ok (.ifCond .ne 13, 3) := by decide +kernel
theorem dX7_faulty_25 : decode cX7_faulty 25 = .ok (.aload_n 0, 1) := by decide +kernel
theorem dX7_faulty_26 : decode cX7_faulty 26 = .ok (.getfield 49, 3) := by decide +kernel
theorem dX7_faulty_29 : decode cX7_faulty 29 = .ok (.getfield 155, 3) := by decide +kernel
theorem dX7_faulty_32 : decode cX7_faulty 32 = .ok (.goto 10, 3) := by decide +kernel
theorem dX7_faulty_35 : decode cX7_faulty 35 = .ok (.aload_n 0, 1) := by decide +kernel
theorem dX7_faulty_36 : decode cX7_faulty 36 = .ok (.getfield 49, 3) := by decide +kernel
theorem dX7_faulty_39 : decode cX7_faulty 39 = .ok (.getfield 158, 3) := by decide +kernel
theorem dX7_faulty_42 : decode cX7_faulty 42 = .ok (.ireturn, 1) := by decide +kernel
theorem dX7_least_0 : decode cX7_least 0 = .ok (.iload_n 1, 1) := by decide +kernel
theorem dX7_least_1 : decode cX7_least 1 = .ok (.iconst 0, 1) := by decide +kernel
theorem dX7_least_2 : decode cX7_least 2 = .ok (.iconst 3, 1) := by decide +kernel
theorem dX7_least_3 : decode cX7_least 3 = .ok (.invokestatic 82, 3) := by decide +kernel
theorem dX7_least_6 : decode cX7_least 6 = .ok (.ifCond .ne 8, 3) := by decide +kernel
theorem dX7_least_9 : decode cX7_least 9 = .ok (.aload_n 0, 1) := by decide +kernel
theorem dX7_least_10 : decode cX7_least 10 = .ok (.invokevirtual 86, 3) := by decide +kernel
theorem dX7_least_13 : decode cX7_least 13 = .ok (.ireturn, 1) := by decide +kernel
theorem dX7_least_14 : decode cX7_least 14 = .ok (.aload_n 0, 1) := by decide +kernel
theorem dX7_least_15 : decode cX7_least 15 = .ok (.getfield 56, 3) := by decide +kernel
theorem dX7_least_18 : decode cX7_least 18 = .ok (.invokevirtual 161, 3) := by decide +kernel
theorem dX7_least_21 : decode cX7_least 21 = .ok (.iload_n 1, 1) := by decide +kernel
theorem dX7_least_22 : decode cX7_least 22 = .ok (.tableswitch 64 0 2 #[26, 34, 42], 26) := by decide +kernel
theorem dX7_least_48 : decode cX7_least 48 = .ok (.aload_n 0, 1) := by decide +kernel
theorem dX7_least_49 : decode cX7_least 49 = .ok (.getfield 56, 3) := by decide +kernel
theorem dX7_least_52 : decode cX7_least 52 = .ok (.getfield 164, 3) := by decide +kernel
theorem dX7_least_55 : decode cX7_least 55 = .ok (.ireturn, 1) := by decide +kernel
theorem dX7_least_56 : decode cX7_least 56 = .ok (.aload_n 0, 1) := by decide +kernel
theorem dX7_least_57 : decode cX7_least 57 = .ok (.getfield 56, 3) := by decide +kernel
theorem dX7_least_60 : decode cX7_least 60 = .ok (.getfield 167, 3) := by decide +kernel
theorem dX7_least_63 : decode cX7_least 63 = .ok (.ireturn, 1) := by decide +kernel
theorem dX7_least_64 : decode cX7_least 64 = .ok (.aload_n 0, 1) := by decide +kernel
theorem dX7_least_65 : decode cX7_least 65 = .ok (.getfield 56, 3) := by decide +kernel
theorem dX7_least_68 : decode cX7_least 68 = .ok (.getfield 170, 3) := by decide +kernel
theorem dX7_least_71 : decode cX7_least 71 = .ok (.ifCond .eq 13, 3) := by decide +kernel
theorem dX7_least_74 : decode cX7_least 74 = .ok (.aload_n 0, 1) := by decide +kernel
theorem dX7_least_75 : decode cX7_least 75 = .ok (.getfield 56, 3) := by decide +kernel
theorem dX7_least_78 : decode cX7_least 78 = .ok (.getfield 173, 3) := by decide +kernel
theorem dX7_least_81 : decode cX7_least 81 = .ok (.goto 4, 3) := by decide +kernel
theorem dX7_least_84 : decode cX7_least 84 = .ok (.iconst (-1), 1) := by decide +kernel
theorem dX7_least_85 : decode cX7_least 85 = .ok (.ireturn, 1) := by decide +kernel
theorem dX7_least_86 : decode cX7_least 86 = .ok (.aload_n 0, 1) := by decide +kernel
theorem dX7_least_87 : decode cX7_least 87 = .ok (.getfield 56, 3) := by decide +kernel
theorem dX7_least_90 : decode cX7_least 90 = .ok (.getfield 176, 3) := by decide +kernel
theorem dX7_least_93 : decode cX7_least 93 = .ok (.ireturn, 1) := by decide +kernel
theorem dX7_row_0 : decode cX7_row 0 = .ok (.iload_n 1, 1) := by decide +kernel
theorem dX7_row_1 : decode cX7_row 1 = .ok (.ifCond .ge 16, 3) := by decide +kernel
theorem dX7_row_4 : decode cX7_row 4 = .ok (.aload_n 0, 1) := by decide +kernel
theorem dX7_row_5 : decode cX7_row 5 = .ok (.dup, 1) := by decide +kernel
theorem dX7_row_6 : decode cX7_row 6 = .ok (.getfield 179, 3) := by decide +kernel
theorem dX7_row_9 : decode cX7_row 9 = .ok (.iconst 1, 1) := by decide +kernel
theorem dX7_row_10 : decode cX7_row 10 = .ok (.iadd, 1) := by decide +kernel
theorem dX7_row_11 : decode cX7_row 11 = .ok (.putfield 179, 3) := by decide +kernel
theorem dX7_row_14 : decode cX7_row 14 = .ok (.bipush (-10), 2) := by decide +kernel
theorem dX7_row_16 : decode cX7_row 16 = .ok (.ireturn, 1) := by decide +kernel
theorem dX7_row_17 : decode cX7_row 17 = .ok (.aload_n 0, 1) := by decide +kernel
theorem dX7_row_18 : decode cX7_row 18 = .ok (.getfield 56, 3) := by decide +kernel
theorem dX7_row_21 : decode cX7_row 21 = .ok (.invokevirtual 161, 3) := by decide +kernel
theorem dX7_row_24 : decode cX7_row 24 = .ok (.iload_n 1, 1) := by decide +kernel
theorem dX7_row_25 : decode cX7_row 25 = .ok (.aload_n 0, 1) := by decide +kernel
theorem dX7_row_26 : decode cX7_row 26 = .ok (.getfield 56, 3) := by decide +kernel
theorem dX7_row_29 : decode cX7_row 29 = .ok (.getfield 173, 3) := by decide +kernel
theorem dX7_row_32 : decode cX7_row 32 = .ok (.if_icmp .ge 21, 3) := by decide +kernel
theorem dX7_row_35 : decode cX7_row 35 = .ok (.iload_n 1, 1) := by decide +kernel
theorem dX7_row_36 : decode cX7_row 36 = .ok (.bipush 8, 2) := by decide +kernel
theorem dX7_row_38 : decode cX7_row 38 = .ok (.if_icmp .ge 15, 3) := by decide +kernel
theorem dX7_row_41 : decode cX7_row 41 = .ok (.aload_n 0, 1) := by decide +kernel
theorem dX7_row_42 : decode cX7_row 42 = .ok (.getfield 56, 3) := by decide +kernel
theorem dX7_row_45 : decode cX7_row 45 = .ok (.getfield 182, 3) := by decide +kernel
theorem dX7_row_48 : decode cX7_row 48 = .ok (.iload_n 1, 1) := by decide +kernel
theorem dX7_row_49 : decode cX7_row 49 = .ok (.iaload, 1) := by decide +kernel
theorem dX7_row_50 : decode cX7_row 50 = .ok (.goto 5, 3) := by decide +kernel
theorem dX7_row_53 : decode cX7_row 53 = .ok (.bipush (-5), 2) := by decide +kernel
theorem dX7_row_55 : decode cX7_row 55 = .ok (.ireturn, 1) := by decide +kernel
theorem dX7_toll_0 : decode cX7_toll 0 = .ok (.iload_n 1, 1) := by decide +kernel
theorem dX7_toll_1 : decode cX7_toll 1 = .ok (.iconst 0, 1) := by decide +kernel
theorem dX7_toll_2 : decode cX7_toll 2 = .ok (.bipush 20, 2) := by decide +kernel
theorem dX7_toll_4 : decode cX7_toll 4 = .ok (.invokestatic 82, 3) := by decide +kernel
theorem dX7_toll_7 : decode cX7_toll 7 = .ok (.ifCond .eq 13, 3) := by decide +kernel
theorem dX7_toll_10 : decode cX7_toll 10 = .ok (.iload_n 2, 1) := by decide +kernel
theorem dX7_toll_11 : decode cX7_toll 11 = .ok (.iconst 0, 1) := by decide +kernel
theorem dX7_toll_12 : decode cX7_toll 12 = .ok (.bipush 8, 2) := by decide +kernel
theorem dX7_toll_14 : decode cX7_toll 14 = .ok (.invokestatic 82, 3) := by decide +kernel
theorem dX7_toll_17 : decode cX7_toll 17 = .ok (.ifCond .ne 8, 3) := by decide +kernel
theorem dX7_toll_20 : decode cX7_toll 20 = .ok (.aload_n 0, 1) := by decide +kernel
theorem dX7_toll_21 : decode cX7_toll 21 = .ok (.invokevirtual 86, 3) := by decide +kernel
theorem dX7_toll_24 : decode cX7_toll 24 = .ok (.ireturn, 1) := by decide +kernel
theorem dX7_toll_25 : decode cX7_toll 25 = .ok (.aload_n 0, 1) := by decide +kernel
theorem dX7_toll_26 : decode cX7_toll 26 = .ok (.getfield 56, 3) := by decide +kernel
theorem dX7_toll_29 : decode cX7_toll 29 = .ok (.invokevirtual 161, 3) := by decide +kernel
theorem dX7_toll_32 : decode cX7_toll 32 = .ok (.aload_n 0, 1) := by decide +kernel
theorem dX7_toll_33 : decode cX7_toll 33 = .ok (.getfield 56, 3) := by decide +kernel
theorem dX7_toll_36 : decode cX7_toll 36 = .ok (.getfield 170, 3) := by decide +kernel
theorem dX7_toll_39 : decode cX7_toll 39 = .ok (.ifCond .ne 8, 3) := by decide +kernel
theorem dX7_toll_42 : decode cX7_toll 42 = .ok (.aload_n 0, 1) := by decide +kernel
theorem dX7_toll_43 : decode cX7_toll 43 = .ok (.invokevirtual 185, 3) := by decide +kernel
theorem dX7_toll_46 : decode cX7_toll 46 = .ok (.ireturn, 1) := by decide +kernel
theorem dX7_toll_47 : decode cX7_toll 47 = .ok (.aload_n 0, 1) := by decide +kernel
theorem dX7_toll_48 : decode cX7_toll 48 = .ok (.iload_n 1, 1) := by decide +kernel
theorem dX7_toll_49 : decode cX7_toll 49 = .ok (.aload_n 0, 1) := by decide +kernel
theorem dX7_toll_50 : decode cX7_toll 50 = .ok (.getfield 56, 3) := by decide +kernel
theorem dX7_toll_53 : decode cX7_toll 53 = .ok (.getfield 173, 3) := by decide +kernel
theorem dX7_toll_56 : decode cX7_toll 56 = .ok (.invokevirtual 188, 3) := by decide +kernel
theorem dX7_toll_59 : decode cX7_toll 59 = .ok (.lstore_n 3, 1) := by decide +kernel
theorem dX7_toll_60 : decode cX7_toll 60 = .ok (.lconst 0, 1) := by decide +kernel
theorem dX7_toll_61 : decode cX7_toll 61 = .ok (.lstore 5, 2) := by decide +kernel
theorem dX7_toll_63 : decode cX7_toll 63 = .ok (.iconst 0, 1) := by decide +kernel
theorem dX7_toll_64 : decode cX7_toll 64 = .ok (.istore 7, 2) := by decide +kernel
theorem dX7_toll_66 : decode cX7_toll 66 = .ok (.iload 7, 2) := by decide +kernel
theorem dX7_toll_68 : decode cX7_toll 68 = .ok (.iload_n 2, 1) := by decide +kernel
theorem dX7_toll_69 : decode cX7_toll 69 = .ok (.if_icmp .gt 21, 3) := by decide +kernel
theorem dX7_toll_72 : decode cX7_toll 72 = .ok (.lload 5, 2) := by decide +kernel
theorem dX7_toll_74 : decode cX7_toll 74 = .ok (.aload_n 0, 1) := by decide +kernel
theorem dX7_toll_75 : decode cX7_toll 75 = .ok (.getfield 74, 3) := by decide +kernel
theorem dX7_toll_78 : decode cX7_toll 78 = .ok (.iload 7, 2) := by decide +kernel
theorem dX7_toll_80 : decode cX7_toll 80 = .ok (.laload, 1) := by decide +kernel
theorem dX7_toll_81 : decode cX7_toll 81 = .ok (.ladd, 1) := by decide +kernel
theorem dX7_toll_82 : decode cX7_toll 82 = .ok (.lstore 5, 2) := by decide +kernel
theorem dX7_toll_84 : decode cX7_toll 84 = .ok (.iinc 7 1, 3) := by decide +kernel
theorem dX7_toll_87 : decode cX7_toll 87 = .ok (.goto (-21), 3) := by decide +kernel
theorem dX7_toll_90 : decode cX7_toll 90 = .ok (.aload_n 0, 1) := by decide +kernel
theorem dX7_toll_91 : decode cX7_toll 91 = .ok (.getfield 70, 3) := by decide +kernel
theorem dX7_toll_94 : decode cX7_toll 94 = .ok (.lload 5, 2) := by decide +kernel
theorem dX7_toll_96 : decode cX7_toll 96 = .ok (.lload_n 3, 1) := by decide +kernel
theorem dX7_toll_97 : decode cX7_toll 97 = .ok (.invokevirtual 192, 3) := by decide +kernel
theorem dX7_toll_100 : decode cX7_toll 100 = .ok (.iconst 1, 1) := by decide +kernel
theorem dX7_toll_101 : decode cX7_toll 101 = .ok (.ireturn, 1) := by decide +kernel
theorem dX7_doubt_0 : decode cX7_doubt 0 = .ok (.aload_n 0, 1) := by decide +kernel
theorem dX7_doubt_1 : decode cX7_doubt 1 = .ok (.iload_n 1, 1) := by decide +kernel
theorem dX7_doubt_2 : decode cX7_doubt 2 = .ok (.invokevirtual 145, 3) := by decide +kernel
theorem dX7_doubt_5 : decode cX7_doubt 5 = .ok (.ifCond .eq 13, 3) := by decide +kernel
theorem dX7_doubt_8 : decode cX7_doubt 8 = .ok (.iload_n 2, 1) := by decide +kernel
theorem dX7_doubt_9 : decode cX7_doubt 9 = .ok (.iconst 0, 1) := by decide +kernel
theorem dX7_doubt_10 : decode cX7_doubt 10 = .ok (.bipush 10, 2) := by decide +kernel
theorem dX7_doubt_12 : decode cX7_doubt 12 = .ok (.invokestatic 82, 3) := by decide +kernel
theorem dX7_doubt_15 : decode cX7_doubt 15 = .ok (.ifCond .ne 8, 3) := by decide +kernel
theorem dX7_doubt_18 : decode cX7_doubt 18 = .ok (.aload_n 0, 1) := by decide +kernel
theorem dX7_doubt_19 : decode cX7_doubt 19 = .ok (.invokevirtual 86, 3) := by decide +kernel
theorem dX7_doubt_22 : decode cX7_doubt 22 = .ok (.ireturn, 1) := by decide +kernel
theorem dX7_doubt_23 : decode cX7_doubt 23 = .ok (.aload_n 0, 1) := by decide +kernel
theorem dX7_doubt_24 : decode cX7_doubt 24 = .ok (.getfield 10, 3) := by decide +kernel
theorem dX7_doubt_27 : decode cX7_doubt 27 = .ok (.getfield 196, 3) := by decide +kernel
theorem dX7_doubt_30 : decode cX7_doubt 30 = .ok (.iload_n 1, 1) := by decide +kernel
theorem dX7_doubt_31 : decode cX7_doubt 31 = .ok (.iaload, 1) := by decide +kernel
theorem dX7_doubt_32 : decode cX7_doubt 32 = .ok (.istore_n 3, 1) := by decide +kernel
theorem dX7_doubt_33 : decode cX7_doubt 33 = .ok (.aload_n 0, 1) := by decide +kernel
theorem dX7_doubt_34 : decode cX7_doubt 34 = .ok (.getfield 10, 3) := by decide +kernel
theorem dX7_doubt_37 : decode cX7_doubt 37 = .ok (.getfield 196, 3) := by decide +kernel
theorem dX7_doubt_40 : decode cX7_doubt 40 = .ok (.iload_n 1, 1) := by decide +kernel
theorem dX7_doubt_41 : decode cX7_doubt 41 = .ok (.iload_n 2, 1) := by decide +kernel
theorem dX7_doubt_42 : decode cX7_doubt 42 = .ok (.iastore, 1) := by decide +kernel
theorem dX7_doubt_43 : decode cX7_doubt 43 = .ok (.iload_n 3, 1) := by decide +kernel
theorem dX7_doubt_44 : decode cX7_doubt 44 = .ok (.ireturn, 1) := by decide +kernel
theorem dX7_odd_0 : decode cX7_odd 0 = .ok (.iload_n 1, 1) := by decide +kernel
theorem dX7_odd_1 : decode cX7_odd 1 = .ok (.aload_n 0, 1) := by decide +kernel
theorem dX7_odd_2 : decode cX7_odd 2 = .ok (.getfield 10, 3) := by decide +kernel
theorem dX7_odd_5 : decode cX7_odd 5 = .ok (.getfield 90, 3) := by decide +kernel
theorem dX7_odd_8 : decode cX7_odd 8 = .ok (.invokestatic 128, 3) := by decide +kernel
theorem dX7_odd_11 : decode cX7_odd 11 = .ok (.ifCond .ne 8, 3) := by decide +kernel
theorem dX7_odd_14 : decode cX7_odd 14 = .ok (.aload_n 0, 1) := by decide +kernel
theorem dX7_odd_15 : decode cX7_odd 15 = .ok (.invokevirtual 86, 3) := by decide +kernel
theorem dX7_odd_18 : decode cX7_odd 18 = .ok (.ireturn, 1) := by decide +kernel
theorem dX7_odd_19 : decode cX7_odd 19 = .ok (.lconst 0, 1) := by decide +kernel
theorem dX7_odd_20 : decode cX7_odd 20 = .ok (.lstore_n 2, 1) := by decide +kernel
theorem dX7_odd_21 : decode cX7_odd 21 = .ok (.lconst 1, 1) := by decide +kernel
theorem dX7_odd_22 : decode cX7_odd 22 = .ok (.lstore 4, 2) := by decide +kernel
theorem dX7_odd_24 : decode cX7_odd 24 = .ok (.iconst 0, 1) := by decide +kernel
theorem dX7_odd_25 : decode cX7_odd 25 = .ok (.istore 6, 2) := by decide +kernel
theorem dX7_odd_27 : decode cX7_odd 27 = .ok (.iload 6, 2) := by decide +kernel
theorem dX7_odd_29 : decode cX7_odd 29 = .ok (.bipush 8, 2) := by decide +kernel
theorem dX7_odd_31 : decode cX7_odd 31 = .ok (.if_icmp .ge 66, 3) := by decide +kernel
theorem dX7_odd_34 : decode cX7_odd 34 = .ok (.iload_n 1, 1) := by decide +kernel
theorem dX7_odd_35 : decode cX7_odd 35 = .ok (.iload 6, 2) := by decide +kernel
theorem dX7_odd_37 : decode cX7_odd 37 = .ok (.invokestatic 199, 3) := by decide +kernel
theorem dX7_odd_40 : decode cX7_odd 40 = .ok (.ifCond .eq 51, 3) := by decide +kernel
theorem dX7_odd_43 : decode cX7_odd 43 = .ok (.aload_n 0, 1) := by decide +kernel
theorem dX7_odd_44 : decode cX7_odd 44 = .ok (.getfield 10, 3) := by decide +kernel
theorem dX7_odd_47 : decode cX7_odd 47 = .ok (.getfield 196, 3) := by decide +kernel
theorem dX7_odd_50 : decode cX7_odd 50 = .ok (.iload 6, 2) := by decide +kernel
theorem dX7_odd_52 : decode cX7_odd 52 = .ok (.iaload, 1) := by decide +kernel
theorem dX7_odd_53 : decode cX7_odd 53 = .ok (.i2l, 1) := by decide +kernel
theorem dX7_odd_54 : decode cX7_odd 54 = .ok (.lstore 7, 2) := by decide +kernel
theorem dX7_odd_56 : decode cX7_odd 56 = .ok (.ldc2_w 202, 3) := by decide +kernel
theorem dX7_odd_59 : decode cX7_odd 59 = .ok (.lload 7, 2) := by decide +kernel
theorem dX7_odd_61 : decode cX7_odd 61 = .ok (.lsub, 1) := by decide +kernel
theorem dX7_odd_62 : decode cX7_odd 62 = .ok (.lstore 9, 2) := by decide +kernel
theorem dX7_odd_64 : decode cX7_odd 64 = .ok (.lload_n 2, 1) := by decide +kernel
theorem dX7_odd_65 : decode cX7_odd 65 = .ok (.lload 9, 2) := by decide +kernel
theorem dX7_odd_67 : decode cX7_odd 67 = .ok (.lmul, 1) := by decide +kernel
theorem dX7_odd_68 : decode cX7_odd 68 = .ok (.lload 4, 2) := by decide +kernel
theorem dX7_odd_70 : decode cX7_odd 70 = .ok (.lload 7, 2) := by decide +kernel
theorem dX7_odd_72 : decode cX7_odd 72 = .ok (.lmul, 1) := by decide +kernel
theorem dX7_odd_73 : decode cX7_odd 73 = .ok (.ladd, 1) := by decide +kernel
theorem dX7_odd_74 : decode cX7_odd 74 = .ok (.lstore 11, 2) := by decide +kernel
theorem dX7_odd_76 : decode cX7_odd 76 = .ok (.lload 4, 2) := by decide +kernel
theorem dX7_odd_78 : decode cX7_odd 78 = .ok (.lload 9, 2) := by decide +kernel
theorem dX7_odd_80 : decode cX7_odd 80 = .ok (.lmul, 1) := by decide +kernel
theorem dX7_odd_81 : decode cX7_odd 81 = .ok (.lload_n 2, 1) := by decide +kernel
theorem dX7_odd_82 : decode cX7_odd 82 = .ok (.lload 7, 2) := by decide +kernel
theorem dX7_odd_84 : decode cX7_odd 84 = .ok (.lmul, 1) := by decide +kernel
theorem dX7_odd_85 : decode cX7_odd 85 = .ok (.ladd, 1) := by decide +kernel
theorem dX7_odd_86 : decode cX7_odd 86 = .ok (.lstore 4, 2) := by decide +kernel
theorem dX7_odd_88 : decode cX7_odd 88 = .ok (.lload 11, 2) := by decide +kernel
theorem dX7_odd_90 : decode cX7_odd 90 = .ok (.lstore_n 2, 1) := by decide +kernel
theorem dX7_odd_91 : decode cX7_odd 91 = .ok (.iinc 6 1, 3) := by decide +kernel
theorem dX7_odd_94 : decode cX7_odd 94 = .ok (.goto (-67), 3) := by decide +kernel
theorem dX7_odd_97 : decode cX7_odd 97 = .ok (.aload_n 0, 1) := by decide +kernel
theorem dX7_odd_98 : decode cX7_odd 98 = .ok (.getfield 70, 3) := by decide +kernel
theorem dX7_odd_101 : decode cX7_odd 101 = .ok (.lload_n 2, 1) := by decide +kernel
theorem dX7_odd_102 : decode cX7_odd 102 = .ok (.lload_n 2, 1) := by decide +kernel
theorem dX7_odd_103 : decode cX7_odd 103 = .ok (.lload 4, 2) := by decide +kernel
theorem dX7_odd_105 : decode cX7_odd 105 = .ok (.ladd, 1) := by decide +kernel
theorem dX7_odd_106 : decode cX7_odd 106 = .ok (.invokevirtual 192, 3) := by decide +kernel
theorem dX7_odd_109 : decode cX7_odd 109 = .ok (.iconst 1, 1) := by decide +kernel
theorem dX7_odd_110 : decode cX7_odd 110 = .ok (.ireturn, 1) := by decide +kernel
theorem dX7_home_0 : decode cX7_home 0 = .ok (.iload_n 1, 1) := by decide +kernel
theorem dX7_home_1 : decode cX7_home 1 = .ok (.iconst 1, 1) := by decide +kernel
theorem dX7_home_2 : decode cX7_home 2 = .ok (.bipush 40, 2) := by decide +kernel
theorem dX7_home_4 : decode cX7_home 4 = .ok (.invokestatic 82, 3) := by decide +kernel
theorem dX7_home_7 : decode cX7_home 7 = .ok (.ifCond .eq 22, 3) := by decide +kernel
theorem dX7_home_10 : decode cX7_home 10 = .ok (.iload_n 2, 1) := by decide +kernel
theorem dX7_home_11 : decode cX7_home 11 = .ok (.iconst 1, 1) := by decide +kernel
theorem dX7_home_12 : decode cX7_home 12 = .ok (.bipush 20, 2) := by decide +kernel
theorem dX7_home_14 : decode cX7_home 14 = .ok (.invokestatic 82, 3) := by decide +kernel
theorem dX7_home_17 : decode cX7_home 17 = .ok (.ifCond .eq 12, 3) := by decide +kernel
theorem dX7_home_20 : decode cX7_home 20 = .ok (.iload_n 3, 1) := by decide +kernel
theorem dX7_home_21 : decode cX7_home 21 = .ok (.iconst 0, 1) := by decide +kernel
theorem dX7_home_22 : decode cX7_home 22 = .ok (.iconst 1, 1) := by decide +kernel
theorem dX7_home_23 : decode cX7_home 23 = .ok (.invokestatic 82, 3) := by decide +kernel
theorem dX7_home_26 : decode cX7_home 26 = .ok (.ifCond .ne 8, 3) := by decide +kernel
theorem dX7_home_29 : decode cX7_home 29 = .ok (.aload_n 0, 1) := by decide +kernel
theorem dX7_home_30 : decode cX7_home 30 = .ok (.invokevirtual 86, 3) := by decide +kernel
theorem dX7_home_33 : decode cX7_home 33 = .ok (.ireturn, 1) := by decide +kernel
theorem dX7_home_34 : decode cX7_home 34 = .ok (.iload_n 3, 1) := by decide +kernel
theorem dX7_home_35 : decode cX7_home 35 = .ok (.ifCond .ne 14, 3) := by decide +kernel
theorem dX7_home_38 : decode cX7_home 38 = .ok (.aload_n 0, 1) := by decide +kernel
theorem dX7_home_39 : decode cX7_home 39 = .ok (.iload_n 1, 1) := by decide +kernel
theorem dX7_home_40 : decode cX7_home 40 = .ok (.iconst 1, 1) := by decide +kernel
theorem dX7_home_41 : decode cX7_home 41 = .ok (.isub, 1) := by decide +kernel
theorem dX7_home_42 : decode cX7_home 42 = .ok (.iload_n 2, 1) := by decide +kernel
theorem dX7_home_43 : decode cX7_home 43 = .ok (.invokevirtual 204, 3) := by decide +kernel
theorem dX7_home_46 : decode cX7_home 46 = .ok (.goto 10, 3) := by decide +kernel
theorem dX7_home_49 : decode cX7_home 49 = .ok (.iload_n 1, 1) := by decide +kernel
theorem dX7_home_50 : decode cX7_home 50 = .ok (.iconst 1, 1) := by decide +kernel
theorem dX7_home_51 : decode cX7_home 51 = .ok (.isub, 1) := by decide +kernel
theorem dX7_home_52 : decode cX7_home 52 = .ok (.iload_n 2, 1) := by decide +kernel
theorem dX7_home_53 : decode cX7_home 53 = .ok (.invokestatic 207, 3) := by decide +kernel
theorem dX7_home_56 : decode cX7_home 56 = .ok (.ireturn, 1) := by decide +kernel
theorem dX7_say_0 : decode cX7_say 0 = .ok (.aload_n 0, 1) := by decide +kernel
theorem dX7_say_1 : decode cX7_say 1 = .ok (.iload_n 1, 1) := by decide +kernel
theorem dX7_say_2 : decode cX7_say 2 = .ok (.invokevirtual 145, 3) := by decide +kernel
theorem dX7_say_5 : decode cX7_say 5 = .ok (.ifCond .eq 23, 3) := by decide +kernel
theorem dX7_say_8 : decode cX7_say 8 = .ok (.iload_n 2, 1) := by decide +kernel
theorem dX7_say_9 : decode cX7_say 9 = .ok (.iconst 0, 1) := by decide +kernel
theorem dX7_say_10 : decode cX7_say 10 = .ok (.bipush 62, 2) := by decide +kernel
theorem dX7_say_12 : decode cX7_say 12 = .ok (.invokestatic 82, 3) := by decide +kernel
theorem dX7_say_15 : decode cX7_say 15 = .ok (.ifCond .eq 13, 3) := by decide +kernel
theorem dX7_say_18 : decode cX7_say 18 = .ok (.iload_n 3, 1) := by decide +kernel
theorem dX7_say_19 : decode cX7_say 19 = .ok (.iload_n 2, 1) := by decide +kernel
theorem dX7_say_20 : decode cX7_say 20 = .ok (.bipush 62, 2) := by decide +kernel
theorem dX7_say_22 : decode cX7_say 22 = .ok (.invokestatic 82, 3) := by decide +kernel
theorem dX7_say_25 : decode cX7_say 25 = .ok (.ifCond .ne 8, 3) := by decide +kernel
theorem dX7_say_28 : decode cX7_say 28 = .ok (.aload_n 0, 1) := by decide +kernel
theorem dX7_say_29 : decode cX7_say 29 = .ok (.invokevirtual 86, 3) := by decide +kernel
theorem dX7_say_32 : decode cX7_say 32 = .ok (.ireturn, 1) := by decide +kernel
theorem dX7_say_33 : decode cX7_say 33 = .ok (.aload_n 0, 1) := by decide +kernel
theorem dX7_say_34 : decode cX7_say 34 = .ok (.getfield 10, 3) := by decide +kernel
theorem dX7_say_37 : decode cX7_say 37 = .ok (.getfield 210, 3) := by decide +kernel
theorem dX7_say_40 : decode cX7_say 40 = .ok (.bipush 8, 2) := by decide +kernel
theorem dX7_say_42 : decode cX7_say 42 = .ok (.if_icmp .lt 8, 3) := by decide +kernel
theorem dX7_say_45 : decode cX7_say 45 = .ok (.aload_n 0, 1) := by decide +kernel
theorem dX7_say_46 : decode cX7_say 46 = .ok (.invokevirtual 94, 3) := by decide +kernel
theorem dX7_say_49 : decode cX7_say 49 = .ok (.ireturn, 1) := by decide +kernel
theorem dX7_say_50 : decode cX7_say 50 = .ok (.aload_n 0, 1) := by decide +kernel
theorem dX7_say_51 : decode cX7_say 51 = .ok (.getfield 10, 3) := by decide +kernel
theorem dX7_say_54 : decode cX7_say 54 = .ok (.getfield 210, 3) := by decide +kernel
theorem dX7_say_57 : decode cX7_say 57 = .ok (.istore 4, 2) := by decide +kernel
theorem dX7_say_59 : decode cX7_say 59 = .ok (.aload_n 0, 1) := by decide +kernel
theorem dX7_say_60 : decode cX7_say 60 = .ok (.getfield 10, 3) := by decide +kernel
theorem dX7_say_63 : decode cX7_say 63 = .ok (.iload_n 1, 1) := by decide +kernel
theorem dX7_say_64 : decode cX7_say 64 = .ok (.iload_n 2, 1) := by decide +kernel
theorem dX7_say_65 : decode cX7_say 65 = .ok (.iload_n 3, 1) := by decide +kernel
theorem dX7_say_66 : decode cX7_say 66 = .ok (.invokevirtual 213, 3) := by decide +kernel
theorem dX7_say_69 : decode cX7_say 69 = .ok (.iload 4, 2) := by decide +kernel
theorem dX7_say_71 : decode cX7_say 71 = .ok (.ireturn, 1) := by decide +kernel
theorem dX7_hush_0 : decode cX7_hush 0 = .ok (.aload_n 0, 1) := by decide +kernel
theorem dX7_hush_1 : decode cX7_hush 1 = .ok (.getfield 10, 3) := by decide +kernel
theorem dX7_hush_4 : decode cX7_hush 4 = .ok (.getfield 210, 3) := by decide +kernel
theorem dX7_hush_7 : decode cX7_hush 7 = .ok (.istore_n 1, 1) := by decide +kernel
theorem dX7_hush_8 : decode cX7_hush 8 = .ok (.aload_n 0, 1) := by decide +kernel
theorem dX7_hush_9 : decode cX7_hush 9 = .ok (.getfield 10, 3) := by decide +kernel
theorem dX7_hush_12 : decode cX7_hush 12 = .ok (.iconst 0, 1) := by decide +kernel
theorem dX7_hush_13 : decode cX7_hush 13 = .ok (.putfield 210, 3) := by decide +kernel
theorem dX7_hush_16 : decode cX7_hush 16 = .ok (.iload_n 1, 1) := by decide +kernel
theorem dX7_hush_17 : decode cX7_hush 17 = .ok (.ireturn, 1) := by decide +kernel
theorem dX7_dispute_0 : decode cX7_dispute 0 = .ok (.iload_n 1, 1) := by decide +kernel
theorem dX7_dispute_1 : decode cX7_dispute 1 = .ok (.aload_n 0, 1) := by decide +kernel
theorem dX7_dispute_2 : decode cX7_dispute 2 = .ok (.getfield 10, 3) := by decide +kernel
theorem dX7_dispute_5 : decode cX7_dispute 5 = .ok (.getfield 210, 3) := by decide +kernel
theorem dX7_dispute_8 : decode cX7_dispute 8 = .ok (.invokestatic 128, 3) := by decide +kernel
theorem dX7_dispute_11 : decode cX7_dispute 11 = .ok (.ifCond .ne 9, 3) := by decide +kernel
theorem dX7_dispute_14 : decode cX7_dispute 14 = .ok (.aload_n 0, 1) := by decide +kernel
theorem dX7_dispute_15 : decode cX7_dispute 15 = .ok (.invokevirtual 86, 3) := by decide +kernel
theorem dX7_dispute_18 : decode cX7_dispute 18 = .ok (.i2l, 1) := by decide +kernel
theorem dX7_dispute_19 : decode cX7_dispute 19 = .ok (.lreturn, 1) := by decide +kernel
theorem dX7_dispute_20 : decode cX7_dispute 20 = .ok (.aload_n 0, 1) := by decide +kernel
theorem dX7_dispute_21 : decode cX7_dispute 21 = .ok (.getfield 63, 3) := by decide +kernel
theorem dX7_dispute_24 : decode cX7_dispute 24 = .ok (.iload_n 1, 1) := by decide +kernel
theorem dX7_dispute_25 : decode cX7_dispute 25 = .ok (.invokevirtual 216, 3) := by decide +kernel
theorem dX7_dispute_28 : decode cX7_dispute 28 = .ok (.lreturn, 1) := by decide +kernel
theorem dX7_lied_0 : decode cX7_lied 0 = .ok (.iload_n 1, 1) := by decide +kernel
theorem dX7_lied_1 : decode cX7_lied 1 = .ok (.iconst 0, 1) := by decide +kernel
theorem dX7_lied_2 : decode cX7_lied 2 = .ok (.iconst 1, 1) := by decide +kernel
theorem dX7_lied_3 : decode cX7_lied 3 = .ok (.invokestatic 82, 3) := by decide +kernel
theorem dX7_lied_6 : decode cX7_lied 6 = .ok (.ifCond .ne 8, 3) := by decide +kernel
theorem dX7_lied_9 : decode cX7_lied 9 = .ok (.aload_n 0, 1) := by decide +kernel
theorem dX7_lied_10 : decode cX7_lied 10 = .ok (.invokevirtual 86, 3) := by decide +kernel
theorem dX7_lied_13 : decode cX7_lied 13 = .ok (.ireturn, 1) := by decide +kernel
theorem dX7_lied_14 : decode cX7_lied 14 = .ok (.iload_n 1, 1) := by decide +kernel
theorem dX7_lied_15 : decode cX7_lied 15 = .ok (.ifCond .ne 13, 3) := by decide +kernel
theorem dX7_lied_18 : decode cX7_lied 18 = .ok (.aload_n 0, 1) := by decide +kernel
theorem dX7_lied_19 : decode cX7_lied 19 = .ok (.getfield 63, 3) := by decide +kernel
theorem dX7_lied_22 : decode cX7_lied 22 = .ok (.invokevirtual 220, 3) := by decide +kernel
theorem dX7_lied_25 : decode cX7_lied 25 = .ok (.goto 10, 3) := by decide +kernel
theorem dX7_lied_28 : decode cX7_lied 28 = .ok (.aload_n 0, 1) := by decide +kernel
theorem dX7_lied_29 : decode cX7_lied 29 = .ok (.getfield 63, 3) := by decide +kernel
theorem dX7_lied_32 : decode cX7_lied 32 = .ok (.invokevirtual 223, 3) := by decide +kernel
theorem dX7_lied_35 : decode cX7_lied 35 = .ok (.ireturn, 1) := by decide +kernel
theorem dX7_part_0 : decode cX7_part 0 = .ok (.iload_n 1, 1) := by decide +kernel
theorem dX7_part_1 : decode cX7_part 1 = .ok (.iconst 0, 1) := by decide +kernel
theorem dX7_part_2 : decode cX7_part 2 = .ok (.iconst 1, 1) := by decide +kernel
theorem dX7_part_3 : decode cX7_part 3 = .ok (.invokestatic 82, 3) := by decide +kernel
theorem dX7_part_6 : decode cX7_part 6 = .ok (.ifCond .ne 9, 3) := by decide +kernel
theorem dX7_part_9 : decode cX7_part 9 = .ok (.aload_n 0, 1) := by decide +kernel
theorem dX7_part_10 : decode cX7_part 10 = .ok (.invokevirtual 86, 3) := by decide +kernel
theorem dX7_part_13 : decode cX7_part 13 = .ok (.i2l, 1) := by decide +kernel
theorem dX7_part_14 : decode cX7_part 14 = .ok (.lreturn, 1) := by decide +kernel
theorem dX7_part_15 : decode cX7_part 15 = .ok (.iload_n 1, 1) := by decide +kernel
theorem dX7_part_16 : decode cX7_part 16 = .ok (.ifCond .ne 13, 3) := by decide +kernel
theorem dX7_part_19 : decode cX7_part 19 = .ok (.aload_n 0, 1) := by decide +kernel
theorem dX7_part_20 : decode cX7_part 20 = .ok (.getfield 70, 3) := by decide +kernel
theorem dX7_part_23 : decode cX7_part 23 = .ok (.getfield 226, 3) := by decide +kernel
theorem dX7_part_26 : decode cX7_part 26 = .ok (.goto 10, 3) := by decide +kernel
theorem dX7_part_29 : decode cX7_part 29 = .ok (.aload_n 0, 1) := by decide +kernel
theorem dX7_part_30 : decode cX7_part 30 = .ok (.getfield 70, 3) := by decide +kernel
theorem dX7_part_33 : decode cX7_part 33 = .ok (.getfield 230, 3) := by decide +kernel
theorem dX7_part_36 : decode cX7_part 36 = .ok (.lreturn, 1) := by decide +kernel
theorem dX7_image_0 : decode cX7_image 0 = .ok (.iload_n 1, 1) := by decide +kernel
theorem dX7_image_1 : decode cX7_image 1 = .ok (.iconst 0, 1) := by decide +kernel
theorem dX7_image_2 : decode cX7_image 2 = .ok (.iconst 1, 1) := by decide +kernel
theorem dX7_image_3 : decode cX7_image 3 = .ok (.invokestatic 82, 3) := by decide +kernel
theorem dX7_image_6 : decode cX7_image 6 = .ok (.ifCond .ne 8, 3) := by decide +kernel
theorem dX7_image_9 : decode cX7_image 9 = .ok (.aload_n 0, 1) := by decide +kernel
theorem dX7_image_10 : decode cX7_image 10 = .ok (.invokevirtual 86, 3) := by decide +kernel
theorem dX7_image_13 : decode cX7_image 13 = .ok (.ireturn, 1) := by decide +kernel
theorem dX7_image_14 : decode cX7_image 14 = .ok (.aload_n 0, 1) := by decide +kernel
theorem dX7_image_15 : decode cX7_image 15 = .ok (.iload_n 1, 1) := by decide +kernel
theorem dX7_image_16 : decode cX7_image 16 = .ok (.invokevirtual 233, 3) := by decide +kernel
theorem dX7_image_19 : decode cX7_image 19 = .ok (.aload_n 0, 1) := by decide +kernel
theorem dX7_image_20 : decode cX7_image 20 = .ok (.getfield 10, 3) := by decide +kernel
theorem dX7_image_23 : decode cX7_image 23 = .ok (.invokevirtual 237, 3) := by decide +kernel
theorem dX7_image_26 : decode cX7_image 26 = .ok (.aload_n 0, 1) := by decide +kernel
theorem dX7_image_27 : decode cX7_image 27 = .ok (.getfield 22, 3) := by decide +kernel
theorem dX7_image_30 : decode cX7_image 30 = .ok (.iload_n 1, 1) := by decide +kernel
theorem dX7_image_31 : decode cX7_image 31 = .ok (.iconst 1, 1) := by decide +kernel
theorem dX7_image_32 : decode cX7_image 32 = .ok (.bastore, 1) := by decide +kernel
theorem dX7_image_33 : decode cX7_image 33 = .ok (.iconst 1, 1) := by decide +kernel
theorem dX7_image_34 : decode cX7_image 34 = .ok (.ireturn, 1) := by decide +kernel
theorem dX7_from_0 : decode cX7_from 0 = .ok (.iload_n 1, 1) := by decide +kernel
theorem dX7_from_1 : decode cX7_from 1 = .ok (.iconst 0, 1) := by decide +kernel
theorem dX7_from_2 : decode cX7_from 2 = .ok (.iconst 1, 1) := by decide +kernel
theorem dX7_from_3 : decode cX7_from 3 = .ok (.invokestatic 82, 3) := by decide +kernel
theorem dX7_from_6 : decode cX7_from 6 = .ok (.ifCond .ne 8, 3) := by decide +kernel
theorem dX7_from_9 : decode cX7_from 9 = .ok (.aload_n 0, 1) := by decide +kernel
theorem dX7_from_10 : decode cX7_from 10 = .ok (.invokevirtual 86, 3) := by decide +kernel
theorem dX7_from_13 : decode cX7_from 13 = .ok (.ireturn, 1) := by decide +kernel
theorem dX7_from_14 : decode cX7_from 14 = .ok (.aload_n 0, 1) := by decide +kernel
theorem dX7_from_15 : decode cX7_from 15 = .ok (.getfield 22, 3) := by decide +kernel
theorem dX7_from_18 : decode cX7_from 18 = .ok (.iload_n 1, 1) := by decide +kernel
theorem dX7_from_19 : decode cX7_from 19 = .ok (.baload, 1) := by decide +kernel
theorem dX7_from_20 : decode cX7_from 20 = .ok (.ifCond .ne 8, 3) := by decide +kernel
theorem dX7_from_23 : decode cX7_from 23 = .ok (.aload_n 0, 1) := by decide +kernel
theorem dX7_from_24 : decode cX7_from 24 = .ok (.invokevirtual 185, 3) := by decide +kernel
theorem dX7_from_27 : decode cX7_from 27 = .ok (.ireturn, 1) := by decide +kernel
theorem dX7_from_28 : decode cX7_from 28 = .ok (.aload_n 0, 1) := by decide +kernel
theorem dX7_from_29 : decode cX7_from 29 = .ok (.getfield 10, 3) := by decide +kernel
theorem dX7_from_32 : decode cX7_from 32 = .ok (.aload_n 0, 1) := by decide +kernel
theorem dX7_from_33 : decode cX7_from 33 = .ok (.iload_n 1, 1) := by decide +kernel
theorem dX7_from_34 : decode cX7_from 34 = .ok (.invokevirtual 233, 3) := by decide +kernel
theorem dX7_from_37 : decode cX7_from 37 = .ok (.invokevirtual 237, 3) := by decide +kernel
theorem dX7_from_40 : decode cX7_from 40 = .ok (.aload_n 0, 1) := by decide +kernel
theorem dX7_from_41 : decode cX7_from 41 = .ok (.getfield 31, 3) := by decide +kernel
theorem dX7_from_44 : decode cX7_from 44 = .ok (.invokevirtual 122, 3) := by decide +kernel
theorem dX7_from_47 : decode cX7_from 47 = .ok (.aload_n 0, 1) := by decide +kernel
theorem dX7_from_48 : decode cX7_from 48 = .ok (.invokevirtual 101, 3) := by decide +kernel
theorem dX7_from_51 : decode cX7_from 51 = .ok (.iconst 1, 1) := by decide +kernel
theorem dX7_from_52 : decode cX7_from 52 = .ok (.ireturn, 1) := by decide +kernel
theorem dX7_status_0 : decode cX7_status 0 = .ok (.iload_n 1, 1) := by decide +kernel
theorem dX7_status_1 : decode cX7_status 1 = .ok (.tableswitch 42 0 2 #[27, 32, 37], 27) := by decide +kernel
theorem dX7_status_28 : decode cX7_status 28 = .ok (.aload_n 0, 1) := by decide +kernel
theorem dX7_status_29 : decode cX7_status 29 = .ok (.getfield 179, 3) := by decide +kernel
theorem dX7_status_32 : decode cX7_status 32 = .ok (.ireturn, 1) := by decide +kernel
theorem dX7_status_33 : decode cX7_status 33 = .ok (.aload_n 0, 1) := by decide +kernel
theorem dX7_status_34 : decode cX7_status 34 = .ok (.getfield 239, 3) := by decide +kernel
theorem dX7_status_37 : decode cX7_status 37 = .ok (.ireturn, 1) := by decide +kernel
theorem dX7_status_38 : decode cX7_status 38 = .ok (.aload_n 0, 1) := by decide +kernel
theorem dX7_status_39 : decode cX7_status 39 = .ok (.getfield 242, 3) := by decide +kernel
theorem dX7_status_42 : decode cX7_status 42 = .ok (.ireturn, 1) := by decide +kernel
theorem dX7_status_43 : decode cX7_status 43 = .ok (.aload_n 0, 1) := by decide +kernel
theorem dX7_status_44 : decode cX7_status 44 = .ok (.dup, 1) := by decide +kernel
theorem dX7_status_45 : decode cX7_status 45 = .ok (.getfield 179, 3) := by decide +kernel
theorem dX7_status_48 : decode cX7_status 48 = .ok (.iconst 1, 1) := by decide +kernel
theorem dX7_status_49 : decode cX7_status 49 = .ok (.iadd, 1) := by decide +kernel
theorem dX7_status_50 : decode cX7_status 50 = .ok (.putfield 179, 3) := by decide +kernel
theorem dX7_status_53 : decode cX7_status 53 = .ok (.iconst (-1), 1) := by decide +kernel
theorem dX7_status_54 : decode cX7_status 54 = .ok (.ireturn, 1) := by decide +kernel
theorem dX7_count_0 : decode cX7_count 0 = .ok (.iload_n 1, 1) := by decide +kernel
theorem dX7_count_1 : decode cX7_count 1 = .ok (.tableswitch 51 0 2 #[27, 35, 43], 27) := by decide +kernel
theorem dX7_count_28 : decode cX7_count 28 = .ok (.aload_n 0, 1) := by decide +kernel
theorem dX7_count_29 : decode cX7_count 29 = .ok (.getfield 10, 3) := by decide +kernel
theorem dX7_count_32 : decode cX7_count 32 = .ok (.getfield 90, 3) := by decide +kernel
theorem dX7_count_35 : decode cX7_count 35 = .ok (.ireturn, 1) := by decide +kernel
theorem dX7_count_36 : decode cX7_count 36 = .ok (.aload_n 0, 1) := by decide +kernel
theorem dX7_count_37 : decode cX7_count 37 = .ok (.getfield 10, 3) := by decide +kernel
theorem dX7_count_40 : decode cX7_count 40 = .ok (.getfield 115, 3) := by decide +kernel
theorem dX7_count_43 : decode cX7_count 43 = .ok (.ireturn, 1) := by decide +kernel
theorem dX7_count_44 : decode cX7_count 44 = .ok (.aload_n 0, 1) := by decide +kernel
theorem dX7_count_45 : decode cX7_count 45 = .ok (.getfield 10, 3) := by decide +kernel
theorem dX7_count_48 : decode cX7_count 48 = .ok (.getfield 210, 3) := by decide +kernel
theorem dX7_count_51 : decode cX7_count 51 = .ok (.ireturn, 1) := by decide +kernel
theorem dX7_count_52 : decode cX7_count 52 = .ok (.aload_n 0, 1) := by decide +kernel
theorem dX7_count_53 : decode cX7_count 53 = .ok (.invokevirtual 86, 3) := by decide +kernel
theorem dX7_count_56 : decode cX7_count 56 = .ok (.ireturn, 1) := by decide +kernel
theorem dX7_digest_0 : decode cX7_digest 0 = .ok (.aload_n 0, 1) := by decide +kernel
theorem dX7_digest_1 : decode cX7_digest 1 = .ok (.getfield 10, 3) := by decide +kernel
theorem dX7_digest_4 : decode cX7_digest 4 = .ok (.ldc2_w 245, 3) := by decide +kernel
theorem dX7_digest_7 : decode cX7_digest 7 = .ok (.invokevirtual 247, 3) := by decide +kernel
theorem dX7_digest_10 : decode cX7_digest 10 = .ok (.lstore_n 1, 1) := by decide +kernel
theorem dX7_digest_11 : decode cX7_digest 11 = .ok (.ldc2_w 251, 3) := by decide +kernel
theorem dX7_digest_14 : decode cX7_digest 14 = .ok (.lload_n 1, 1) := by decide +kernel
theorem dX7_digest_15 : decode cX7_digest 15 = .ok (.lmul, 1) := by decide +kernel
theorem dX7_digest_16 : decode cX7_digest 16 = .ok (.aload_n 0, 1) := by decide +kernel
theorem dX7_digest_17 : decode cX7_digest 17 = .ok (.getfield 70, 3) := by decide +kernel
theorem dX7_digest_20 : decode cX7_digest 20 = .ok (.getfield 226, 3) := by decide +kernel
theorem dX7_digest_23 : decode cX7_digest 23 = .ok (.ladd, 1) := by decide +kernel
theorem dX7_digest_24 : decode cX7_digest 24 = .ok (.lstore_n 1, 1) := by decide +kernel
theorem dX7_digest_25 : decode cX7_digest 25 = .ok (.ldc2_w 251, 3) := by decide +kernel
theorem dX7_digest_28 : decode cX7_digest 28 = .ok (.lload_n 1, 1) := by decide +kernel
theorem dX7_digest_29 : decode cX7_digest 29 = .ok (.lmul, 1) := by decide +kernel
theorem dX7_digest_30 : decode cX7_digest 30 = .ok (.aload_n 0, 1) := by decide +kernel
theorem dX7_digest_31 : decode cX7_digest 31 = .ok (.getfield 70, 3) := by decide +kernel
theorem dX7_digest_34 : decode cX7_digest 34 = .ok (.getfield 230, 3) := by decide +kernel
theorem dX7_digest_37 : decode cX7_digest 37 = .ok (.ladd, 1) := by decide +kernel
theorem dX7_digest_38 : decode cX7_digest 38 = .ok (.lreturn, 1) := by decide +kernel
theorem dX7_refuseAsBad_0 : decode cX7_refuseAsBad 0 = .ok (.aload_n 0, 1) := by decide +kernel
theorem dX7_refuseAsBad_1 : decode cX7_refuseAsBad 1 = .ok (.dup, 1) := by decide +kernel
theorem dX7_refuseAsBad_2 : decode cX7_refuseAsBad 2 = .ok (.getfield 179, 3) := by decide +kernel
theorem dX7_refuseAsBad_5 : decode cX7_refuseAsBad 5 = .ok (.iconst 1, 1) := by decide +kernel
theorem dX7_refuseAsBad_6 : decode cX7_refuseAsBad 6 = .ok (.iadd, 1) := by decide +kernel
theorem dX7_refuseAsBad_7 : decode cX7_refuseAsBad 7 = .ok (.putfield 179, 3) := by decide +kernel
theorem dX7_refuseAsBad_10 : decode cX7_refuseAsBad 10 = .ok (.bipush (-2), 2) := by decide +kernel
theorem dX7_refuseAsBad_12 : decode cX7_refuseAsBad 12 = .ok (.ireturn, 1) := by decide +kernel
theorem dX7_refuseAsNo_0 : decode cX7_refuseAsNo 0 = .ok (.aload_n 0, 1) := by decide +kernel
theorem dX7_refuseAsNo_1 : decode cX7_refuseAsNo 1 = .ok (.dup, 1) := by decide +kernel
theorem dX7_refuseAsNo_2 : decode cX7_refuseAsNo 2 = .ok (.getfield 239, 3) := by decide +kernel
theorem dX7_refuseAsNo_5 : decode cX7_refuseAsNo 5 = .ok (.iconst 1, 1) := by decide +kernel
theorem dX7_refuseAsNo_6 : decode cX7_refuseAsNo 6 = .ok (.iadd, 1) := by decide +kernel
theorem dX7_refuseAsNo_7 : decode cX7_refuseAsNo 7 = .ok (.putfield 239, 3) := by decide +kernel
theorem dX7_refuseAsNo_10 : decode cX7_refuseAsNo 10 = .ok (.bipush (-3), 2) := by decide +kernel
theorem dX7_refuseAsNo_12 : decode cX7_refuseAsNo 12 = .ok (.ireturn, 1) := by decide +kernel
theorem dX7_refuseAsFull_0 : decode cX7_refuseAsFull 0 = .ok (.aload_n 0, 1) := by decide +kernel
theorem dX7_refuseAsFull_1 : decode cX7_refuseAsFull 1 = .ok (.dup, 1) := by decide +kernel
theorem dX7_refuseAsFull_2 : decode cX7_refuseAsFull 2 = .ok (.getfield 242, 3) := by decide +kernel
theorem dX7_refuseAsFull_5 : decode cX7_refuseAsFull 5 = .ok (.iconst 1, 1) := by decide +kernel
theorem dX7_refuseAsFull_6 : decode cX7_refuseAsFull 6 = .ok (.iadd, 1) := by decide +kernel
theorem dX7_refuseAsFull_7 : decode cX7_refuseAsFull 7 = .ok (.putfield 242, 3) := by decide +kernel
theorem dX7_refuseAsFull_10 : decode cX7_refuseAsFull 10 = .ok (.bipush (-4), 2) := by decide +kernel
theorem dX7_refuseAsFull_12 : decode cX7_refuseAsFull 12 = .ok (.ireturn, 1) := by decide +kernel
theorem dX7_isWithin_0 : decode cX7_isWithin 0 = .ok (.iload_n 0, 1) := by decide +kernel
theorem dX7_isWithin_1 : decode cX7_isWithin 1 = .ok (.iload_n 1, 1) := by decide +kernel
theorem dX7_isWithin_2 : decode cX7_isWithin 2 = .ok (.if_icmp .lt 12, 3) := by decide +kernel
theorem dX7_isWithin_5 : decode cX7_isWithin 5 = .ok (.iload_n 0, 1) := by decide +kernel
theorem dX7_isWithin_6 : decode cX7_isWithin 6 = .ok (.iload_n 2, 1) := by decide +kernel
theorem dX7_isWithin_7 : decode cX7_isWithin 7 = .ok (.if_icmp .gt 7, 3) := by decide +kernel
theorem dX7_isWithin_10 : decode cX7_isWithin 10 = .ok (.iconst 1, 1) := by decide +kernel
theorem dX7_isWithin_11 : decode cX7_isWithin 11 = .ok (.goto 4, 3) := by decide +kernel
theorem dX7_isWithin_14 : decode cX7_isWithin 14 = .ok (.iconst 0, 1) := by decide +kernel
theorem dX7_isWithin_15 : decode cX7_isWithin 15 = .ok (.ireturn, 1) := by decide +kernel
theorem dX7_isSetOf_0 : decode cX7_isSetOf 0 = .ok (.iload_n 0, 1) := by decide +kernel
theorem dX7_isSetOf_1 : decode cX7_isSetOf 1 = .ok (.ifCond .lt 14, 3) := by decide +kernel
theorem dX7_isSetOf_4 : decode cX7_isSetOf 4 = .ok (.iload_n 0, 1) := by decide +kernel
theorem dX7_isSetOf_5 : decode cX7_isSetOf 5 = .ok (.iconst 1, 1) := by decide +kernel
theorem dX7_isSetOf_6 : decode cX7_isSetOf 6 = .ok (.iload_n 1, 1) := by decide +kernel
theorem dX7_isSetOf_7 : decode cX7_isSetOf 7 = .ok (.ishl, 1) := by decide +kernel
theorem dX7_isSetOf_8 : decode cX7_isSetOf 8 = .ok (.if_icmp .ge 7, 3) := by decide +kernel
theorem dX7_isSetOf_11 : decode cX7_isSetOf 11 = .ok (.iconst 1, 1) := by decide +kernel
theorem dX7_isSetOf_12 : decode cX7_isSetOf 12 = .ok (.goto 4, 3) := by decide +kernel
theorem dX7_isSetOf_15 : decode cX7_isSetOf 15 = .ok (.iconst 0, 1) := by decide +kernel
theorem dX7_isSetOf_16 : decode cX7_isSetOf 16 = .ok (.ireturn, 1) := by decide +kernel
theorem dX7_holds_0 : decode cX7_holds 0 = .ok (.iload_n 0, 1) := by decide +kernel
theorem dX7_holds_1 : decode cX7_holds 1 = .ok (.iload_n 1, 1) := by decide +kernel
theorem dX7_holds_2 : decode cX7_holds 2 = .ok (.ishr, 1) := by decide +kernel
theorem dX7_holds_3 : decode cX7_holds 3 = .ok (.iconst 1, 1) := by decide +kernel
theorem dX7_holds_4 : decode cX7_holds 4 = .ok (.iand, 1) := by decide +kernel
theorem dX7_holds_5 : decode cX7_holds 5 = .ok (.ifCond .eq 7, 3) := by decide +kernel
theorem dX7_holds_8 : decode cX7_holds 8 = .ok (.iconst 1, 1) := by decide +kernel
theorem dX7_holds_9 : decode cX7_holds 9 = .ok (.goto 4, 3) := by decide +kernel
theorem dX7_holds_12 : decode cX7_holds 12 = .ok (.iconst 0, 1) := by decide +kernel
theorem dX7_holds_13 : decode cX7_holds 13 = .ok (.ireturn, 1) := by decide +kernel
theorem dX7_isWalker_0 : decode cX7_isWalker 0 = .ok (.iload_n 1, 1) := by decide +kernel
theorem dX7_isWalker_1 : decode cX7_isWalker 1 = .ok (.ifCond .lt 24, 3) := by decide +kernel
theorem dX7_isWalker_4 : decode cX7_isWalker 4 = .ok (.iload_n 1, 1) := by decide +kernel
theorem dX7_isWalker_5 : decode cX7_isWalker 5 = .ok (.aload_n 0, 1) := by decide +kernel
theorem dX7_isWalker_6 : decode cX7_isWalker 6 = .ok (.getfield 10, 3) := by decide +kernel
theorem dX7_isWalker_9 : decode cX7_isWalker 9 = .ok (.getfield 90, 3) := by decide +kernel
theorem dX7_isWalker_12 : decode cX7_isWalker 12 = .ok (.if_icmp .ge 13, 3) := by decide +kernel
end
section
theorem dX7_isWalker_15 : decode cX7_isWalker 15 = .ok (.iload_n 1, 1) := by decide +kernel
theorem dX7_isWalker_16 : decode cX7_isWalker 16 = .ok (.bipush 8, 2) := by decide +kernel
theorem dX7_isWalker_18 : decode cX7_isWalker 18 = .ok (.if_icmp .ge 7, 3) := by decide +kernel
theorem dX7_isWalker_21 : decode cX7_isWalker 21 = .ok (.iconst 1, 1) := by decide +kernel
theorem dX7_isWalker_22 : decode cX7_isWalker 22 = .ok (.goto 4, 3) := by decide +kernel
theorem dX7_isWalker_25 : decode cX7_isWalker 25 = .ok (.iconst 0, 1) := by decide +kernel
theorem dX7_isWalker_26 : decode cX7_isWalker 26 = .ok (.ireturn, 1) := by decide +kernel
theorem dX7_imageAt_0 : decode cX7_imageAt 0 = .ok (.iload_n 1, 1) := by decide +kernel
theorem dX7_imageAt_1 : decode cX7_imageAt 1 = .ok (.ifCond .ne 10, 3) := by decide +kernel
theorem dX7_imageAt_4 : decode cX7_imageAt 4 = .ok (.aload_n 0, 1) := by decide +kernel
theorem dX7_imageAt_5 : decode cX7_imageAt 5 = .ok (.getfield 16, 3) := by decide +kernel
theorem dX7_imageAt_8 : decode cX7_imageAt 8 = .ok (.goto 7, 3) := by decide +kernel
theorem dX7_imageAt_11 : decode cX7_imageAt 11 = .ok (.aload_n 0, 1) := by decide +kernel
theorem dX7_imageAt_12 : decode cX7_imageAt 12 = .ok (.getfield 19, 3) := by decide +kernel
theorem dX7_imageAt_15 : decode cX7_imageAt 15 = .ok (.areturn, 1) := by decide +kernel
theorem dX7_forgetWhatFollows_0 : decode cX7_forgetWhatFollows 0 = .ok (.aload_n 0, 1) := by decide +kernel
theorem dX7_forgetWhatFollows_1 : decode cX7_forgetWhatFollows 1 = .ok (.getfield 40, 3) := by decide +kernel
theorem dX7_forgetWhatFollows_4 : decode cX7_forgetWhatFollows 4 = .ok (.iconst 1, 1) := by decide +kernel
theorem dX7_forgetWhatFollows_5 : decode cX7_forgetWhatFollows 5 = .ok (.putfield 253, 3) := by decide +kernel
theorem dX7_forgetWhatFollows_8 : decode cX7_forgetWhatFollows 8 = .ok (.aload_n 0, 1) := by decide +kernel
theorem dX7_forgetWhatFollows_9 : decode cX7_forgetWhatFollows 9 = .ok (.getfield 49, 3) := by decide +kernel
theorem dX7_forgetWhatFollows_12 : decode cX7_forgetWhatFollows 12 = .ok (.iconst 0, 1) := by decide +kernel
theorem dX7_forgetWhatFollows_13 : decode cX7_forgetWhatFollows 13 = .ok (.putfield 107, 3) := by decide +kernel
theorem dX7_forgetWhatFollows_16 : decode cX7_forgetWhatFollows 16 = .ok (.aload_n 0, 1) := by decide +kernel
theorem dX7_forgetWhatFollows_17 : decode cX7_forgetWhatFollows 17 = .ok (.getfield 56, 3) := by decide +kernel
theorem dX7_forgetWhatFollows_20 : decode cX7_forgetWhatFollows 20 = .ok (.iconst 0, 1) := by decide +kernel
theorem dX7_forgetWhatFollows_21 : decode cX7_forgetWhatFollows 21 = .ok (.putfield 114, 3) := by decide +kernel
theorem dX7_forgetWhatFollows_24 : decode cX7_forgetWhatFollows 24 = .ok (.return_, 1) := by decide +kernel
theorem dX7_spreadStops_0 : decode cX7_spreadStops 0 = .ok (.aload_n 0, 1) := by decide +kernel
theorem dX7_spreadStops_1 : decode cX7_spreadStops 1 = .ok (.getfield 74, 3) := by decide +kernel
theorem dX7_spreadStops_4 : decode cX7_spreadStops 4 = .ok (.lconst 0, 1) := by decide +kernel
theorem dX7_spreadStops_5 : decode cX7_spreadStops 5 = .ok (.invokestatic 256, 3) := by decide +kernel
theorem dX7_spreadStops_8 : decode cX7_spreadStops 8 = .ok (.aload_n 0, 1) := by decide +kernel
theorem dX7_spreadStops_9 : decode cX7_spreadStops 9 = .ok (.getfield 74, 3) := by decide +kernel
theorem dX7_spreadStops_12 : decode cX7_spreadStops 12 = .ok (.iconst 0, 1) := by decide +kernel
theorem dX7_spreadStops_13 : decode cX7_spreadStops 13 = .ok (.lconst 1, 1) := by decide +kernel
theorem dX7_spreadStops_14 : decode cX7_spreadStops 14 = .ok (.lastore, 1) := by decide +kernel
theorem dX7_spreadStops_15 : decode cX7_spreadStops 15 = .ok (.lconst 1, 1) := by decide +kernel
theorem dX7_spreadStops_16 : decode cX7_spreadStops 16 = .ok (.lstore_n 3, 1) := by decide +kernel
theorem dX7_spreadStops_17 : decode cX7_spreadStops 17 = .ok (.iconst 0, 1) := by decide +kernel
theorem dX7_spreadStops_18 : decode cX7_spreadStops 18 = .ok (.istore 5, 2) := by decide +kernel
theorem dX7_spreadStops_20 : decode cX7_spreadStops 20 = .ok (.iload 5, 2) := by decide +kernel
theorem dX7_spreadStops_22 : decode cX7_spreadStops 22 = .ok (.iload_n 2, 1) := by decide +kernel
theorem dX7_spreadStops_23 : decode cX7_spreadStops 23 = .ok (.if_icmp .ge 77, 3) := by decide +kernel
theorem dX7_spreadStops_26 : decode cX7_spreadStops 26 = .ok (.bipush 8, 2) := by decide +kernel
theorem dX7_spreadStops_28 : decode cX7_spreadStops 28 = .ok (.istore 6, 2) := by decide +kernel
theorem dX7_spreadStops_30 : decode cX7_spreadStops 30 = .ok (.iload 6, 2) := by decide +kernel
theorem dX7_spreadStops_32 : decode cX7_spreadStops 32 = .ok (.ifCond .le 42, 3) := by decide +kernel
theorem dX7_spreadStops_35 : decode cX7_spreadStops 35 = .ok (.aload_n 0, 1) := by decide +kernel
theorem dX7_spreadStops_36 : decode cX7_spreadStops 36 = .ok (.getfield 74, 3) := by decide +kernel
theorem dX7_spreadStops_39 : decode cX7_spreadStops 39 = .ok (.iload 6, 2) := by decide +kernel
theorem dX7_spreadStops_41 : decode cX7_spreadStops 41 = .ok (.aload_n 0, 1) := by decide +kernel
theorem dX7_spreadStops_42 : decode cX7_spreadStops 42 = .ok (.getfield 74, 3) := by decide +kernel
theorem dX7_spreadStops_45 : decode cX7_spreadStops 45 = .ok (.iload 6, 2) := by decide +kernel
theorem dX7_spreadStops_47 : decode cX7_spreadStops 47 = .ok (.laload, 1) := by decide +kernel
theorem dX7_spreadStops_48 : decode cX7_spreadStops 48 = .ok (.bipush 20, 2) := by decide +kernel
theorem dX7_spreadStops_50 : decode cX7_spreadStops 50 = .ok (.iload_n 1, 1) := by decide +kernel
theorem dX7_spreadStops_51 : decode cX7_spreadStops 51 = .ok (.isub, 1) := by decide +kernel
theorem dX7_spreadStops_52 : decode cX7_spreadStops 52 = .ok (.i2l, 1) := by decide +kernel
theorem dX7_spreadStops_53 : decode cX7_spreadStops 53 = .ok (.lmul, 1) := by decide +kernel
theorem dX7_spreadStops_54 : decode cX7_spreadStops 54 = .ok (.aload_n 0, 1) := by decide +kernel
theorem dX7_spreadStops_55 : decode cX7_spreadStops 55 = .ok (.getfield 74, 3) := by decide +kernel
theorem dX7_spreadStops_58 : decode cX7_spreadStops 58 = .ok (.iload 6, 2) := by decide +kernel
theorem dX7_spreadStops_60 : decode cX7_spreadStops 60 = .ok (.iconst 1, 1) := by decide +kernel
theorem dX7_spreadStops_61 : decode cX7_spreadStops 61 = .ok (.isub, 1) := by decide +kernel
theorem dX7_spreadStops_62 : decode cX7_spreadStops 62 = .ok (.laload, 1) := by decide +kernel
theorem dX7_spreadStops_63 : decode cX7_spreadStops 63 = .ok (.iload_n 1, 1) := by decide +kernel
theorem dX7_spreadStops_64 : decode cX7_spreadStops 64 = .ok (.i2l, 1) := by decide +kernel
theorem dX7_spreadStops_65 : decode cX7_spreadStops 65 = .ok (.lmul, 1) := by decide +kernel
theorem dX7_spreadStops_66 : decode cX7_spreadStops 66 = .ok (.ladd, 1) := by decide +kernel
theorem dX7_spreadStops_67 : decode cX7_spreadStops 67 = .ok (.lastore, 1) := by decide +kernel
theorem dX7_spreadStops_68 : decode cX7_spreadStops 68 = .ok (.iinc 6 (-1), 3) := by decide +kernel
theorem dX7_spreadStops_71 : decode cX7_spreadStops 71 = .ok (.goto (-41), 3) := by decide +kernel
theorem dX7_spreadStops_74 : decode cX7_spreadStops 74 = .ok (.aload_n 0, 1) := by decide +kernel
theorem dX7_spreadStops_75 : decode cX7_spreadStops 75 = .ok (.getfield 74, 3) := by decide +kernel
theorem dX7_spreadStops_78 : decode cX7_spreadStops 78 = .ok (.iconst 0, 1) := by decide +kernel
theorem dX7_spreadStops_79 : decode cX7_spreadStops 79 = .ok (.dup2, 1) := by decide +kernel
theorem dX7_spreadStops_80 : decode cX7_spreadStops 80 = .ok (.laload, 1) := by decide +kernel
theorem dX7_spreadStops_81 : decode cX7_spreadStops 81 = .ok (.bipush 20, 2) := by decide +kernel
theorem dX7_spreadStops_83 : decode cX7_spreadStops 83 = .ok (.iload_n 1, 1) := by decide +kernel
theorem dX7_spreadStops_84 : decode cX7_spreadStops 84 = .ok (.isub, 1) := by decide +kernel
theorem dX7_spreadStops_85 : decode cX7_spreadStops 85 = .ok (.i2l, 1) := by decide +kernel
theorem dX7_spreadStops_86 : decode cX7_spreadStops 86 = .ok (.lmul, 1) := by decide +kernel
theorem dX7_spreadStops_87 : decode cX7_spreadStops 87 = .ok (.lastore, 1) := by decide +kernel
theorem dX7_spreadStops_88 : decode cX7_spreadStops 88 = .ok (.lload_n 3, 1) := by decide +kernel
theorem dX7_spreadStops_89 : decode cX7_spreadStops 89 = .ok (.ldc2_w 262, 3) := by decide +kernel
theorem dX7_spreadStops_92 : decode cX7_spreadStops 92 = .ok (.lmul, 1) := by decide +kernel
theorem dX7_spreadStops_93 : decode cX7_spreadStops 93 = .ok (.lstore_n 3, 1) := by decide +kernel
theorem dX7_spreadStops_94 : decode cX7_spreadStops 94 = .ok (.iinc 5 1, 3) := by decide +kernel
theorem dX7_spreadStops_97 : decode cX7_spreadStops 97 = .ok (.goto (-77), 3) := by decide +kernel
theorem dX7_spreadStops_100 : decode cX7_spreadStops 100 = .ok (.lload_n 3, 1) := by decide +kernel
theorem dX7_spreadStops_101 : decode cX7_spreadStops 101 = .ok (.lreturn, 1) := by decide +kernel
theorem dX7_waysHome_0 : decode cX7_waysHome 0 = .ok (.aload_n 0, 1) := by decide +kernel
theorem dX7_waysHome_1 : decode cX7_waysHome 1 = .ok (.getfield 78, 3) := by decide +kernel
theorem dX7_waysHome_4 : decode cX7_waysHome 4 = .ok (.iconst 0, 1) := by decide +kernel
theorem dX7_waysHome_5 : decode cX7_waysHome 5 = .ok (.invokestatic 264, 3) := by decide +kernel
theorem dX7_waysHome_8 : decode cX7_waysHome 8 = .ok (.aload_n 0, 1) := by decide +kernel
theorem dX7_waysHome_9 : decode cX7_waysHome 9 = .ok (.getfield 78, 3) := by decide +kernel
theorem dX7_waysHome_12 : decode cX7_waysHome 12 = .ok (.iconst 0, 1) := by decide +kernel
theorem dX7_waysHome_13 : decode cX7_waysHome 13 = .ok (.iconst 1, 1) := by decide +kernel
theorem dX7_waysHome_14 : decode cX7_waysHome 14 = .ok (.iastore, 1) := by decide +kernel
theorem dX7_waysHome_15 : decode cX7_waysHome 15 = .ok (.iconst 1, 1) := by decide +kernel
theorem dX7_waysHome_16 : decode cX7_waysHome 16 = .ok (.istore_n 3, 1) := by decide +kernel
theorem dX7_waysHome_17 : decode cX7_waysHome 17 = .ok (.iload_n 3, 1) := by decide +kernel
theorem dX7_waysHome_18 : decode cX7_waysHome 18 = .ok (.iload_n 2, 1) := by decide +kernel
theorem dX7_waysHome_19 : decode cX7_waysHome 19 = .ok (.if_icmp .gt 43, 3) := by decide +kernel
theorem dX7_waysHome_22 : decode cX7_waysHome 22 = .ok (.iload_n 3, 1) := by decide +kernel
theorem dX7_waysHome_23 : decode cX7_waysHome 23 = .ok (.istore 4, 2) := by decide +kernel
theorem dX7_waysHome_25 : decode cX7_waysHome 25 = .ok (.iload 4, 2) := by decide +kernel
theorem dX7_waysHome_27 : decode cX7_waysHome 27 = .ok (.iload_n 1, 1) := by decide +kernel
theorem dX7_waysHome_28 : decode cX7_waysHome 28 = .ok (.if_icmp .gt 28, 3) := by decide +kernel
theorem dX7_waysHome_31 : decode cX7_waysHome 31 = .ok (.aload_n 0, 1) := by decide +kernel
theorem dX7_waysHome_32 : decode cX7_waysHome 32 = .ok (.getfield 78, 3) := by decide +kernel
theorem dX7_waysHome_35 : decode cX7_waysHome 35 = .ok (.iload 4, 2) := by decide +kernel
theorem dX7_waysHome_37 : decode cX7_waysHome 37 = .ok (.dup2, 1) := by decide +kernel
theorem dX7_waysHome_38 : decode cX7_waysHome 38 = .ok (.iaload, 1) := by decide +kernel
theorem dX7_waysHome_39 : decode cX7_waysHome 39 = .ok (.aload_n 0, 1) := by decide +kernel
theorem dX7_waysHome_40 : decode cX7_waysHome 40 = .ok (.getfield 78, 3) := by decide +kernel
theorem dX7_waysHome_43 : decode cX7_waysHome 43 = .ok (.iload 4, 2) := by decide +kernel
theorem dX7_waysHome_45 : decode cX7_waysHome 45 = .ok (.iload_n 3, 1) := by decide +kernel
theorem dX7_waysHome_46 : decode cX7_waysHome 46 = .ok (.isub, 1) := by decide +kernel
theorem dX7_waysHome_47 : decode cX7_waysHome 47 = .ok (.iaload, 1) := by decide +kernel
theorem dX7_waysHome_48 : decode cX7_waysHome 48 = .ok (.iadd, 1) := by decide +kernel
theorem dX7_waysHome_49 : decode cX7_waysHome 49 = .ok (.iastore, 1) := by decide +kernel
theorem dX7_waysHome_50 : decode cX7_waysHome 50 = .ok (.iinc 4 1, 3) := by decide +kernel
theorem dX7_waysHome_53 : decode cX7_waysHome 53 = .ok (.goto (-28), 3) := by decide +kernel
theorem dX7_waysHome_56 : decode cX7_waysHome 56 = .ok (.iinc 3 2, 3) := by decide +kernel
theorem dX7_waysHome_59 : decode cX7_waysHome 59 = .ok (.goto (-42), 3) := by decide +kernel
theorem dX7_waysHome_62 : decode cX7_waysHome 62 = .ok (.aload_n 0, 1) := by decide +kernel
theorem dX7_waysHome_63 : decode cX7_waysHome 63 = .ok (.getfield 78, 3) := by decide +kernel
theorem dX7_waysHome_66 : decode cX7_waysHome 66 = .ok (.iload_n 1, 1) := by decide +kernel
theorem dX7_waysHome_67 : decode cX7_waysHome 67 = .ok (.iaload, 1) := by decide +kernel
theorem dX7_waysHome_68 : decode cX7_waysHome 68 = .ok (.ireturn, 1) := by decide +kernel
theorem dX7_fewestHome_0 : decode cX7_fewestHome 0 = .ok (.iload_n 1, 1) := by decide +kernel
theorem dX7_fewestHome_1 : decode cX7_fewestHome 1 = .ok (.iconst 2, 1) := by decide +kernel
theorem dX7_fewestHome_2 : decode cX7_fewestHome 2 = .ok (.irem, 1) := by decide +kernel
theorem dX7_fewestHome_3 : decode cX7_fewestHome 3 = .ok (.ifCond .ne 9, 3) := by decide +kernel
theorem dX7_fewestHome_6 : decode cX7_fewestHome 6 = .ok (.iload_n 1, 1) := by decide +kernel
theorem dX7_fewestHome_7 : decode cX7_fewestHome 7 = .ok (.iconst 1, 1) := by decide +kernel
theorem dX7_fewestHome_8 : decode cX7_fewestHome 8 = .ok (.isub, 1) := by decide +kernel
theorem dX7_fewestHome_9 : decode cX7_fewestHome 9 = .ok (.goto 4, 3) := by decide +kernel
theorem dX7_fewestHome_12 : decode cX7_fewestHome 12 = .ok (.iload_n 1, 1) := by decide +kernel
theorem dX7_fewestHome_13 : decode cX7_fewestHome 13 = .ok (.istore_n 2, 1) := by decide +kernel
theorem dX7_fewestHome_14 : decode cX7_fewestHome 14 = .ok (.iconst 0, 1) := by decide +kernel
theorem dX7_fewestHome_15 : decode cX7_fewestHome 15 = .ok (.istore_n 3, 1) := by decide +kernel
theorem dX7_fewestHome_16 : decode cX7_fewestHome 16 = .ok (.iload_n 3, 1) := by decide +kernel
theorem dX7_fewestHome_17 : decode cX7_fewestHome 17 = .ok (.iload_n 0, 1) := by decide +kernel
theorem dX7_fewestHome_18 : decode cX7_fewestHome 18 = .ok (.if_icmp .gt 26, 3) := by decide +kernel
theorem dX7_fewestHome_21 : decode cX7_fewestHome 21 = .ok (.iload_n 3, 1) := by decide +kernel
theorem dX7_fewestHome_22 : decode cX7_fewestHome 22 = .ok (.iload_n 2, 1) := by decide +kernel
theorem dX7_fewestHome_23 : decode cX7_fewestHome 23 = .ok (.imul, 1) := by decide +kernel
theorem dX7_fewestHome_24 : decode cX7_fewestHome 24 = .ok (.iload_n 0, 1) := by decide +kernel
theorem dX7_fewestHome_25 : decode cX7_fewestHome 25 = .ok (.if_icmp .lt 13, 3) := by decide +kernel
theorem dX7_fewestHome_28 : decode cX7_fewestHome 28 = .ok (.iload_n 0, 1) := by decide +kernel
theorem dX7_fewestHome_29 : decode cX7_fewestHome 29 = .ok (.iload_n 3, 1) := by decide +kernel
theorem dX7_fewestHome_30 : decode cX7_fewestHome 30 = .ok (.isub, 1) := by decide +kernel
theorem dX7_fewestHome_31 : decode cX7_fewestHome 31 = .ok (.iconst 2, 1) := by decide +kernel
theorem dX7_fewestHome_32 : decode cX7_fewestHome 32 = .ok (.irem, 1) := by decide +kernel
theorem dX7_fewestHome_33 : decode cX7_fewestHome 33 = .ok (.ifCond .ne 5, 3) := by decide +kernel
theorem dX7_fewestHome_36 : decode cX7_fewestHome 36 = .ok (.iload_n 3, 1) := by decide +kernel
theorem dX7_fewestHome_37 : decode cX7_fewestHome 37 = .ok (.ireturn, 1) := by decide +kernel
theorem dX7_fewestHome_38 : decode cX7_fewestHome 38 = .ok (.iinc 3 1, 3) := by decide +kernel
theorem dX7_fewestHome_41 : decode cX7_fewestHome 41 = .ok (.goto (-25), 3) := by decide +kernel
theorem dX7_fewestHome_44 : decode cX7_fewestHome 44 = .ok (.iconst (-1), 1) := by decide +kernel
theorem dX7_fewestHome_45 : decode cX7_fewestHome 45 = .ok (.ireturn, 1) := by decide +kernel
theorem dX8_init_0 : decode cX8_init 0 = .ok (.aload_n 0, 1) := by decide +kernel
theorem dX8_init_1 : decode cX8_init 1 = .ok (.invokespecial 1, 3) := by decide +kernel
theorem dX8_init_4 : decode cX8_init 4 = .ok (.aload_n 0, 1) := by decide +kernel
theorem dX8_init_5 : decode cX8_init 5 = .ok (.bipush 101, 2) := by decide +kernel
theorem dX8_init_7 : decode cX8_init 7 = .ok (.newarray .int, 2) := by decide +kernel
theorem dX8_init_9 : decode cX8_init 9 = .ok (.putfield 7, 3) := by decide +kernel
theorem dX8_init_12 : decode cX8_init 12 = .ok (.aload_n 0, 1) := by decide +kernel
theorem dX8_init_13 : decode cX8_init 13 = .ok (.sipush 202, 3) := by decide +kernel
theorem dX8_init_16 : decode cX8_init 16 = .ok (.newarray .int, 2) := by decide +kernel
theorem dX8_init_18 : decode cX8_init 18 = .ok (.putfield 13, 3) := by decide +kernel
theorem dX8_init_21 : decode cX8_init 21 = .ok (.aload_n 0, 1) := by decide +kernel
theorem dX8_init_22 : decode cX8_init 22 = .ok (.iconst 2, 1) := by decide +kernel
theorem dX8_init_23 : decode cX8_init 23 = .ok (.newarray .boolean, 2) := by decide +kernel
theorem dX8_init_25 : decode cX8_init 25 = .ok (.putfield 16, 3) := by decide +kernel
theorem dX8_init_28 : decode cX8_init 28 = .ok (.aload_n 0, 1) := by decide +kernel
theorem dX8_init_29 : decode cX8_init 29 = .ok (.iconst 3, 1) := by decide +kernel
theorem dX8_init_30 : decode cX8_init 30 = .ok (.newarray .int, 2) := by decide +kernel
theorem dX8_init_32 : decode cX8_init 32 = .ok (.putfield 20, 3) := by decide +kernel
theorem dX8_init_35 : decode cX8_init 35 = .ok (.aload_n 0, 1) := by decide +kernel
theorem dX8_init_36 : decode cX8_init 36 = .ok (.lconst 1, 1) := by decide +kernel
theorem dX8_init_37 : decode cX8_init 37 = .ok (.putfield 23, 3) := by decide +kernel
theorem dX8_init_40 : decode cX8_init 40 = .ok (.aload_n 0, 1) := by decide +kernel
theorem dX8_init_41 : decode cX8_init 41 = .ok (.bipush 64, 2) := by decide +kernel
theorem dX8_init_43 : decode cX8_init 43 = .ok (.newarray .long, 2) := by decide +kernel
theorem dX8_init_45 : decode cX8_init 45 = .ok (.putfield 27, 3) := by decide +kernel
theorem dX8_init_48 : decode cX8_init 48 = .ok (.aload_n 0, 1) := by decide +kernel
theorem dX8_init_49 : decode cX8_init 49 = .ok (.sipush 128, 3) := by decide +kernel
theorem dX8_init_52 : decode cX8_init 52 = .ok (.newarray .int, 2) := by decide +kernel
theorem dX8_init_54 : decode cX8_init 54 = .ok (.putfield 31, 3) := by decide +kernel
theorem dX8_init_57 : decode cX8_init 57 = .ok (.aload_n 0, 1) := by decide +kernel
theorem dX8_init_58 : decode cX8_init 58 = .ok (.bipush 6, 2) := by decide +kernel
theorem dX8_init_60 : decode cX8_init 60 = .ok (.newarray .long, 2) := by decide +kernel
theorem dX8_init_62 : decode cX8_init 62 = .ok (.putfield 34, 3) := by decide +kernel
theorem dX8_init_65 : decode cX8_init 65 = .ok (.aload_n 0, 1) := by decide +kernel
theorem dX8_init_66 : decode cX8_init 66 = .ok (.bipush 8, 2) := by decide +kernel
theorem dX8_init_68 : decode cX8_init 68 = .ok (.newarray .int, 2) := by decide +kernel
theorem dX8_init_70 : decode cX8_init 70 = .ok (.putfield 37, 3) := by decide +kernel
theorem dX8_init_73 : decode cX8_init 73 = .ok (.aload_n 0, 1) := by decide +kernel
theorem dX8_init_74 : decode cX8_init 74 = .ok (.bipush 8, 2) := by decide +kernel
theorem dX8_init_76 : decode cX8_init 76 = .ok (.newarray .int, 2) := by decide +kernel
theorem dX8_init_78 : decode cX8_init 78 = .ok (.putfield 40, 3) := by decide +kernel
theorem dX8_init_81 : decode cX8_init 81 = .ok (.aload_n 0, 1) := by decide +kernel
theorem dX8_init_82 : decode cX8_init 82 = .ok (.sipush 200, 3) := by decide +kernel
theorem dX8_init_85 : decode cX8_init 85 = .ok (.newarray .int, 2) := by decide +kernel
theorem dX8_init_87 : decode cX8_init 87 = .ok (.putfield 43, 3) := by decide +kernel
theorem dX8_init_90 : decode cX8_init 90 = .ok (.aload_n 0, 1) := by decide +kernel
theorem dX8_init_91 : decode cX8_init 91 = .ok (.sipush 256, 3) := by decide +kernel
theorem dX8_init_94 : decode cX8_init 94 = .ok (.newarray .int, 2) := by decide +kernel
theorem dX8_init_96 : decode cX8_init 96 = .ok (.putfield 46, 3) := by decide +kernel
theorem dX8_init_99 : decode cX8_init 99 = .ok (.aload_n 0, 1) := by decide +kernel
theorem dX8_init_100 : decode cX8_init 100 = .ok (.sipush 256, 3) := by decide +kernel
theorem dX8_init_103 : decode cX8_init 103 = .ok (.newarray .int, 2) := by decide +kernel
theorem dX8_init_105 : decode cX8_init 105 = .ok (.putfield 49, 3) := by decide +kernel
theorem dX8_init_108 : decode cX8_init 108 = .ok (.aload_n 0, 1) := by decide +kernel
theorem dX8_init_109 : decode cX8_init 109 = .ok (.sipush 256, 3) := by decide +kernel
theorem dX8_init_112 : decode cX8_init 112 = .ok (.newarray .int, 2) := by decide +kernel
theorem dX8_init_114 : decode cX8_init 114 = .ok (.putfield 52, 3) := by decide +kernel
theorem dX8_init_117 : decode cX8_init 117 = .ok (.aload_n 0, 1) := by decide +kernel
theorem dX8_init_118 : decode cX8_init 118 = .ok (.sipush 256, 3) := by decide +kernel
theorem dX8_init_121 : decode cX8_init 121 = .ok (.newarray .int, 2) := by decide +kernel
theorem dX8_init_123 : decode cX8_init 123 = .ok (.putfield 55, 3) := by decide +kernel
theorem dX8_init_126 : decode cX8_init 126 = .ok (.aload_n 0, 1) := by decide +kernel
theorem dX8_init_127 : decode cX8_init 127 = .ok (.bipush 8, 2) := by decide +kernel
theorem dX8_init_129 : decode cX8_init 129 = .ok (.newarray .int, 2) := by decide +kernel
theorem dX8_init_131 : decode cX8_init 131 = .ok (.putfield 58, 3) := by decide +kernel
theorem dX8_init_134 : decode cX8_init 134 = .ok (.aload_n 0, 1) := by decide +kernel
theorem dX8_init_135 : decode cX8_init 135 = .ok (.bipush 40, 2) := by decide +kernel
theorem dX8_init_137 : decode cX8_init 137 = .ok (.newarray .int, 2) := by decide +kernel
theorem dX8_init_139 : decode cX8_init 139 = .ok (.putfield 61, 3) := by decide +kernel
theorem dX8_init_142 : decode cX8_init 142 = .ok (.aload_n 0, 1) := by decide +kernel
theorem dX8_init_143 : decode cX8_init 143 = .ok (.bipush 40, 2) := by decide +kernel
theorem dX8_init_145 : decode cX8_init 145 = .ok (.newarray .int, 2) := by decide +kernel
theorem dX8_init_147 : decode cX8_init 147 = .ok (.putfield 64, 3) := by decide +kernel
theorem dX8_init_150 : decode cX8_init 150 = .ok (.aload_n 0, 1) := by decide +kernel
theorem dX8_init_151 : decode cX8_init 151 = .ok (.getfield 7, 3) := by decide +kernel
theorem dX8_init_154 : decode cX8_init 154 = .ok (.bipush 33, 2) := by decide +kernel
theorem dX8_init_156 : decode cX8_init 156 = .ok (.iconst 3, 1) := by decide +kernel
theorem dX8_init_157 : decode cX8_init 157 = .ok (.iastore, 1) := by decide +kernel
theorem dX8_init_158 : decode cX8_init 158 = .ok (.return_, 1) := by decide +kernel
theorem dX8_in_0 : decode cX8_in 0 = .ok (.lload_n 0, 1) := by decide +kernel
theorem dX8_in_1 : decode cX8_in 1 = .ok (.lload_n 2, 1) := by decide +kernel
theorem dX8_in_2 : decode cX8_in 2 = .ok (.lcmp, 1) := by decide +kernel
theorem dX8_in_3 : decode cX8_in 3 = .ok (.ifCond .lt 14, 3) := by decide +kernel
theorem dX8_in_6 : decode cX8_in 6 = .ok (.lload_n 0, 1) := by decide +kernel
theorem dX8_in_7 : decode cX8_in 7 = .ok (.lload 4, 2) := by decide +kernel
theorem dX8_in_9 : decode cX8_in 9 = .ok (.lcmp, 1) := by decide +kernel
theorem dX8_in_10 : decode cX8_in 10 = .ok (.ifCond .gt 7, 3) := by decide +kernel
theorem dX8_in_13 : decode cX8_in 13 = .ok (.iconst 1, 1) := by decide +kernel
theorem dX8_in_14 : decode cX8_in 14 = .ok (.goto 4, 3) := by decide +kernel
theorem dX8_in_17 : decode cX8_in 17 = .ok (.iconst 0, 1) := by decide +kernel
theorem dX8_in_18 : decode cX8_in 18 = .ok (.ireturn, 1) := by decide +kernel
theorem dX8_bad_0 : decode cX8_bad 0 = .ok (.aload_n 0, 1) := by decide +kernel
theorem dX8_bad_1 : decode cX8_bad 1 = .ok (.getfield 20, 3) := by decide +kernel
theorem dX8_bad_4 : decode cX8_bad 4 = .ok (.iconst 0, 1) := by decide +kernel
theorem dX8_bad_5 : decode cX8_bad 5 = .ok (.dup2, 1) := by decide +kernel
theorem dX8_bad_6 : decode cX8_bad 6 = .ok (.iaload, 1) := by decide +kernel
theorem dX8_bad_7 : decode cX8_bad 7 = .ok (.iconst 1, 1) := by decide +kernel
theorem dX8_bad_8 : decode cX8_bad 8 = .ok (.iadd, 1) := by decide +kernel
theorem dX8_bad_9 : decode cX8_bad 9 = .ok (.iastore, 1) := by decide +kernel
theorem dX8_bad_10 : decode cX8_bad 10 = .ok (.iload_n 1, 1) := by decide +kernel
theorem dX8_bad_11 : decode cX8_bad 11 = .ok (.ireturn, 1) := by decide +kernel
theorem dX8_no_0 : decode cX8_no 0 = .ok (.aload_n 0, 1) := by decide +kernel
theorem dX8_no_1 : decode cX8_no 1 = .ok (.getfield 20, 3) := by decide +kernel
theorem dX8_no_4 : decode cX8_no 4 = .ok (.iconst 1, 1) := by decide +kernel
theorem dX8_no_5 : decode cX8_no 5 = .ok (.dup2, 1) := by decide +kernel
theorem dX8_no_6 : decode cX8_no 6 = .ok (.iaload, 1) := by decide +kernel
theorem dX8_no_7 : decode cX8_no 7 = .ok (.iconst 1, 1) := by decide +kernel
theorem dX8_no_8 : decode cX8_no 8 = .ok (.iadd, 1) := by decide +kernel
theorem dX8_no_9 : decode cX8_no 9 = .ok (.iastore, 1) := by decide +kernel
theorem dX8_no_10 : decode cX8_no 10 = .ok (.bipush (-3), 2) := by decide +kernel
theorem dX8_no_12 : decode cX8_no 12 = .ok (.ireturn, 1) := by decide +kernel
theorem dX8_full_0 : decode cX8_full 0 = .ok (.aload_n 0, 1) := by decide +kernel
theorem dX8_full_1 : decode cX8_full 1 = .ok (.getfield 20, 3) := by decide +kernel
theorem dX8_full_4 : decode cX8_full 4 = .ok (.iconst 2, 1) := by decide +kernel
theorem dX8_full_5 : decode cX8_full 5 = .ok (.dup2, 1) := by decide +kernel
theorem dX8_full_6 : decode cX8_full 6 = .ok (.iaload, 1) := by decide +kernel
theorem dX8_full_7 : decode cX8_full 7 = .ok (.iconst 1, 1) := by decide +kernel
theorem dX8_full_8 : decode cX8_full 8 = .ok (.iadd, 1) := by decide +kernel
theorem dX8_full_9 : decode cX8_full 9 = .ok (.iastore, 1) := by decide +kernel
theorem dX8_full_10 : decode cX8_full 10 = .ok (.bipush (-4), 2) := by decide +kernel
theorem dX8_full_12 : decode cX8_full 12 = .ok (.ireturn, 1) := by decide +kernel
theorem dX8_tells_0 : decode cX8_tells 0 = .ok (.lload_n 1, 1) := by decide +kernel
theorem dX8_tells_1 : decode cX8_tells 1 = .ok (.lstore 5, 2) := by decide +kernel
theorem dX8_tells_3 : decode cX8_tells 3 = .ok (.lload_n 3, 1) := by decide +kernel
theorem dX8_tells_4 : decode cX8_tells 4 = .ok (.lstore 7, 2) := by decide +kernel
theorem dX8_tells_6 : decode cX8_tells 6 = .ok (.lload 7, 2) := by decide +kernel
theorem dX8_tells_8 : decode cX8_tells 8 = .ok (.lconst 0, 1) := by decide +kernel
theorem dX8_tells_9 : decode cX8_tells 9 = .ok (.lcmp, 1) := by decide +kernel
theorem dX8_tells_10 : decode cX8_tells 10 = .ok (.ifCond .eq 21, 3) := by decide +kernel
theorem dX8_tells_13 : decode cX8_tells 13 = .ok (.lload 5, 2) := by decide +kernel
theorem dX8_tells_15 : decode cX8_tells 15 = .ok (.lload 7, 2) := by decide +kernel
theorem dX8_tells_17 : decode cX8_tells 17 = .ok (.lrem, 1) := by decide +kernel
theorem dX8_tells_18 : decode cX8_tells 18 = .ok (.lstore 9, 2) := by decide +kernel
theorem dX8_tells_20 : decode cX8_tells 20 = .ok (.lload 7, 2) := by decide +kernel
theorem dX8_tells_22 : decode cX8_tells 22 = .ok (.lstore 5, 2) := by decide +kernel
theorem dX8_tells_24 : decode cX8_tells 24 = .ok (.lload 9, 2) := by decide +kernel
theorem dX8_tells_26 : decode cX8_tells 26 = .ok (.lstore 7, 2) := by decide +kernel
theorem dX8_tells_28 : decode cX8_tells 28 = .ok (.goto (-22), 3) := by decide +kernel
theorem dX8_tells_31 : decode cX8_tells 31 = .ok (.aload_n 0, 1) := by decide +kernel
theorem dX8_tells_32 : decode cX8_tells 32 = .ok (.lload_n 1, 1) := by decide +kernel
theorem dX8_tells_33 : decode cX8_tells 33 = .ok (.lload 5, 2) := by decide +kernel
theorem dX8_tells_35 : decode cX8_tells 35 = .ok (.ldiv, 1) := by decide +kernel
theorem dX8_tells_36 : decode cX8_tells 36 = .ok (.putfield 67, 3) := by decide +kernel
theorem dX8_tells_39 : decode cX8_tells 39 = .ok (.aload_n 0, 1) := by decide +kernel
theorem dX8_tells_40 : decode cX8_tells 40 = .ok (.lload_n 3, 1) := by decide +kernel
theorem dX8_tells_41 : decode cX8_tells 41 = .ok (.lload 5, 2) := by decide +kernel
theorem dX8_tells_43 : decode cX8_tells 43 = .ok (.ldiv, 1) := by decide +kernel
theorem dX8_tells_44 : decode cX8_tells 44 = .ok (.putfield 23, 3) := by decide +kernel
theorem dX8_tells_47 : decode cX8_tells 47 = .ok (.iconst 1, 1) := by decide +kernel
theorem dX8_tells_48 : decode cX8_tells 48 = .ok (.ireturn, 1) := by decide +kernel
theorem dX8_walkers_0 : decode cX8_walkers 0 = .ok (.aload_n 0, 1) := by decide +kernel
theorem dX8_walkers_1 : decode cX8_walkers 1 = .ok (.getfield 7, 3) := by decide +kernel
theorem dX8_walkers_4 : decode cX8_walkers 4 = .ok (.bipush 99, 2) := by decide +kernel
theorem dX8_walkers_6 : decode cX8_walkers 6 = .ok (.iaload, 1) := by decide +kernel
theorem dX8_walkers_7 : decode cX8_walkers 7 = .ok (.ireturn, 1) := by decide +kernel
theorem dX8_all_0 : decode cX8_all 0 = .ok (.iconst 1, 1) := by decide +kernel
theorem dX8_all_1 : decode cX8_all 1 = .ok (.aload_n 0, 1) := by decide +kernel
theorem dX8_all_2 : decode cX8_all 2 = .ok (.invokevirtual 70, 3) := by decide +kernel
theorem dX8_all_5 : decode cX8_all 5 = .ok (.ishl, 1) := by decide +kernel
theorem dX8_all_6 : decode cX8_all 6 = .ok (.iconst 1, 1) := by decide +kernel
theorem dX8_all_7 : decode cX8_all 7 = .ok (.isub, 1) := by decide +kernel
theorem dX8_all_8 : decode cX8_all 8 = .ok (.ireturn, 1) := by decide +kernel
theorem dX8_isWalker_0 : decode cX8_isWalker 0 = .ok (.iload_n 1, 1) := by decide +kernel
theorem dX8_isWalker_1 : decode cX8_isWalker 1 = .ok (.i2l, 1) := by decide +kernel
theorem dX8_isWalker_2 : decode cX8_isWalker 2 = .ok (.lconst 0, 1) := by decide +kernel
theorem dX8_isWalker_3 : decode cX8_isWalker 3 = .ok (.aload_n 0, 1) := by decide +kernel
theorem dX8_isWalker_4 : decode cX8_isWalker 4 = .ok (.invokevirtual 70, 3) := by decide +kernel
theorem dX8_isWalker_7 : decode cX8_isWalker 7 = .ok (.iconst 1, 1) := by decide +kernel
theorem dX8_isWalker_8 : decode cX8_isWalker 8 = .ok (.isub, 1) := by decide +kernel
theorem dX8_isWalker_9 : decode cX8_isWalker 9 = .ok (.i2l, 1) := by decide +kernel
theorem dX8_isWalker_10 : decode cX8_isWalker 10 = .ok (.invokestatic 74, 3) := by decide +kernel
theorem dX8_isWalker_13 : decode cX8_isWalker 13 = .ok (.ireturn, 1) := by decide +kernel
theorem dX8_isSet_0 : decode cX8_isSet 0 = .ok (.iload_n 1, 1) := by decide +kernel
theorem dX8_isSet_1 : decode cX8_isSet 1 = .ok (.i2l, 1) := by decide +kernel
theorem dX8_isSet_2 : decode cX8_isSet 2 = .ok (.lconst 0, 1) := by decide +kernel
theorem dX8_isSet_3 : decode cX8_isSet 3 = .ok (.aload_n 0, 1) := by decide +kernel
theorem dX8_isSet_4 : decode cX8_isSet 4 = .ok (.invokevirtual 78, 3) := by decide +kernel
theorem dX8_isSet_7 : decode cX8_isSet 7 = .ok (.i2l, 1) := by decide +kernel
theorem dX8_isSet_8 : decode cX8_isSet 8 = .ok (.invokestatic 74, 3) := by decide +kernel
theorem dX8_isSet_11 : decode cX8_isSet 11 = .ok (.ireturn, 1) := by decide +kernel
theorem dX8_of_0 : decode cX8_of 0 = .ok (.aload_n 0, 1) := by decide +kernel
theorem dX8_of_1 : decode cX8_of 1 = .ok (.getfield 7, 3) := by decide +kernel
theorem dX8_of_4 : decode cX8_of 4 = .ok (.iconst 0, 1) := by decide +kernel
theorem dX8_of_5 : decode cX8_of 5 = .ok (.iconst 4, 1) := by decide +kernel
theorem dX8_of_6 : decode cX8_of 6 = .ok (.iload_n 1, 1) := by decide +kernel
theorem dX8_of_7 : decode cX8_of 7 = .ok (.imul, 1) := by decide +kernel
theorem dX8_of_8 : decode cX8_of 8 = .ok (.iadd, 1) := by decide +kernel
theorem dX8_of_9 : decode cX8_of 9 = .ok (.iload_n 2, 1) := by decide +kernel
theorem dX8_of_10 : decode cX8_of 10 = .ok (.iadd, 1) := by decide +kernel
theorem dX8_of_11 : decode cX8_of 11 = .ok (.iaload, 1) := by decide +kernel
theorem dX8_of_12 : decode cX8_of 12 = .ok (.ireturn, 1) := by decide +kernel
theorem dX8_walker_0 : decode cX8_walker 0 = .ok (.iload_n 1, 1) := by decide +kernel
theorem dX8_walker_1 : decode cX8_walker 1 = .ok (.i2l, 1) := by decide +kernel
theorem dX8_walker_2 : decode cX8_walker 2 = .ok (.lconst 0, 1) := by decide +kernel
theorem dX8_walker_3 : decode cX8_walker 3 = .ok (.ldc2_w 81, 3) := by decide +kernel
theorem dX8_walker_6 : decode cX8_walker 6 = .ok (.invokestatic 74, 3) := by decide +kernel
theorem dX8_walker_9 : decode cX8_walker 9 = .ok (.ifCond .eq 27, 3) := by decide +kernel
theorem dX8_walker_12 : decode cX8_walker 12 = .ok (.iload_n 2, 1) := by decide +kernel
theorem dX8_walker_13 : decode cX8_walker 13 = .ok (.i2l, 1) := by decide +kernel
theorem dX8_walker_14 : decode cX8_walker 14 = .ok (.lconst 1, 1) := by decide +kernel
theorem dX8_walker_15 : decode cX8_walker 15 = .ok (.ldc2_w 83, 3) := by decide +kernel
theorem dX8_walker_18 : decode cX8_walker 18 = .ok (.invokestatic 74, 3) := by decide +kernel
theorem dX8_walker_21 : decode cX8_walker 21 = .ok (.ifCond .eq 15, 3) := by decide +kernel
theorem dX8_walker_24 : decode cX8_walker 24 = .ok (.iload_n 3, 1) := by decide +kernel
theorem dX8_walker_25 : decode cX8_walker 25 = .ok (.i2l, 1) := by decide +kernel
theorem dX8_walker_26 : decode cX8_walker 26 = .ok (.lconst 0, 1) := by decide +kernel
theorem dX8_walker_27 : decode cX8_walker 27 = .ok (.ldc2_w 85, 3) := by decide +kernel
theorem dX8_walker_30 : decode cX8_walker 30 = .ok (.invokestatic 74, 3) := by decide +kernel
theorem dX8_walker_33 : decode cX8_walker 33 = .ok (.ifCond .ne 10, 3) := by decide +kernel
theorem dX8_walker_36 : decode cX8_walker 36 = .ok (.aload_n 0, 1) := by decide +kernel
theorem dX8_walker_37 : decode cX8_walker 37 = .ok (.bipush (-2), 2) := by decide +kernel
theorem dX8_walker_39 : decode cX8_walker 39 = .ok (.invokevirtual 87, 3) := by decide +kernel
theorem dX8_walker_42 : decode cX8_walker 42 = .ok (.ireturn, 1) := by decide +kernel
theorem dX8_walker_43 : decode cX8_walker 43 = .ok (.aload_n 0, 1) := by decide +kernel
theorem dX8_walker_44 : decode cX8_walker 44 = .ok (.invokevirtual 70, 3) := by decide +kernel
theorem dX8_walker_47 : decode cX8_walker 47 = .ok (.istore 4, 2) := by decide +kernel
theorem dX8_walker_49 : decode cX8_walker 49 = .ok (.iload 4, 2) := by decide +kernel
theorem dX8_walker_51 : decode cX8_walker 51 = .ok (.bipush 8, 2) := by decide +kernel
theorem dX8_walker_53 : decode cX8_walker 53 = .ok (.if_icmp .ne 8, 3) := by decide +kernel
theorem dX8_walker_56 : decode cX8_walker 56 = .ok (.aload_n 0, 1) := by decide +kernel
theorem dX8_walker_57 : decode cX8_walker 57 = .ok (.invokevirtual 91, 3) := by decide +kernel
theorem dX8_walker_60 : decode cX8_walker 60 = .ok (.ireturn, 1) := by decide +kernel
theorem dX8_walker_61 : decode cX8_walker 61 = .ok (.aload_n 0, 1) := by decide +kernel
theorem dX8_walker_62 : decode cX8_walker 62 = .ok (.getfield 7, 3) := by decide +kernel
theorem dX8_walker_65 : decode cX8_walker 65 = .ok (.iconst 0, 1) := by decide +kernel
theorem dX8_walker_66 : decode cX8_walker 66 = .ok (.iconst 4, 1) := by decide +kernel
theorem dX8_walker_67 : decode cX8_walker 67 = .ok (.iload 4, 2) := by decide +kernel
theorem dX8_walker_69 : decode cX8_walker 69 = .ok (.imul, 1) := by decide +kernel
theorem dX8_walker_70 : decode cX8_walker 70 = .ok (.iadd, 1) := by decide +kernel
theorem dX8_walker_71 : decode cX8_walker 71 = .ok (.iload_n 1, 1) := by decide +kernel
theorem dX8_walker_72 : decode cX8_walker 72 = .ok (.iastore, 1) := by decide +kernel
theorem dX8_walker_73 : decode cX8_walker 73 = .ok (.aload_n 0, 1) := by decide +kernel
theorem dX8_walker_74 : decode cX8_walker 74 = .ok (.getfield 7, 3) := by decide +kernel
theorem dX8_walker_77 : decode cX8_walker 77 = .ok (.iconst 0, 1) := by decide +kernel
theorem dX8_walker_78 : decode cX8_walker 78 = .ok (.iconst 4, 1) := by decide +kernel
theorem dX8_walker_79 : decode cX8_walker 79 = .ok (.iload 4, 2) := by decide +kernel
theorem dX8_walker_81 : decode cX8_walker 81 = .ok (.imul, 1) := by decide +kernel
theorem dX8_walker_82 : decode cX8_walker 82 = .ok (.iadd, 1) := by decide +kernel
theorem dX8_walker_83 : decode cX8_walker 83 = .ok (.iconst 1, 1) := by decide +kernel
theorem dX8_walker_84 : decode cX8_walker 84 = .ok (.iadd, 1) := by decide +kernel
theorem dX8_walker_85 : decode cX8_walker 85 = .ok (.iload_n 2, 1) := by decide +kernel
theorem dX8_walker_86 : decode cX8_walker 86 = .ok (.iastore, 1) := by decide +kernel
theorem dX8_walker_87 : decode cX8_walker 87 = .ok (.aload_n 0, 1) := by decide +kernel
theorem dX8_walker_88 : decode cX8_walker 88 = .ok (.getfield 7, 3) := by decide +kernel
theorem dX8_walker_91 : decode cX8_walker 91 = .ok (.iconst 0, 1) := by decide +kernel
theorem dX8_walker_92 : decode cX8_walker 92 = .ok (.iconst 4, 1) := by decide +kernel
theorem dX8_walker_93 : decode cX8_walker 93 = .ok (.iload 4, 2) := by decide +kernel
theorem dX8_walker_95 : decode cX8_walker 95 = .ok (.imul, 1) := by decide +kernel
theorem dX8_walker_96 : decode cX8_walker 96 = .ok (.iadd, 1) := by decide +kernel
theorem dX8_walker_97 : decode cX8_walker 97 = .ok (.iconst 2, 1) := by decide +kernel
theorem dX8_walker_98 : decode cX8_walker 98 = .ok (.iadd, 1) := by decide +kernel
theorem dX8_walker_99 : decode cX8_walker 99 = .ok (.iload_n 3, 1) := by decide +kernel
theorem dX8_walker_100 : decode cX8_walker 100 = .ok (.iastore, 1) := by decide +kernel
theorem dX8_walker_101 : decode cX8_walker 101 = .ok (.aload_n 0, 1) := by decide +kernel
theorem dX8_walker_102 : decode cX8_walker 102 = .ok (.getfield 7, 3) := by decide +kernel
theorem dX8_walker_105 : decode cX8_walker 105 = .ok (.iconst 0, 1) := by decide +kernel
theorem dX8_walker_106 : decode cX8_walker 106 = .ok (.iconst 4, 1) := by decide +kernel
theorem dX8_walker_107 : decode cX8_walker 107 = .ok (.iload 4, 2) := by decide +kernel
theorem dX8_walker_109 : decode cX8_walker 109 = .ok (.imul, 1) := by decide +kernel
theorem dX8_walker_110 : decode cX8_walker 110 = .ok (.iadd, 1) := by decide +kernel
theorem dX8_walker_111 : decode cX8_walker 111 = .ok (.iconst 3, 1) := by decide +kernel
theorem dX8_walker_112 : decode cX8_walker 112 = .ok (.iadd, 1) := by decide +kernel
theorem dX8_walker_113 : decode cX8_walker 113 = .ok (.bipush 10, 2) := by decide +kernel
theorem dX8_walker_115 : decode cX8_walker 115 = .ok (.iastore, 1) := by decide +kernel
theorem dX8_walker_116 : decode cX8_walker 116 = .ok (.aload_n 0, 1) := by decide +kernel
theorem dX8_walker_117 : decode cX8_walker 117 = .ok (.getfield 7, 3) := by decide +kernel
theorem dX8_walker_120 : decode cX8_walker 120 = .ok (.bipush 99, 2) := by decide +kernel
theorem dX8_walker_122 : decode cX8_walker 122 = .ok (.dup2, 1) := by decide +kernel
theorem dX8_walker_123 : decode cX8_walker 123 = .ok (.iaload, 1) := by decide +kernel
theorem dX8_walker_124 : decode cX8_walker 124 = .ok (.iconst 1, 1) := by decide +kernel
theorem dX8_walker_125 : decode cX8_walker 125 = .ok (.iadd, 1) := by decide +kernel
theorem dX8_walker_126 : decode cX8_walker 126 = .ok (.iastore, 1) := by decide +kernel
theorem dX8_walker_127 : decode cX8_walker 127 = .ok (.iload 4, 2) := by decide +kernel
theorem dX8_walker_129 : decode cX8_walker 129 = .ok (.ireturn, 1) := by decide +kernel
theorem dX8_put_0 : decode cX8_put 0 = .ok (.iload_n 1, 1) := by decide +kernel
theorem dX8_put_1 : decode cX8_put 1 = .ok (.i2l, 1) := by decide +kernel
theorem dX8_put_2 : decode cX8_put 2 = .ok (.lconst 0, 1) := by decide +kernel
theorem dX8_put_3 : decode cX8_put 3 = .ok (.lconst 1, 1) := by decide +kernel
theorem dX8_put_4 : decode cX8_put 4 = .ok (.invokestatic 74, 3) := by decide +kernel
theorem dX8_put_7 : decode cX8_put 7 = .ok (.ifCond .eq 25, 3) := by decide +kernel
theorem dX8_put_10 : decode cX8_put 10 = .ok (.iload_n 2, 1) := by decide +kernel
theorem dX8_put_11 : decode cX8_put 11 = .ok (.i2l, 1) := by decide +kernel
theorem dX8_put_12 : decode cX8_put 12 = .ok (.lconst 0, 1) := by decide +kernel
theorem dX8_put_13 : decode cX8_put 13 = .ok (.iload_n 1, 1) := by decide +kernel
theorem dX8_put_14 : decode cX8_put 14 = .ok (.ifCond .ne 9, 3) := by decide +kernel
theorem dX8_put_17 : decode cX8_put 17 = .ok (.ldc2_w 94, 3) := by decide +kernel
theorem dX8_put_20 : decode cX8_put 20 = .ok (.goto 6, 3) := by decide +kernel
theorem dX8_put_23 : decode cX8_put 23 = .ok (.ldc2_w 85, 3) := by decide +kernel
theorem dX8_put_26 : decode cX8_put 26 = .ok (.invokestatic 74, 3) := by decide +kernel
theorem dX8_put_29 : decode cX8_put 29 = .ok (.ifCond .ne 10, 3) := by decide +kernel
theorem dX8_put_32 : decode cX8_put 32 = .ok (.aload_n 0, 1) := by decide +kernel
theorem dX8_put_33 : decode cX8_put 33 = .ok (.bipush (-2), 2) := by decide +kernel
theorem dX8_put_35 : decode cX8_put 35 = .ok (.invokevirtual 87, 3) := by decide +kernel
theorem dX8_put_38 : decode cX8_put 38 = .ok (.ireturn, 1) := by decide +kernel
theorem dX8_put_39 : decode cX8_put 39 = .ok (.aload_n 0, 1) := by decide +kernel
theorem dX8_put_40 : decode cX8_put 40 = .ok (.getfield 7, 3) := by decide +kernel
theorem dX8_put_43 : decode cX8_put 43 = .ok (.bipush 32, 2) := by decide +kernel
theorem dX8_put_45 : decode cX8_put 45 = .ok (.iload_n 1, 1) := by decide +kernel
theorem dX8_put_46 : decode cX8_put 46 = .ok (.iadd, 1) := by decide +kernel
theorem dX8_put_47 : decode cX8_put 47 = .ok (.iaload, 1) := by decide +kernel
theorem dX8_put_48 : decode cX8_put 48 = .ok (.istore_n 3, 1) := by decide +kernel
theorem dX8_put_49 : decode cX8_put 49 = .ok (.aload_n 0, 1) := by decide +kernel
theorem dX8_put_50 : decode cX8_put 50 = .ok (.getfield 7, 3) := by decide +kernel
theorem dX8_put_53 : decode cX8_put 53 = .ok (.bipush 32, 2) := by decide +kernel
theorem dX8_put_55 : decode cX8_put 55 = .ok (.iload_n 1, 1) := by decide +kernel
theorem dX8_put_56 : decode cX8_put 56 = .ok (.iadd, 1) := by decide +kernel
theorem dX8_put_57 : decode cX8_put 57 = .ok (.iload_n 2, 1) := by decide +kernel
theorem dX8_put_58 : decode cX8_put 58 = .ok (.iastore, 1) := by decide +kernel
theorem dX8_put_59 : decode cX8_put 59 = .ok (.iload_n 3, 1) := by decide +kernel
theorem dX8_put_60 : decode cX8_put 60 = .ok (.ireturn, 1) := by decide +kernel
theorem dX8_bringsOf_0 : decode cX8_bringsOf 0 = .ok (.iload_n 1, 1) := by decide +kernel
theorem dX8_bringsOf_1 : decode cX8_bringsOf 1 = .ok (.tableswitch 101 0 3 #[31, 42, 63, 84], 31) := by decide +kernel
theorem dX8_bringsOf_32 : decode cX8_bringsOf 32 = .ok (.iload_n 0, 1) := by decide +kernel
theorem dX8_bringsOf_33 : decode cX8_bringsOf 33 = .ok (.iconst 5, 1) := by decide +kernel
theorem dX8_bringsOf_34 : decode cX8_bringsOf 34 = .ok (.if_icmp .ne 7, 3) := by decide +kernel
theorem dX8_bringsOf_37 : decode cX8_bringsOf 37 = .ok (.iconst 0, 1) := by decide +kernel
theorem dX8_bringsOf_38 : decode cX8_bringsOf 38 = .ok (.goto 4, 3) := by decide +kernel
theorem dX8_bringsOf_41 : decode cX8_bringsOf 41 = .ok (.iconst 1, 1) := by decide +kernel
theorem dX8_bringsOf_42 : decode cX8_bringsOf 42 = .ok (.ireturn, 1) := by decide +kernel
theorem dX8_bringsOf_43 : decode cX8_bringsOf 43 = .ok (.iload_n 0, 1) := by decide +kernel
theorem dX8_bringsOf_44 : decode cX8_bringsOf 44 = .ok (.iconst 2, 1) := by decide +kernel
theorem dX8_bringsOf_45 : decode cX8_bringsOf 45 = .ok (.if_icmp .ne 7, 3) := by decide +kernel
theorem dX8_bringsOf_48 : decode cX8_bringsOf 48 = .ok (.iconst 2, 1) := by decide +kernel
theorem dX8_bringsOf_49 : decode cX8_bringsOf 49 = .ok (.goto 14, 3) := by decide +kernel
theorem dX8_bringsOf_52 : decode cX8_bringsOf 52 = .ok (.iload_n 0, 1) := by decide +kernel
theorem dX8_bringsOf_53 : decode cX8_bringsOf 53 = .ok (.bipush 7, 2) := by decide +kernel
theorem dX8_bringsOf_55 : decode cX8_bringsOf 55 = .ok (.if_icmp .ne 7, 3) := by decide +kernel
theorem dX8_bringsOf_58 : decode cX8_bringsOf 58 = .ok (.iconst 1, 1) := by decide +kernel
theorem dX8_bringsOf_59 : decode cX8_bringsOf 59 = .ok (.goto 4, 3) := by decide +kernel
theorem dX8_bringsOf_62 : decode cX8_bringsOf 62 = .ok (.iconst 0, 1) := by decide +kernel
theorem dX8_bringsOf_63 : decode cX8_bringsOf 63 = .ok (.ireturn, 1) := by decide +kernel
theorem dX8_bringsOf_64 : decode cX8_bringsOf 64 = .ok (.iload_n 0, 1) := by decide +kernel
theorem dX8_bringsOf_65 : decode cX8_bringsOf 65 = .ok (.iconst 1, 1) := by decide +kernel
theorem dX8_bringsOf_66 : decode cX8_bringsOf 66 = .ok (.if_icmp .ne 7, 3) := by decide +kernel
theorem dX8_bringsOf_69 : decode cX8_bringsOf 69 = .ok (.iconst 1, 1) := by decide +kernel
theorem dX8_bringsOf_70 : decode cX8_bringsOf 70 = .ok (.goto 14, 3) := by decide +kernel
theorem dX8_bringsOf_73 : decode cX8_bringsOf 73 = .ok (.iload_n 0, 1) := by decide +kernel
theorem dX8_bringsOf_74 : decode cX8_bringsOf 74 = .ok (.bipush 7, 2) := by decide +kernel
theorem dX8_bringsOf_76 : decode cX8_bringsOf 76 = .ok (.if_icmp .ne 7, 3) := by decide +kernel
theorem dX8_bringsOf_79 : decode cX8_bringsOf 79 = .ok (.iconst 2, 1) := by decide +kernel
theorem dX8_bringsOf_80 : decode cX8_bringsOf 80 = .ok (.goto 4, 3) := by decide +kernel
theorem dX8_bringsOf_83 : decode cX8_bringsOf 83 = .ok (.iconst 0, 1) := by decide +kernel
theorem dX8_bringsOf_84 : decode cX8_bringsOf 84 = .ok (.ireturn, 1) := by decide +kernel
theorem dX8_bringsOf_85 : decode cX8_bringsOf 85 = .ok (.iload_n 0, 1) := by decide +kernel
theorem dX8_bringsOf_86 : decode cX8_bringsOf 86 = .ok (.iconst 3, 1) := by decide +kernel
theorem dX8_bringsOf_87 : decode cX8_bringsOf 87 = .ok (.if_icmp .eq 9, 3) := by decide +kernel
theorem dX8_bringsOf_90 : decode cX8_bringsOf 90 = .ok (.iload_n 0, 1) := by decide +kernel
theorem dX8_bringsOf_91 : decode cX8_bringsOf 91 = .ok (.bipush 6, 2) := by decide +kernel
theorem dX8_bringsOf_93 : decode cX8_bringsOf 93 = .ok (.if_icmp .ne 7, 3) := by decide +kernel
theorem dX8_bringsOf_96 : decode cX8_bringsOf 96 = .ok (.iconst 1, 1) := by decide +kernel
theorem dX8_bringsOf_97 : decode cX8_bringsOf 97 = .ok (.goto 4, 3) := by decide +kernel
theorem dX8_bringsOf_100 : decode cX8_bringsOf 100 = .ok (.iconst 0, 1) := by decide +kernel
theorem dX8_bringsOf_101 : decode cX8_bringsOf 101 = .ok (.ireturn, 1) := by decide +kernel
theorem dX8_bringsOf_102 : decode cX8_bringsOf 102 = .ok (.iload_n 0, 1) := by decide +kernel
theorem dX8_bringsOf_103 : decode cX8_bringsOf 103 = .ok (.iconst 4, 1) := by decide +kernel
theorem dX8_bringsOf_104 : decode cX8_bringsOf 104 = .ok (.if_icmp .ne 7, 3) := by decide +kernel
theorem dX8_bringsOf_107 : decode cX8_bringsOf 107 = .ok (.iconst 1, 1) := by decide +kernel
theorem dX8_bringsOf_108 : decode cX8_bringsOf 108 = .ok (.goto 14, 3) := by decide +kernel
theorem dX8_bringsOf_111 : decode cX8_bringsOf 111 = .ok (.iload_n 0, 1) := by decide +kernel
theorem dX8_bringsOf_112 : decode cX8_bringsOf 112 = .ok (.bipush 6, 2) := by decide +kernel
theorem dX8_bringsOf_114 : decode cX8_bringsOf 114 = .ok (.if_icmp .ne 7, 3) := by decide +kernel
theorem dX8_bringsOf_117 : decode cX8_bringsOf 117 = .ok (.iconst 2, 1) := by decide +kernel
theorem dX8_bringsOf_118 : decode cX8_bringsOf 118 = .ok (.goto 4, 3) := by decide +kernel
theorem dX8_bringsOf_121 : decode cX8_bringsOf 121 = .ok (.iconst 0, 1) := by decide +kernel
theorem dX8_bringsOf_122 : decode cX8_bringsOf 122 = .ok (.ireturn, 1) := by decide +kernel
theorem dX8_broughtBy_0 : decode cX8_broughtBy 0 = .ok (.iconst 0, 1) := by decide +kernel
theorem dX8_broughtBy_1 : decode cX8_broughtBy 1 = .ok (.istore_n 3, 1) := by decide +kernel
theorem dX8_broughtBy_2 : decode cX8_broughtBy 2 = .ok (.iconst 0, 1) := by decide +kernel
theorem dX8_broughtBy_3 : decode cX8_broughtBy 3 = .ok (.istore 4, 2) := by decide +kernel
theorem dX8_broughtBy_5 : decode cX8_broughtBy 5 = .ok (.iload 4, 2) := by decide +kernel
theorem dX8_broughtBy_7 : decode cX8_broughtBy 7 = .ok (.aload_n 0, 1) := by decide +kernel
theorem dX8_broughtBy_8 : decode cX8_broughtBy 8 = .ok (.invokevirtual 70, 3) := by decide +kernel
theorem dX8_broughtBy_11 : decode cX8_broughtBy 11 = .ok (.if_icmp .ge 37, 3) := by decide +kernel
theorem dX8_broughtBy_14 : decode cX8_broughtBy 14 = .ok (.iload_n 3, 1) := by decide +kernel
theorem dX8_broughtBy_15 : decode cX8_broughtBy 15 = .ok (.iload_n 1, 1) := by decide +kernel
theorem dX8_broughtBy_16 : decode cX8_broughtBy 16 = .ok (.iload 4, 2) := by decide +kernel
theorem dX8_broughtBy_18 : decode cX8_broughtBy 18 = .ok (.ishr, 1) := by decide +kernel
theorem dX8_broughtBy_19 : decode cX8_broughtBy 19 = .ok (.iconst 1, 1) := by decide +kernel
theorem dX8_broughtBy_20 : decode cX8_broughtBy 20 = .ok (.iand, 1) := by decide +kernel
theorem dX8_broughtBy_21 : decode cX8_broughtBy 21 = .ok (.iconst 1, 1) := by decide +kernel
theorem dX8_broughtBy_22 : decode cX8_broughtBy 22 = .ok (.if_icmp .ne 17, 3) := by decide +kernel
theorem dX8_broughtBy_25 : decode cX8_broughtBy 25 = .ok (.aload_n 0, 1) := by decide +kernel
theorem dX8_broughtBy_26 : decode cX8_broughtBy 26 = .ok (.iload 4, 2) := by decide +kernel
theorem dX8_broughtBy_28 : decode cX8_broughtBy 28 = .ok (.iconst 0, 1) := by decide +kernel
theorem dX8_broughtBy_29 : decode cX8_broughtBy 29 = .ok (.invokevirtual 96, 3) := by decide +kernel
theorem dX8_broughtBy_32 : decode cX8_broughtBy 32 = .ok (.iload_n 2, 1) := by decide +kernel
theorem dX8_broughtBy_33 : decode cX8_broughtBy 33 = .ok (.invokestatic 100, 3) := by decide +kernel
theorem dX8_broughtBy_36 : decode cX8_broughtBy 36 = .ok (.goto 4, 3) := by decide +kernel
theorem dX8_broughtBy_39 : decode cX8_broughtBy 39 = .ok (.iconst 0, 1) := by decide +kernel
theorem dX8_broughtBy_40 : decode cX8_broughtBy 40 = .ok (.iadd, 1) := by decide +kernel
theorem dX8_broughtBy_41 : decode cX8_broughtBy 41 = .ok (.istore_n 3, 1) := by decide +kernel
theorem dX8_broughtBy_42 : decode cX8_broughtBy 42 = .ok (.iinc 4 1, 3) := by decide +kernel
theorem dX8_broughtBy_45 : decode cX8_broughtBy 45 = .ok (.goto (-40), 3) := by decide +kernel
theorem dX8_broughtBy_48 : decode cX8_broughtBy 48 = .ok (.iload_n 3, 1) := by decide +kernel
theorem dX8_broughtBy_49 : decode cX8_broughtBy 49 = .ok (.ireturn, 1) := by decide +kernel
theorem dX8_brings_0 : decode cX8_brings 0 = .ok (.aload_n 0, 1) := by decide +kernel
theorem dX8_brings_1 : decode cX8_brings 1 = .ok (.iload_n 1, 1) := by decide +kernel
theorem dX8_brings_2 : decode cX8_brings 2 = .ok (.invokevirtual 103, 3) := by decide +kernel
theorem dX8_brings_5 : decode cX8_brings 5 = .ok (.ifCond .eq 24, 3) := by decide +kernel
theorem dX8_brings_8 : decode cX8_brings 8 = .ok (.iload_n 2, 1) := by decide +kernel
theorem dX8_brings_9 : decode cX8_brings 9 = .ok (.i2l, 1) := by decide +kernel
theorem dX8_brings_10 : decode cX8_brings 10 = .ok (.lconst 0, 1) := by decide +kernel
theorem dX8_brings_11 : decode cX8_brings 11 = .ok (.ldc2_w 107, 3) := by decide +kernel
theorem dX8_brings_14 : decode cX8_brings 14 = .ok (.invokestatic 74, 3) := by decide +kernel
theorem dX8_brings_17 : decode cX8_brings 17 = .ok (.ifCond .eq 12, 3) := by decide +kernel
theorem dX8_brings_20 : decode cX8_brings 20 = .ok (.aload_n 0, 1) := by decide +kernel
theorem dX8_brings_21 : decode cX8_brings 21 = .ok (.iload_n 1, 1) := by decide +kernel
theorem dX8_brings_22 : decode cX8_brings 22 = .ok (.iload_n 2, 1) := by decide +kernel
theorem dX8_brings_23 : decode cX8_brings 23 = .ok (.invokevirtual 109, 3) := by decide +kernel
theorem dX8_brings_26 : decode cX8_brings 26 = .ok (.goto 9, 3) := by decide +kernel
theorem dX8_brings_29 : decode cX8_brings 29 = .ok (.aload_n 0, 1) := by decide +kernel
theorem dX8_brings_30 : decode cX8_brings 30 = .ok (.bipush (-2), 2) := by decide +kernel
theorem dX8_brings_32 : decode cX8_brings 32 = .ok (.invokevirtual 87, 3) := by decide +kernel
theorem dX8_brings_35 : decode cX8_brings 35 = .ok (.ireturn, 1) := by decide +kernel
theorem dX8_write_0 : decode cX8_write 0 = .ok (.iload_n 1, 1) := by decide +kernel
theorem dX8_write_1 : decode cX8_write 1 = .ok (.i2l, 1) := by decide +kernel
theorem dX8_write_2 : decode cX8_write 2 = .ok (.lconst 0, 1) := by decide +kernel
theorem dX8_write_3 : decode cX8_write 3 = .ok (.ldc2_w 112, 3) := by decide +kernel
theorem dX8_write_6 : decode cX8_write 6 = .ok (.invokestatic 74, 3) := by decide +kernel
theorem dX8_write_9 : decode cX8_write 9 = .ok (.ifCond .ne 10, 3) := by decide +kernel
theorem dX8_write_12 : decode cX8_write 12 = .ok (.aload_n 0, 1) := by decide +kernel
theorem dX8_write_13 : decode cX8_write 13 = .ok (.bipush (-2), 2) := by decide +kernel
theorem dX8_write_15 : decode cX8_write 15 = .ok (.invokevirtual 87, 3) := by decide +kernel
theorem dX8_write_18 : decode cX8_write 18 = .ok (.ireturn, 1) := by decide +kernel
theorem dX8_write_19 : decode cX8_write 19 = .ok (.aload_n 0, 1) := by decide +kernel
theorem dX8_write_20 : decode cX8_write 20 = .ok (.getfield 7, 3) := by decide +kernel
theorem dX8_write_23 : decode cX8_write 23 = .ok (.bipush 34, 2) := by decide +kernel
theorem dX8_write_25 : decode cX8_write 25 = .ok (.iaload, 1) := by decide +kernel
theorem dX8_write_26 : decode cX8_write 26 = .ok (.bipush 40, 2) := by decide +kernel
theorem dX8_write_28 : decode cX8_write 28 = .ok (.if_icmp .ne 8, 3) := by decide +kernel
theorem dX8_write_31 : decode cX8_write 31 = .ok (.aload_n 0, 1) := by decide +kernel
theorem dX8_write_32 : decode cX8_write 32 = .ok (.invokevirtual 91, 3) := by decide +kernel
theorem dX8_write_35 : decode cX8_write 35 = .ok (.ireturn, 1) := by decide +kernel
theorem dX8_write_36 : decode cX8_write 36 = .ok (.aload_n 0, 1) := by decide +kernel
theorem dX8_write_37 : decode cX8_write 37 = .ok (.getfield 7, 3) := by decide +kernel
theorem dX8_write_40 : decode cX8_write 40 = .ok (.bipush 35, 2) := by decide +kernel
theorem dX8_write_42 : decode cX8_write 42 = .ok (.aload_n 0, 1) := by decide +kernel
theorem dX8_write_43 : decode cX8_write 43 = .ok (.getfield 7, 3) := by decide +kernel
theorem dX8_write_46 : decode cX8_write 46 = .ok (.bipush 34, 2) := by decide +kernel
theorem dX8_write_48 : decode cX8_write 48 = .ok (.iaload, 1) := by decide +kernel
theorem dX8_write_49 : decode cX8_write 49 = .ok (.iadd, 1) := by decide +kernel
theorem dX8_write_50 : decode cX8_write 50 = .ok (.iload_n 1, 1) := by decide +kernel
theorem dX8_write_51 : decode cX8_write 51 = .ok (.iastore, 1) := by decide +kernel
theorem dX8_write_52 : decode cX8_write 52 = .ok (.aload_n 0, 1) := by decide +kernel
theorem dX8_write_53 : decode cX8_write 53 = .ok (.getfield 7, 3) := by decide +kernel
theorem dX8_write_56 : decode cX8_write 56 = .ok (.bipush 34, 2) := by decide +kernel
theorem dX8_write_58 : decode cX8_write 58 = .ok (.dup2, 1) := by decide +kernel
theorem dX8_write_59 : decode cX8_write 59 = .ok (.iaload, 1) := by decide +kernel
theorem dX8_write_60 : decode cX8_write 60 = .ok (.iconst 1, 1) := by decide +kernel
theorem dX8_write_61 : decode cX8_write 61 = .ok (.iadd, 1) := by decide +kernel
theorem dX8_write_62 : decode cX8_write 62 = .ok (.iastore, 1) := by decide +kernel
theorem dX8_write_63 : decode cX8_write 63 = .ok (.aload_n 0, 1) := by decide +kernel
theorem dX8_write_64 : decode cX8_write 64 = .ok (.getfield 7, 3) := by decide +kernel
theorem dX8_write_67 : decode cX8_write 67 = .ok (.bipush 34, 2) := by decide +kernel
theorem dX8_write_69 : decode cX8_write 69 = .ok (.iaload, 1) := by decide +kernel
theorem dX8_write_70 : decode cX8_write 70 = .ok (.ireturn, 1) := by decide +kernel
theorem dX8_erase_0 : decode cX8_erase 0 = .ok (.aload_n 0, 1) := by decide +kernel
theorem dX8_erase_1 : decode cX8_erase 1 = .ok (.getfield 7, 3) := by decide +kernel
theorem dX8_erase_4 : decode cX8_erase 4 = .ok (.bipush 34, 2) := by decide +kernel
theorem dX8_erase_6 : decode cX8_erase 6 = .ok (.iaload, 1) := by decide +kernel
theorem dX8_erase_7 : decode cX8_erase 7 = .ok (.istore_n 1, 1) := by decide +kernel
theorem dX8_erase_8 : decode cX8_erase 8 = .ok (.aload_n 0, 1) := by decide +kernel
theorem dX8_erase_9 : decode cX8_erase 9 = .ok (.getfield 7, 3) := by decide +kernel
theorem dX8_erase_12 : decode cX8_erase 12 = .ok (.bipush 34, 2) := by decide +kernel
theorem dX8_erase_14 : decode cX8_erase 14 = .ok (.iconst 0, 1) := by decide +kernel
theorem dX8_erase_15 : decode cX8_erase 15 = .ok (.iastore, 1) := by decide +kernel
theorem dX8_erase_16 : decode cX8_erase 16 = .ok (.iload_n 1, 1) := by decide +kernel
theorem dX8_erase_17 : decode cX8_erase 17 = .ok (.ireturn, 1) := by decide +kernel
theorem dX8_textLong_0 : decode cX8_textLong 0 = .ok (.aload_n 0, 1) := by decide +kernel
theorem dX8_textLong_1 : decode cX8_textLong 1 = .ok (.getfield 7, 3) := by decide +kernel
theorem dX8_textLong_4 : decode cX8_textLong 4 = .ok (.bipush 34, 2) := by decide +kernel
theorem dX8_textLong_6 : decode cX8_textLong 6 = .ok (.iaload, 1) := by decide +kernel
theorem dX8_textLong_7 : decode cX8_textLong 7 = .ok (.ireturn, 1) := by decide +kernel
theorem dX8_charAt_0 : decode cX8_charAt 0 = .ok (.aload_n 0, 1) := by decide +kernel
theorem dX8_charAt_1 : decode cX8_charAt 1 = .ok (.getfield 7, 3) := by decide +kernel
theorem dX8_charAt_4 : decode cX8_charAt 4 = .ok (.bipush 35, 2) := by decide +kernel
theorem dX8_charAt_6 : decode cX8_charAt 6 = .ok (.iload_n 1, 1) := by decide +kernel
theorem dX8_charAt_7 : decode cX8_charAt 7 = .ok (.iadd, 1) := by decide +kernel
theorem dX8_charAt_8 : decode cX8_charAt 8 = .ok (.iaload, 1) := by decide +kernel
theorem dX8_charAt_9 : decode cX8_charAt 9 = .ok (.ireturn, 1) := by decide +kernel
theorem dX8_ahead_0 : decode cX8_ahead 0 = .ok (.aload_n 0, 1) := by decide +kernel
theorem dX8_ahead_1 : decode cX8_ahead 1 = .ok (.getfield 114, 3) := by decide +kernel
theorem dX8_ahead_4 : decode cX8_ahead 4 = .ok (.aload_n 0, 1) := by decide +kernel
theorem dX8_ahead_5 : decode cX8_ahead 5 = .ok (.invokevirtual 118, 3) := by decide +kernel
theorem dX8_ahead_8 : decode cX8_ahead 8 = .ok (.if_icmp .ge 29, 3) := by decide +kernel
theorem dX8_ahead_11 : decode cX8_ahead 11 = .ok (.aload_n 0, 1) := by decide +kernel
theorem dX8_ahead_12 : decode cX8_ahead 12 = .ok (.aload_n 0, 1) := by decide +kernel
theorem dX8_ahead_13 : decode cX8_ahead 13 = .ok (.getfield 114, 3) := by decide +kernel
theorem dX8_ahead_16 : decode cX8_ahead 16 = .ok (.invokevirtual 121, 3) := by decide +kernel
theorem dX8_ahead_19 : decode cX8_ahead 19 = .ok (.bipush 32, 2) := by decide +kernel
theorem dX8_ahead_21 : decode cX8_ahead 21 = .ok (.if_icmp .ne 16, 3) := by decide +kernel
theorem dX8_ahead_24 : decode cX8_ahead 24 = .ok (.aload_n 0, 1) := by decide +kernel
theorem dX8_ahead_25 : decode cX8_ahead 25 = .ok (.dup, 1) := by decide +kernel
theorem dX8_ahead_26 : decode cX8_ahead 26 = .ok (.getfield 114, 3) := by decide +kernel
theorem dX8_ahead_29 : decode cX8_ahead 29 = .ok (.iconst 1, 1) := by decide +kernel
theorem dX8_ahead_30 : decode cX8_ahead 30 = .ok (.iadd, 1) := by decide +kernel
theorem dX8_ahead_31 : decode cX8_ahead 31 = .ok (.putfield 114, 3) := by decide +kernel
theorem dX8_ahead_34 : decode cX8_ahead 34 = .ok (.goto (-34), 3) := by decide +kernel
theorem dX8_ahead_37 : decode cX8_ahead 37 = .ok (.aload_n 0, 1) := by decide +kernel
theorem dX8_ahead_38 : decode cX8_ahead 38 = .ok (.getfield 114, 3) := by decide +kernel
theorem dX8_ahead_41 : decode cX8_ahead 41 = .ok (.aload_n 0, 1) := by decide +kernel
theorem dX8_ahead_42 : decode cX8_ahead 42 = .ok (.invokevirtual 118, 3) := by decide +kernel
theorem dX8_ahead_45 : decode cX8_ahead 45 = .ok (.if_icmp .ge 14, 3) := by decide +kernel
theorem dX8_ahead_48 : decode cX8_ahead 48 = .ok (.aload_n 0, 1) := by decide +kernel
theorem dX8_ahead_49 : decode cX8_ahead 49 = .ok (.aload_n 0, 1) := by decide +kernel
theorem dX8_ahead_50 : decode cX8_ahead 50 = .ok (.getfield 114, 3) := by decide +kernel
theorem dX8_ahead_53 : decode cX8_ahead 53 = .ok (.invokevirtual 121, 3) := by decide +kernel
theorem dX8_ahead_56 : decode cX8_ahead 56 = .ok (.goto 4, 3) := by decide +kernel
theorem dX8_ahead_59 : decode cX8_ahead 59 = .ok (.iconst (-1), 1) := by decide +kernel
theorem dX8_ahead_60 : decode cX8_ahead 60 = .ok (.ireturn, 1) := by decide +kernel
theorem dX8_rank_0 : decode cX8_rank 0 = .ok (.iload_n 0, 1) := by decide +kernel
theorem dX8_rank_1 : decode cX8_rank 1 = .ok (.lookupswitch 93 #[(38, 85), (42, 91), (43, 89), (45, 89), (47, 91), (60, 87), (61, 87), (62, 87), (124, 83)], 83) := by decide +kernel
theorem dX8_rank_84 : decode cX8_rank 84 = .ok (.iconst 1, 1) := by decide +kernel
theorem dX8_rank_85 : decode cX8_rank 85 = .ok (.ireturn, 1) := by decide +kernel
theorem dX8_rank_86 : decode cX8_rank 86 = .ok (.iconst 2, 1) := by decide +kernel
theorem dX8_rank_87 : decode cX8_rank 87 = .ok (.ireturn, 1) := by decide +kernel
theorem dX8_rank_88 : decode cX8_rank 88 = .ok (.iconst 3, 1) := by decide +kernel
theorem dX8_rank_89 : decode cX8_rank 89 = .ok (.ireturn, 1) := by decide +kernel
theorem dX8_rank_90 : decode cX8_rank 90 = .ok (.iconst 4, 1) := by decide +kernel
theorem dX8_rank_91 : decode cX8_rank 91 = .ok (.ireturn, 1) := by decide +kernel
theorem dX8_rank_92 : decode cX8_rank 92 = .ok (.iconst 5, 1) := by decide +kernel
theorem dX8_rank_93 : decode cX8_rank 93 = .ok (.ireturn, 1) := by decide +kernel
theorem dX8_rank_94 : decode cX8_rank 94 = .ok (.iconst 0, 1) := by decide +kernel
theorem dX8_rank_95 : decode cX8_rank 95 = .ok (.ireturn, 1) := by decide +kernel
theorem dX8_workOut_0 : decode cX8_workOut 0 = .ok (.aload_n 0, 1) := by decide +kernel
theorem dX8_workOut_1 : decode cX8_workOut 1 = .ok (.dup, 1) := by decide +kernel
theorem dX8_workOut_2 : decode cX8_workOut 2 = .ok (.getfield 124, 3) := by decide +kernel
theorem dX8_workOut_5 : decode cX8_workOut 5 = .ok (.iconst 1, 1) := by decide +kernel
theorem dX8_workOut_6 : decode cX8_workOut 6 = .ok (.isub, 1) := by decide +kernel
theorem dX8_workOut_7 : decode cX8_workOut 7 = .ok (.putfield 124, 3) := by decide +kernel
theorem dX8_workOut_10 : decode cX8_workOut 10 = .ok (.aload_n 0, 1) := by decide +kernel
theorem dX8_workOut_11 : decode cX8_workOut 11 = .ok (.dup, 1) := by decide +kernel
theorem dX8_workOut_12 : decode cX8_workOut 12 = .ok (.getfield 127, 3) := by decide +kernel
theorem dX8_workOut_15 : decode cX8_workOut 15 = .ok (.iconst 1, 1) := by decide +kernel
theorem dX8_workOut_16 : decode cX8_workOut 16 = .ok (.isub, 1) := by decide +kernel
theorem dX8_workOut_17 : decode cX8_workOut 17 = .ok (.putfield 127, 3) := by decide +kernel
theorem dX8_workOut_20 : decode cX8_workOut 20 = .ok (.aload_n 0, 1) := by decide +kernel
theorem dX8_workOut_21 : decode cX8_workOut 21 = .ok (.getfield 27, 3) := by decide +kernel
theorem dX8_workOut_24 : decode cX8_workOut 24 = .ok (.aload_n 0, 1) := by decide +kernel
theorem dX8_workOut_25 : decode cX8_workOut 25 = .ok (.getfield 127, 3) := by decide +kernel
theorem dX8_workOut_28 : decode cX8_workOut 28 = .ok (.iconst 1, 1) := by decide +kernel
theorem dX8_workOut_29 : decode cX8_workOut 29 = .ok (.isub, 1) := by decide +kernel
theorem dX8_workOut_30 : decode cX8_workOut 30 = .ok (.laload, 1) := by decide +kernel
theorem dX8_workOut_31 : decode cX8_workOut 31 = .ok (.lstore_n 1, 1) := by decide +kernel
theorem dX8_workOut_32 : decode cX8_workOut 32 = .ok (.aload_n 0, 1) := by decide +kernel
theorem dX8_workOut_33 : decode cX8_workOut 33 = .ok (.getfield 27, 3) := by decide +kernel
theorem dX8_workOut_36 : decode cX8_workOut 36 = .ok (.aload_n 0, 1) := by decide +kernel
theorem dX8_workOut_37 : decode cX8_workOut 37 = .ok (.getfield 127, 3) := by decide +kernel
theorem dX8_workOut_40 : decode cX8_workOut 40 = .ok (.laload, 1) := by decide +kernel
theorem dX8_workOut_41 : decode cX8_workOut 41 = .ok (.lstore_n 3, 1) := by decide +kernel
theorem dX8_workOut_42 : decode cX8_workOut 42 = .ok (.lconst 0, 1) := by decide +kernel
theorem dX8_workOut_43 : decode cX8_workOut 43 = .ok (.lstore 5, 2) := by decide +kernel
theorem dX8_workOut_45 : decode cX8_workOut 45 = .ok (.aload_n 0, 1) := by decide +kernel
theorem dX8_workOut_46 : decode cX8_workOut 46 = .ok (.getfield 31, 3) := by decide +kernel
theorem dX8_workOut_49 : decode cX8_workOut 49 = .ok (.aload_n 0, 1) := by decide +kernel
theorem dX8_workOut_50 : decode cX8_workOut 50 = .ok (.getfield 124, 3) := by decide +kernel
theorem dX8_workOut_53 : decode cX8_workOut 53 = .ok (.iaload, 1) := by decide +kernel
theorem dX8_workOut_54 : decode cX8_workOut 54 = .ok (.lookupswitch 190 #[(38, 96), (42, 182), (43, 166), (45, 174), (60, 118), (61, 150), (62, 134), (124, 74)], 74) := by decide +kernel
theorem dX8_workOut_128 : decode cX8_workOut 128 = .ok (.lload_n 1, 1) := by decide +kernel
theorem dX8_workOut_129 : decode cX8_workOut 129 = .ok (.lconst 0, 1) := by decide +kernel
theorem dX8_workOut_130 : decode cX8_workOut 130 = .ok (.lcmp, 1) := by decide +kernel
theorem dX8_workOut_131 : decode cX8_workOut 131 = .ok (.ifCond .ne 9, 3) := by decide +kernel
theorem dX8_workOut_134 : decode cX8_workOut 134 = .ok (.lload_n 3, 1) := by decide +kernel
theorem dX8_workOut_135 : decode cX8_workOut 135 = .ok (.lconst 0, 1) := by decide +kernel
theorem dX8_workOut_136 : decode cX8_workOut 136 = .ok (.lcmp, 1) := by decide +kernel
theorem dX8_workOut_137 : decode cX8_workOut 137 = .ok (.ifCond .eq 7, 3) := by decide +kernel
theorem dX8_workOut_140 : decode cX8_workOut 140 = .ok (.lconst 1, 1) := by decide +kernel
theorem dX8_workOut_141 : decode cX8_workOut 141 = .ok (.goto 4, 3) := by decide +kernel
theorem dX8_workOut_144 : decode cX8_workOut 144 = .ok (.lconst 0, 1) := by decide +kernel
theorem dX8_workOut_145 : decode cX8_workOut 145 = .ok (.lstore 5, 2) := by decide +kernel
theorem dX8_workOut_147 : decode cX8_workOut 147 = .ok (.goto 112, 3) := by decide +kernel
theorem dX8_workOut_150 : decode cX8_workOut 150 = .ok (.lload_n 1, 1) := by decide +kernel
theorem dX8_workOut_151 : decode cX8_workOut 151 = .ok (.lconst 0, 1) := by decide +kernel
theorem dX8_workOut_152 : decode cX8_workOut 152 = .ok (.lcmp, 1) := by decide +kernel
theorem dX8_workOut_153 : decode cX8_workOut 153 = .ok (.ifCond .eq 13, 3) := by decide +kernel
theorem dX8_workOut_156 : decode cX8_workOut 156 = .ok (.lload_n 3, 1) := by decide +kernel
theorem dX8_workOut_157 : decode cX8_workOut 157 = .ok (.lconst 0, 1) := by decide +kernel
theorem dX8_workOut_158 : decode cX8_workOut 158 = .ok (.lcmp, 1) := by decide +kernel
theorem dX8_workOut_159 : decode cX8_workOut 159 = .ok (.ifCond .eq 7, 3) := by decide +kernel
theorem dX8_workOut_162 : decode cX8_workOut 162 = .ok (.lconst 1, 1) := by decide +kernel
theorem dX8_workOut_163 : decode cX8_workOut 163 = .ok (.goto 4, 3) := by decide +kernel
theorem dX8_workOut_166 : decode cX8_workOut 166 = .ok (.lconst 0, 1) := by decide +kernel
theorem dX8_workOut_167 : decode cX8_workOut 167 = .ok (.lstore 5, 2) := by decide +kernel
theorem dX8_workOut_169 : decode cX8_workOut 169 = .ok (.goto 90, 3) := by decide +kernel
theorem dX8_workOut_172 : decode cX8_workOut 172 = .ok (.lload_n 1, 1) := by decide +kernel
theorem dX8_workOut_173 : decode cX8_workOut 173 = .ok (.lload_n 3, 1) := by decide +kernel
theorem dX8_workOut_174 : decode cX8_workOut 174 = .ok (.lcmp, 1) := by decide +kernel
theorem dX8_workOut_175 : decode cX8_workOut 175 = .ok (.ifCond .ge 7, 3) := by decide +kernel
theorem dX8_workOut_178 : decode cX8_workOut 178 = .ok (.lconst 1, 1) := by decide +kernel
theorem dX8_workOut_179 : decode cX8_workOut 179 = .ok (.goto 4, 3) := by decide +kernel
theorem dX8_workOut_182 : decode cX8_workOut 182 = .ok (.lconst 0, 1) := by decide +kernel
theorem dX8_workOut_183 : decode cX8_workOut 183 = .ok (.lstore 5, 2) := by decide +kernel
theorem dX8_workOut_185 : decode cX8_workOut 185 = .ok (.goto 74, 3) := by decide +kernel
theorem dX8_workOut_188 : decode cX8_workOut 188 = .ok (.lload_n 1, 1) := by decide +kernel
theorem dX8_workOut_189 : decode cX8_workOut 189 = .ok (.lload_n 3, 1) := by decide +kernel
theorem dX8_workOut_190 : decode cX8_workOut 190 = .ok (.lcmp, 1) := by decide +kernel
theorem dX8_workOut_191 : decode cX8_workOut 191 = .ok (.ifCond .le 7, 3) := by decide +kernel
theorem dX8_workOut_194 : decode cX8_workOut 194 = .ok (.lconst 1, 1) := by decide +kernel
theorem dX8_workOut_195 : decode cX8_workOut 195 = .ok (.goto 4, 3) := by decide +kernel
theorem dX8_workOut_198 : decode cX8_workOut 198 = .ok (.lconst 0, 1) := by decide +kernel
theorem dX8_workOut_199 : decode cX8_workOut 199 = .ok (.lstore 5, 2) := by decide +kernel
theorem dX8_workOut_201 : decode cX8_workOut 201 = .ok (.goto 58, 3) := by decide +kernel
theorem dX8_workOut_204 : decode cX8_workOut 204 = .ok (.lload_n 1, 1) := by decide +kernel
theorem dX8_workOut_205 : decode cX8_workOut 205 = .ok (.lload_n 3, 1) := by decide +kernel
theorem dX8_workOut_206 : decode cX8_workOut 206 = .ok (.lcmp, 1) := by decide +kernel
theorem dX8_workOut_207 : decode cX8_workOut 207 = .ok (.ifCond .ne 7, 3) := by decide +kernel
theorem dX8_workOut_210 : decode cX8_workOut 210 = .ok (.lconst 1, 1) := by decide +kernel
theorem dX8_workOut_211 : decode cX8_workOut 211 = .ok (.goto 4, 3) := by decide +kernel
theorem dX8_workOut_214 : decode cX8_workOut 214 = .ok (.lconst 0, 1) := by decide +kernel
theorem dX8_workOut_215 : decode cX8_workOut 215 = .ok (.lstore 5, 2) := by decide +kernel
theorem dX8_workOut_217 : decode cX8_workOut 217 = .ok (.goto 42, 3) := by decide +kernel
theorem dX8_workOut_220 : decode cX8_workOut 220 = .ok (.lload_n 1, 1) := by decide +kernel
theorem dX8_workOut_221 : decode cX8_workOut 221 = .ok (.lload_n 3, 1) := by decide +kernel
theorem dX8_workOut_222 : decode cX8_workOut 222 = .ok (.ladd, 1) := by decide +kernel
theorem dX8_workOut_223 : decode cX8_workOut 223 = .ok (.lstore 5, 2) := by decide +kernel
theorem dX8_workOut_225 : decode cX8_workOut 225 = .ok (.goto 34, 3) := by decide +kernel
theorem dX8_workOut_228 : decode cX8_workOut 228 = .ok (.lload_n 1, 1) := by decide +kernel
theorem dX8_workOut_229 : decode cX8_workOut 229 = .ok (.lload_n 3, 1) := by decide +kernel
theorem dX8_workOut_230 : decode cX8_workOut 230 = .ok (.lsub, 1) := by decide +kernel
theorem dX8_workOut_231 : decode cX8_workOut 231 = .ok (.lstore 5, 2) := by decide +kernel
theorem dX8_workOut_233 : decode cX8_workOut 233 = .ok (.goto 26, 3) := by decide +kernel
theorem dX8_workOut_236 : decode cX8_workOut 236 = .ok (.lload_n 1, 1) := by decide +kernel
theorem dX8_workOut_237 : decode cX8_workOut 237 = .ok (.lload_n 3, 1) := by decide +kernel
theorem dX8_workOut_238 : decode cX8_workOut 238 = .ok (.lmul, 1) := by decide +kernel
theorem dX8_workOut_239 : decode cX8_workOut 239 = .ok (.lstore 5, 2) := by decide +kernel
theorem dX8_workOut_241 : decode cX8_workOut 241 = .ok (.goto 18, 3) := by decide +kernel
theorem dX8_workOut_244 : decode cX8_workOut 244 = .ok (.lload_n 3, 1) := by decide +kernel
theorem dX8_workOut_245 : decode cX8_workOut 245 = .ok (.lconst 0, 1) := by decide +kernel
theorem dX8_workOut_246 : decode cX8_workOut 246 = .ok (.lcmp, 1) := by decide +kernel
theorem dX8_workOut_247 : decode cX8_workOut 247 = .ok (.ifCond .ne 7, 3) := by decide +kernel
theorem dX8_workOut_250 : decode cX8_workOut 250 = .ok (.lconst 0, 1) := by decide +kernel
theorem dX8_workOut_251 : decode cX8_workOut 251 = .ok (.goto 6, 3) := by decide +kernel
theorem dX8_workOut_254 : decode cX8_workOut 254 = .ok (.lload_n 1, 1) := by decide +kernel
theorem dX8_workOut_255 : decode cX8_workOut 255 = .ok (.lload_n 3, 1) := by decide +kernel
theorem dX8_workOut_256 : decode cX8_workOut 256 = .ok (.ldiv, 1) := by decide +kernel
theorem dX8_workOut_257 : decode cX8_workOut 257 = .ok (.lstore 5, 2) := by decide +kernel
theorem dX8_workOut_259 : decode cX8_workOut 259 = .ok (.aload_n 0, 1) := by decide +kernel
theorem dX8_workOut_260 : decode cX8_workOut 260 = .ok (.getfield 27, 3) := by decide +kernel
theorem dX8_workOut_263 : decode cX8_workOut 263 = .ok (.aload_n 0, 1) := by decide +kernel
theorem dX8_workOut_264 : decode cX8_workOut 264 = .ok (.getfield 127, 3) := by decide +kernel
theorem dX8_workOut_267 : decode cX8_workOut 267 = .ok (.iconst 1, 1) := by decide +kernel
theorem dX8_workOut_268 : decode cX8_workOut 268 = .ok (.isub, 1) := by decide +kernel
theorem dX8_workOut_269 : decode cX8_workOut 269 = .ok (.lload 5, 2) := by decide +kernel
theorem dX8_workOut_271 : decode cX8_workOut 271 = .ok (.lastore, 1) := by decide +kernel
theorem dX8_workOut_272 : decode cX8_workOut 272 = .ok (.return_, 1) := by decide +kernel
theorem dX8_workDown_0 : decode cX8_workDown 0 = .ok (.aload_n 0, 1) := by decide +kernel
theorem dX8_workDown_1 : decode cX8_workDown 1 = .ok (.getfield 124, 3) := by decide +kernel
theorem dX8_workDown_4 : decode cX8_workDown 4 = .ok (.ifCond .le 45, 3) := by decide +kernel
theorem dX8_workDown_7 : decode cX8_workDown 7 = .ok (.aload_n 0, 1) := by decide +kernel
theorem dX8_workDown_8 : decode cX8_workDown 8 = .ok (.getfield 31, 3) := by decide +kernel
theorem dX8_workDown_11 : decode cX8_workDown 11 = .ok (.aload_n 0, 1) := by decide +kernel
theorem dX8_workDown_12 : decode cX8_workDown 12 = .ok (.getfield 124, 3) := by decide +kernel
theorem dX8_workDown_15 : decode cX8_workDown 15 = .ok (.iconst 1, 1) := by decide +kernel
theorem dX8_workDown_16 : decode cX8_workDown 16 = .ok (.isub, 1) := by decide +kernel
theorem dX8_workDown_17 : decode cX8_workDown 17 = .ok (.iaload, 1) := by decide +kernel
theorem dX8_workDown_18 : decode cX8_workDown 18 = .ok (.sipush 1000, 3) := by decide +kernel
theorem dX8_workDown_21 : decode cX8_workDown 21 = .ok (.if_icmp .ge 28, 3) := by decide +kernel
theorem dX8_workDown_24 : decode cX8_workDown 24 = .ok (.aload_n 0, 1) := by decide +kernel
theorem dX8_workDown_25 : decode cX8_workDown 25 = .ok (.getfield 31, 3) := by decide +kernel
theorem dX8_workDown_28 : decode cX8_workDown 28 = .ok (.aload_n 0, 1) := by decide +kernel
theorem dX8_workDown_29 : decode cX8_workDown 29 = .ok (.getfield 124, 3) := by decide +kernel
theorem dX8_workDown_32 : decode cX8_workDown 32 = .ok (.iconst 1, 1) := by decide +kernel
theorem dX8_workDown_33 : decode cX8_workDown 33 = .ok (.isub, 1) := by decide +kernel
theorem dX8_workDown_34 : decode cX8_workDown 34 = .ok (.iaload, 1) := by decide +kernel
theorem dX8_workDown_35 : decode cX8_workDown 35 = .ok (.invokestatic 130, 3) := by decide +kernel
theorem dX8_workDown_38 : decode cX8_workDown 38 = .ok (.iload_n 1, 1) := by decide +kernel
theorem dX8_workDown_39 : decode cX8_workDown 39 = .ok (.if_icmp .lt 10, 3) := by decide +kernel
theorem dX8_workDown_42 : decode cX8_workDown 42 = .ok (.aload_n 0, 1) := by decide +kernel
theorem dX8_workDown_43 : decode cX8_workDown 43 = .ok (.invokevirtual 133, 3) := by decide +kernel
theorem dX8_workDown_46 : decode cX8_workDown 46 = .ok (.goto (-46), 3) := by decide +kernel
theorem dX8_workDown_49 : decode cX8_workDown 49 = .ok (.return_, 1) := by decide +kernel
theorem dX8_stands_0 : decode cX8_stands 0 = .ok (.lload_n 1, 1) := by decide +kernel
theorem dX8_stands_1 : decode cX8_stands 1 = .ok (.lstore_n 3, 1) := by decide +kernel
theorem dX8_stands_2 : decode cX8_stands 2 = .ok (.aload_n 0, 1) := by decide +kernel
theorem dX8_stands_3 : decode cX8_stands 3 = .ok (.getfield 124, 3) := by decide +kernel
theorem dX8_stands_6 : decode cX8_stands 6 = .ok (.ifCond .le 67, 3) := by decide +kernel
theorem dX8_stands_9 : decode cX8_stands 9 = .ok (.aload_n 0, 1) := by decide +kernel
theorem dX8_stands_10 : decode cX8_stands 10 = .ok (.getfield 31, 3) := by decide +kernel
theorem dX8_stands_13 : decode cX8_stands 13 = .ok (.aload_n 0, 1) := by decide +kernel
theorem dX8_stands_14 : decode cX8_stands 14 = .ok (.getfield 124, 3) := by decide +kernel
theorem dX8_stands_17 : decode cX8_stands 17 = .ok (.iconst 1, 1) := by decide +kernel
theorem dX8_stands_18 : decode cX8_stands 18 = .ok (.isub, 1) := by decide +kernel
theorem dX8_stands_19 : decode cX8_stands 19 = .ok (.iaload, 1) := by decide +kernel
theorem dX8_stands_20 : decode cX8_stands 20 = .ok (.sipush 1000, 3) := by decide +kernel
theorem dX8_stands_23 : decode cX8_stands 23 = .ok (.if_icmp .le 50, 3) := by decide +kernel
theorem dX8_stands_26 : decode cX8_stands 26 = .ok (.aload_n 0, 1) := by decide +kernel
theorem dX8_stands_27 : decode cX8_stands 27 = .ok (.getfield 31, 3) := by decide +kernel
theorem dX8_stands_30 : decode cX8_stands 30 = .ok (.aload_n 0, 1) := by decide +kernel
theorem dX8_stands_31 : decode cX8_stands 31 = .ok (.getfield 124, 3) := by decide +kernel
theorem dX8_stands_34 : decode cX8_stands 34 = .ok (.iconst 1, 1) := by decide +kernel
theorem dX8_stands_35 : decode cX8_stands 35 = .ok (.isub, 1) := by decide +kernel
theorem dX8_stands_36 : decode cX8_stands 36 = .ok (.iaload, 1) := by decide +kernel
theorem dX8_stands_37 : decode cX8_stands 37 = .ok (.sipush 1001, 3) := by decide +kernel
theorem dX8_stands_40 : decode cX8_stands 40 = .ok (.if_icmp .ne 17, 3) := by decide +kernel
theorem dX8_stands_43 : decode cX8_stands 43 = .ok (.lload_n 3, 1) := by decide +kernel
theorem dX8_stands_44 : decode cX8_stands 44 = .ok (.lconst 0, 1) := by decide +kernel
theorem dX8_stands_45 : decode cX8_stands 45 = .ok (.lcmp, 1) := by decide +kernel
theorem dX8_stands_46 : decode cX8_stands 46 = .ok (.ifCond .ne 7, 3) := by decide +kernel
theorem dX8_stands_49 : decode cX8_stands 49 = .ok (.lconst 1, 1) := by decide +kernel
theorem dX8_stands_50 : decode cX8_stands 50 = .ok (.goto 9, 3) := by decide +kernel
theorem dX8_stands_53 : decode cX8_stands 53 = .ok (.lconst 0, 1) := by decide +kernel
theorem dX8_stands_54 : decode cX8_stands 54 = .ok (.goto 5, 3) := by decide +kernel
theorem dX8_stands_57 : decode cX8_stands 57 = .ok (.lload_n 3, 1) := by decide +kernel
theorem dX8_stands_58 : decode cX8_stands 58 = .ok (.lneg, 1) := by decide +kernel
theorem dX8_stands_59 : decode cX8_stands 59 = .ok (.lstore_n 3, 1) := by decide +kernel
theorem dX8_stands_60 : decode cX8_stands 60 = .ok (.aload_n 0, 1) := by decide +kernel
theorem dX8_stands_61 : decode cX8_stands 61 = .ok (.dup, 1) := by decide +kernel
theorem dX8_stands_62 : decode cX8_stands 62 = .ok (.getfield 124, 3) := by decide +kernel
theorem dX8_stands_65 : decode cX8_stands 65 = .ok (.iconst 1, 1) := by decide +kernel
theorem dX8_stands_66 : decode cX8_stands 66 = .ok (.isub, 1) := by decide +kernel
theorem dX8_stands_67 : decode cX8_stands 67 = .ok (.putfield 124, 3) := by decide +kernel
theorem dX8_stands_70 : decode cX8_stands 70 = .ok (.goto (-68), 3) := by decide +kernel
theorem dX8_stands_73 : decode cX8_stands 73 = .ok (.aload_n 0, 1) := by decide +kernel
theorem dX8_stands_74 : decode cX8_stands 74 = .ok (.getfield 27, 3) := by decide +kernel
theorem dX8_stands_77 : decode cX8_stands 77 = .ok (.aload_n 0, 1) := by decide +kernel
theorem dX8_stands_78 : decode cX8_stands 78 = .ok (.getfield 127, 3) := by decide +kernel
theorem dX8_stands_81 : decode cX8_stands 81 = .ok (.lload_n 3, 1) := by decide +kernel
theorem dX8_stands_82 : decode cX8_stands 82 = .ok (.lastore, 1) := by decide +kernel
theorem dX8_stands_83 : decode cX8_stands 83 = .ok (.aload_n 0, 1) := by decide +kernel
theorem dX8_stands_84 : decode cX8_stands 84 = .ok (.dup, 1) := by decide +kernel
theorem dX8_stands_85 : decode cX8_stands 85 = .ok (.getfield 127, 3) := by decide +kernel
theorem dX8_stands_88 : decode cX8_stands 88 = .ok (.iconst 1, 1) := by decide +kernel
theorem dX8_stands_89 : decode cX8_stands 89 = .ok (.iadd, 1) := by decide +kernel
theorem dX8_stands_90 : decode cX8_stands 90 = .ok (.putfield 127, 3) := by decide +kernel
theorem dX8_stands_93 : decode cX8_stands 93 = .ok (.return_, 1) := by decide +kernel
theorem dX8_letterOf_0 : decode cX8_letterOf 0 = .ok (.iload_n 0, 1) := by decide +kernel
theorem dX8_letterOf_1 : decode cX8_letterOf 1 = .ok (.bipush 112, 2) := by decide +kernel
theorem dX8_letterOf_3 : decode cX8_letterOf 3 = .ok (.if_icmp .ne 7, 3) := by decide +kernel
theorem dX8_letterOf_6 : decode cX8_letterOf 6 = .ok (.iconst 0, 1) := by decide +kernel
theorem dX8_letterOf_7 : decode cX8_letterOf 7 = .ok (.goto 54, 3) := by decide +kernel
theorem dX8_letterOf_10 : decode cX8_letterOf 10 = .ok (.iload_n 0, 1) := by decide +kernel
theorem dX8_letterOf_11 : decode cX8_letterOf 11 = .ok (.bipush 98, 2) := by decide +kernel
theorem dX8_letterOf_13 : decode cX8_letterOf 13 = .ok (.if_icmp .ne 7, 3) := by decide +kernel
theorem dX8_letterOf_16 : decode cX8_letterOf 16 = .ok (.iconst 1, 1) := by decide +kernel
theorem dX8_letterOf_17 : decode cX8_letterOf 17 = .ok (.goto 44, 3) := by decide +kernel
theorem dX8_letterOf_20 : decode cX8_letterOf 20 = .ok (.iload_n 0, 1) := by decide +kernel
theorem dX8_letterOf_21 : decode cX8_letterOf 21 = .ok (.bipush 117, 2) := by decide +kernel
theorem dX8_letterOf_23 : decode cX8_letterOf 23 = .ok (.if_icmp .ne 7, 3) := by decide +kernel
theorem dX8_letterOf_26 : decode cX8_letterOf 26 = .ok (.iconst 2, 1) := by decide +kernel
theorem dX8_letterOf_27 : decode cX8_letterOf 27 = .ok (.goto 34, 3) := by decide +kernel
theorem dX8_letterOf_30 : decode cX8_letterOf 30 = .ok (.iload_n 0, 1) := by decide +kernel
theorem dX8_letterOf_31 : decode cX8_letterOf 31 = .ok (.bipush 100, 2) := by decide +kernel
theorem dX8_letterOf_33 : decode cX8_letterOf 33 = .ok (.if_icmp .ne 7, 3) := by decide +kernel
theorem dX8_letterOf_36 : decode cX8_letterOf 36 = .ok (.iconst 3, 1) := by decide +kernel
theorem dX8_letterOf_37 : decode cX8_letterOf 37 = .ok (.goto 24, 3) := by decide +kernel
theorem dX8_letterOf_40 : decode cX8_letterOf 40 = .ok (.iload_n 0, 1) := by decide +kernel
theorem dX8_letterOf_41 : decode cX8_letterOf 41 = .ok (.bipush 108, 2) := by decide +kernel
theorem dX8_letterOf_43 : decode cX8_letterOf 43 = .ok (.if_icmp .ne 7, 3) := by decide +kernel
theorem dX8_letterOf_46 : decode cX8_letterOf 46 = .ok (.iconst 4, 1) := by decide +kernel
theorem dX8_letterOf_47 : decode cX8_letterOf 47 = .ok (.goto 14, 3) := by decide +kernel
theorem dX8_letterOf_50 : decode cX8_letterOf 50 = .ok (.iload_n 0, 1) := by decide +kernel
theorem dX8_letterOf_51 : decode cX8_letterOf 51 = .ok (.bipush 109, 2) := by decide +kernel
theorem dX8_letterOf_53 : decode cX8_letterOf 53 = .ok (.if_icmp .ne 7, 3) := by decide +kernel
theorem dX8_letterOf_56 : decode cX8_letterOf 56 = .ok (.iconst 5, 1) := by decide +kernel
theorem dX8_letterOf_57 : decode cX8_letterOf 57 = .ok (.goto 4, 3) := by decide +kernel
theorem dX8_letterOf_60 : decode cX8_letterOf 60 = .ok (.iconst (-1), 1) := by decide +kernel
theorem dX8_letterOf_61 : decode cX8_letterOf 61 = .ok (.ireturn, 1) := by decide +kernel
theorem dX8_isFigure_0 : decode cX8_isFigure 0 = .ok (.iload_n 0, 1) := by decide +kernel
theorem dX8_isFigure_1 : decode cX8_isFigure 1 = .ok (.i2l, 1) := by decide +kernel
theorem dX8_isFigure_2 : decode cX8_isFigure 2 = .ok (.ldc2_w 136, 3) := by decide +kernel
theorem dX8_isFigure_5 : decode cX8_isFigure 5 = .ok (.ldc2_w 138, 3) := by decide +kernel
theorem dX8_isFigure_8 : decode cX8_isFigure 8 = .ok (.invokestatic 74, 3) := by decide +kernel
theorem dX8_isFigure_11 : decode cX8_isFigure 11 = .ok (.ireturn, 1) := by decide +kernel
theorem dX8_digits_0 : decode cX8_digits 0 = .ok (.aload_n 0, 1) := by decide +kernel
theorem dX8_digits_1 : decode cX8_digits 1 = .ok (.getfield 114, 3) := by decide +kernel
theorem dX8_digits_4 : decode cX8_digits 4 = .ok (.istore_n 1, 1) := by decide +kernel
theorem dX8_digits_5 : decode cX8_digits 5 = .ok (.lconst 0, 1) := by decide +kernel
theorem dX8_digits_6 : decode cX8_digits 6 = .ok (.lstore_n 2, 1) := by decide +kernel
theorem dX8_digits_7 : decode cX8_digits 7 = .ok (.aload_n 0, 1) := by decide +kernel
theorem dX8_digits_8 : decode cX8_digits 8 = .ok (.getfield 114, 3) := by decide +kernel
theorem dX8_digits_11 : decode cX8_digits 11 = .ok (.aload_n 0, 1) := by decide +kernel
theorem dX8_digits_12 : decode cX8_digits 12 = .ok (.invokevirtual 118, 3) := by decide +kernel
theorem dX8_digits_15 : decode cX8_digits 15 = .ok (.if_icmp .ge 73, 3) := by decide +kernel
theorem dX8_digits_18 : decode cX8_digits 18 = .ok (.aload_n 0, 1) := by decide +kernel
theorem dX8_digits_19 : decode cX8_digits 19 = .ok (.aload_n 0, 1) := by decide +kernel
theorem dX8_digits_20 : decode cX8_digits 20 = .ok (.getfield 114, 3) := by decide +kernel
theorem dX8_digits_23 : decode cX8_digits 23 = .ok (.invokevirtual 121, 3) := by decide +kernel
theorem dX8_digits_26 : decode cX8_digits 26 = .ok (.invokestatic 140, 3) := by decide +kernel
theorem dX8_digits_29 : decode cX8_digits 29 = .ok (.ifCond .eq 59, 3) := by decide +kernel
theorem dX8_digits_32 : decode cX8_digits 32 = .ok (.aload_n 0, 1) := by decide +kernel
theorem dX8_digits_33 : decode cX8_digits 33 = .ok (.getfield 114, 3) := by decide +kernel
theorem dX8_digits_36 : decode cX8_digits 36 = .ok (.iload_n 1, 1) := by decide +kernel
theorem dX8_digits_37 : decode cX8_digits 37 = .ok (.isub, 1) := by decide +kernel
theorem dX8_digits_38 : decode cX8_digits 38 = .ok (.bipush 6, 2) := by decide +kernel
theorem dX8_digits_40 : decode cX8_digits 40 = .ok (.if_icmp .ne 15, 3) := by decide +kernel
theorem dX8_digits_43 : decode cX8_digits 43 = .ok (.aload_n 0, 1) := by decide +kernel
theorem dX8_digits_44 : decode cX8_digits 44 = .ok (.bipush 10, 2) := by decide +kernel
theorem dX8_digits_46 : decode cX8_digits 46 = .ok (.iload_n 1, 1) := by decide +kernel
theorem dX8_digits_47 : decode cX8_digits 47 = .ok (.imul, 1) := by decide +kernel
theorem dX8_digits_48 : decode cX8_digits 48 = .ok (.iconst 2, 1) := by decide +kernel
theorem dX8_digits_49 : decode cX8_digits 49 = .ok (.iadd, 1) := by decide +kernel
theorem dX8_digits_50 : decode cX8_digits 50 = .ok (.putfield 143, 3) := by decide +kernel
theorem dX8_digits_53 : decode cX8_digits 53 = .ok (.lconst 0, 1) := by decide +kernel
theorem dX8_digits_54 : decode cX8_digits 54 = .ok (.lreturn, 1) := by decide +kernel
theorem dX8_digits_55 : decode cX8_digits 55 = .ok (.ldc2_w 146, 3) := by decide +kernel
theorem dX8_digits_58 : decode cX8_digits 58 = .ok (.lload_n 2, 1) := by decide +kernel
theorem dX8_digits_59 : decode cX8_digits 59 = .ok (.lmul, 1) := by decide +kernel
theorem dX8_digits_60 : decode cX8_digits 60 = .ok (.aload_n 0, 1) := by decide +kernel
theorem dX8_digits_61 : decode cX8_digits 61 = .ok (.aload_n 0, 1) := by decide +kernel
theorem dX8_digits_62 : decode cX8_digits 62 = .ok (.getfield 114, 3) := by decide +kernel
theorem dX8_digits_65 : decode cX8_digits 65 = .ok (.invokevirtual 121, 3) := by decide +kernel
theorem dX8_digits_68 : decode cX8_digits 68 = .ok (.i2l, 1) := by decide +kernel
theorem dX8_digits_69 : decode cX8_digits 69 = .ok (.ladd, 1) := by decide +kernel
theorem dX8_digits_70 : decode cX8_digits 70 = .ok (.ldc2_w 136, 3) := by decide +kernel
theorem dX8_digits_73 : decode cX8_digits 73 = .ok (.lsub, 1) := by decide +kernel
theorem dX8_digits_74 : decode cX8_digits 74 = .ok (.lstore_n 2, 1) := by decide +kernel
theorem dX8_digits_75 : decode cX8_digits 75 = .ok (.aload_n 0, 1) := by decide +kernel
theorem dX8_digits_76 : decode cX8_digits 76 = .ok (.dup, 1) := by decide +kernel
theorem dX8_digits_77 : decode cX8_digits 77 = .ok (.getfield 114, 3) := by decide +kernel
theorem dX8_digits_80 : decode cX8_digits 80 = .ok (.iconst 1, 1) := by decide +kernel
theorem dX8_digits_81 : decode cX8_digits 81 = .ok (.iadd, 1) := by decide +kernel
theorem dX8_digits_82 : decode cX8_digits 82 = .ok (.putfield 114, 3) := by decide +kernel
theorem dX8_digits_85 : decode cX8_digits 85 = .ok (.goto (-78), 3) := by decide +kernel
theorem dX8_digits_88 : decode cX8_digits 88 = .ok (.lload_n 2, 1) := by decide +kernel
theorem dX8_digits_89 : decode cX8_digits 89 = .ok (.lreturn, 1) := by decide +kernel
theorem dX8_reads_0 : decode cX8_reads 0 = .ok (.aload_n 0, 1) := by decide +kernel
theorem dX8_reads_1 : decode cX8_reads 1 = .ok (.iconst 0, 1) := by decide +kernel
theorem dX8_reads_2 : decode cX8_reads 2 = .ok (.putfield 114, 3) := by decide +kernel
theorem dX8_reads_5 : decode cX8_reads 5 = .ok (.aload_n 0, 1) := by decide +kernel
theorem dX8_reads_6 : decode cX8_reads 6 = .ok (.iconst (-1), 1) := by decide +kernel
theorem dX8_reads_7 : decode cX8_reads 7 = .ok (.putfield 143, 3) := by decide +kernel
theorem dX8_reads_10 : decode cX8_reads 10 = .ok (.aload_n 0, 1) := by decide +kernel
theorem dX8_reads_11 : decode cX8_reads 11 = .ok (.iconst 0, 1) := by decide +kernel
theorem dX8_reads_12 : decode cX8_reads 12 = .ok (.putfield 127, 3) := by decide +kernel
theorem dX8_reads_15 : decode cX8_reads 15 = .ok (.aload_n 0, 1) := by decide +kernel
theorem dX8_reads_16 : decode cX8_reads 16 = .ok (.iconst 0, 1) := by decide +kernel
theorem dX8_reads_17 : decode cX8_reads 17 = .ok (.putfield 124, 3) := by decide +kernel
theorem dX8_reads_20 : decode cX8_reads 20 = .ok (.iconst 0, 1) := by decide +kernel
theorem dX8_reads_21 : decode cX8_reads 21 = .ok (.istore_n 1, 1) := by decide +kernel
theorem dX8_reads_22 : decode cX8_reads 22 = .ok (.iconst 1, 1) := by decide +kernel
theorem dX8_reads_23 : decode cX8_reads 23 = .ok (.istore_n 2, 1) := by decide +kernel
theorem dX8_reads_24 : decode cX8_reads 24 = .ok (.iconst 1, 1) := by decide +kernel
theorem dX8_reads_25 : decode cX8_reads 25 = .ok (.istore_n 3, 1) := by decide +kernel
theorem dX8_reads_26 : decode cX8_reads 26 = .ok (.iload_n 3, 1) := by decide +kernel
theorem dX8_reads_27 : decode cX8_reads 27 = .ok (.ifCond .eq 454, 3) := by decide +kernel
end
section
theorem dX8_reads_30 : decode cX8_reads 30 = .ok (.aload_n 0, 1) := by decide +kernel
theorem dX8_reads_31 : decode cX8_reads 31 = .ok (.getfield 143, 3) := by decide +kernel
theorem dX8_reads_34 : decode cX8_reads 34 = .ok (.iconst (-1), 1) := by decide +kernel
theorem dX8_reads_35 : decode cX8_reads 35 = .ok (.if_icmp .ne 446, 3) := by decide +kernel
theorem dX8_reads_38 : decode cX8_reads 38 = .ok (.aload_n 0, 1) := by decide +kernel
theorem dX8_reads_39 : decode cX8_reads 39 = .ok (.invokevirtual 148, 3) := by decide +kernel
theorem dX8_reads_42 : decode cX8_reads 42 = .ok (.istore 4, 2) := by decide +kernel
theorem dX8_reads_44 : decode cX8_reads 44 = .ok (.iload_n 2, 1) := by decide +kernel
theorem dX8_reads_45 : decode cX8_reads 45 = .ok (.ifCond .eq 202, 3) := by decide +kernel
theorem dX8_reads_48 : decode cX8_reads 48 = .ok (.iload 4, 2) := by decide +kernel
theorem dX8_reads_50 : decode cX8_reads 50 = .ok (.invokestatic 140, 3) := by decide +kernel
theorem dX8_reads_53 : decode cX8_reads 53 = .ok (.ifCond .eq 16, 3) := by decide +kernel
theorem dX8_reads_56 : decode cX8_reads 56 = .ok (.aload_n 0, 1) := by decide +kernel
theorem dX8_reads_57 : decode cX8_reads 57 = .ok (.aload_n 0, 1) := by decide +kernel
theorem dX8_reads_58 : decode cX8_reads 58 = .ok (.invokevirtual 151, 3) := by decide +kernel
theorem dX8_reads_61 : decode cX8_reads 61 = .ok (.invokevirtual 155, 3) := by decide +kernel
theorem dX8_reads_64 : decode cX8_reads 64 = .ok (.iconst 0, 1) := by decide +kernel
theorem dX8_reads_65 : decode cX8_reads 65 = .ok (.istore_n 2, 1) := by decide +kernel
theorem dX8_reads_66 : decode cX8_reads 66 = .ok (.goto 412, 3) := by decide +kernel
theorem dX8_reads_69 : decode cX8_reads 69 = .ok (.iload 4, 2) := by decide +kernel
theorem dX8_reads_71 : decode cX8_reads 71 = .ok (.invokestatic 159, 3) := by decide +kernel
theorem dX8_reads_74 : decode cX8_reads 74 = .ok (.iconst (-1), 1) := by decide +kernel
theorem dX8_reads_75 : decode cX8_reads 75 = .ok (.if_icmp .eq 32, 3) := by decide +kernel
theorem dX8_reads_78 : decode cX8_reads 78 = .ok (.aload_n 0, 1) := by decide +kernel
theorem dX8_reads_79 : decode cX8_reads 79 = .ok (.dup, 1) := by decide +kernel
theorem dX8_reads_80 : decode cX8_reads 80 = .ok (.getfield 114, 3) := by decide +kernel
theorem dX8_reads_83 : decode cX8_reads 83 = .ok (.iconst 1, 1) := by decide +kernel
theorem dX8_reads_84 : decode cX8_reads 84 = .ok (.iadd, 1) := by decide +kernel
theorem dX8_reads_85 : decode cX8_reads 85 = .ok (.putfield 114, 3) := by decide +kernel
theorem dX8_reads_88 : decode cX8_reads 88 = .ok (.aload_n 0, 1) := by decide +kernel
theorem dX8_reads_89 : decode cX8_reads 89 = .ok (.aload_n 0, 1) := by decide +kernel
theorem dX8_reads_90 : decode cX8_reads 90 = .ok (.getfield 34, 3) := by decide +kernel
theorem dX8_reads_93 : decode cX8_reads 93 = .ok (.iload 4, 2) := by decide +kernel
theorem dX8_reads_95 : decode cX8_reads 95 = .ok (.invokestatic 159, 3) := by decide +kernel
theorem dX8_reads_98 : decode cX8_reads 98 = .ok (.laload, 1) := by decide +kernel
theorem dX8_reads_99 : decode cX8_reads 99 = .ok (.invokevirtual 155, 3) := by decide +kernel
theorem dX8_reads_102 : decode cX8_reads 102 = .ok (.iconst 0, 1) := by decide +kernel
theorem dX8_reads_103 : decode cX8_reads 103 = .ok (.istore_n 2, 1) := by decide +kernel
theorem dX8_reads_104 : decode cX8_reads 104 = .ok (.goto 374, 3) := by decide +kernel
theorem dX8_reads_107 : decode cX8_reads 107 = .ok (.iload 4, 2) := by decide +kernel
theorem dX8_reads_109 : decode cX8_reads 109 = .ok (.bipush 33, 2) := by decide +kernel
theorem dX8_reads_111 : decode cX8_reads 111 = .ok (.if_icmp .eq 10, 3) := by decide +kernel
theorem dX8_reads_114 : decode cX8_reads 114 = .ok (.iload 4, 2) := by decide +kernel
theorem dX8_reads_116 : decode cX8_reads 116 = .ok (.bipush 45, 2) := by decide +kernel
theorem dX8_reads_118 : decode cX8_reads 118 = .ok (.if_icmp .ne 51, 3) := by decide +kernel
theorem dX8_reads_121 : decode cX8_reads 121 = .ok (.aload_n 0, 1) := by decide +kernel
theorem dX8_reads_122 : decode cX8_reads 122 = .ok (.dup, 1) := by decide +kernel
theorem dX8_reads_123 : decode cX8_reads 123 = .ok (.getfield 114, 3) := by decide +kernel
theorem dX8_reads_126 : decode cX8_reads 126 = .ok (.iconst 1, 1) := by decide +kernel
theorem dX8_reads_127 : decode cX8_reads 127 = .ok (.iadd, 1) := by decide +kernel
theorem dX8_reads_128 : decode cX8_reads 128 = .ok (.putfield 114, 3) := by decide +kernel
theorem dX8_reads_131 : decode cX8_reads 131 = .ok (.aload_n 0, 1) := by decide +kernel
theorem dX8_reads_132 : decode cX8_reads 132 = .ok (.getfield 31, 3) := by decide +kernel
theorem dX8_reads_135 : decode cX8_reads 135 = .ok (.aload_n 0, 1) := by decide +kernel
theorem dX8_reads_136 : decode cX8_reads 136 = .ok (.getfield 124, 3) := by decide +kernel
theorem dX8_reads_139 : decode cX8_reads 139 = .ok (.iload 4, 2) := by decide +kernel
theorem dX8_reads_141 : decode cX8_reads 141 = .ok (.bipush 33, 2) := by decide +kernel
theorem dX8_reads_143 : decode cX8_reads 143 = .ok (.if_icmp .ne 9, 3) := by decide +kernel
theorem dX8_reads_146 : decode cX8_reads 146 = .ok (.sipush 1001, 3) := by decide +kernel
theorem dX8_reads_149 : decode cX8_reads 149 = .ok (.goto 6, 3) := by decide +kernel
theorem dX8_reads_152 : decode cX8_reads 152 = .ok (.sipush 1002, 3) := by decide +kernel
theorem dX8_reads_155 : decode cX8_reads 155 = .ok (.iastore, 1) := by decide +kernel
theorem dX8_reads_156 : decode cX8_reads 156 = .ok (.aload_n 0, 1) := by decide +kernel
theorem dX8_reads_157 : decode cX8_reads 157 = .ok (.dup, 1) := by decide +kernel
theorem dX8_reads_158 : decode cX8_reads 158 = .ok (.getfield 124, 3) := by decide +kernel
theorem dX8_reads_161 : decode cX8_reads 161 = .ok (.iconst 1, 1) := by decide +kernel
theorem dX8_reads_162 : decode cX8_reads 162 = .ok (.iadd, 1) := by decide +kernel
theorem dX8_reads_163 : decode cX8_reads 163 = .ok (.putfield 124, 3) := by decide +kernel
theorem dX8_reads_166 : decode cX8_reads 166 = .ok (.goto 312, 3) := by decide +kernel
theorem dX8_reads_169 : decode cX8_reads 169 = .ok (.iload 4, 2) := by decide +kernel
theorem dX8_reads_171 : decode cX8_reads 171 = .ok (.bipush 40, 2) := by decide +kernel
theorem dX8_reads_173 : decode cX8_reads 173 = .ok (.if_icmp .ne 47, 3) := by decide +kernel
theorem dX8_reads_176 : decode cX8_reads 176 = .ok (.iload_n 1, 1) := by decide +kernel
theorem dX8_reads_177 : decode cX8_reads 177 = .ok (.bipush 8, 2) := by decide +kernel
theorem dX8_reads_179 : decode cX8_reads 179 = .ok (.if_icmp .ge 41, 3) := by decide +kernel
theorem dX8_reads_182 : decode cX8_reads 182 = .ok (.aload_n 0, 1) := by decide +kernel
theorem dX8_reads_183 : decode cX8_reads 183 = .ok (.dup, 1) := by decide +kernel
theorem dX8_reads_184 : decode cX8_reads 184 = .ok (.getfield 114, 3) := by decide +kernel
theorem dX8_reads_187 : decode cX8_reads 187 = .ok (.iconst 1, 1) := by decide +kernel
theorem dX8_reads_188 : decode cX8_reads 188 = .ok (.iadd, 1) := by decide +kernel
theorem dX8_reads_189 : decode cX8_reads 189 = .ok (.putfield 114, 3) := by decide +kernel
theorem dX8_reads_192 : decode cX8_reads 192 = .ok (.iinc 1 1, 3) := by decide +kernel
theorem dX8_reads_195 : decode cX8_reads 195 = .ok (.aload_n 0, 1) := by decide +kernel
theorem dX8_reads_196 : decode cX8_reads 196 = .ok (.getfield 31, 3) := by decide +kernel
theorem dX8_reads_199 : decode cX8_reads 199 = .ok (.aload_n 0, 1) := by decide +kernel
theorem dX8_reads_200 : decode cX8_reads 200 = .ok (.getfield 124, 3) := by decide +kernel
theorem dX8_reads_203 : decode cX8_reads 203 = .ok (.sipush 1000, 3) := by decide +kernel
theorem dX8_reads_206 : decode cX8_reads 206 = .ok (.iastore, 1) := by decide +kernel
theorem dX8_reads_207 : decode cX8_reads 207 = .ok (.aload_n 0, 1) := by decide +kernel
theorem dX8_reads_208 : decode cX8_reads 208 = .ok (.dup, 1) := by decide +kernel
theorem dX8_reads_209 : decode cX8_reads 209 = .ok (.getfield 124, 3) := by decide +kernel
theorem dX8_reads_212 : decode cX8_reads 212 = .ok (.iconst 1, 1) := by decide +kernel
theorem dX8_reads_213 : decode cX8_reads 213 = .ok (.iadd, 1) := by decide +kernel
theorem dX8_reads_214 : decode cX8_reads 214 = .ok (.putfield 124, 3) := by decide +kernel
theorem dX8_reads_217 : decode cX8_reads 217 = .ok (.goto 261, 3) := by decide +kernel
theorem dX8_reads_220 : decode cX8_reads 220 = .ok (.aload_n 0, 1) := by decide +kernel
theorem dX8_reads_221 : decode cX8_reads 221 = .ok (.bipush 10, 2) := by decide +kernel
theorem dX8_reads_223 : decode cX8_reads 223 = .ok (.aload_n 0, 1) := by decide +kernel
theorem dX8_reads_224 : decode cX8_reads 224 = .ok (.getfield 114, 3) := by decide +kernel
theorem dX8_reads_227 : decode cX8_reads 227 = .ok (.imul, 1) := by decide +kernel
theorem dX8_reads_228 : decode cX8_reads 228 = .ok (.iload 4, 2) := by decide +kernel
theorem dX8_reads_230 : decode cX8_reads 230 = .ok (.bipush 40, 2) := by decide +kernel
theorem dX8_reads_232 : decode cX8_reads 232 = .ok (.if_icmp .ne 7, 3) := by decide +kernel
theorem dX8_reads_235 : decode cX8_reads 235 = .ok (.iconst 3, 1) := by decide +kernel
theorem dX8_reads_236 : decode cX8_reads 236 = .ok (.goto 4, 3) := by decide +kernel
theorem dX8_reads_239 : decode cX8_reads 239 = .ok (.iconst 1, 1) := by decide +kernel
theorem dX8_reads_240 : decode cX8_reads 240 = .ok (.iadd, 1) := by decide +kernel
theorem dX8_reads_241 : decode cX8_reads 241 = .ok (.putfield 143, 3) := by decide +kernel
theorem dX8_reads_244 : decode cX8_reads 244 = .ok (.goto 234, 3) := by decide +kernel
theorem dX8_reads_247 : decode cX8_reads 247 = .ok (.iload 4, 2) := by decide +kernel
theorem dX8_reads_249 : decode cX8_reads 249 = .ok (.bipush 41, 2) := by decide +kernel
theorem dX8_reads_251 : decode cX8_reads 251 = .ok (.if_icmp .ne 61, 3) := by decide +kernel
theorem dX8_reads_254 : decode cX8_reads 254 = .ok (.iload_n 1, 1) := by decide +kernel
theorem dX8_reads_255 : decode cX8_reads 255 = .ok (.ifCond .le 57, 3) := by decide +kernel
theorem dX8_reads_258 : decode cX8_reads 258 = .ok (.aload_n 0, 1) := by decide +kernel
theorem dX8_reads_259 : decode cX8_reads 259 = .ok (.dup, 1) := by decide +kernel
theorem dX8_reads_260 : decode cX8_reads 260 = .ok (.getfield 114, 3) := by decide +kernel
theorem dX8_reads_263 : decode cX8_reads 263 = .ok (.iconst 1, 1) := by decide +kernel
theorem dX8_reads_264 : decode cX8_reads 264 = .ok (.iadd, 1) := by decide +kernel
theorem dX8_reads_265 : decode cX8_reads 265 = .ok (.putfield 114, 3) := by decide +kernel
theorem dX8_reads_268 : decode cX8_reads 268 = .ok (.iinc 1 (-1), 3) := by decide +kernel
theorem dX8_reads_271 : decode cX8_reads 271 = .ok (.aload_n 0, 1) := by decide +kernel
theorem dX8_reads_272 : decode cX8_reads 272 = .ok (.iconst 1, 1) := by decide +kernel
theorem dX8_reads_273 : decode cX8_reads 273 = .ok (.invokevirtual 162, 3) := by decide +kernel
theorem dX8_reads_276 : decode cX8_reads 276 = .ok (.aload_n 0, 1) := by decide +kernel
theorem dX8_reads_277 : decode cX8_reads 277 = .ok (.dup, 1) := by decide +kernel
theorem dX8_reads_278 : decode cX8_reads 278 = .ok (.getfield 124, 3) := by decide +kernel
theorem dX8_reads_281 : decode cX8_reads 281 = .ok (.iconst 1, 1) := by decide +kernel
theorem dX8_reads_282 : decode cX8_reads 282 = .ok (.isub, 1) := by decide +kernel
theorem dX8_reads_283 : decode cX8_reads 283 = .ok (.putfield 124, 3) := by decide +kernel
theorem dX8_reads_286 : decode cX8_reads 286 = .ok (.aload_n 0, 1) := by decide +kernel
theorem dX8_reads_287 : decode cX8_reads 287 = .ok (.dup, 1) := by decide +kernel
theorem dX8_reads_288 : decode cX8_reads 288 = .ok (.getfield 127, 3) := by decide +kernel
theorem dX8_reads_291 : decode cX8_reads 291 = .ok (.iconst 1, 1) := by decide +kernel
theorem dX8_reads_292 : decode cX8_reads 292 = .ok (.isub, 1) := by decide +kernel
theorem dX8_reads_293 : decode cX8_reads 293 = .ok (.putfield 127, 3) := by decide +kernel
theorem dX8_reads_296 : decode cX8_reads 296 = .ok (.aload_n 0, 1) := by decide +kernel
theorem dX8_reads_297 : decode cX8_reads 297 = .ok (.aload_n 0, 1) := by decide +kernel
theorem dX8_reads_298 : decode cX8_reads 298 = .ok (.getfield 27, 3) := by decide +kernel
theorem dX8_reads_301 : decode cX8_reads 301 = .ok (.aload_n 0, 1) := by decide +kernel
theorem dX8_reads_302 : decode cX8_reads 302 = .ok (.getfield 127, 3) := by decide +kernel
theorem dX8_reads_305 : decode cX8_reads 305 = .ok (.laload, 1) := by decide +kernel
theorem dX8_reads_306 : decode cX8_reads 306 = .ok (.invokevirtual 155, 3) := by decide +kernel
theorem dX8_reads_309 : decode cX8_reads 309 = .ok (.goto 169, 3) := by decide +kernel
theorem dX8_reads_312 : decode cX8_reads 312 = .ok (.iload 4, 2) := by decide +kernel
theorem dX8_reads_314 : decode cX8_reads 314 = .ok (.invokestatic 130, 3) := by decide +kernel
theorem dX8_reads_317 : decode cX8_reads 317 = .ok (.ifCond .le 128, 3) := by decide +kernel
theorem dX8_reads_320 : decode cX8_reads 320 = .ok (.aload_n 0, 1) := by decide +kernel
theorem dX8_reads_321 : decode cX8_reads 321 = .ok (.iload 4, 2) := by decide +kernel
theorem dX8_reads_323 : decode cX8_reads 323 = .ok (.invokestatic 130, 3) := by decide +kernel
theorem dX8_reads_326 : decode cX8_reads 326 = .ok (.iconst 3, 1) := by decide +kernel
theorem dX8_reads_327 : decode cX8_reads 327 = .ok (.if_icmp .ne 7, 3) := by decide +kernel
theorem dX8_reads_330 : decode cX8_reads 330 = .ok (.iconst 4, 1) := by decide +kernel
theorem dX8_reads_331 : decode cX8_reads 331 = .ok (.goto 8, 3) := by decide +kernel
theorem dX8_reads_334 : decode cX8_reads 334 = .ok (.iload 4, 2) := by decide +kernel
theorem dX8_reads_336 : decode cX8_reads 336 = .ok (.invokestatic 130, 3) := by decide +kernel
theorem dX8_reads_339 : decode cX8_reads 339 = .ok (.invokevirtual 162, 3) := by decide +kernel
theorem dX8_reads_342 : decode cX8_reads 342 = .ok (.iload 4, 2) := by decide +kernel
theorem dX8_reads_344 : decode cX8_reads 344 = .ok (.invokestatic 130, 3) := by decide +kernel
theorem dX8_reads_347 : decode cX8_reads 347 = .ok (.iconst 3, 1) := by decide +kernel
theorem dX8_reads_348 : decode cX8_reads 348 = .ok (.if_icmp .ne 61, 3) := by decide +kernel
theorem dX8_reads_351 : decode cX8_reads 351 = .ok (.aload_n 0, 1) := by decide +kernel
theorem dX8_reads_352 : decode cX8_reads 352 = .ok (.getfield 124, 3) := by decide +kernel
theorem dX8_reads_355 : decode cX8_reads 355 = .ok (.ifCond .le 54, 3) := by decide +kernel
theorem dX8_reads_358 : decode cX8_reads 358 = .ok (.aload_n 0, 1) := by decide +kernel
theorem dX8_reads_359 : decode cX8_reads 359 = .ok (.getfield 31, 3) := by decide +kernel
theorem dX8_reads_362 : decode cX8_reads 362 = .ok (.aload_n 0, 1) := by decide +kernel
theorem dX8_reads_363 : decode cX8_reads 363 = .ok (.getfield 124, 3) := by decide +kernel
theorem dX8_reads_366 : decode cX8_reads 366 = .ok (.iconst 1, 1) := by decide +kernel
theorem dX8_reads_367 : decode cX8_reads 367 = .ok (.isub, 1) := by decide +kernel
theorem dX8_reads_368 : decode cX8_reads 368 = .ok (.iaload, 1) := by decide +kernel
theorem dX8_reads_369 : decode cX8_reads 369 = .ok (.sipush 1000, 3) := by decide +kernel
theorem dX8_reads_372 : decode cX8_reads 372 = .ok (.if_icmp .ge 37, 3) := by decide +kernel
theorem dX8_reads_375 : decode cX8_reads 375 = .ok (.aload_n 0, 1) := by decide +kernel
theorem dX8_reads_376 : decode cX8_reads 376 = .ok (.getfield 31, 3) := by decide +kernel
theorem dX8_reads_379 : decode cX8_reads 379 = .ok (.aload_n 0, 1) := by decide +kernel
theorem dX8_reads_380 : decode cX8_reads 380 = .ok (.getfield 124, 3) := by decide +kernel
theorem dX8_reads_383 : decode cX8_reads 383 = .ok (.iconst 1, 1) := by decide +kernel
theorem dX8_reads_384 : decode cX8_reads 384 = .ok (.isub, 1) := by decide +kernel
theorem dX8_reads_385 : decode cX8_reads 385 = .ok (.iaload, 1) := by decide +kernel
theorem dX8_reads_386 : decode cX8_reads 386 = .ok (.invokestatic 130, 3) := by decide +kernel
theorem dX8_reads_389 : decode cX8_reads 389 = .ok (.iconst 3, 1) := by decide +kernel
theorem dX8_reads_390 : decode cX8_reads 390 = .ok (.if_icmp .ne 19, 3) := by decide +kernel
theorem dX8_reads_393 : decode cX8_reads 393 = .ok (.aload_n 0, 1) := by decide +kernel
theorem dX8_reads_394 : decode cX8_reads 394 = .ok (.bipush 10, 2) := by decide +kernel
theorem dX8_reads_396 : decode cX8_reads 396 = .ok (.aload_n 0, 1) := by decide +kernel
theorem dX8_reads_397 : decode cX8_reads 397 = .ok (.getfield 114, 3) := by decide +kernel
theorem dX8_reads_400 : decode cX8_reads 400 = .ok (.imul, 1) := by decide +kernel
theorem dX8_reads_401 : decode cX8_reads 401 = .ok (.iconst 1, 1) := by decide +kernel
theorem dX8_reads_402 : decode cX8_reads 402 = .ok (.iadd, 1) := by decide +kernel
theorem dX8_reads_403 : decode cX8_reads 403 = .ok (.putfield 143, 3) := by decide +kernel
theorem dX8_reads_406 : decode cX8_reads 406 = .ok (.goto 72, 3) := by decide +kernel
theorem dX8_reads_409 : decode cX8_reads 409 = .ok (.aload_n 0, 1) := by decide +kernel
theorem dX8_reads_410 : decode cX8_reads 410 = .ok (.dup, 1) := by decide +kernel
theorem dX8_reads_411 : decode cX8_reads 411 = .ok (.getfield 114, 3) := by decide +kernel
theorem dX8_reads_414 : decode cX8_reads 414 = .ok (.iconst 1, 1) := by decide +kernel
theorem dX8_reads_415 : decode cX8_reads 415 = .ok (.iadd, 1) := by decide +kernel
theorem dX8_reads_416 : decode cX8_reads 416 = .ok (.putfield 114, 3) := by decide +kernel
theorem dX8_reads_419 : decode cX8_reads 419 = .ok (.aload_n 0, 1) := by decide +kernel
theorem dX8_reads_420 : decode cX8_reads 420 = .ok (.getfield 31, 3) := by decide +kernel
theorem dX8_reads_423 : decode cX8_reads 423 = .ok (.aload_n 0, 1) := by decide +kernel
theorem dX8_reads_424 : decode cX8_reads 424 = .ok (.getfield 124, 3) := by decide +kernel
theorem dX8_reads_427 : decode cX8_reads 427 = .ok (.iload 4, 2) := by decide +kernel
theorem dX8_reads_429 : decode cX8_reads 429 = .ok (.iastore, 1) := by decide +kernel
theorem dX8_reads_430 : decode cX8_reads 430 = .ok (.aload_n 0, 1) := by decide +kernel
theorem dX8_reads_431 : decode cX8_reads 431 = .ok (.dup, 1) := by decide +kernel
theorem dX8_reads_432 : decode cX8_reads 432 = .ok (.getfield 124, 3) := by decide +kernel
theorem dX8_reads_435 : decode cX8_reads 435 = .ok (.iconst 1, 1) := by decide +kernel
theorem dX8_reads_436 : decode cX8_reads 436 = .ok (.iadd, 1) := by decide +kernel
theorem dX8_reads_437 : decode cX8_reads 437 = .ok (.putfield 124, 3) := by decide +kernel
theorem dX8_reads_440 : decode cX8_reads 440 = .ok (.iconst 1, 1) := by decide +kernel
theorem dX8_reads_441 : decode cX8_reads 441 = .ok (.istore_n 2, 1) := by decide +kernel
theorem dX8_reads_442 : decode cX8_reads 442 = .ok (.goto 36, 3) := by decide +kernel
theorem dX8_reads_445 : decode cX8_reads 445 = .ok (.iload 4, 2) := by decide +kernel
theorem dX8_reads_447 : decode cX8_reads 447 = .ok (.iconst (-1), 1) := by decide +kernel
theorem dX8_reads_448 : decode cX8_reads 448 = .ok (.if_icmp .ne 17, 3) := by decide +kernel
theorem dX8_reads_451 : decode cX8_reads 451 = .ok (.iload_n 1, 1) := by decide +kernel
theorem dX8_reads_452 : decode cX8_reads 452 = .ok (.ifCond .ne 13, 3) := by decide +kernel
theorem dX8_reads_455 : decode cX8_reads 455 = .ok (.aload_n 0, 1) := by decide +kernel
theorem dX8_reads_456 : decode cX8_reads 456 = .ok (.iconst 1, 1) := by decide +kernel
theorem dX8_reads_457 : decode cX8_reads 457 = .ok (.invokevirtual 162, 3) := by decide +kernel
theorem dX8_reads_460 : decode cX8_reads 460 = .ok (.iconst 0, 1) := by decide +kernel
theorem dX8_reads_461 : decode cX8_reads 461 = .ok (.istore_n 3, 1) := by decide +kernel
theorem dX8_reads_462 : decode cX8_reads 462 = .ok (.goto 16, 3) := by decide +kernel
theorem dX8_reads_465 : decode cX8_reads 465 = .ok (.aload_n 0, 1) := by decide +kernel
theorem dX8_reads_466 : decode cX8_reads 466 = .ok (.bipush 10, 2) := by decide +kernel
theorem dX8_reads_468 : decode cX8_reads 468 = .ok (.aload_n 0, 1) := by decide +kernel
theorem dX8_reads_469 : decode cX8_reads 469 = .ok (.getfield 114, 3) := by decide +kernel
theorem dX8_reads_472 : decode cX8_reads 472 = .ok (.imul, 1) := by decide +kernel
theorem dX8_reads_473 : decode cX8_reads 473 = .ok (.iconst 1, 1) := by decide +kernel
theorem dX8_reads_474 : decode cX8_reads 474 = .ok (.iadd, 1) := by decide +kernel
theorem dX8_reads_475 : decode cX8_reads 475 = .ok (.putfield 143, 3) := by decide +kernel
theorem dX8_reads_478 : decode cX8_reads 478 = .ok (.goto (-452), 3) := by decide +kernel
theorem dX8_reads_481 : decode cX8_reads 481 = .ok (.aload_n 0, 1) := by decide +kernel
theorem dX8_reads_482 : decode cX8_reads 482 = .ok (.aload_n 0, 1) := by decide +kernel
theorem dX8_reads_483 : decode cX8_reads 483 = .ok (.getfield 143, 3) := by decide +kernel
theorem dX8_reads_486 : decode cX8_reads 486 = .ok (.iconst (-1), 1) := by decide +kernel
theorem dX8_reads_487 : decode cX8_reads 487 = .ok (.if_icmp .ne 12, 3) := by decide +kernel
theorem dX8_reads_490 : decode cX8_reads 490 = .ok (.aload_n 0, 1) := by decide +kernel
theorem dX8_reads_491 : decode cX8_reads 491 = .ok (.getfield 27, 3) := by decide +kernel
theorem dX8_reads_494 : decode cX8_reads 494 = .ok (.iconst 0, 1) := by decide +kernel
theorem dX8_reads_495 : decode cX8_reads 495 = .ok (.laload, 1) := by decide +kernel
theorem dX8_reads_496 : decode cX8_reads 496 = .ok (.goto 4, 3) := by decide +kernel
theorem dX8_reads_499 : decode cX8_reads 499 = .ok (.lconst 0, 1) := by decide +kernel
theorem dX8_reads_500 : decode cX8_reads 500 = .ok (.putfield 166, 3) := by decide +kernel
theorem dX8_reads_503 : decode cX8_reads 503 = .ok (.aload_n 0, 1) := by decide +kernel
theorem dX8_reads_504 : decode cX8_reads 504 = .ok (.getfield 143, 3) := by decide +kernel
theorem dX8_reads_507 : decode cX8_reads 507 = .ok (.iconst (-1), 1) := by decide +kernel
theorem dX8_reads_508 : decode cX8_reads 508 = .ok (.if_icmp .ne 7, 3) := by decide +kernel
theorem dX8_reads_511 : decode cX8_reads 511 = .ok (.iconst 1, 1) := by decide +kernel
theorem dX8_reads_512 : decode cX8_reads 512 = .ok (.goto 4, 3) := by decide +kernel
theorem dX8_reads_515 : decode cX8_reads 515 = .ok (.iconst 0, 1) := by decide +kernel
theorem dX8_reads_516 : decode cX8_reads 516 = .ok (.ireturn, 1) := by decide +kernel
theorem dX8_fault_0 : decode cX8_fault 0 = .ok (.aload_n 0, 1) := by decide +kernel
theorem dX8_fault_1 : decode cX8_fault 1 = .ok (.invokevirtual 169, 3) := by decide +kernel
theorem dX8_fault_4 : decode cX8_fault 4 = .ok (.istore_n 1, 1) := by decide +kernel
theorem dX8_fault_5 : decode cX8_fault 5 = .ok (.aload_n 0, 1) := by decide +kernel
theorem dX8_fault_6 : decode cX8_fault 6 = .ok (.getfield 143, 3) := by decide +kernel
theorem dX8_fault_9 : decode cX8_fault 9 = .ok (.ireturn, 1) := by decide +kernel
theorem dX8_isWell_0 : decode cX8_isWell 0 = .ok (.iload_n 1, 1) := by decide +kernel
theorem dX8_isWell_1 : decode cX8_isWell 1 = .ok (.ifCond .ne 9, 3) := by decide +kernel
theorem dX8_isWell_4 : decode cX8_isWell 4 = .ok (.iload_n 3, 1) := by decide +kernel
theorem dX8_isWell_5 : decode cX8_isWell 5 = .ok (.ifCond .ne 5, 3) := by decide +kernel
theorem dX8_isWell_8 : decode cX8_isWell 8 = .ok (.iconst 1, 1) := by decide +kernel
theorem dX8_isWell_9 : decode cX8_isWell 9 = .ok (.ireturn, 1) := by decide +kernel
theorem dX8_isWell_10 : decode cX8_isWell 10 = .ok (.iconst 0, 1) := by decide +kernel
theorem dX8_isWell_11 : decode cX8_isWell 11 = .ok (.istore 4, 2) := by decide +kernel
theorem dX8_isWell_13 : decode cX8_isWell 13 = .ok (.iload 4, 2) := by decide +kernel
theorem dX8_isWell_15 : decode cX8_isWell 15 = .ok (.iconst 4, 1) := by decide +kernel
theorem dX8_isWell_16 : decode cX8_isWell 16 = .ok (.if_icmp .gt 24, 3) := by decide +kernel
theorem dX8_isWell_19 : decode cX8_isWell 19 = .ok (.aload_n 0, 1) := by decide +kernel
theorem dX8_isWell_20 : decode cX8_isWell 20 = .ok (.getfield 34, 3) := by decide +kernel
theorem dX8_isWell_23 : decode cX8_isWell 23 = .ok (.iload 4, 2) := by decide +kernel
theorem dX8_isWell_25 : decode cX8_isWell 25 = .ok (.aload_n 0, 1) := by decide +kernel
theorem dX8_isWell_26 : decode cX8_isWell 26 = .ok (.iload_n 1, 1) := by decide +kernel
theorem dX8_isWell_27 : decode cX8_isWell 27 = .ok (.iload 4, 2) := by decide +kernel
theorem dX8_isWell_29 : decode cX8_isWell 29 = .ok (.invokevirtual 109, 3) := by decide +kernel
theorem dX8_isWell_32 : decode cX8_isWell 32 = .ok (.i2l, 1) := by decide +kernel
theorem dX8_isWell_33 : decode cX8_isWell 33 = .ok (.lastore, 1) := by decide +kernel
theorem dX8_isWell_34 : decode cX8_isWell 34 = .ok (.iinc 4 1, 3) := by decide +kernel
theorem dX8_isWell_37 : decode cX8_isWell 37 = .ok (.goto (-24), 3) := by decide +kernel
theorem dX8_isWell_40 : decode cX8_isWell 40 = .ok (.aload_n 0, 1) := by decide +kernel
theorem dX8_isWell_41 : decode cX8_isWell 41 = .ok (.getfield 34, 3) := by decide +kernel
theorem dX8_isWell_44 : decode cX8_isWell 44 = .ok (.iconst 0, 1) := by decide +kernel
theorem dX8_isWell_45 : decode cX8_isWell 45 = .ok (.dup2, 1) := by decide +kernel
theorem dX8_isWell_46 : decode cX8_isWell 46 = .ok (.laload, 1) := by decide +kernel
theorem dX8_isWell_47 : decode cX8_isWell 47 = .ok (.iload_n 3, 1) := by decide +kernel
theorem dX8_isWell_48 : decode cX8_isWell 48 = .ok (.i2l, 1) := by decide +kernel
theorem dX8_isWell_49 : decode cX8_isWell 49 = .ok (.ladd, 1) := by decide +kernel
theorem dX8_isWell_50 : decode cX8_isWell 50 = .ok (.lastore, 1) := by decide +kernel
theorem dX8_isWell_51 : decode cX8_isWell 51 = .ok (.aload_n 0, 1) := by decide +kernel
theorem dX8_isWell_52 : decode cX8_isWell 52 = .ok (.getfield 34, 3) := by decide +kernel
theorem dX8_isWell_55 : decode cX8_isWell 55 = .ok (.iconst 5, 1) := by decide +kernel
theorem dX8_isWell_56 : decode cX8_isWell 56 = .ok (.iload_n 2, 1) := by decide +kernel
theorem dX8_isWell_57 : decode cX8_isWell 57 = .ok (.i2l, 1) := by decide +kernel
theorem dX8_isWell_58 : decode cX8_isWell 58 = .ok (.lastore, 1) := by decide +kernel
theorem dX8_isWell_59 : decode cX8_isWell 59 = .ok (.aload_n 0, 1) := by decide +kernel
theorem dX8_isWell_60 : decode cX8_isWell 60 = .ok (.invokevirtual 169, 3) := by decide +kernel
theorem dX8_isWell_63 : decode cX8_isWell 63 = .ok (.ifCond .eq 10, 3) := by decide +kernel
theorem dX8_isWell_66 : decode cX8_isWell 66 = .ok (.aload_n 0, 1) := by decide +kernel
theorem dX8_isWell_67 : decode cX8_isWell 67 = .ok (.getfield 166, 3) := by decide +kernel
theorem dX8_isWell_70 : decode cX8_isWell 70 = .ok (.goto 9, 3) := by decide +kernel
theorem dX8_isWell_73 : decode cX8_isWell 73 = .ok (.aload_n 0, 1) := by decide +kernel
theorem dX8_isWell_74 : decode cX8_isWell 74 = .ok (.getfield 34, 3) := by decide +kernel
theorem dX8_isWell_77 : decode cX8_isWell 77 = .ok (.iconst 0, 1) := by decide +kernel
theorem dX8_isWell_78 : decode cX8_isWell 78 = .ok (.laload, 1) := by decide +kernel
theorem dX8_isWell_79 : decode cX8_isWell 79 = .ok (.lstore 4, 2) := by decide +kernel
theorem dX8_isWell_81 : decode cX8_isWell 81 = .ok (.lload 4, 2) := by decide +kernel
theorem dX8_isWell_83 : decode cX8_isWell 83 = .ok (.lconst 1, 1) := by decide +kernel
theorem dX8_isWell_84 : decode cX8_isWell 84 = .ok (.land, 1) := by decide +kernel
theorem dX8_isWell_85 : decode cX8_isWell 85 = .ok (.lconst 1, 1) := by decide +kernel
theorem dX8_isWell_86 : decode cX8_isWell 86 = .ok (.lcmp, 1) := by decide +kernel
theorem dX8_isWell_87 : decode cX8_isWell 87 = .ok (.ifCond .ne 7, 3) := by decide +kernel
theorem dX8_isWell_90 : decode cX8_isWell 90 = .ok (.iconst 1, 1) := by decide +kernel
theorem dX8_isWell_91 : decode cX8_isWell 91 = .ok (.goto 4, 3) := by decide +kernel
theorem dX8_isWell_94 : decode cX8_isWell 94 = .ok (.iconst 0, 1) := by decide +kernel
theorem dX8_isWell_95 : decode cX8_isWell 95 = .ok (.ireturn, 1) := by decide +kernel
theorem dX8_well_0 : decode cX8_well 0 = .ok (.aload_n 0, 1) := by decide +kernel
theorem dX8_well_1 : decode cX8_well 1 = .ok (.iload_n 1, 1) := by decide +kernel
theorem dX8_well_2 : decode cX8_well 2 = .ok (.invokevirtual 103, 3) := by decide +kernel
theorem dX8_well_5 : decode cX8_well 5 = .ok (.ifCond .eq 15, 3) := by decide +kernel
theorem dX8_well_8 : decode cX8_well 8 = .ok (.iload_n 2, 1) := by decide +kernel
theorem dX8_well_9 : decode cX8_well 9 = .ok (.i2l, 1) := by decide +kernel
theorem dX8_well_10 : decode cX8_well 10 = .ok (.lconst 0, 1) := by decide +kernel
theorem dX8_well_11 : decode cX8_well 11 = .ok (.ldc2_w 173, 3) := by decide +kernel
theorem dX8_well_14 : decode cX8_well 14 = .ok (.invokestatic 74, 3) := by decide +kernel
theorem dX8_well_17 : decode cX8_well 17 = .ok (.ifCond .ne 10, 3) := by decide +kernel
theorem dX8_well_20 : decode cX8_well 20 = .ok (.aload_n 0, 1) := by decide +kernel
theorem dX8_well_21 : decode cX8_well 21 = .ok (.bipush (-2), 2) := by decide +kernel
theorem dX8_well_23 : decode cX8_well 23 = .ok (.invokevirtual 87, 3) := by decide +kernel
theorem dX8_well_26 : decode cX8_well 26 = .ok (.ireturn, 1) := by decide +kernel
theorem dX8_well_27 : decode cX8_well 27 = .ok (.aload_n 0, 1) := by decide +kernel
theorem dX8_well_28 : decode cX8_well 28 = .ok (.iload_n 1, 1) := by decide +kernel
theorem dX8_well_29 : decode cX8_well 29 = .ok (.iload_n 2, 1) := by decide +kernel
theorem dX8_well_30 : decode cX8_well 30 = .ok (.iconst 0, 1) := by decide +kernel
theorem dX8_well_31 : decode cX8_well 31 = .ok (.invokevirtual 175, 3) := by decide +kernel
theorem dX8_well_34 : decode cX8_well 34 = .ok (.ifCond .eq 7, 3) := by decide +kernel
theorem dX8_well_37 : decode cX8_well 37 = .ok (.iconst 1, 1) := by decide +kernel
theorem dX8_well_38 : decode cX8_well 38 = .ok (.goto 4, 3) := by decide +kernel
theorem dX8_well_41 : decode cX8_well 41 = .ok (.iconst 0, 1) := by decide +kernel
theorem dX8_well_42 : decode cX8_well 42 = .ok (.ireturn, 1) := by decide +kernel
theorem dX8_manyIn_0 : decode cX8_manyIn 0 = .ok (.iconst 0, 1) := by decide +kernel
theorem dX8_manyIn_1 : decode cX8_manyIn 1 = .ok (.istore_n 1, 1) := by decide +kernel
theorem dX8_manyIn_2 : decode cX8_manyIn 2 = .ok (.iconst 0, 1) := by decide +kernel
theorem dX8_manyIn_3 : decode cX8_manyIn 3 = .ok (.istore_n 2, 1) := by decide +kernel
theorem dX8_manyIn_4 : decode cX8_manyIn 4 = .ok (.iload_n 2, 1) := by decide +kernel
theorem dX8_manyIn_5 : decode cX8_manyIn 5 = .ok (.bipush 8, 2) := by decide +kernel
theorem dX8_manyIn_7 : decode cX8_manyIn 7 = .ok (.if_icmp .ge 17, 3) := by decide +kernel
theorem dX8_manyIn_10 : decode cX8_manyIn 10 = .ok (.iload_n 1, 1) := by decide +kernel
theorem dX8_manyIn_11 : decode cX8_manyIn 11 = .ok (.iload_n 0, 1) := by decide +kernel
theorem dX8_manyIn_12 : decode cX8_manyIn 12 = .ok (.iload_n 2, 1) := by decide +kernel
theorem dX8_manyIn_13 : decode cX8_manyIn 13 = .ok (.ishr, 1) := by decide +kernel
theorem dX8_manyIn_14 : decode cX8_manyIn 14 = .ok (.iconst 1, 1) := by decide +kernel
theorem dX8_manyIn_15 : decode cX8_manyIn 15 = .ok (.iand, 1) := by decide +kernel
theorem dX8_manyIn_16 : decode cX8_manyIn 16 = .ok (.iadd, 1) := by decide +kernel
theorem dX8_manyIn_17 : decode cX8_manyIn 17 = .ok (.istore_n 1, 1) := by decide +kernel
theorem dX8_manyIn_18 : decode cX8_manyIn 18 = .ok (.iinc 2 1, 3) := by decide +kernel
theorem dX8_manyIn_21 : decode cX8_manyIn 21 = .ok (.goto (-17), 3) := by decide +kernel
theorem dX8_manyIn_24 : decode cX8_manyIn 24 = .ok (.iload_n 1, 1) := by decide +kernel
theorem dX8_manyIn_25 : decode cX8_manyIn 25 = .ok (.ireturn, 1) := by decide +kernel
theorem dX8_onNow_0 : decode cX8_onNow 0 = .ok (.iconst 0, 1) := by decide +kernel
theorem dX8_onNow_1 : decode cX8_onNow 1 = .ok (.istore_n 1, 1) := by decide +kernel
theorem dX8_onNow_2 : decode cX8_onNow 2 = .ok (.iconst 0, 1) := by decide +kernel
theorem dX8_onNow_3 : decode cX8_onNow 3 = .ok (.istore_n 2, 1) := by decide +kernel
theorem dX8_onNow_4 : decode cX8_onNow 4 = .ok (.iload_n 2, 1) := by decide +kernel
theorem dX8_onNow_5 : decode cX8_onNow 5 = .ok (.aload_n 0, 1) := by decide +kernel
theorem dX8_onNow_6 : decode cX8_onNow 6 = .ok (.invokevirtual 70, 3) := by decide +kernel
theorem dX8_onNow_9 : decode cX8_onNow 9 = .ok (.if_icmp .ge 39, 3) := by decide +kernel
theorem dX8_onNow_12 : decode cX8_onNow 12 = .ok (.iload_n 1, 1) := by decide +kernel
theorem dX8_onNow_13 : decode cX8_onNow 13 = .ok (.aload_n 0, 1) := by decide +kernel
theorem dX8_onNow_14 : decode cX8_onNow 14 = .ok (.getfield 37, 3) := by decide +kernel
theorem dX8_onNow_17 : decode cX8_onNow 17 = .ok (.iload_n 2, 1) := by decide +kernel
theorem dX8_onNow_18 : decode cX8_onNow 18 = .ok (.iaload, 1) := by decide +kernel
theorem dX8_onNow_19 : decode cX8_onNow 19 = .ok (.iconst (-1), 1) := by decide +kernel
theorem dX8_onNow_20 : decode cX8_onNow 20 = .ok (.if_icmp .eq 19, 3) := by decide +kernel
theorem dX8_onNow_23 : decode cX8_onNow 23 = .ok (.aload_n 0, 1) := by decide +kernel
theorem dX8_onNow_24 : decode cX8_onNow 24 = .ok (.getfield 40, 3) := by decide +kernel
theorem dX8_onNow_27 : decode cX8_onNow 27 = .ok (.iload_n 2, 1) := by decide +kernel
theorem dX8_onNow_28 : decode cX8_onNow 28 = .ok (.iaload, 1) := by decide +kernel
theorem dX8_onNow_29 : decode cX8_onNow 29 = .ok (.iconst (-1), 1) := by decide +kernel
theorem dX8_onNow_30 : decode cX8_onNow 30 = .ok (.if_icmp .ne 9, 3) := by decide +kernel
theorem dX8_onNow_33 : decode cX8_onNow 33 = .ok (.iconst 1, 1) := by decide +kernel
theorem dX8_onNow_34 : decode cX8_onNow 34 = .ok (.iload_n 2, 1) := by decide +kernel
theorem dX8_onNow_35 : decode cX8_onNow 35 = .ok (.ishl, 1) := by decide +kernel
theorem dX8_onNow_36 : decode cX8_onNow 36 = .ok (.goto 4, 3) := by decide +kernel
theorem dX8_onNow_39 : decode cX8_onNow 39 = .ok (.iconst 0, 1) := by decide +kernel
theorem dX8_onNow_40 : decode cX8_onNow 40 = .ok (.ior, 1) := by decide +kernel
theorem dX8_onNow_41 : decode cX8_onNow 41 = .ok (.istore_n 1, 1) := by decide +kernel
theorem dX8_onNow_42 : decode cX8_onNow 42 = .ok (.iinc 2 1, 3) := by decide +kernel
theorem dX8_onNow_45 : decode cX8_onNow 45 = .ok (.goto (-41), 3) := by decide +kernel
theorem dX8_onNow_48 : decode cX8_onNow 48 = .ok (.iload_n 1, 1) := by decide +kernel
theorem dX8_onNow_49 : decode cX8_onNow 49 = .ok (.ireturn, 1) := by decide +kernel
theorem dX8_mayStep_0 : decode cX8_mayStep 0 = .ok (.iconst 0, 1) := by decide +kernel
theorem dX8_mayStep_1 : decode cX8_mayStep 1 = .ok (.istore_n 2, 1) := by decide +kernel
theorem dX8_mayStep_2 : decode cX8_mayStep 2 = .ok (.iconst 0, 1) := by decide +kernel
theorem dX8_mayStep_3 : decode cX8_mayStep 3 = .ok (.istore_n 3, 1) := by decide +kernel
theorem dX8_mayStep_4 : decode cX8_mayStep 4 = .ok (.iload_n 3, 1) := by decide +kernel
theorem dX8_mayStep_5 : decode cX8_mayStep 5 = .ok (.aload_n 0, 1) := by decide +kernel
theorem dX8_mayStep_6 : decode cX8_mayStep 6 = .ok (.invokevirtual 70, 3) := by decide +kernel
theorem dX8_mayStep_9 : decode cX8_mayStep 9 = .ok (.if_icmp .ge 88, 3) := by decide +kernel
theorem dX8_mayStep_12 : decode cX8_mayStep 12 = .ok (.aload_n 0, 1) := by decide +kernel
theorem dX8_mayStep_13 : decode cX8_mayStep 13 = .ok (.getfield 37, 3) := by decide +kernel
theorem dX8_mayStep_16 : decode cX8_mayStep 16 = .ok (.iload_n 3, 1) := by decide +kernel
theorem dX8_mayStep_17 : decode cX8_mayStep 17 = .ok (.iaload, 1) := by decide +kernel
theorem dX8_mayStep_18 : decode cX8_mayStep 18 = .ok (.iconst (-1), 1) := by decide +kernel
theorem dX8_mayStep_19 : decode cX8_mayStep 19 = .ok (.if_icmp .eq 34, 3) := by decide +kernel
theorem dX8_mayStep_22 : decode cX8_mayStep 22 = .ok (.aload_n 0, 1) := by decide +kernel
theorem dX8_mayStep_23 : decode cX8_mayStep 23 = .ok (.getfield 40, 3) := by decide +kernel
theorem dX8_mayStep_26 : decode cX8_mayStep 26 = .ok (.iload_n 3, 1) := by decide +kernel
theorem dX8_mayStep_27 : decode cX8_mayStep 27 = .ok (.iaload, 1) := by decide +kernel
theorem dX8_mayStep_28 : decode cX8_mayStep 28 = .ok (.iconst (-1), 1) := by decide +kernel
theorem dX8_mayStep_29 : decode cX8_mayStep 29 = .ok (.if_icmp .ne 24, 3) := by decide +kernel
theorem dX8_mayStep_32 : decode cX8_mayStep 32 = .ok (.iload_n 1, 1) := by decide +kernel
theorem dX8_mayStep_33 : decode cX8_mayStep 33 = .ok (.aload_n 0, 1) := by decide +kernel
theorem dX8_mayStep_34 : decode cX8_mayStep 34 = .ok (.getfield 37, 3) := by decide +kernel
theorem dX8_mayStep_37 : decode cX8_mayStep 37 = .ok (.iload_n 3, 1) := by decide +kernel
theorem dX8_mayStep_38 : decode cX8_mayStep 38 = .ok (.iaload, 1) := by decide +kernel
theorem dX8_mayStep_39 : decode cX8_mayStep 39 = .ok (.isub, 1) := by decide +kernel
theorem dX8_mayStep_40 : decode cX8_mayStep 40 = .ok (.aload_n 0, 1) := by decide +kernel
theorem dX8_mayStep_41 : decode cX8_mayStep 41 = .ok (.iload_n 3, 1) := by decide +kernel
theorem dX8_mayStep_42 : decode cX8_mayStep 42 = .ok (.iconst 1, 1) := by decide +kernel
theorem dX8_mayStep_43 : decode cX8_mayStep 43 = .ok (.invokevirtual 96, 3) := by decide +kernel
theorem dX8_mayStep_46 : decode cX8_mayStep 46 = .ok (.if_icmp .lt 7, 3) := by decide +kernel
theorem dX8_mayStep_49 : decode cX8_mayStep 49 = .ok (.iconst 1, 1) := by decide +kernel
theorem dX8_mayStep_50 : decode cX8_mayStep 50 = .ok (.goto 4, 3) := by decide +kernel
theorem dX8_mayStep_53 : decode cX8_mayStep 53 = .ok (.iconst 0, 1) := by decide +kernel
theorem dX8_mayStep_54 : decode cX8_mayStep 54 = .ok (.istore 4, 2) := by decide +kernel
theorem dX8_mayStep_56 : decode cX8_mayStep 56 = .ok (.iload_n 2, 1) := by decide +kernel
theorem dX8_mayStep_57 : decode cX8_mayStep 57 = .ok (.iload 4, 2) := by decide +kernel
theorem dX8_mayStep_59 : decode cX8_mayStep 59 = .ok (.ifCond .ne 23, 3) := by decide +kernel
theorem dX8_mayStep_62 : decode cX8_mayStep 62 = .ok (.aload_n 0, 1) := by decide +kernel
theorem dX8_mayStep_63 : decode cX8_mayStep 63 = .ok (.getfield 37, 3) := by decide +kernel
theorem dX8_mayStep_66 : decode cX8_mayStep 66 = .ok (.iload_n 3, 1) := by decide +kernel
theorem dX8_mayStep_67 : decode cX8_mayStep 67 = .ok (.iaload, 1) := by decide +kernel
theorem dX8_mayStep_68 : decode cX8_mayStep 68 = .ok (.iconst (-1), 1) := by decide +kernel
theorem dX8_mayStep_69 : decode cX8_mayStep 69 = .ok (.if_icmp .ne 19, 3) := by decide +kernel
theorem dX8_mayStep_72 : decode cX8_mayStep 72 = .ok (.aload_n 0, 1) := by decide +kernel
theorem dX8_mayStep_73 : decode cX8_mayStep 73 = .ok (.iload_n 3, 1) := by decide +kernel
theorem dX8_mayStep_74 : decode cX8_mayStep 74 = .ok (.iconst 2, 1) := by decide +kernel
theorem dX8_mayStep_75 : decode cX8_mayStep 75 = .ok (.invokevirtual 96, 3) := by decide +kernel
theorem dX8_mayStep_78 : decode cX8_mayStep 78 = .ok (.iload_n 1, 1) := by decide +kernel
theorem dX8_mayStep_79 : decode cX8_mayStep 79 = .ok (.if_icmp .gt 9, 3) := by decide +kernel
theorem dX8_mayStep_82 : decode cX8_mayStep 82 = .ok (.iconst 1, 1) := by decide +kernel
theorem dX8_mayStep_83 : decode cX8_mayStep 83 = .ok (.iload_n 3, 1) := by decide +kernel
theorem dX8_mayStep_84 : decode cX8_mayStep 84 = .ok (.ishl, 1) := by decide +kernel
theorem dX8_mayStep_85 : decode cX8_mayStep 85 = .ok (.goto 4, 3) := by decide +kernel
theorem dX8_mayStep_88 : decode cX8_mayStep 88 = .ok (.iconst 0, 1) := by decide +kernel
theorem dX8_mayStep_89 : decode cX8_mayStep 89 = .ok (.ior, 1) := by decide +kernel
theorem dX8_mayStep_90 : decode cX8_mayStep 90 = .ok (.istore_n 2, 1) := by decide +kernel
theorem dX8_mayStep_91 : decode cX8_mayStep 91 = .ok (.iinc 3 1, 3) := by decide +kernel
theorem dX8_mayStep_94 : decode cX8_mayStep 94 = .ok (.goto (-90), 3) := by decide +kernel
theorem dX8_mayStep_97 : decode cX8_mayStep 97 = .ok (.iload_n 2, 1) := by decide +kernel
theorem dX8_mayStep_98 : decode cX8_mayStep 98 = .ok (.ireturn, 1) := by decide +kernel
theorem dX8_ahead__0 : decode cX8_ahead_ 0 = .ok (.iconst 0, 1) := by decide +kernel
theorem dX8_ahead__1 : decode cX8_ahead_ 1 = .ok (.istore_n 3, 1) := by decide +kernel
theorem dX8_ahead__2 : decode cX8_ahead_ 2 = .ok (.iconst 0, 1) := by decide +kernel
theorem dX8_ahead__3 : decode cX8_ahead_ 3 = .ok (.istore 4, 2) := by decide +kernel
theorem dX8_ahead__5 : decode cX8_ahead_ 5 = .ok (.iload 4, 2) := by decide +kernel
theorem dX8_ahead__7 : decode cX8_ahead_ 7 = .ok (.aload_n 0, 1) := by decide +kernel
theorem dX8_ahead__8 : decode cX8_ahead_ 8 = .ok (.invokevirtual 70, 3) := by decide +kernel
theorem dX8_ahead__11 : decode cX8_ahead_ 11 = .ok (.if_icmp .ge 72, 3) := by decide +kernel
theorem dX8_ahead__14 : decode cX8_ahead_ 14 = .ok (.iload_n 1, 1) := by decide +kernel
theorem dX8_ahead__15 : decode cX8_ahead_ 15 = .ok (.iload 4, 2) := by decide +kernel
theorem dX8_ahead__17 : decode cX8_ahead_ 17 = .ok (.ishr, 1) := by decide +kernel
theorem dX8_ahead__18 : decode cX8_ahead_ 18 = .ok (.iconst 1, 1) := by decide +kernel
theorem dX8_ahead__19 : decode cX8_ahead_ 19 = .ok (.iand, 1) := by decide +kernel
theorem dX8_ahead__20 : decode cX8_ahead_ 20 = .ok (.iconst 1, 1) := by decide +kernel
theorem dX8_ahead__21 : decode cX8_ahead_ 21 = .ok (.if_icmp .ne 37, 3) := by decide +kernel
theorem dX8_ahead__24 : decode cX8_ahead_ 24 = .ok (.aload_n 0, 1) := by decide +kernel
theorem dX8_ahead__25 : decode cX8_ahead_ 25 = .ok (.getfield 37, 3) := by decide +kernel
theorem dX8_ahead__28 : decode cX8_ahead_ 28 = .ok (.iload 4, 2) := by decide +kernel
theorem dX8_ahead__30 : decode cX8_ahead_ 30 = .ok (.iaload, 1) := by decide +kernel
theorem dX8_ahead__31 : decode cX8_ahead_ 31 = .ok (.iconst (-1), 1) := by decide +kernel
theorem dX8_ahead__32 : decode cX8_ahead_ 32 = .ok (.if_icmp .eq 22, 3) := by decide +kernel
theorem dX8_ahead__35 : decode cX8_ahead_ 35 = .ok (.iload_n 2, 1) := by decide +kernel
theorem dX8_ahead__36 : decode cX8_ahead_ 36 = .ok (.aload_n 0, 1) := by decide +kernel
theorem dX8_ahead__37 : decode cX8_ahead_ 37 = .ok (.getfield 37, 3) := by decide +kernel
theorem dX8_ahead__40 : decode cX8_ahead_ 40 = .ok (.iload 4, 2) := by decide +kernel
theorem dX8_ahead__42 : decode cX8_ahead_ 42 = .ok (.iaload, 1) := by decide +kernel
theorem dX8_ahead__43 : decode cX8_ahead_ 43 = .ok (.isub, 1) := by decide +kernel
theorem dX8_ahead__44 : decode cX8_ahead_ 44 = .ok (.aload_n 0, 1) := by decide +kernel
theorem dX8_ahead__45 : decode cX8_ahead_ 45 = .ok (.getfield 7, 3) := by decide +kernel
theorem dX8_ahead__48 : decode cX8_ahead_ 48 = .ok (.bipush 32, 2) := by decide +kernel
theorem dX8_ahead__50 : decode cX8_ahead_ 50 = .ok (.iaload, 1) := by decide +kernel
theorem dX8_ahead__51 : decode cX8_ahead_ 51 = .ok (.if_icmp .ge 7, 3) := by decide +kernel
theorem dX8_ahead__54 : decode cX8_ahead_ 54 = .ok (.iconst 1, 1) := by decide +kernel
theorem dX8_ahead__55 : decode cX8_ahead_ 55 = .ok (.goto 4, 3) := by decide +kernel
theorem dX8_ahead__58 : decode cX8_ahead_ 58 = .ok (.iconst 0, 1) := by decide +kernel
theorem dX8_ahead__59 : decode cX8_ahead_ 59 = .ok (.istore 5, 2) := by decide +kernel
theorem dX8_ahead__61 : decode cX8_ahead_ 61 = .ok (.iload_n 3, 1) := by decide +kernel
theorem dX8_ahead__62 : decode cX8_ahead_ 62 = .ok (.iload 5, 2) := by decide +kernel
theorem dX8_ahead__64 : decode cX8_ahead_ 64 = .ok (.ifCond .eq 10, 3) := by decide +kernel
theorem dX8_ahead__67 : decode cX8_ahead_ 67 = .ok (.iconst 1, 1) := by decide +kernel
theorem dX8_ahead__68 : decode cX8_ahead_ 68 = .ok (.iload 4, 2) := by decide +kernel
theorem dX8_ahead__70 : decode cX8_ahead_ 70 = .ok (.ishl, 1) := by decide +kernel
theorem dX8_ahead__71 : decode cX8_ahead_ 71 = .ok (.goto 4, 3) := by decide +kernel
theorem dX8_ahead__74 : decode cX8_ahead_ 74 = .ok (.iconst 0, 1) := by decide +kernel
theorem dX8_ahead__75 : decode cX8_ahead_ 75 = .ok (.ior, 1) := by decide +kernel
theorem dX8_ahead__76 : decode cX8_ahead_ 76 = .ok (.istore_n 3, 1) := by decide +kernel
theorem dX8_ahead__77 : decode cX8_ahead_ 77 = .ok (.iinc 4 1, 3) := by decide +kernel
theorem dX8_ahead__80 : decode cX8_ahead_ 80 = .ok (.goto (-75), 3) := by decide +kernel
theorem dX8_ahead__83 : decode cX8_ahead_ 83 = .ok (.iload_n 3, 1) := by decide +kernel
theorem dX8_ahead__84 : decode cX8_ahead_ 84 = .ok (.ireturn, 1) := by decide +kernel
theorem dX8_isWellOn_0 : decode cX8_isWellOn 0 = .ok (.aload_n 0, 1) := by decide +kernel
theorem dX8_isWellOn_1 : decode cX8_isWellOn 1 = .ok (.getfield 7, 3) := by decide +kernel
theorem dX8_isWellOn_4 : decode cX8_isWellOn 4 = .ok (.bipush 32, 2) := by decide +kernel
theorem dX8_isWellOn_6 : decode cX8_isWellOn 6 = .ok (.iaload, 1) := by decide +kernel
theorem dX8_isWellOn_7 : decode cX8_isWellOn 7 = .ok (.ifCond .ne 11, 3) := by decide +kernel
theorem dX8_isWellOn_10 : decode cX8_isWellOn 10 = .ok (.aload_n 0, 1) := by decide +kernel
theorem dX8_isWellOn_11 : decode cX8_isWellOn 11 = .ok (.iload_n 1, 1) := by decide +kernel
theorem dX8_isWellOn_12 : decode cX8_isWellOn 12 = .ok (.iload_n 2, 1) := by decide +kernel
theorem dX8_isWellOn_13 : decode cX8_isWellOn 13 = .ok (.iconst 0, 1) := by decide +kernel
theorem dX8_isWellOn_14 : decode cX8_isWellOn 14 = .ok (.invokevirtual 175, 3) := by decide +kernel
theorem dX8_isWellOn_17 : decode cX8_isWellOn 17 = .ok (.ireturn, 1) := by decide +kernel
theorem dX8_isWellOn_18 : decode cX8_isWellOn 18 = .ok (.aload_n 0, 1) := by decide +kernel
theorem dX8_isWellOn_19 : decode cX8_isWellOn 19 = .ok (.iload_n 1, 1) := by decide +kernel
theorem dX8_isWellOn_20 : decode cX8_isWellOn 20 = .ok (.iload_n 2, 1) := by decide +kernel
theorem dX8_isWellOn_21 : decode cX8_isWellOn 21 = .ok (.invokevirtual 179, 3) := by decide +kernel
theorem dX8_isWellOn_24 : decode cX8_isWellOn 24 = .ok (.istore_n 3, 1) := by decide +kernel
theorem dX8_isWellOn_25 : decode cX8_isWellOn 25 = .ok (.aload_n 0, 1) := by decide +kernel
theorem dX8_isWellOn_26 : decode cX8_isWellOn 26 = .ok (.iload_n 3, 1) := by decide +kernel
theorem dX8_isWellOn_27 : decode cX8_isWellOn 27 = .ok (.iload_n 2, 1) := by decide +kernel
theorem dX8_isWellOn_28 : decode cX8_isWellOn 28 = .ok (.iconst 0, 1) := by decide +kernel
theorem dX8_isWellOn_29 : decode cX8_isWellOn 29 = .ok (.invokevirtual 175, 3) := by decide +kernel
theorem dX8_isWellOn_32 : decode cX8_isWellOn 32 = .ok (.ifCond .eq 21, 3) := by decide +kernel
theorem dX8_isWellOn_35 : decode cX8_isWellOn 35 = .ok (.aload_n 0, 1) := by decide +kernel
theorem dX8_isWellOn_36 : decode cX8_isWellOn 36 = .ok (.iload_n 1, 1) := by decide +kernel
theorem dX8_isWellOn_37 : decode cX8_isWellOn 37 = .ok (.iload_n 3, 1) := by decide +kernel
theorem dX8_isWellOn_38 : decode cX8_isWellOn 38 = .ok (.iconst (-1), 1) := by decide +kernel
theorem dX8_isWellOn_39 : decode cX8_isWellOn 39 = .ok (.ixor, 1) := by decide +kernel
theorem dX8_isWellOn_40 : decode cX8_isWellOn 40 = .ok (.iand, 1) := by decide +kernel
theorem dX8_isWellOn_41 : decode cX8_isWellOn 41 = .ok (.iload_n 2, 1) := by decide +kernel
theorem dX8_isWellOn_42 : decode cX8_isWellOn 42 = .ok (.iconst 0, 1) := by decide +kernel
theorem dX8_isWellOn_43 : decode cX8_isWellOn 43 = .ok (.invokevirtual 175, 3) := by decide +kernel
theorem dX8_isWellOn_46 : decode cX8_isWellOn 46 = .ok (.ifCond .eq 7, 3) := by decide +kernel
theorem dX8_isWellOn_49 : decode cX8_isWellOn 49 = .ok (.iconst 1, 1) := by decide +kernel
theorem dX8_isWellOn_50 : decode cX8_isWellOn 50 = .ok (.goto 4, 3) := by decide +kernel
theorem dX8_isWellOn_53 : decode cX8_isWellOn 53 = .ok (.iconst 0, 1) := by decide +kernel
theorem dX8_isWellOn_54 : decode cX8_isWellOn 54 = .ok (.ireturn, 1) := by decide +kernel
theorem dX8_celebrate_0 : decode cX8_celebrate 0 = .ok (.iconst 0, 1) := by decide +kernel
theorem dX8_celebrate_1 : decode cX8_celebrate 1 = .ok (.istore_n 1, 1) := by decide +kernel
theorem dX8_celebrate_2 : decode cX8_celebrate 2 = .ok (.iload_n 1, 1) := by decide +kernel
theorem dX8_celebrate_3 : decode cX8_celebrate 3 = .ok (.bipush 8, 2) := by decide +kernel
theorem dX8_celebrate_5 : decode cX8_celebrate 5 = .ok (.if_icmp .ge 23, 3) := by decide +kernel
theorem dX8_celebrate_8 : decode cX8_celebrate 8 = .ok (.aload_n 0, 1) := by decide +kernel
theorem dX8_celebrate_9 : decode cX8_celebrate 9 = .ok (.getfield 37, 3) := by decide +kernel
theorem dX8_celebrate_12 : decode cX8_celebrate 12 = .ok (.iload_n 1, 1) := by decide +kernel
theorem dX8_celebrate_13 : decode cX8_celebrate 13 = .ok (.iconst (-1), 1) := by decide +kernel
theorem dX8_celebrate_14 : decode cX8_celebrate 14 = .ok (.iastore, 1) := by decide +kernel
theorem dX8_celebrate_15 : decode cX8_celebrate 15 = .ok (.aload_n 0, 1) := by decide +kernel
theorem dX8_celebrate_16 : decode cX8_celebrate 16 = .ok (.getfield 40, 3) := by decide +kernel
theorem dX8_celebrate_19 : decode cX8_celebrate 19 = .ok (.iload_n 1, 1) := by decide +kernel
theorem dX8_celebrate_20 : decode cX8_celebrate 20 = .ok (.iconst (-1), 1) := by decide +kernel
theorem dX8_celebrate_21 : decode cX8_celebrate 21 = .ok (.iastore, 1) := by decide +kernel
theorem dX8_celebrate_22 : decode cX8_celebrate 22 = .ok (.iinc 1 1, 3) := by decide +kernel
theorem dX8_celebrate_25 : decode cX8_celebrate 25 = .ok (.goto (-23), 3) := by decide +kernel
theorem dX8_celebrate_28 : decode cX8_celebrate 28 = .ok (.aload_n 0, 1) := by decide +kernel
theorem dX8_celebrate_29 : decode cX8_celebrate 29 = .ok (.iconst 0, 1) := by decide +kernel
theorem dX8_celebrate_30 : decode cX8_celebrate 30 = .ok (.putfield 181, 3) := by decide +kernel
theorem dX8_celebrate_33 : decode cX8_celebrate 33 = .ok (.aload_n 0, 1) := by decide +kernel
theorem dX8_celebrate_34 : decode cX8_celebrate 34 = .ok (.iconst (-1), 1) := by decide +kernel
theorem dX8_celebrate_35 : decode cX8_celebrate 35 = .ok (.putfield 184, 3) := by decide +kernel
theorem dX8_celebrate_38 : decode cX8_celebrate 38 = .ok (.iconst 0, 1) := by decide +kernel
theorem dX8_celebrate_39 : decode cX8_celebrate 39 = .ok (.istore_n 1, 1) := by decide +kernel
theorem dX8_celebrate_40 : decode cX8_celebrate 40 = .ok (.iload_n 1, 1) := by decide +kernel
theorem dX8_celebrate_41 : decode cX8_celebrate 41 = .ok (.sipush 200, 3) := by decide +kernel
theorem dX8_celebrate_44 : decode cX8_celebrate 44 = .ok (.if_icmp .ge 232, 3) := by decide +kernel
theorem dX8_celebrate_47 : decode cX8_celebrate 47 = .ok (.aload_n 0, 1) := by decide +kernel
theorem dX8_celebrate_48 : decode cX8_celebrate 48 = .ok (.invokevirtual 187, 3) := by decide +kernel
theorem dX8_celebrate_51 : decode cX8_celebrate 51 = .ok (.istore_n 2, 1) := by decide +kernel
theorem dX8_celebrate_52 : decode cX8_celebrate 52 = .ok (.aload_n 0, 1) := by decide +kernel
theorem dX8_celebrate_53 : decode cX8_celebrate 53 = .ok (.iload_n 1, 1) := by decide +kernel
theorem dX8_celebrate_54 : decode cX8_celebrate 54 = .ok (.invokevirtual 190, 3) := by decide +kernel
theorem dX8_celebrate_57 : decode cX8_celebrate 57 = .ok (.istore_n 3, 1) := by decide +kernel
theorem dX8_celebrate_58 : decode cX8_celebrate 58 = .ok (.iconst (-1), 1) := by decide +kernel
theorem dX8_celebrate_59 : decode cX8_celebrate 59 = .ok (.istore 4, 2) := by decide +kernel
theorem dX8_celebrate_61 : decode cX8_celebrate 61 = .ok (.iconst 0, 1) := by decide +kernel
theorem dX8_celebrate_62 : decode cX8_celebrate 62 = .ok (.istore 5, 2) := by decide +kernel
theorem dX8_celebrate_64 : decode cX8_celebrate 64 = .ok (.iload 5, 2) := by decide +kernel
theorem dX8_celebrate_66 : decode cX8_celebrate 66 = .ok (.iload_n 3, 1) := by decide +kernel
theorem dX8_celebrate_67 : decode cX8_celebrate 67 = .ok (.if_icmp .gt 70, 3) := by decide +kernel
theorem dX8_celebrate_70 : decode cX8_celebrate 70 = .ok (.iload 5, 2) := by decide +kernel
theorem dX8_celebrate_72 : decode cX8_celebrate 72 = .ok (.iload_n 3, 1) := by decide +kernel
theorem dX8_celebrate_73 : decode cX8_celebrate 73 = .ok (.iconst (-1), 1) := by decide +kernel
theorem dX8_celebrate_74 : decode cX8_celebrate 74 = .ok (.ixor, 1) := by decide +kernel
theorem dX8_celebrate_75 : decode cX8_celebrate 75 = .ok (.iand, 1) := by decide +kernel
theorem dX8_celebrate_76 : decode cX8_celebrate 76 = .ok (.ifCond .ne 26, 3) := by decide +kernel
theorem dX8_celebrate_79 : decode cX8_celebrate 79 = .ok (.iload 4, 2) := by decide +kernel
theorem dX8_celebrate_81 : decode cX8_celebrate 81 = .ok (.iconst (-1), 1) := by decide +kernel
theorem dX8_celebrate_82 : decode cX8_celebrate 82 = .ok (.if_icmp .eq 16, 3) := by decide +kernel
theorem dX8_celebrate_85 : decode cX8_celebrate 85 = .ok (.iload 5, 2) := by decide +kernel
theorem dX8_celebrate_87 : decode cX8_celebrate 87 = .ok (.invokestatic 193, 3) := by decide +kernel
theorem dX8_celebrate_90 : decode cX8_celebrate 90 = .ok (.iload 4, 2) := by decide +kernel
theorem dX8_celebrate_92 : decode cX8_celebrate 92 = .ok (.invokestatic 193, 3) := by decide +kernel
theorem dX8_celebrate_95 : decode cX8_celebrate 95 = .ok (.if_icmp .le 7, 3) := by decide +kernel
theorem dX8_celebrate_98 : decode cX8_celebrate 98 = .ok (.iconst 1, 1) := by decide +kernel
theorem dX8_celebrate_99 : decode cX8_celebrate 99 = .ok (.goto 4, 3) := by decide +kernel
theorem dX8_celebrate_102 : decode cX8_celebrate 102 = .ok (.iconst 0, 1) := by decide +kernel
theorem dX8_celebrate_103 : decode cX8_celebrate 103 = .ok (.istore 6, 2) := by decide +kernel
theorem dX8_celebrate_105 : decode cX8_celebrate 105 = .ok (.iload 6, 2) := by decide +kernel
theorem dX8_celebrate_107 : decode cX8_celebrate 107 = .ok (.ifCond .eq 20, 3) := by decide +kernel
theorem dX8_celebrate_110 : decode cX8_celebrate 110 = .ok (.aload_n 0, 1) := by decide +kernel
theorem dX8_celebrate_111 : decode cX8_celebrate 111 = .ok (.iload_n 2, 1) := by decide +kernel
theorem dX8_celebrate_112 : decode cX8_celebrate 112 = .ok (.iload 5, 2) := by decide +kernel
theorem dX8_celebrate_114 : decode cX8_celebrate 114 = .ok (.ixor, 1) := by decide +kernel
theorem dX8_celebrate_115 : decode cX8_celebrate 115 = .ok (.iload_n 1, 1) := by decide +kernel
theorem dX8_celebrate_116 : decode cX8_celebrate 116 = .ok (.invokevirtual 196, 3) := by decide +kernel
theorem dX8_celebrate_119 : decode cX8_celebrate 119 = .ok (.ifCond .eq 8, 3) := by decide +kernel
theorem dX8_celebrate_122 : decode cX8_celebrate 122 = .ok (.iload 5, 2) := by decide +kernel
theorem dX8_celebrate_124 : decode cX8_celebrate 124 = .ok (.goto 5, 3) := by decide +kernel
theorem dX8_celebrate_127 : decode cX8_celebrate 127 = .ok (.iload 4, 2) := by decide +kernel
theorem dX8_celebrate_129 : decode cX8_celebrate 129 = .ok (.istore 4, 2) := by decide +kernel
theorem dX8_celebrate_131 : decode cX8_celebrate 131 = .ok (.iinc 5 1, 3) := by decide +kernel
theorem dX8_celebrate_134 : decode cX8_celebrate 134 = .ok (.goto (-70), 3) := by decide +kernel
theorem dX8_celebrate_137 : decode cX8_celebrate 137 = .ok (.iload 4, 2) := by decide +kernel
theorem dX8_celebrate_139 : decode cX8_celebrate 139 = .ok (.iconst (-1), 1) := by decide +kernel
theorem dX8_celebrate_140 : decode cX8_celebrate 140 = .ok (.if_icmp .ne 35, 3) := by decide +kernel
theorem dX8_celebrate_143 : decode cX8_celebrate 143 = .ok (.aload_n 0, 1) := by decide +kernel
theorem dX8_celebrate_144 : decode cX8_celebrate 144 = .ok (.aload_n 0, 1) := by decide +kernel
theorem dX8_celebrate_145 : decode cX8_celebrate 145 = .ok (.getfield 181, 3) := by decide +kernel
theorem dX8_celebrate_148 : decode cX8_celebrate 148 = .ok (.ifCond .ne 7, 3) := by decide +kernel
theorem dX8_celebrate_151 : decode cX8_celebrate 151 = .ok (.iload_n 1, 1) := by decide +kernel
theorem dX8_celebrate_152 : decode cX8_celebrate 152 = .ok (.goto 7, 3) := by decide +kernel
theorem dX8_celebrate_155 : decode cX8_celebrate 155 = .ok (.aload_n 0, 1) := by decide +kernel
theorem dX8_celebrate_156 : decode cX8_celebrate 156 = .ok (.getfield 184, 3) := by decide +kernel
theorem dX8_celebrate_159 : decode cX8_celebrate 159 = .ok (.putfield 184, 3) := by decide +kernel
theorem dX8_celebrate_162 : decode cX8_celebrate 162 = .ok (.aload_n 0, 1) := by decide +kernel
theorem dX8_celebrate_163 : decode cX8_celebrate 163 = .ok (.dup, 1) := by decide +kernel
theorem dX8_celebrate_164 : decode cX8_celebrate 164 = .ok (.getfield 181, 3) := by decide +kernel
theorem dX8_celebrate_167 : decode cX8_celebrate 167 = .ok (.iconst 1, 1) := by decide +kernel
theorem dX8_celebrate_168 : decode cX8_celebrate 168 = .ok (.iadd, 1) := by decide +kernel
theorem dX8_celebrate_169 : decode cX8_celebrate 169 = .ok (.putfield 181, 3) := by decide +kernel
theorem dX8_celebrate_172 : decode cX8_celebrate 172 = .ok (.iconst 0, 1) := by decide +kernel
theorem dX8_celebrate_173 : decode cX8_celebrate 173 = .ok (.istore 4, 2) := by decide +kernel
theorem dX8_celebrate_175 : decode cX8_celebrate 175 = .ok (.iconst 0, 1) := by decide +kernel
theorem dX8_celebrate_176 : decode cX8_celebrate 176 = .ok (.istore 5, 2) := by decide +kernel
theorem dX8_celebrate_178 : decode cX8_celebrate 178 = .ok (.iload 5, 2) := by decide +kernel
theorem dX8_celebrate_180 : decode cX8_celebrate 180 = .ok (.aload_n 0, 1) := by decide +kernel
theorem dX8_celebrate_181 : decode cX8_celebrate 181 = .ok (.invokevirtual 70, 3) := by decide +kernel
theorem dX8_celebrate_184 : decode cX8_celebrate 184 = .ok (.if_icmp .ge 76, 3) := by decide +kernel
theorem dX8_celebrate_187 : decode cX8_celebrate 187 = .ok (.iload 4, 2) := by decide +kernel
theorem dX8_celebrate_189 : decode cX8_celebrate 189 = .ok (.iload 5, 2) := by decide +kernel
theorem dX8_celebrate_191 : decode cX8_celebrate 191 = .ok (.ishr, 1) := by decide +kernel
theorem dX8_celebrate_192 : decode cX8_celebrate 192 = .ok (.iconst 1, 1) := by decide +kernel
theorem dX8_celebrate_193 : decode cX8_celebrate 193 = .ok (.iand, 1) := by decide +kernel
theorem dX8_celebrate_194 : decode cX8_celebrate 194 = .ok (.iconst 1, 1) := by decide +kernel
theorem dX8_celebrate_195 : decode cX8_celebrate 195 = .ok (.if_icmp .ne 59, 3) := by decide +kernel
theorem dX8_celebrate_198 : decode cX8_celebrate 198 = .ok (.aload_n 0, 1) := by decide +kernel
theorem dX8_celebrate_199 : decode cX8_celebrate 199 = .ok (.getfield 40, 3) := by decide +kernel
theorem dX8_celebrate_202 : decode cX8_celebrate 202 = .ok (.iload 5, 2) := by decide +kernel
theorem dX8_celebrate_204 : decode cX8_celebrate 204 = .ok (.iload_n 2, 1) := by decide +kernel
theorem dX8_celebrate_205 : decode cX8_celebrate 205 = .ok (.iload 5, 2) := by decide +kernel
theorem dX8_celebrate_207 : decode cX8_celebrate 207 = .ok (.ishr, 1) := by decide +kernel
theorem dX8_celebrate_208 : decode cX8_celebrate 208 = .ok (.iconst 1, 1) := by decide +kernel
theorem dX8_celebrate_209 : decode cX8_celebrate 209 = .ok (.iand, 1) := by decide +kernel
theorem dX8_celebrate_210 : decode cX8_celebrate 210 = .ok (.iconst 1, 1) := by decide +kernel
theorem dX8_celebrate_211 : decode cX8_celebrate 211 = .ok (.if_icmp .ne 7, 3) := by decide +kernel
theorem dX8_celebrate_214 : decode cX8_celebrate 214 = .ok (.iload_n 1, 1) := by decide +kernel
theorem dX8_celebrate_215 : decode cX8_celebrate 215 = .ok (.goto 10, 3) := by decide +kernel
theorem dX8_celebrate_218 : decode cX8_celebrate 218 = .ok (.aload_n 0, 1) := by decide +kernel
theorem dX8_celebrate_219 : decode cX8_celebrate 219 = .ok (.getfield 40, 3) := by decide +kernel
theorem dX8_celebrate_222 : decode cX8_celebrate 222 = .ok (.iload 5, 2) := by decide +kernel
theorem dX8_celebrate_224 : decode cX8_celebrate 224 = .ok (.iaload, 1) := by decide +kernel
theorem dX8_celebrate_225 : decode cX8_celebrate 225 = .ok (.iastore, 1) := by decide +kernel
theorem dX8_celebrate_226 : decode cX8_celebrate 226 = .ok (.aload_n 0, 1) := by decide +kernel
theorem dX8_celebrate_227 : decode cX8_celebrate 227 = .ok (.getfield 37, 3) := by decide +kernel
theorem dX8_celebrate_230 : decode cX8_celebrate 230 = .ok (.iload 5, 2) := by decide +kernel
theorem dX8_celebrate_232 : decode cX8_celebrate 232 = .ok (.iload_n 2, 1) := by decide +kernel
theorem dX8_celebrate_233 : decode cX8_celebrate 233 = .ok (.iload 5, 2) := by decide +kernel
theorem dX8_celebrate_235 : decode cX8_celebrate 235 = .ok (.ishr, 1) := by decide +kernel
theorem dX8_celebrate_236 : decode cX8_celebrate 236 = .ok (.iconst 1, 1) := by decide +kernel
theorem dX8_celebrate_237 : decode cX8_celebrate 237 = .ok (.iand, 1) := by decide +kernel
theorem dX8_celebrate_238 : decode cX8_celebrate 238 = .ok (.iconst 1, 1) := by decide +kernel
theorem dX8_celebrate_239 : decode cX8_celebrate 239 = .ok (.if_icmp .ne 13, 3) := by decide +kernel
theorem dX8_celebrate_242 : decode cX8_celebrate 242 = .ok (.aload_n 0, 1) := by decide +kernel
theorem dX8_celebrate_243 : decode cX8_celebrate 243 = .ok (.getfield 37, 3) := by decide +kernel
theorem dX8_celebrate_246 : decode cX8_celebrate 246 = .ok (.iload 5, 2) := by decide +kernel
theorem dX8_celebrate_248 : decode cX8_celebrate 248 = .ok (.iaload, 1) := by decide +kernel
theorem dX8_celebrate_249 : decode cX8_celebrate 249 = .ok (.goto 4, 3) := by decide +kernel
theorem dX8_celebrate_252 : decode cX8_celebrate 252 = .ok (.iload_n 1, 1) := by decide +kernel
theorem dX8_celebrate_253 : decode cX8_celebrate 253 = .ok (.iastore, 1) := by decide +kernel
theorem dX8_celebrate_254 : decode cX8_celebrate 254 = .ok (.iinc 5 1, 3) := by decide +kernel
theorem dX8_celebrate_257 : decode cX8_celebrate 257 = .ok (.goto (-79), 3) := by decide +kernel
theorem dX8_celebrate_260 : decode cX8_celebrate 260 = .ok (.aload_n 0, 1) := by decide +kernel
theorem dX8_celebrate_261 : decode cX8_celebrate 261 = .ok (.getfield 43, 3) := by decide +kernel
theorem dX8_celebrate_264 : decode cX8_celebrate 264 = .ok (.iload_n 1, 1) := by decide +kernel
theorem dX8_celebrate_265 : decode cX8_celebrate 265 = .ok (.iload_n 2, 1) := by decide +kernel
theorem dX8_celebrate_266 : decode cX8_celebrate 266 = .ok (.iload 4, 2) := by decide +kernel
theorem dX8_celebrate_268 : decode cX8_celebrate 268 = .ok (.ixor, 1) := by decide +kernel
theorem dX8_celebrate_269 : decode cX8_celebrate 269 = .ok (.iastore, 1) := by decide +kernel
theorem dX8_celebrate_270 : decode cX8_celebrate 270 = .ok (.iinc 1 1, 3) := by decide +kernel
theorem dX8_celebrate_273 : decode cX8_celebrate 273 = .ok (.goto (-233), 3) := by decide +kernel
theorem dX8_celebrate_276 : decode cX8_celebrate 276 = .ok (.return_, 1) := by decide +kernel
theorem dX8_on_0 : decode cX8_on 0 = .ok (.iload_n 1, 1) := by decide +kernel
theorem dX8_on_1 : decode cX8_on 1 = .ok (.i2l, 1) := by decide +kernel
theorem dX8_on_2 : decode cX8_on 2 = .ok (.lconst 0, 1) := by decide +kernel
theorem dX8_on_3 : decode cX8_on 3 = .ok (.ldc2_w 173, 3) := by decide +kernel
theorem dX8_on_6 : decode cX8_on 6 = .ok (.invokestatic 74, 3) := by decide +kernel
theorem dX8_on_9 : decode cX8_on 9 = .ok (.ifCond .ne 10, 3) := by decide +kernel
theorem dX8_on_12 : decode cX8_on 12 = .ok (.aload_n 0, 1) := by decide +kernel
theorem dX8_on_13 : decode cX8_on 13 = .ok (.bipush (-2), 2) := by decide +kernel
theorem dX8_on_15 : decode cX8_on 15 = .ok (.invokevirtual 87, 3) := by decide +kernel
theorem dX8_on_18 : decode cX8_on 18 = .ok (.ireturn, 1) := by decide +kernel
theorem dX8_on_19 : decode cX8_on 19 = .ok (.aload_n 0, 1) := by decide +kernel
theorem dX8_on_20 : decode cX8_on 20 = .ok (.invokevirtual 200, 3) := by decide +kernel
theorem dX8_on_23 : decode cX8_on 23 = .ok (.aload_n 0, 1) := by decide +kernel
theorem dX8_on_24 : decode cX8_on 24 = .ok (.getfield 43, 3) := by decide +kernel
theorem dX8_on_27 : decode cX8_on 27 = .ok (.iload_n 1, 1) := by decide +kernel
theorem dX8_on_28 : decode cX8_on 28 = .ok (.iaload, 1) := by decide +kernel
theorem dX8_on_29 : decode cX8_on 29 = .ok (.ireturn, 1) := by decide +kernel
theorem dX8_stepped_0 : decode cX8_stepped 0 = .ok (.aload_n 0, 1) := by decide +kernel
theorem dX8_stepped_1 : decode cX8_stepped 1 = .ok (.iload_n 1, 1) := by decide +kernel
theorem dX8_stepped_2 : decode cX8_stepped 2 = .ok (.invokevirtual 203, 3) := by decide +kernel
theorem dX8_stepped_5 : decode cX8_stepped 5 = .ok (.ifCond .eq 13, 3) := by decide +kernel
theorem dX8_stepped_8 : decode cX8_stepped 8 = .ok (.iload_n 2, 1) := by decide +kernel
theorem dX8_stepped_9 : decode cX8_stepped 9 = .ok (.i2l, 1) := by decide +kernel
theorem dX8_stepped_10 : decode cX8_stepped 10 = .ok (.lconst 0, 1) := by decide +kernel
theorem dX8_stepped_11 : decode cX8_stepped 11 = .ok (.lconst 1, 1) := by decide +kernel
theorem dX8_stepped_12 : decode cX8_stepped 12 = .ok (.invokestatic 74, 3) := by decide +kernel
theorem dX8_stepped_15 : decode cX8_stepped 15 = .ok (.ifCond .ne 10, 3) := by decide +kernel
theorem dX8_stepped_18 : decode cX8_stepped 18 = .ok (.aload_n 0, 1) := by decide +kernel
theorem dX8_stepped_19 : decode cX8_stepped 19 = .ok (.bipush (-2), 2) := by decide +kernel
theorem dX8_stepped_21 : decode cX8_stepped 21 = .ok (.invokevirtual 87, 3) := by decide +kernel
theorem dX8_stepped_24 : decode cX8_stepped 24 = .ok (.ireturn, 1) := by decide +kernel
theorem dX8_stepped_25 : decode cX8_stepped 25 = .ok (.aload_n 0, 1) := by decide +kernel
theorem dX8_stepped_26 : decode cX8_stepped 26 = .ok (.invokevirtual 200, 3) := by decide +kernel
theorem dX8_stepped_29 : decode cX8_stepped 29 = .ok (.iload_n 2, 1) := by decide +kernel
theorem dX8_stepped_30 : decode cX8_stepped 30 = .ok (.ifCond .ne 12, 3) := by decide +kernel
theorem dX8_stepped_33 : decode cX8_stepped 33 = .ok (.aload_n 0, 1) := by decide +kernel
theorem dX8_stepped_34 : decode cX8_stepped 34 = .ok (.getfield 37, 3) := by decide +kernel
theorem dX8_stepped_37 : decode cX8_stepped 37 = .ok (.iload_n 1, 1) := by decide +kernel
theorem dX8_stepped_38 : decode cX8_stepped 38 = .ok (.iaload, 1) := by decide +kernel
theorem dX8_stepped_39 : decode cX8_stepped 39 = .ok (.goto 9, 3) := by decide +kernel
theorem dX8_stepped_42 : decode cX8_stepped 42 = .ok (.aload_n 0, 1) := by decide +kernel
theorem dX8_stepped_43 : decode cX8_stepped 43 = .ok (.getfield 40, 3) := by decide +kernel
theorem dX8_stepped_46 : decode cX8_stepped 46 = .ok (.iload_n 1, 1) := by decide +kernel
theorem dX8_stepped_47 : decode cX8_stepped 47 = .ok (.iaload, 1) := by decide +kernel
theorem dX8_stepped_48 : decode cX8_stepped 48 = .ok (.ireturn, 1) := by decide +kernel
theorem dX8_faulty_0 : decode cX8_faulty 0 = .ok (.iload_n 1, 1) := by decide +kernel
theorem dX8_faulty_1 : decode cX8_faulty 1 = .ok (.i2l, 1) := by decide +kernel
theorem dX8_faulty_2 : decode cX8_faulty 2 = .ok (.lconst 0, 1) := by decide +kernel
theorem dX8_faulty_3 : decode cX8_faulty 3 = .ok (.lconst 1, 1) := by decide +kernel
theorem dX8_faulty_4 : decode cX8_faulty 4 = .ok (.invokestatic 74, 3) := by decide +kernel
theorem dX8_faulty_7 : decode cX8_faulty 7 = .ok (.ifCond .ne 10, 3) := by decide +kernel
theorem dX8_faulty_10 : decode cX8_faulty 10 = .ok (.aload_n 0, 1) := by decide +kernel
theorem dX8_faulty_11 : decode cX8_faulty 11 = .ok (.bipush (-2), 2) := by decide +kernel
theorem dX8_faulty_13 : decode cX8_faulty 13 = .ok (.invokevirtual 87, 3) := by decide +kernel
theorem dX8_faulty_16 : decode cX8_faulty 16 = .ok (.ireturn, 1) := by decide +kernel
theorem dX8_faulty_17 : decode cX8_faulty 17 = .ok (.aload_n 0, 1) := by decide +kernel
theorem dX8_faulty_18 : decode cX8_faulty 18 = .ok (.invokevirtual 200, 3) := by decide +kernel
theorem dX8_faulty_21 : decode cX8_faulty 21 = .ok (.iload_n 1, 1) := by decide +kernel
theorem dX8_faulty_22 : decode cX8_faulty 22 = .ok (.ifCond .ne 10, 3) := by decide +kernel
theorem dX8_faulty_25 : decode cX8_faulty 25 = .ok (.aload_n 0, 1) := by decide +kernel
theorem dX8_faulty_26 : decode cX8_faulty 26 = .ok (.getfield 181, 3) := by decide +kernel
theorem dX8_faulty_29 : decode cX8_faulty 29 = .ok (.goto 7, 3) := by decide +kernel
theorem dX8_faulty_32 : decode cX8_faulty 32 = .ok (.aload_n 0, 1) := by decide +kernel
theorem dX8_faulty_33 : decode cX8_faulty 33 = .ok (.getfield 184, 3) := by decide +kernel
theorem dX8_faulty_36 : decode cX8_faulty 36 = .ok (.ireturn, 1) := by decide +kernel
theorem dX8_timeOf_0 : decode cX8_timeOf 0 = .ok (.iconst 0, 1) := by decide +kernel
theorem dX8_timeOf_1 : decode cX8_timeOf 1 = .ok (.istore_n 2, 1) := by decide +kernel
theorem dX8_timeOf_2 : decode cX8_timeOf 2 = .ok (.iconst 0, 1) := by decide +kernel
theorem dX8_timeOf_3 : decode cX8_timeOf 3 = .ok (.istore_n 3, 1) := by decide +kernel
theorem dX8_timeOf_4 : decode cX8_timeOf 4 = .ok (.iload_n 3, 1) := by decide +kernel
theorem dX8_timeOf_5 : decode cX8_timeOf 5 = .ok (.aload_n 0, 1) := by decide +kernel
theorem dX8_timeOf_6 : decode cX8_timeOf 6 = .ok (.invokevirtual 70, 3) := by decide +kernel
theorem dX8_timeOf_9 : decode cX8_timeOf 9 = .ok (.if_icmp .ge 39, 3) := by decide +kernel
theorem dX8_timeOf_12 : decode cX8_timeOf 12 = .ok (.iload_n 1, 1) := by decide +kernel
theorem dX8_timeOf_13 : decode cX8_timeOf 13 = .ok (.iload_n 3, 1) := by decide +kernel
theorem dX8_timeOf_14 : decode cX8_timeOf 14 = .ok (.ishr, 1) := by decide +kernel
theorem dX8_timeOf_15 : decode cX8_timeOf 15 = .ok (.iconst 1, 1) := by decide +kernel
theorem dX8_timeOf_16 : decode cX8_timeOf 16 = .ok (.iand, 1) := by decide +kernel
theorem dX8_timeOf_17 : decode cX8_timeOf 17 = .ok (.iconst 1, 1) := by decide +kernel
theorem dX8_timeOf_18 : decode cX8_timeOf 18 = .ok (.if_icmp .ne 22, 3) := by decide +kernel
theorem dX8_timeOf_21 : decode cX8_timeOf 21 = .ok (.aload_n 0, 1) := by decide +kernel
theorem dX8_timeOf_22 : decode cX8_timeOf 22 = .ok (.iload_n 3, 1) := by decide +kernel
theorem dX8_timeOf_23 : decode cX8_timeOf 23 = .ok (.iconst 1, 1) := by decide +kernel
theorem dX8_timeOf_24 : decode cX8_timeOf 24 = .ok (.invokevirtual 96, 3) := by decide +kernel
theorem dX8_timeOf_27 : decode cX8_timeOf 27 = .ok (.iload_n 2, 1) := by decide +kernel
theorem dX8_timeOf_28 : decode cX8_timeOf 28 = .ok (.if_icmp .le 12, 3) := by decide +kernel
theorem dX8_timeOf_31 : decode cX8_timeOf 31 = .ok (.aload_n 0, 1) := by decide +kernel
theorem dX8_timeOf_32 : decode cX8_timeOf 32 = .ok (.iload_n 3, 1) := by decide +kernel
theorem dX8_timeOf_33 : decode cX8_timeOf 33 = .ok (.iconst 1, 1) := by decide +kernel
theorem dX8_timeOf_34 : decode cX8_timeOf 34 = .ok (.invokevirtual 96, 3) := by decide +kernel
theorem dX8_timeOf_37 : decode cX8_timeOf 37 = .ok (.goto 4, 3) := by decide +kernel
theorem dX8_timeOf_40 : decode cX8_timeOf 40 = .ok (.iload_n 2, 1) := by decide +kernel
theorem dX8_timeOf_41 : decode cX8_timeOf 41 = .ok (.istore_n 2, 1) := by decide +kernel
theorem dX8_timeOf_42 : decode cX8_timeOf 42 = .ok (.iinc 3 1, 3) := by decide +kernel
theorem dX8_timeOf_45 : decode cX8_timeOf 45 = .ok (.goto (-41), 3) := by decide +kernel
theorem dX8_timeOf_48 : decode cX8_timeOf 48 = .ok (.iload_n 2, 1) := by decide +kernel
theorem dX8_timeOf_49 : decode cX8_timeOf 49 = .ok (.ireturn, 1) := by decide +kernel
theorem dX8_findPrices_0 : decode cX8_findPrices 0 = .ok (.iconst 1, 1) := by decide +kernel
theorem dX8_findPrices_1 : decode cX8_findPrices 1 = .ok (.istore_n 1, 1) := by decide +kernel
theorem dX8_findPrices_2 : decode cX8_findPrices 2 = .ok (.iload_n 1, 1) := by decide +kernel
theorem dX8_findPrices_3 : decode cX8_findPrices 3 = .ok (.aload_n 0, 1) := by decide +kernel
theorem dX8_findPrices_4 : decode cX8_findPrices 4 = .ok (.invokevirtual 78, 3) := by decide +kernel
theorem dX8_findPrices_7 : decode cX8_findPrices 7 = .ok (.if_icmp .gt 51, 3) := by decide +kernel
theorem dX8_findPrices_10 : decode cX8_findPrices 10 = .ok (.aload_n 0, 1) := by decide +kernel
theorem dX8_findPrices_11 : decode cX8_findPrices 11 = .ok (.getfield 55, 3) := by decide +kernel
theorem dX8_findPrices_14 : decode cX8_findPrices 14 = .ok (.iload_n 1, 1) := by decide +kernel
theorem dX8_findPrices_15 : decode cX8_findPrices 15 = .ok (.aload_n 0, 1) := by decide +kernel
theorem dX8_findPrices_16 : decode cX8_findPrices 16 = .ok (.iload_n 1, 1) := by decide +kernel
theorem dX8_findPrices_17 : decode cX8_findPrices 17 = .ok (.iconst 0, 1) := by decide +kernel
theorem dX8_findPrices_18 : decode cX8_findPrices 18 = .ok (.iconst 0, 1) := by decide +kernel
theorem dX8_findPrices_19 : decode cX8_findPrices 19 = .ok (.invokevirtual 175, 3) := by decide +kernel
theorem dX8_findPrices_22 : decode cX8_findPrices 22 = .ok (.ifCond .eq 7, 3) := by decide +kernel
theorem dX8_findPrices_25 : decode cX8_findPrices 25 = .ok (.iconst 0, 1) := by decide +kernel
theorem dX8_findPrices_26 : decode cX8_findPrices 26 = .ok (.goto 25, 3) := by decide +kernel
theorem dX8_findPrices_29 : decode cX8_findPrices 29 = .ok (.aload_n 0, 1) := by decide +kernel
theorem dX8_findPrices_30 : decode cX8_findPrices 30 = .ok (.iload_n 1, 1) := by decide +kernel
theorem dX8_findPrices_31 : decode cX8_findPrices 31 = .ok (.iconst 0, 1) := by decide +kernel
theorem dX8_findPrices_32 : decode cX8_findPrices 32 = .ok (.iconst 1, 1) := by decide +kernel
theorem dX8_findPrices_33 : decode cX8_findPrices 33 = .ok (.invokevirtual 175, 3) := by decide +kernel
theorem dX8_findPrices_36 : decode cX8_findPrices 36 = .ok (.ifCond .eq 13, 3) := by decide +kernel
theorem dX8_findPrices_39 : decode cX8_findPrices 39 = .ok (.aload_n 0, 1) := by decide +kernel
theorem dX8_findPrices_40 : decode cX8_findPrices 40 = .ok (.getfield 7, 3) := by decide +kernel
theorem dX8_findPrices_43 : decode cX8_findPrices 43 = .ok (.bipush 33, 2) := by decide +kernel
theorem dX8_findPrices_45 : decode cX8_findPrices 45 = .ok (.iaload, 1) := by decide +kernel
theorem dX8_findPrices_46 : decode cX8_findPrices 46 = .ok (.goto 5, 3) := by decide +kernel
theorem dX8_findPrices_49 : decode cX8_findPrices 49 = .ok (.ldc 206, 2) := by decide +kernel
theorem dX8_findPrices_51 : decode cX8_findPrices 51 = .ok (.iastore, 1) := by decide +kernel
theorem dX8_findPrices_52 : decode cX8_findPrices 52 = .ok (.iinc 1 1, 3) := by decide +kernel
theorem dX8_findPrices_55 : decode cX8_findPrices 55 = .ok (.goto (-53), 3) := by decide +kernel
theorem dX8_findPrices_58 : decode cX8_findPrices 58 = .ok (.return_, 1) := by decide +kernel
theorem dX8_mayGo_0 : decode cX8_mayGo 0 = .ok (.iload_n 1, 1) := by decide +kernel
theorem dX8_mayGo_1 : decode cX8_mayGo 1 = .ok (.iload_n 2, 1) := by decide +kernel
theorem dX8_mayGo_2 : decode cX8_mayGo 2 = .ok (.iconst (-1), 1) := by decide +kernel
theorem dX8_mayGo_3 : decode cX8_mayGo 3 = .ok (.ixor, 1) := by decide +kernel
theorem dX8_mayGo_4 : decode cX8_mayGo 4 = .ok (.iand, 1) := by decide +kernel
theorem dX8_mayGo_5 : decode cX8_mayGo 5 = .ok (.ifCond .ne 27, 3) := by decide +kernel
theorem dX8_mayGo_8 : decode cX8_mayGo 8 = .ok (.iload_n 1, 1) := by decide +kernel
theorem dX8_mayGo_9 : decode cX8_mayGo 9 = .ok (.iload_n 2, 1) := by decide +kernel
theorem dX8_mayGo_10 : decode cX8_mayGo 10 = .ok (.iand, 1) := by decide +kernel
theorem dX8_mayGo_11 : decode cX8_mayGo 11 = .ok (.iload_n 2, 1) := by decide +kernel
theorem dX8_mayGo_12 : decode cX8_mayGo 12 = .ok (.ineg, 1) := by decide +kernel
theorem dX8_mayGo_13 : decode cX8_mayGo 13 = .ok (.iand, 1) := by decide +kernel
theorem dX8_mayGo_14 : decode cX8_mayGo 14 = .ok (.ifCond .eq 18, 3) := by decide +kernel
theorem dX8_mayGo_17 : decode cX8_mayGo 17 = .ok (.aload_n 0, 1) := by decide +kernel
theorem dX8_mayGo_18 : decode cX8_mayGo 18 = .ok (.getfield 55, 3) := by decide +kernel
theorem dX8_mayGo_21 : decode cX8_mayGo 21 = .ok (.iload_n 1, 1) := by decide +kernel
theorem dX8_mayGo_22 : decode cX8_mayGo 22 = .ok (.iaload, 1) := by decide +kernel
theorem dX8_mayGo_23 : decode cX8_mayGo 23 = .ok (.ldc 206, 2) := by decide +kernel
theorem dX8_mayGo_25 : decode cX8_mayGo 25 = .ok (.if_icmp .ge 7, 3) := by decide +kernel
theorem dX8_mayGo_28 : decode cX8_mayGo 28 = .ok (.iconst 1, 1) := by decide +kernel
theorem dX8_mayGo_29 : decode cX8_mayGo 29 = .ok (.goto 4, 3) := by decide +kernel
theorem dX8_mayGo_32 : decode cX8_mayGo 32 = .ok (.iconst 0, 1) := by decide +kernel
theorem dX8_mayGo_33 : decode cX8_mayGo 33 = .ok (.ireturn, 1) := by decide +kernel
theorem dX8_findLeast_0 : decode cX8_findLeast 0 = .ok (.aload_n 0, 1) := by decide +kernel
theorem dX8_findLeast_1 : decode cX8_findLeast 1 = .ok (.invokevirtual 207, 3) := by decide +kernel
theorem dX8_findLeast_4 : decode cX8_findLeast 4 = .ok (.aload_n 0, 1) := by decide +kernel
theorem dX8_findLeast_5 : decode cX8_findLeast 5 = .ok (.getfield 46, 3) := by decide +kernel
theorem dX8_findLeast_8 : decode cX8_findLeast 8 = .ok (.iconst 0, 1) := by decide +kernel
theorem dX8_findLeast_9 : decode cX8_findLeast 9 = .ok (.iconst 0, 1) := by decide +kernel
theorem dX8_findLeast_10 : decode cX8_findLeast 10 = .ok (.iastore, 1) := by decide +kernel
theorem dX8_findLeast_11 : decode cX8_findLeast 11 = .ok (.aload_n 0, 1) := by decide +kernel
theorem dX8_findLeast_12 : decode cX8_findLeast 12 = .ok (.getfield 49, 3) := by decide +kernel
theorem dX8_findLeast_15 : decode cX8_findLeast 15 = .ok (.iconst 0, 1) := by decide +kernel
theorem dX8_findLeast_16 : decode cX8_findLeast 16 = .ok (.iconst 0, 1) := by decide +kernel
theorem dX8_findLeast_17 : decode cX8_findLeast 17 = .ok (.iastore, 1) := by decide +kernel
theorem dX8_findLeast_18 : decode cX8_findLeast 18 = .ok (.aload_n 0, 1) := by decide +kernel
theorem dX8_findLeast_19 : decode cX8_findLeast 19 = .ok (.getfield 52, 3) := by decide +kernel
theorem dX8_findLeast_22 : decode cX8_findLeast 22 = .ok (.iconst 0, 1) := by decide +kernel
theorem dX8_findLeast_23 : decode cX8_findLeast 23 = .ok (.iconst 0, 1) := by decide +kernel
theorem dX8_findLeast_24 : decode cX8_findLeast 24 = .ok (.iastore, 1) := by decide +kernel
theorem dX8_findLeast_25 : decode cX8_findLeast 25 = .ok (.iconst 1, 1) := by decide +kernel
theorem dX8_findLeast_26 : decode cX8_findLeast 26 = .ok (.istore_n 1, 1) := by decide +kernel
theorem dX8_findLeast_27 : decode cX8_findLeast 27 = .ok (.iload_n 1, 1) := by decide +kernel
theorem dX8_findLeast_28 : decode cX8_findLeast 28 = .ok (.aload_n 0, 1) := by decide +kernel
theorem dX8_findLeast_29 : decode cX8_findLeast 29 = .ok (.invokevirtual 78, 3) := by decide +kernel
theorem dX8_findLeast_32 : decode cX8_findLeast 32 = .ok (.if_icmp .gt 228, 3) := by decide +kernel
theorem dX8_findLeast_35 : decode cX8_findLeast 35 = .ok (.aload_n 0, 1) := by decide +kernel
theorem dX8_findLeast_36 : decode cX8_findLeast 36 = .ok (.getfield 46, 3) := by decide +kernel
theorem dX8_findLeast_39 : decode cX8_findLeast 39 = .ok (.iload_n 1, 1) := by decide +kernel
theorem dX8_findLeast_40 : decode cX8_findLeast 40 = .ok (.ldc 206, 2) := by decide +kernel
theorem dX8_findLeast_42 : decode cX8_findLeast 42 = .ok (.iastore, 1) := by decide +kernel
theorem dX8_findLeast_43 : decode cX8_findLeast 43 = .ok (.aload_n 0, 1) := by decide +kernel
theorem dX8_findLeast_44 : decode cX8_findLeast 44 = .ok (.getfield 49, 3) := by decide +kernel
theorem dX8_findLeast_47 : decode cX8_findLeast 47 = .ok (.iload_n 1, 1) := by decide +kernel
theorem dX8_findLeast_48 : decode cX8_findLeast 48 = .ok (.ldc 206, 2) := by decide +kernel
theorem dX8_findLeast_50 : decode cX8_findLeast 50 = .ok (.iastore, 1) := by decide +kernel
theorem dX8_findLeast_51 : decode cX8_findLeast 51 = .ok (.aload_n 0, 1) := by decide +kernel
theorem dX8_findLeast_52 : decode cX8_findLeast 52 = .ok (.getfield 52, 3) := by decide +kernel
theorem dX8_findLeast_55 : decode cX8_findLeast 55 = .ok (.iload_n 1, 1) := by decide +kernel
theorem dX8_findLeast_56 : decode cX8_findLeast 56 = .ok (.ldc 206, 2) := by decide +kernel
theorem dX8_findLeast_58 : decode cX8_findLeast 58 = .ok (.iastore, 1) := by decide +kernel
theorem dX8_findLeast_59 : decode cX8_findLeast 59 = .ok (.iconst 1, 1) := by decide +kernel
theorem dX8_findLeast_60 : decode cX8_findLeast 60 = .ok (.istore_n 2, 1) := by decide +kernel
theorem dX8_findLeast_61 : decode cX8_findLeast 61 = .ok (.iload_n 2, 1) := by decide +kernel
theorem dX8_findLeast_62 : decode cX8_findLeast 62 = .ok (.iload_n 1, 1) := by decide +kernel
theorem dX8_findLeast_63 : decode cX8_findLeast 63 = .ok (.if_icmp .gt 191, 3) := by decide +kernel
theorem dX8_findLeast_66 : decode cX8_findLeast 66 = .ok (.iload_n 1, 1) := by decide +kernel
theorem dX8_findLeast_67 : decode cX8_findLeast 67 = .ok (.iload_n 2, 1) := by decide +kernel
theorem dX8_findLeast_68 : decode cX8_findLeast 68 = .ok (.iconst (-1), 1) := by decide +kernel
theorem dX8_findLeast_69 : decode cX8_findLeast 69 = .ok (.ixor, 1) := by decide +kernel
theorem dX8_findLeast_70 : decode cX8_findLeast 70 = .ok (.iand, 1) := by decide +kernel
theorem dX8_findLeast_71 : decode cX8_findLeast 71 = .ok (.istore_n 3, 1) := by decide +kernel
theorem dX8_findLeast_72 : decode cX8_findLeast 72 = .ok (.aload_n 0, 1) := by decide +kernel
theorem dX8_findLeast_73 : decode cX8_findLeast 73 = .ok (.iload_n 2, 1) := by decide +kernel
theorem dX8_findLeast_74 : decode cX8_findLeast 74 = .ok (.iload_n 1, 1) := by decide +kernel
theorem dX8_findLeast_75 : decode cX8_findLeast 75 = .ok (.invokevirtual 210, 3) := by decide +kernel
theorem dX8_findLeast_78 : decode cX8_findLeast 78 = .ok (.ifCond .eq 170, 3) := by decide +kernel
theorem dX8_findLeast_81 : decode cX8_findLeast 81 = .ok (.aload_n 0, 1) := by decide +kernel
theorem dX8_findLeast_82 : decode cX8_findLeast 82 = .ok (.getfield 46, 3) := by decide +kernel
theorem dX8_findLeast_85 : decode cX8_findLeast 85 = .ok (.iload_n 3, 1) := by decide +kernel
theorem dX8_findLeast_86 : decode cX8_findLeast 86 = .ok (.iaload, 1) := by decide +kernel
theorem dX8_findLeast_87 : decode cX8_findLeast 87 = .ok (.ldc 206, 2) := by decide +kernel
theorem dX8_findLeast_89 : decode cX8_findLeast 89 = .ok (.if_icmp .ge 159, 3) := by decide +kernel
theorem dX8_findLeast_92 : decode cX8_findLeast 92 = .ok (.aload_n 0, 1) := by decide +kernel
theorem dX8_findLeast_93 : decode cX8_findLeast 93 = .ok (.iload_n 2, 1) := by decide +kernel
theorem dX8_findLeast_94 : decode cX8_findLeast 94 = .ok (.invokevirtual 213, 3) := by decide +kernel
theorem dX8_findLeast_97 : decode cX8_findLeast 97 = .ok (.aload_n 0, 1) := by decide +kernel
theorem dX8_findLeast_98 : decode cX8_findLeast 98 = .ok (.getfield 46, 3) := by decide +kernel
theorem dX8_findLeast_101 : decode cX8_findLeast 101 = .ok (.iload_n 3, 1) := by decide +kernel
theorem dX8_findLeast_102 : decode cX8_findLeast 102 = .ok (.iaload, 1) := by decide +kernel
theorem dX8_findLeast_103 : decode cX8_findLeast 103 = .ok (.iadd, 1) := by decide +kernel
theorem dX8_findLeast_104 : decode cX8_findLeast 104 = .ok (.istore 4, 2) := by decide +kernel
theorem dX8_findLeast_106 : decode cX8_findLeast 106 = .ok (.aload_n 0, 1) := by decide +kernel
theorem dX8_findLeast_107 : decode cX8_findLeast 107 = .ok (.getfield 55, 3) := by decide +kernel
theorem dX8_findLeast_110 : decode cX8_findLeast 110 = .ok (.iload_n 2, 1) := by decide +kernel
theorem dX8_findLeast_111 : decode cX8_findLeast 111 = .ok (.iaload, 1) := by decide +kernel
theorem dX8_findLeast_112 : decode cX8_findLeast 112 = .ok (.aload_n 0, 1) := by decide +kernel
theorem dX8_findLeast_113 : decode cX8_findLeast 113 = .ok (.getfield 49, 3) := by decide +kernel
theorem dX8_findLeast_116 : decode cX8_findLeast 116 = .ok (.iload_n 3, 1) := by decide +kernel
theorem dX8_findLeast_117 : decode cX8_findLeast 117 = .ok (.iaload, 1) := by decide +kernel
theorem dX8_findLeast_118 : decode cX8_findLeast 118 = .ok (.iadd, 1) := by decide +kernel
theorem dX8_findLeast_119 : decode cX8_findLeast 119 = .ok (.istore 5, 2) := by decide +kernel
theorem dX8_findLeast_121 : decode cX8_findLeast 121 = .ok (.iload 4, 2) := by decide +kernel
theorem dX8_findLeast_123 : decode cX8_findLeast 123 = .ok (.aload_n 0, 1) := by decide +kernel
theorem dX8_findLeast_124 : decode cX8_findLeast 124 = .ok (.getfield 46, 3) := by decide +kernel
theorem dX8_findLeast_127 : decode cX8_findLeast 127 = .ok (.iload_n 1, 1) := by decide +kernel
theorem dX8_findLeast_128 : decode cX8_findLeast 128 = .ok (.iaload, 1) := by decide +kernel
theorem dX8_findLeast_129 : decode cX8_findLeast 129 = .ok (.if_icmp .lt 25, 3) := by decide +kernel
theorem dX8_findLeast_132 : decode cX8_findLeast 132 = .ok (.iload 4, 2) := by decide +kernel
theorem dX8_findLeast_134 : decode cX8_findLeast 134 = .ok (.aload_n 0, 1) := by decide +kernel
theorem dX8_findLeast_135 : decode cX8_findLeast 135 = .ok (.getfield 46, 3) := by decide +kernel
theorem dX8_findLeast_138 : decode cX8_findLeast 138 = .ok (.iload_n 1, 1) := by decide +kernel
theorem dX8_findLeast_139 : decode cX8_findLeast 139 = .ok (.iaload, 1) := by decide +kernel
theorem dX8_findLeast_140 : decode cX8_findLeast 140 = .ok (.if_icmp .ne 18, 3) := by decide +kernel
theorem dX8_findLeast_143 : decode cX8_findLeast 143 = .ok (.iload 5, 2) := by decide +kernel
theorem dX8_findLeast_145 : decode cX8_findLeast 145 = .ok (.aload_n 0, 1) := by decide +kernel
theorem dX8_findLeast_146 : decode cX8_findLeast 146 = .ok (.getfield 49, 3) := by decide +kernel
theorem dX8_findLeast_149 : decode cX8_findLeast 149 = .ok (.iload_n 1, 1) := by decide +kernel
theorem dX8_findLeast_150 : decode cX8_findLeast 150 = .ok (.iaload, 1) := by decide +kernel
theorem dX8_findLeast_151 : decode cX8_findLeast 151 = .ok (.if_icmp .ge 7, 3) := by decide +kernel
theorem dX8_findLeast_154 : decode cX8_findLeast 154 = .ok (.iconst 1, 1) := by decide +kernel
theorem dX8_findLeast_155 : decode cX8_findLeast 155 = .ok (.goto 4, 3) := by decide +kernel
theorem dX8_findLeast_158 : decode cX8_findLeast 158 = .ok (.iconst 0, 1) := by decide +kernel
theorem dX8_findLeast_159 : decode cX8_findLeast 159 = .ok (.istore 6, 2) := by decide +kernel
theorem dX8_findLeast_161 : decode cX8_findLeast 161 = .ok (.aload_n 0, 1) := by decide +kernel
theorem dX8_findLeast_162 : decode cX8_findLeast 162 = .ok (.getfield 46, 3) := by decide +kernel
theorem dX8_findLeast_165 : decode cX8_findLeast 165 = .ok (.iload_n 1, 1) := by decide +kernel
theorem dX8_findLeast_166 : decode cX8_findLeast 166 = .ok (.iload 6, 2) := by decide +kernel
theorem dX8_findLeast_168 : decode cX8_findLeast 168 = .ok (.ifCond .eq 8, 3) := by decide +kernel
theorem dX8_findLeast_171 : decode cX8_findLeast 171 = .ok (.iload 4, 2) := by decide +kernel
theorem dX8_findLeast_173 : decode cX8_findLeast 173 = .ok (.goto 9, 3) := by decide +kernel
theorem dX8_findLeast_176 : decode cX8_findLeast 176 = .ok (.aload_n 0, 1) := by decide +kernel
theorem dX8_findLeast_177 : decode cX8_findLeast 177 = .ok (.getfield 46, 3) := by decide +kernel
theorem dX8_findLeast_180 : decode cX8_findLeast 180 = .ok (.iload_n 1, 1) := by decide +kernel
theorem dX8_findLeast_181 : decode cX8_findLeast 181 = .ok (.iaload, 1) := by decide +kernel
theorem dX8_findLeast_182 : decode cX8_findLeast 182 = .ok (.iastore, 1) := by decide +kernel
theorem dX8_findLeast_183 : decode cX8_findLeast 183 = .ok (.aload_n 0, 1) := by decide +kernel
theorem dX8_findLeast_184 : decode cX8_findLeast 184 = .ok (.getfield 49, 3) := by decide +kernel
theorem dX8_findLeast_187 : decode cX8_findLeast 187 = .ok (.iload_n 1, 1) := by decide +kernel
theorem dX8_findLeast_188 : decode cX8_findLeast 188 = .ok (.iload 6, 2) := by decide +kernel
theorem dX8_findLeast_190 : decode cX8_findLeast 190 = .ok (.ifCond .eq 8, 3) := by decide +kernel
theorem dX8_findLeast_193 : decode cX8_findLeast 193 = .ok (.iload 5, 2) := by decide +kernel
theorem dX8_findLeast_195 : decode cX8_findLeast 195 = .ok (.goto 9, 3) := by decide +kernel
theorem dX8_findLeast_198 : decode cX8_findLeast 198 = .ok (.aload_n 0, 1) := by decide +kernel
theorem dX8_findLeast_199 : decode cX8_findLeast 199 = .ok (.getfield 49, 3) := by decide +kernel
theorem dX8_findLeast_202 : decode cX8_findLeast 202 = .ok (.iload_n 1, 1) := by decide +kernel
theorem dX8_findLeast_203 : decode cX8_findLeast 203 = .ok (.iaload, 1) := by decide +kernel
theorem dX8_findLeast_204 : decode cX8_findLeast 204 = .ok (.iastore, 1) := by decide +kernel
theorem dX8_findLeast_205 : decode cX8_findLeast 205 = .ok (.aload_n 0, 1) := by decide +kernel
theorem dX8_findLeast_206 : decode cX8_findLeast 206 = .ok (.getfield 55, 3) := by decide +kernel
theorem dX8_findLeast_209 : decode cX8_findLeast 209 = .ok (.iload_n 2, 1) := by decide +kernel
theorem dX8_findLeast_210 : decode cX8_findLeast 210 = .ok (.iaload, 1) := by decide +kernel
theorem dX8_findLeast_211 : decode cX8_findLeast 211 = .ok (.aload_n 0, 1) := by decide +kernel
theorem dX8_findLeast_212 : decode cX8_findLeast 212 = .ok (.getfield 52, 3) := by decide +kernel
theorem dX8_findLeast_215 : decode cX8_findLeast 215 = .ok (.iload_n 3, 1) := by decide +kernel
theorem dX8_findLeast_216 : decode cX8_findLeast 216 = .ok (.iaload, 1) := by decide +kernel
theorem dX8_findLeast_217 : decode cX8_findLeast 217 = .ok (.iadd, 1) := by decide +kernel
theorem dX8_findLeast_218 : decode cX8_findLeast 218 = .ok (.istore 7, 2) := by decide +kernel
theorem dX8_findLeast_220 : decode cX8_findLeast 220 = .ok (.aload_n 0, 1) := by decide +kernel
theorem dX8_findLeast_221 : decode cX8_findLeast 221 = .ok (.getfield 52, 3) := by decide +kernel
theorem dX8_findLeast_224 : decode cX8_findLeast 224 = .ok (.iload_n 1, 1) := by decide +kernel
theorem dX8_findLeast_225 : decode cX8_findLeast 225 = .ok (.iload 7, 2) := by decide +kernel
theorem dX8_findLeast_227 : decode cX8_findLeast 227 = .ok (.aload_n 0, 1) := by decide +kernel
theorem dX8_findLeast_228 : decode cX8_findLeast 228 = .ok (.getfield 52, 3) := by decide +kernel
theorem dX8_findLeast_231 : decode cX8_findLeast 231 = .ok (.iload_n 1, 1) := by decide +kernel
theorem dX8_findLeast_232 : decode cX8_findLeast 232 = .ok (.iaload, 1) := by decide +kernel
theorem dX8_findLeast_233 : decode cX8_findLeast 233 = .ok (.if_icmp .ge 8, 3) := by decide +kernel
theorem dX8_findLeast_236 : decode cX8_findLeast 236 = .ok (.iload 7, 2) := by decide +kernel
theorem dX8_findLeast_238 : decode cX8_findLeast 238 = .ok (.goto 9, 3) := by decide +kernel
theorem dX8_findLeast_241 : decode cX8_findLeast 241 = .ok (.aload_n 0, 1) := by decide +kernel
theorem dX8_findLeast_242 : decode cX8_findLeast 242 = .ok (.getfield 52, 3) := by decide +kernel
theorem dX8_findLeast_245 : decode cX8_findLeast 245 = .ok (.iload_n 1, 1) := by decide +kernel
theorem dX8_findLeast_246 : decode cX8_findLeast 246 = .ok (.iaload, 1) := by decide +kernel
theorem dX8_findLeast_247 : decode cX8_findLeast 247 = .ok (.iastore, 1) := by decide +kernel
theorem dX8_findLeast_248 : decode cX8_findLeast 248 = .ok (.iinc 2 1, 3) := by decide +kernel
theorem dX8_findLeast_251 : decode cX8_findLeast 251 = .ok (.goto (-190), 3) := by decide +kernel
theorem dX8_findLeast_254 : decode cX8_findLeast 254 = .ok (.iinc 1 1, 3) := by decide +kernel
end
section
theorem dX8_findLeast_257 : decode cX8_findLeast 257 = .ok (.goto (-230), 3) := by decide +kernel
theorem dX8_findLeast_260 : decode cX8_findLeast 260 = .ok (.return_, 1) := by decide +kernel
theorem dX8_layRow_0 : decode cX8_layRow 0 = .ok (.aload_n 0, 1) := by decide +kernel
theorem dX8_layRow_1 : decode cX8_layRow 1 = .ok (.invokevirtual 216, 3) := by decide +kernel
theorem dX8_layRow_4 : decode cX8_layRow 4 = .ok (.aload_n 0, 1) := by decide +kernel
theorem dX8_layRow_5 : decode cX8_layRow 5 = .ok (.iconst 0, 1) := by decide +kernel
theorem dX8_layRow_6 : decode cX8_layRow 6 = .ok (.putfield 219, 3) := by decide +kernel
theorem dX8_layRow_9 : decode cX8_layRow 9 = .ok (.aload_n 0, 1) := by decide +kernel
theorem dX8_layRow_10 : decode cX8_layRow 10 = .ok (.invokevirtual 78, 3) := by decide +kernel
theorem dX8_layRow_13 : decode cX8_layRow 13 = .ok (.istore_n 1, 1) := by decide +kernel
theorem dX8_layRow_14 : decode cX8_layRow 14 = .ok (.aload_n 0, 1) := by decide +kernel
theorem dX8_layRow_15 : decode cX8_layRow 15 = .ok (.getfield 46, 3) := by decide +kernel
theorem dX8_layRow_18 : decode cX8_layRow 18 = .ok (.iload_n 1, 1) := by decide +kernel
theorem dX8_layRow_19 : decode cX8_layRow 19 = .ok (.iaload, 1) := by decide +kernel
theorem dX8_layRow_20 : decode cX8_layRow 20 = .ok (.ldc 206, 2) := by decide +kernel
theorem dX8_layRow_22 : decode cX8_layRow 22 = .ok (.if_icmp .ne 5, 3) := by decide +kernel
theorem dX8_layRow_25 : decode cX8_layRow 25 = .ok (.iconst 0, 1) := by decide +kernel
theorem dX8_layRow_26 : decode cX8_layRow 26 = .ok (.ireturn, 1) := by decide +kernel
theorem dX8_layRow_27 : decode cX8_layRow 27 = .ok (.iload_n 1, 1) := by decide +kernel
theorem dX8_layRow_28 : decode cX8_layRow 28 = .ok (.ifCond .eq 49, 3) := by decide +kernel
theorem dX8_layRow_31 : decode cX8_layRow 31 = .ok (.iconst 1, 1) := by decide +kernel
theorem dX8_layRow_32 : decode cX8_layRow 32 = .ok (.istore_n 2, 1) := by decide +kernel
theorem dX8_layRow_33 : decode cX8_layRow 33 = .ok (.aload_n 0, 1) := by decide +kernel
theorem dX8_layRow_34 : decode cX8_layRow 34 = .ok (.iload_n 2, 1) := by decide +kernel
theorem dX8_layRow_35 : decode cX8_layRow 35 = .ok (.iload_n 1, 1) := by decide +kernel
theorem dX8_layRow_36 : decode cX8_layRow 36 = .ok (.invokevirtual 222, 3) := by decide +kernel
theorem dX8_layRow_39 : decode cX8_layRow 39 = .ok (.ifCond .ne 9, 3) := by decide +kernel
theorem dX8_layRow_42 : decode cX8_layRow 42 = .ok (.iinc 2 1, 3) := by decide +kernel
theorem dX8_layRow_45 : decode cX8_layRow 45 = .ok (.goto (-12), 3) := by decide +kernel
theorem dX8_layRow_48 : decode cX8_layRow 48 = .ok (.aload_n 0, 1) := by decide +kernel
theorem dX8_layRow_49 : decode cX8_layRow 49 = .ok (.getfield 58, 3) := by decide +kernel
theorem dX8_layRow_52 : decode cX8_layRow 52 = .ok (.aload_n 0, 1) := by decide +kernel
theorem dX8_layRow_53 : decode cX8_layRow 53 = .ok (.getfield 219, 3) := by decide +kernel
theorem dX8_layRow_56 : decode cX8_layRow 56 = .ok (.iload_n 2, 1) := by decide +kernel
theorem dX8_layRow_57 : decode cX8_layRow 57 = .ok (.iastore, 1) := by decide +kernel
theorem dX8_layRow_58 : decode cX8_layRow 58 = .ok (.aload_n 0, 1) := by decide +kernel
theorem dX8_layRow_59 : decode cX8_layRow 59 = .ok (.dup, 1) := by decide +kernel
theorem dX8_layRow_60 : decode cX8_layRow 60 = .ok (.getfield 219, 3) := by decide +kernel
theorem dX8_layRow_63 : decode cX8_layRow 63 = .ok (.iconst 1, 1) := by decide +kernel
theorem dX8_layRow_64 : decode cX8_layRow 64 = .ok (.iadd, 1) := by decide +kernel
theorem dX8_layRow_65 : decode cX8_layRow 65 = .ok (.putfield 219, 3) := by decide +kernel
theorem dX8_layRow_68 : decode cX8_layRow 68 = .ok (.iload_n 1, 1) := by decide +kernel
theorem dX8_layRow_69 : decode cX8_layRow 69 = .ok (.iload_n 2, 1) := by decide +kernel
theorem dX8_layRow_70 : decode cX8_layRow 70 = .ok (.iconst (-1), 1) := by decide +kernel
theorem dX8_layRow_71 : decode cX8_layRow 71 = .ok (.ixor, 1) := by decide +kernel
theorem dX8_layRow_72 : decode cX8_layRow 72 = .ok (.iand, 1) := by decide +kernel
theorem dX8_layRow_73 : decode cX8_layRow 73 = .ok (.istore_n 1, 1) := by decide +kernel
theorem dX8_layRow_74 : decode cX8_layRow 74 = .ok (.goto (-47), 3) := by decide +kernel
theorem dX8_layRow_77 : decode cX8_layRow 77 = .ok (.iconst 1, 1) := by decide +kernel
theorem dX8_layRow_78 : decode cX8_layRow 78 = .ok (.ireturn, 1) := by decide +kernel
theorem dX8_isNext_0 : decode cX8_isNext 0 = .ok (.iload_n 2, 1) := by decide +kernel
theorem dX8_isNext_1 : decode cX8_isNext 1 = .ok (.iload_n 1, 1) := by decide +kernel
theorem dX8_isNext_2 : decode cX8_isNext 2 = .ok (.iconst (-1), 1) := by decide +kernel
theorem dX8_isNext_3 : decode cX8_isNext 3 = .ok (.ixor, 1) := by decide +kernel
theorem dX8_isNext_4 : decode cX8_isNext 4 = .ok (.iand, 1) := by decide +kernel
theorem dX8_isNext_5 : decode cX8_isNext 5 = .ok (.istore_n 3, 1) := by decide +kernel
theorem dX8_isNext_6 : decode cX8_isNext 6 = .ok (.aload_n 0, 1) := by decide +kernel
theorem dX8_isNext_7 : decode cX8_isNext 7 = .ok (.iload_n 1, 1) := by decide +kernel
theorem dX8_isNext_8 : decode cX8_isNext 8 = .ok (.iload_n 2, 1) := by decide +kernel
theorem dX8_isNext_9 : decode cX8_isNext 9 = .ok (.invokevirtual 210, 3) := by decide +kernel
theorem dX8_isNext_12 : decode cX8_isNext 12 = .ok (.ifCond .eq 50, 3) := by decide +kernel
theorem dX8_isNext_15 : decode cX8_isNext 15 = .ok (.aload_n 0, 1) := by decide +kernel
theorem dX8_isNext_16 : decode cX8_isNext 16 = .ok (.iload_n 1, 1) := by decide +kernel
theorem dX8_isNext_17 : decode cX8_isNext 17 = .ok (.invokevirtual 213, 3) := by decide +kernel
theorem dX8_isNext_20 : decode cX8_isNext 20 = .ok (.aload_n 0, 1) := by decide +kernel
theorem dX8_isNext_21 : decode cX8_isNext 21 = .ok (.getfield 46, 3) := by decide +kernel
theorem dX8_isNext_24 : decode cX8_isNext 24 = .ok (.iload_n 3, 1) := by decide +kernel
theorem dX8_isNext_25 : decode cX8_isNext 25 = .ok (.iaload, 1) := by decide +kernel
theorem dX8_isNext_26 : decode cX8_isNext 26 = .ok (.iadd, 1) := by decide +kernel
theorem dX8_isNext_27 : decode cX8_isNext 27 = .ok (.aload_n 0, 1) := by decide +kernel
theorem dX8_isNext_28 : decode cX8_isNext 28 = .ok (.getfield 46, 3) := by decide +kernel
theorem dX8_isNext_31 : decode cX8_isNext 31 = .ok (.iload_n 2, 1) := by decide +kernel
theorem dX8_isNext_32 : decode cX8_isNext 32 = .ok (.iaload, 1) := by decide +kernel
theorem dX8_isNext_33 : decode cX8_isNext 33 = .ok (.if_icmp .ne 29, 3) := by decide +kernel
theorem dX8_isNext_36 : decode cX8_isNext 36 = .ok (.aload_n 0, 1) := by decide +kernel
theorem dX8_isNext_37 : decode cX8_isNext 37 = .ok (.getfield 55, 3) := by decide +kernel
theorem dX8_isNext_40 : decode cX8_isNext 40 = .ok (.iload_n 1, 1) := by decide +kernel
theorem dX8_isNext_41 : decode cX8_isNext 41 = .ok (.iaload, 1) := by decide +kernel
theorem dX8_isNext_42 : decode cX8_isNext 42 = .ok (.aload_n 0, 1) := by decide +kernel
theorem dX8_isNext_43 : decode cX8_isNext 43 = .ok (.getfield 49, 3) := by decide +kernel
theorem dX8_isNext_46 : decode cX8_isNext 46 = .ok (.iload_n 3, 1) := by decide +kernel
theorem dX8_isNext_47 : decode cX8_isNext 47 = .ok (.iaload, 1) := by decide +kernel
theorem dX8_isNext_48 : decode cX8_isNext 48 = .ok (.iadd, 1) := by decide +kernel
theorem dX8_isNext_49 : decode cX8_isNext 49 = .ok (.aload_n 0, 1) := by decide +kernel
theorem dX8_isNext_50 : decode cX8_isNext 50 = .ok (.getfield 49, 3) := by decide +kernel
theorem dX8_isNext_53 : decode cX8_isNext 53 = .ok (.iload_n 2, 1) := by decide +kernel
theorem dX8_isNext_54 : decode cX8_isNext 54 = .ok (.iaload, 1) := by decide +kernel
theorem dX8_isNext_55 : decode cX8_isNext 55 = .ok (.if_icmp .ne 7, 3) := by decide +kernel
theorem dX8_isNext_58 : decode cX8_isNext 58 = .ok (.iconst 1, 1) := by decide +kernel
theorem dX8_isNext_59 : decode cX8_isNext 59 = .ok (.goto 4, 3) := by decide +kernel
theorem dX8_isNext_62 : decode cX8_isNext 62 = .ok (.iconst 0, 1) := by decide +kernel
theorem dX8_isNext_63 : decode cX8_isNext 63 = .ok (.ireturn, 1) := by decide +kernel
theorem dX8_least_0 : decode cX8_least 0 = .ok (.iload_n 1, 1) := by decide +kernel
theorem dX8_least_1 : decode cX8_least 1 = .ok (.i2l, 1) := by decide +kernel
theorem dX8_least_2 : decode cX8_least 2 = .ok (.lconst 0, 1) := by decide +kernel
theorem dX8_least_3 : decode cX8_least 3 = .ok (.ldc2_w 225, 3) := by decide +kernel
theorem dX8_least_6 : decode cX8_least 6 = .ok (.invokestatic 74, 3) := by decide +kernel
theorem dX8_least_9 : decode cX8_least 9 = .ok (.ifCond .ne 10, 3) := by decide +kernel
theorem dX8_least_12 : decode cX8_least 12 = .ok (.aload_n 0, 1) := by decide +kernel
theorem dX8_least_13 : decode cX8_least 13 = .ok (.bipush (-2), 2) := by decide +kernel
theorem dX8_least_15 : decode cX8_least 15 = .ok (.invokevirtual 87, 3) := by decide +kernel
theorem dX8_least_18 : decode cX8_least 18 = .ok (.ireturn, 1) := by decide +kernel
theorem dX8_least_19 : decode cX8_least 19 = .ok (.aload_n 0, 1) := by decide +kernel
theorem dX8_least_20 : decode cX8_least 20 = .ok (.invokevirtual 227, 3) := by decide +kernel
theorem dX8_least_23 : decode cX8_least 23 = .ok (.ifCond .ne 5, 3) := by decide +kernel
theorem dX8_least_26 : decode cX8_least 26 = .ok (.iconst (-1), 1) := by decide +kernel
theorem dX8_least_27 : decode cX8_least 27 = .ok (.ireturn, 1) := by decide +kernel
theorem dX8_least_28 : decode cX8_least 28 = .ok (.iload_n 1, 1) := by decide +kernel
theorem dX8_least_29 : decode cX8_least 29 = .ok (.ifCond .ne 15, 3) := by decide +kernel
theorem dX8_least_32 : decode cX8_least 32 = .ok (.aload_n 0, 1) := by decide +kernel
theorem dX8_least_33 : decode cX8_least 33 = .ok (.getfield 46, 3) := by decide +kernel
theorem dX8_least_36 : decode cX8_least 36 = .ok (.aload_n 0, 1) := by decide +kernel
theorem dX8_least_37 : decode cX8_least 37 = .ok (.invokevirtual 78, 3) := by decide +kernel
theorem dX8_least_40 : decode cX8_least 40 = .ok (.iaload, 1) := by decide +kernel
theorem dX8_least_41 : decode cX8_least 41 = .ok (.goto 41, 3) := by decide +kernel
theorem dX8_least_44 : decode cX8_least 44 = .ok (.iload_n 1, 1) := by decide +kernel
theorem dX8_least_45 : decode cX8_least 45 = .ok (.iconst 1, 1) := by decide +kernel
theorem dX8_least_46 : decode cX8_least 46 = .ok (.if_icmp .ne 15, 3) := by decide +kernel
theorem dX8_least_49 : decode cX8_least 49 = .ok (.aload_n 0, 1) := by decide +kernel
theorem dX8_least_50 : decode cX8_least 50 = .ok (.getfield 49, 3) := by decide +kernel
theorem dX8_least_53 : decode cX8_least 53 = .ok (.aload_n 0, 1) := by decide +kernel
theorem dX8_least_54 : decode cX8_least 54 = .ok (.invokevirtual 78, 3) := by decide +kernel
theorem dX8_least_57 : decode cX8_least 57 = .ok (.iaload, 1) := by decide +kernel
theorem dX8_least_58 : decode cX8_least 58 = .ok (.goto 24, 3) := by decide +kernel
theorem dX8_least_61 : decode cX8_least 61 = .ok (.iload_n 1, 1) := by decide +kernel
theorem dX8_least_62 : decode cX8_least 62 = .ok (.iconst 2, 1) := by decide +kernel
theorem dX8_least_63 : decode cX8_least 63 = .ok (.if_icmp .ne 10, 3) := by decide +kernel
theorem dX8_least_66 : decode cX8_least 66 = .ok (.aload_n 0, 1) := by decide +kernel
theorem dX8_least_67 : decode cX8_least 67 = .ok (.getfield 219, 3) := by decide +kernel
theorem dX8_least_70 : decode cX8_least 70 = .ok (.goto 12, 3) := by decide +kernel
theorem dX8_least_73 : decode cX8_least 73 = .ok (.aload_n 0, 1) := by decide +kernel
theorem dX8_least_74 : decode cX8_least 74 = .ok (.getfield 52, 3) := by decide +kernel
theorem dX8_least_77 : decode cX8_least 77 = .ok (.aload_n 0, 1) := by decide +kernel
theorem dX8_least_78 : decode cX8_least 78 = .ok (.invokevirtual 78, 3) := by decide +kernel
theorem dX8_least_81 : decode cX8_least 81 = .ok (.iaload, 1) := by decide +kernel
theorem dX8_least_82 : decode cX8_least 82 = .ok (.ireturn, 1) := by decide +kernel
theorem dX8_row_0 : decode cX8_row 0 = .ok (.iload_n 1, 1) := by decide +kernel
theorem dX8_row_1 : decode cX8_row 1 = .ok (.ifCond .ge 10, 3) := by decide +kernel
theorem dX8_row_4 : decode cX8_row 4 = .ok (.aload_n 0, 1) := by decide +kernel
theorem dX8_row_5 : decode cX8_row 5 = .ok (.bipush (-10), 2) := by decide +kernel
theorem dX8_row_7 : decode cX8_row 7 = .ok (.invokevirtual 87, 3) := by decide +kernel
theorem dX8_row_10 : decode cX8_row 10 = .ok (.ireturn, 1) := by decide +kernel
theorem dX8_row_11 : decode cX8_row 11 = .ok (.aload_n 0, 1) := by decide +kernel
theorem dX8_row_12 : decode cX8_row 12 = .ok (.invokevirtual 227, 3) := by decide +kernel
theorem dX8_row_15 : decode cX8_row 15 = .ok (.ifCond .eq 11, 3) := by decide +kernel
theorem dX8_row_18 : decode cX8_row 18 = .ok (.iload_n 1, 1) := by decide +kernel
theorem dX8_row_19 : decode cX8_row 19 = .ok (.aload_n 0, 1) := by decide +kernel
theorem dX8_row_20 : decode cX8_row 20 = .ok (.getfield 219, 3) := by decide +kernel
theorem dX8_row_23 : decode cX8_row 23 = .ok (.if_icmp .lt 6, 3) := by decide +kernel
theorem dX8_row_26 : decode cX8_row 26 = .ok (.bipush (-5), 2) := by decide +kernel
theorem dX8_row_28 : decode cX8_row 28 = .ok (.ireturn, 1) := by decide +kernel
theorem dX8_row_29 : decode cX8_row 29 = .ok (.aload_n 0, 1) := by decide +kernel
theorem dX8_row_30 : decode cX8_row 30 = .ok (.getfield 58, 3) := by decide +kernel
theorem dX8_row_33 : decode cX8_row 33 = .ok (.iload_n 1, 1) := by decide +kernel
theorem dX8_row_34 : decode cX8_row 34 = .ok (.iaload, 1) := by decide +kernel
theorem dX8_row_35 : decode cX8_row 35 = .ok (.aload_n 0, 1) := by decide +kernel
theorem dX8_row_36 : decode cX8_row 36 = .ok (.aload_n 0, 1) := by decide +kernel
theorem dX8_row_37 : decode cX8_row 37 = .ok (.getfield 58, 3) := by decide +kernel
theorem dX8_row_40 : decode cX8_row 40 = .ok (.iload_n 1, 1) := by decide +kernel
theorem dX8_row_41 : decode cX8_row 41 = .ok (.iaload, 1) := by decide +kernel
theorem dX8_row_42 : decode cX8_row 42 = .ok (.iconst 0, 1) := by decide +kernel
theorem dX8_row_43 : decode cX8_row 43 = .ok (.iconst 0, 1) := by decide +kernel
theorem dX8_row_44 : decode cX8_row 44 = .ok (.invokevirtual 175, 3) := by decide +kernel
theorem dX8_row_47 : decode cX8_row 47 = .ok (.ifCond .eq 7, 3) := by decide +kernel
theorem dX8_row_50 : decode cX8_row 50 = .ok (.iconst 0, 1) := by decide +kernel
theorem dX8_row_51 : decode cX8_row 51 = .ok (.goto 6, 3) := by decide +kernel
theorem dX8_row_54 : decode cX8_row 54 = .ok (.sipush 256, 3) := by decide +kernel
theorem dX8_row_57 : decode cX8_row 57 = .ok (.iadd, 1) := by decide +kernel
theorem dX8_row_58 : decode cX8_row 58 = .ok (.ireturn, 1) := by decide +kernel
theorem dX8_toll_0 : decode cX8_toll 0 = .ok (.iload_n 1, 1) := by decide +kernel
theorem dX8_toll_1 : decode cX8_toll 1 = .ok (.i2l, 1) := by decide +kernel
theorem dX8_toll_2 : decode cX8_toll 2 = .ok (.lconst 0, 1) := by decide +kernel
theorem dX8_toll_3 : decode cX8_toll 3 = .ok (.ldc2_w 83, 3) := by decide +kernel
theorem dX8_toll_6 : decode cX8_toll 6 = .ok (.invokestatic 74, 3) := by decide +kernel
theorem dX8_toll_9 : decode cX8_toll 9 = .ok (.ifCond .eq 15, 3) := by decide +kernel
theorem dX8_toll_12 : decode cX8_toll 12 = .ok (.iload_n 2, 1) := by decide +kernel
theorem dX8_toll_13 : decode cX8_toll 13 = .ok (.i2l, 1) := by decide +kernel
theorem dX8_toll_14 : decode cX8_toll 14 = .ok (.lconst 0, 1) := by decide +kernel
theorem dX8_toll_15 : decode cX8_toll 15 = .ok (.ldc2_w 230, 3) := by decide +kernel
theorem dX8_toll_18 : decode cX8_toll 18 = .ok (.invokestatic 74, 3) := by decide +kernel
theorem dX8_toll_21 : decode cX8_toll 21 = .ok (.ifCond .ne 10, 3) := by decide +kernel
theorem dX8_toll_24 : decode cX8_toll 24 = .ok (.aload_n 0, 1) := by decide +kernel
theorem dX8_toll_25 : decode cX8_toll 25 = .ok (.bipush (-2), 2) := by decide +kernel
theorem dX8_toll_27 : decode cX8_toll 27 = .ok (.invokevirtual 87, 3) := by decide +kernel
theorem dX8_toll_30 : decode cX8_toll 30 = .ok (.ireturn, 1) := by decide +kernel
theorem dX8_toll_31 : decode cX8_toll 31 = .ok (.aload_n 0, 1) := by decide +kernel
theorem dX8_toll_32 : decode cX8_toll 32 = .ok (.invokevirtual 227, 3) := by decide +kernel
theorem dX8_toll_35 : decode cX8_toll 35 = .ok (.ifCond .ne 8, 3) := by decide +kernel
theorem dX8_toll_38 : decode cX8_toll 38 = .ok (.aload_n 0, 1) := by decide +kernel
theorem dX8_toll_39 : decode cX8_toll 39 = .ok (.invokevirtual 232, 3) := by decide +kernel
theorem dX8_toll_42 : decode cX8_toll 42 = .ok (.ireturn, 1) := by decide +kernel
theorem dX8_toll_43 : decode cX8_toll 43 = .ok (.lconst 0, 1) := by decide +kernel
theorem dX8_toll_44 : decode cX8_toll 44 = .ok (.lstore_n 3, 1) := by decide +kernel
theorem dX8_toll_45 : decode cX8_toll 45 = .ok (.lconst 1, 1) := by decide +kernel
theorem dX8_toll_46 : decode cX8_toll 46 = .ok (.lstore 5, 2) := by decide +kernel
theorem dX8_toll_48 : decode cX8_toll 48 = .ok (.lconst 1, 1) := by decide +kernel
theorem dX8_toll_49 : decode cX8_toll 49 = .ok (.lstore 7, 2) := by decide +kernel
theorem dX8_toll_51 : decode cX8_toll 51 = .ok (.iconst 0, 1) := by decide +kernel
theorem dX8_toll_52 : decode cX8_toll 52 = .ok (.istore 9, 2) := by decide +kernel
theorem dX8_toll_54 : decode cX8_toll 54 = .ok (.iload 9, 2) := by decide +kernel
theorem dX8_toll_56 : decode cX8_toll 56 = .ok (.aload_n 0, 1) := by decide +kernel
theorem dX8_toll_57 : decode cX8_toll 57 = .ok (.getfield 219, 3) := by decide +kernel
theorem dX8_toll_60 : decode cX8_toll 60 = .ok (.if_icmp .gt 108, 3) := by decide +kernel
theorem dX8_toll_63 : decode cX8_toll 63 = .ok (.lload 5, 2) := by decide +kernel
theorem dX8_toll_65 : decode cX8_toll 65 = .ok (.lstore 10, 2) := by decide +kernel
theorem dX8_toll_67 : decode cX8_toll 67 = .ok (.iconst 0, 1) := by decide +kernel
theorem dX8_toll_68 : decode cX8_toll 68 = .ok (.istore 12, 2) := by decide +kernel
theorem dX8_toll_70 : decode cX8_toll 70 = .ok (.iload 12, 2) := by decide +kernel
theorem dX8_toll_72 : decode cX8_toll 72 = .ok (.aload_n 0, 1) := by decide +kernel
theorem dX8_toll_73 : decode cX8_toll 73 = .ok (.getfield 219, 3) := by decide +kernel
theorem dX8_toll_76 : decode cX8_toll 76 = .ok (.if_icmp .ge 31, 3) := by decide +kernel
theorem dX8_toll_79 : decode cX8_toll 79 = .ok (.lload 10, 2) := by decide +kernel
theorem dX8_toll_81 : decode cX8_toll 81 = .ok (.iload 12, 2) := by decide +kernel
theorem dX8_toll_83 : decode cX8_toll 83 = .ok (.iload 9, 2) := by decide +kernel
theorem dX8_toll_85 : decode cX8_toll 85 = .ok (.if_icmp .ge 8, 3) := by decide +kernel
theorem dX8_toll_88 : decode cX8_toll 88 = .ok (.iload_n 1, 1) := by decide +kernel
theorem dX8_toll_89 : decode cX8_toll 89 = .ok (.i2l, 1) := by decide +kernel
theorem dX8_toll_90 : decode cX8_toll 90 = .ok (.goto 8, 3) := by decide +kernel
theorem dX8_toll_93 : decode cX8_toll 93 = .ok (.bipush 20, 2) := by decide +kernel
theorem dX8_toll_95 : decode cX8_toll 95 = .ok (.iload_n 1, 1) := by decide +kernel
theorem dX8_toll_96 : decode cX8_toll 96 = .ok (.isub, 1) := by decide +kernel
theorem dX8_toll_97 : decode cX8_toll 97 = .ok (.i2l, 1) := by decide +kernel
theorem dX8_toll_98 : decode cX8_toll 98 = .ok (.lmul, 1) := by decide +kernel
theorem dX8_toll_99 : decode cX8_toll 99 = .ok (.lstore 10, 2) := by decide +kernel
theorem dX8_toll_101 : decode cX8_toll 101 = .ok (.iinc 12 1, 3) := by decide +kernel
theorem dX8_toll_104 : decode cX8_toll 104 = .ok (.goto (-34), 3) := by decide +kernel
theorem dX8_toll_107 : decode cX8_toll 107 = .ok (.lload_n 3, 1) := by decide +kernel
theorem dX8_toll_108 : decode cX8_toll 108 = .ok (.iload 9, 2) := by decide +kernel
theorem dX8_toll_110 : decode cX8_toll 110 = .ok (.iload_n 2, 1) := by decide +kernel
theorem dX8_toll_111 : decode cX8_toll 111 = .ok (.if_icmp .gt 8, 3) := by decide +kernel
theorem dX8_toll_114 : decode cX8_toll 114 = .ok (.lload 10, 2) := by decide +kernel
theorem dX8_toll_116 : decode cX8_toll 116 = .ok (.goto 4, 3) := by decide +kernel
theorem dX8_toll_119 : decode cX8_toll 119 = .ok (.lconst 0, 1) := by decide +kernel
theorem dX8_toll_120 : decode cX8_toll 120 = .ok (.ladd, 1) := by decide +kernel
theorem dX8_toll_121 : decode cX8_toll 121 = .ok (.lstore_n 3, 1) := by decide +kernel
theorem dX8_toll_122 : decode cX8_toll 122 = .ok (.lload 5, 2) := by decide +kernel
theorem dX8_toll_124 : decode cX8_toll 124 = .ok (.aload_n 0, 1) := by decide +kernel
theorem dX8_toll_125 : decode cX8_toll 125 = .ok (.getfield 219, 3) := by decide +kernel
theorem dX8_toll_128 : decode cX8_toll 128 = .ok (.iload 9, 2) := by decide +kernel
theorem dX8_toll_130 : decode cX8_toll 130 = .ok (.isub, 1) := by decide +kernel
theorem dX8_toll_131 : decode cX8_toll 131 = .ok (.i2l, 1) := by decide +kernel
theorem dX8_toll_132 : decode cX8_toll 132 = .ok (.lmul, 1) := by decide +kernel
theorem dX8_toll_133 : decode cX8_toll 133 = .ok (.iload 9, 2) := by decide +kernel
theorem dX8_toll_135 : decode cX8_toll 135 = .ok (.iconst 1, 1) := by decide +kernel
theorem dX8_toll_136 : decode cX8_toll 136 = .ok (.iadd, 1) := by decide +kernel
theorem dX8_toll_137 : decode cX8_toll 137 = .ok (.i2l, 1) := by decide +kernel
theorem dX8_toll_138 : decode cX8_toll 138 = .ok (.ldiv, 1) := by decide +kernel
theorem dX8_toll_139 : decode cX8_toll 139 = .ok (.lstore 5, 2) := by decide +kernel
theorem dX8_toll_141 : decode cX8_toll 141 = .ok (.lload 7, 2) := by decide +kernel
theorem dX8_toll_143 : decode cX8_toll 143 = .ok (.iload 9, 2) := by decide +kernel
theorem dX8_toll_145 : decode cX8_toll 145 = .ok (.aload_n 0, 1) := by decide +kernel
theorem dX8_toll_146 : decode cX8_toll 146 = .ok (.getfield 219, 3) := by decide +kernel
theorem dX8_toll_149 : decode cX8_toll 149 = .ok (.if_icmp .ge 9, 3) := by decide +kernel
theorem dX8_toll_152 : decode cX8_toll 152 = .ok (.ldc2_w 83, 3) := by decide +kernel
theorem dX8_toll_155 : decode cX8_toll 155 = .ok (.goto 4, 3) := by decide +kernel
theorem dX8_toll_158 : decode cX8_toll 158 = .ok (.lconst 1, 1) := by decide +kernel
theorem dX8_toll_159 : decode cX8_toll 159 = .ok (.lmul, 1) := by decide +kernel
theorem dX8_toll_160 : decode cX8_toll 160 = .ok (.lstore 7, 2) := by decide +kernel
theorem dX8_toll_162 : decode cX8_toll 162 = .ok (.iinc 9 1, 3) := by decide +kernel
theorem dX8_toll_165 : decode cX8_toll 165 = .ok (.goto (-111), 3) := by decide +kernel
theorem dX8_toll_168 : decode cX8_toll 168 = .ok (.aload_n 0, 1) := by decide +kernel
theorem dX8_toll_169 : decode cX8_toll 169 = .ok (.lload_n 3, 1) := by decide +kernel
theorem dX8_toll_170 : decode cX8_toll 170 = .ok (.lload 7, 2) := by decide +kernel
theorem dX8_toll_172 : decode cX8_toll 172 = .ok (.invokevirtual 235, 3) := by decide +kernel
theorem dX8_toll_175 : decode cX8_toll 175 = .ok (.ireturn, 1) := by decide +kernel
theorem dX8_doubt_0 : decode cX8_doubt 0 = .ok (.aload_n 0, 1) := by decide +kernel
theorem dX8_doubt_1 : decode cX8_doubt 1 = .ok (.iload_n 1, 1) := by decide +kernel
theorem dX8_doubt_2 : decode cX8_doubt 2 = .ok (.invokevirtual 203, 3) := by decide +kernel
theorem dX8_doubt_5 : decode cX8_doubt 5 = .ok (.ifCond .eq 15, 3) := by decide +kernel
theorem dX8_doubt_8 : decode cX8_doubt 8 = .ok (.iload_n 2, 1) := by decide +kernel
theorem dX8_doubt_9 : decode cX8_doubt 9 = .ok (.i2l, 1) := by decide +kernel
theorem dX8_doubt_10 : decode cX8_doubt 10 = .ok (.lconst 0, 1) := by decide +kernel
theorem dX8_doubt_11 : decode cX8_doubt 11 = .ok (.ldc2_w 146, 3) := by decide +kernel
theorem dX8_doubt_14 : decode cX8_doubt 14 = .ok (.invokestatic 74, 3) := by decide +kernel
theorem dX8_doubt_17 : decode cX8_doubt 17 = .ok (.ifCond .ne 10, 3) := by decide +kernel
theorem dX8_doubt_20 : decode cX8_doubt 20 = .ok (.aload_n 0, 1) := by decide +kernel
theorem dX8_doubt_21 : decode cX8_doubt 21 = .ok (.bipush (-2), 2) := by decide +kernel
theorem dX8_doubt_23 : decode cX8_doubt 23 = .ok (.invokevirtual 87, 3) := by decide +kernel
theorem dX8_doubt_26 : decode cX8_doubt 26 = .ok (.ireturn, 1) := by decide +kernel
theorem dX8_doubt_27 : decode cX8_doubt 27 = .ok (.aload_n 0, 1) := by decide +kernel
theorem dX8_doubt_28 : decode cX8_doubt 28 = .ok (.iload_n 1, 1) := by decide +kernel
theorem dX8_doubt_29 : decode cX8_doubt 29 = .ok (.iconst 3, 1) := by decide +kernel
theorem dX8_doubt_30 : decode cX8_doubt 30 = .ok (.invokevirtual 96, 3) := by decide +kernel
theorem dX8_doubt_33 : decode cX8_doubt 33 = .ok (.istore_n 3, 1) := by decide +kernel
theorem dX8_doubt_34 : decode cX8_doubt 34 = .ok (.aload_n 0, 1) := by decide +kernel
theorem dX8_doubt_35 : decode cX8_doubt 35 = .ok (.getfield 7, 3) := by decide +kernel
theorem dX8_doubt_38 : decode cX8_doubt 38 = .ok (.iconst 0, 1) := by decide +kernel
theorem dX8_doubt_39 : decode cX8_doubt 39 = .ok (.iconst 4, 1) := by decide +kernel
theorem dX8_doubt_40 : decode cX8_doubt 40 = .ok (.iload_n 1, 1) := by decide +kernel
theorem dX8_doubt_41 : decode cX8_doubt 41 = .ok (.imul, 1) := by decide +kernel
theorem dX8_doubt_42 : decode cX8_doubt 42 = .ok (.iadd, 1) := by decide +kernel
theorem dX8_doubt_43 : decode cX8_doubt 43 = .ok (.iconst 3, 1) := by decide +kernel
theorem dX8_doubt_44 : decode cX8_doubt 44 = .ok (.iadd, 1) := by decide +kernel
theorem dX8_doubt_45 : decode cX8_doubt 45 = .ok (.iload_n 2, 1) := by decide +kernel
theorem dX8_doubt_46 : decode cX8_doubt 46 = .ok (.iastore, 1) := by decide +kernel
theorem dX8_doubt_47 : decode cX8_doubt 47 = .ok (.iload_n 3, 1) := by decide +kernel
theorem dX8_doubt_48 : decode cX8_doubt 48 = .ok (.ireturn, 1) := by decide +kernel
theorem dX8_odd_0 : decode cX8_odd 0 = .ok (.aload_n 0, 1) := by decide +kernel
theorem dX8_odd_1 : decode cX8_odd 1 = .ok (.iload_n 1, 1) := by decide +kernel
theorem dX8_odd_2 : decode cX8_odd 2 = .ok (.invokevirtual 103, 3) := by decide +kernel
theorem dX8_odd_5 : decode cX8_odd 5 = .ok (.ifCond .ne 10, 3) := by decide +kernel
theorem dX8_odd_8 : decode cX8_odd 8 = .ok (.aload_n 0, 1) := by decide +kernel
theorem dX8_odd_9 : decode cX8_odd 9 = .ok (.bipush (-2), 2) := by decide +kernel
theorem dX8_odd_11 : decode cX8_odd 11 = .ok (.invokevirtual 87, 3) := by decide +kernel
theorem dX8_odd_14 : decode cX8_odd 14 = .ok (.ireturn, 1) := by decide +kernel
theorem dX8_odd_15 : decode cX8_odd 15 = .ok (.lconst 0, 1) := by decide +kernel
theorem dX8_odd_16 : decode cX8_odd 16 = .ok (.lstore_n 2, 1) := by decide +kernel
theorem dX8_odd_17 : decode cX8_odd 17 = .ok (.lconst 1, 1) := by decide +kernel
theorem dX8_odd_18 : decode cX8_odd 18 = .ok (.lstore 4, 2) := by decide +kernel
theorem dX8_odd_20 : decode cX8_odd 20 = .ok (.iconst 0, 1) := by decide +kernel
theorem dX8_odd_21 : decode cX8_odd 21 = .ok (.istore 6, 2) := by decide +kernel
theorem dX8_odd_23 : decode cX8_odd 23 = .ok (.iload 6, 2) := by decide +kernel
theorem dX8_odd_25 : decode cX8_odd 25 = .ok (.aload_n 0, 1) := by decide +kernel
theorem dX8_odd_26 : decode cX8_odd 26 = .ok (.invokevirtual 70, 3) := by decide +kernel
theorem dX8_odd_29 : decode cX8_odd 29 = .ok (.if_icmp .ge 65, 3) := by decide +kernel
theorem dX8_odd_32 : decode cX8_odd 32 = .ok (.iload_n 1, 1) := by decide +kernel
theorem dX8_odd_33 : decode cX8_odd 33 = .ok (.iload 6, 2) := by decide +kernel
theorem dX8_odd_35 : decode cX8_odd 35 = .ok (.ishr, 1) := by decide +kernel
theorem dX8_odd_36 : decode cX8_odd 36 = .ok (.iconst 1, 1) := by decide +kernel
theorem dX8_odd_37 : decode cX8_odd 37 = .ok (.iand, 1) := by decide +kernel
theorem dX8_odd_38 : decode cX8_odd 38 = .ok (.iconst 1, 1) := by decide +kernel
theorem dX8_odd_39 : decode cX8_odd 39 = .ok (.if_icmp .ne 49, 3) := by decide +kernel
theorem dX8_odd_42 : decode cX8_odd 42 = .ok (.aload_n 0, 1) := by decide +kernel
theorem dX8_odd_43 : decode cX8_odd 43 = .ok (.iload 6, 2) := by decide +kernel
theorem dX8_odd_45 : decode cX8_odd 45 = .ok (.iconst 3, 1) := by decide +kernel
theorem dX8_odd_46 : decode cX8_odd 46 = .ok (.invokevirtual 96, 3) := by decide +kernel
theorem dX8_odd_49 : decode cX8_odd 49 = .ok (.istore 7, 2) := by decide +kernel
theorem dX8_odd_51 : decode cX8_odd 51 = .ok (.lload_n 2, 1) := by decide +kernel
theorem dX8_odd_52 : decode cX8_odd 52 = .ok (.bipush 10, 2) := by decide +kernel
theorem dX8_odd_54 : decode cX8_odd 54 = .ok (.iload 7, 2) := by decide +kernel
theorem dX8_odd_56 : decode cX8_odd 56 = .ok (.isub, 1) := by decide +kernel
theorem dX8_odd_57 : decode cX8_odd 57 = .ok (.i2l, 1) := by decide +kernel
theorem dX8_odd_58 : decode cX8_odd 58 = .ok (.lmul, 1) := by decide +kernel
theorem dX8_odd_59 : decode cX8_odd 59 = .ok (.lload 4, 2) := by decide +kernel
theorem dX8_odd_61 : decode cX8_odd 61 = .ok (.iload 7, 2) := by decide +kernel
theorem dX8_odd_63 : decode cX8_odd 63 = .ok (.i2l, 1) := by decide +kernel
theorem dX8_odd_64 : decode cX8_odd 64 = .ok (.lmul, 1) := by decide +kernel
theorem dX8_odd_65 : decode cX8_odd 65 = .ok (.ladd, 1) := by decide +kernel
theorem dX8_odd_66 : decode cX8_odd 66 = .ok (.lstore 8, 2) := by decide +kernel
theorem dX8_odd_68 : decode cX8_odd 68 = .ok (.lload 4, 2) := by decide +kernel
theorem dX8_odd_70 : decode cX8_odd 70 = .ok (.bipush 10, 2) := by decide +kernel
theorem dX8_odd_72 : decode cX8_odd 72 = .ok (.iload 7, 2) := by decide +kernel
theorem dX8_odd_74 : decode cX8_odd 74 = .ok (.isub, 1) := by decide +kernel
theorem dX8_odd_75 : decode cX8_odd 75 = .ok (.i2l, 1) := by decide +kernel
theorem dX8_odd_76 : decode cX8_odd 76 = .ok (.lmul, 1) := by decide +kernel
theorem dX8_odd_77 : decode cX8_odd 77 = .ok (.lload_n 2, 1) := by decide +kernel
theorem dX8_odd_78 : decode cX8_odd 78 = .ok (.iload 7, 2) := by decide +kernel
theorem dX8_odd_80 : decode cX8_odd 80 = .ok (.i2l, 1) := by decide +kernel
theorem dX8_odd_81 : decode cX8_odd 81 = .ok (.lmul, 1) := by decide +kernel
theorem dX8_odd_82 : decode cX8_odd 82 = .ok (.ladd, 1) := by decide +kernel
theorem dX8_odd_83 : decode cX8_odd 83 = .ok (.lstore 4, 2) := by decide +kernel
theorem dX8_odd_85 : decode cX8_odd 85 = .ok (.lload 8, 2) := by decide +kernel
theorem dX8_odd_87 : decode cX8_odd 87 = .ok (.lstore_n 2, 1) := by decide +kernel
theorem dX8_odd_88 : decode cX8_odd 88 = .ok (.iinc 6 1, 3) := by decide +kernel
theorem dX8_odd_91 : decode cX8_odd 91 = .ok (.goto (-68), 3) := by decide +kernel
theorem dX8_odd_94 : decode cX8_odd 94 = .ok (.aload_n 0, 1) := by decide +kernel
theorem dX8_odd_95 : decode cX8_odd 95 = .ok (.lload_n 2, 1) := by decide +kernel
theorem dX8_odd_96 : decode cX8_odd 96 = .ok (.lload_n 2, 1) := by decide +kernel
theorem dX8_odd_97 : decode cX8_odd 97 = .ok (.lload 4, 2) := by decide +kernel
theorem dX8_odd_99 : decode cX8_odd 99 = .ok (.ladd, 1) := by decide +kernel
theorem dX8_odd_100 : decode cX8_odd 100 = .ok (.invokevirtual 235, 3) := by decide +kernel
theorem dX8_odd_103 : decode cX8_odd 103 = .ok (.ireturn, 1) := by decide +kernel
theorem dX8_home_0 : decode cX8_home 0 = .ok (.iload_n 1, 1) := by decide +kernel
theorem dX8_home_1 : decode cX8_home 1 = .ok (.i2l, 1) := by decide +kernel
theorem dX8_home_2 : decode cX8_home 2 = .ok (.lconst 1, 1) := by decide +kernel
theorem dX8_home_3 : decode cX8_home 3 = .ok (.ldc2_w 239, 3) := by decide +kernel
theorem dX8_home_6 : decode cX8_home 6 = .ok (.invokestatic 74, 3) := by decide +kernel
theorem dX8_home_9 : decode cX8_home 9 = .ok (.ifCond .eq 25, 3) := by decide +kernel
theorem dX8_home_12 : decode cX8_home 12 = .ok (.iload_n 2, 1) := by decide +kernel
theorem dX8_home_13 : decode cX8_home 13 = .ok (.i2l, 1) := by decide +kernel
theorem dX8_home_14 : decode cX8_home 14 = .ok (.lconst 1, 1) := by decide +kernel
theorem dX8_home_15 : decode cX8_home 15 = .ok (.ldc2_w 83, 3) := by decide +kernel
theorem dX8_home_18 : decode cX8_home 18 = .ok (.invokestatic 74, 3) := by decide +kernel
theorem dX8_home_21 : decode cX8_home 21 = .ok (.ifCond .eq 13, 3) := by decide +kernel
theorem dX8_home_24 : decode cX8_home 24 = .ok (.iload_n 3, 1) := by decide +kernel
theorem dX8_home_25 : decode cX8_home 25 = .ok (.i2l, 1) := by decide +kernel
theorem dX8_home_26 : decode cX8_home 26 = .ok (.lconst 0, 1) := by decide +kernel
theorem dX8_home_27 : decode cX8_home 27 = .ok (.lconst 1, 1) := by decide +kernel
theorem dX8_home_28 : decode cX8_home 28 = .ok (.invokestatic 74, 3) := by decide +kernel
theorem dX8_home_31 : decode cX8_home 31 = .ok (.ifCond .ne 10, 3) := by decide +kernel
theorem dX8_home_34 : decode cX8_home 34 = .ok (.aload_n 0, 1) := by decide +kernel
theorem dX8_home_35 : decode cX8_home 35 = .ok (.bipush (-2), 2) := by decide +kernel
theorem dX8_home_37 : decode cX8_home 37 = .ok (.invokevirtual 87, 3) := by decide +kernel
theorem dX8_home_40 : decode cX8_home 40 = .ok (.ireturn, 1) := by decide +kernel
theorem dX8_home_41 : decode cX8_home 41 = .ok (.iconst 0, 1) := by decide +kernel
theorem dX8_home_42 : decode cX8_home 42 = .ok (.istore 4, 2) := by decide +kernel
theorem dX8_home_44 : decode cX8_home 44 = .ok (.iload 4, 2) := by decide +kernel
theorem dX8_home_46 : decode cX8_home 46 = .ok (.bipush 40, 2) := by decide +kernel
theorem dX8_home_48 : decode cX8_home 48 = .ok (.if_icmp .ge 44, 3) := by decide +kernel
theorem dX8_home_51 : decode cX8_home 51 = .ok (.aload_n 0, 1) := by decide +kernel
theorem dX8_home_52 : decode cX8_home 52 = .ok (.getfield 61, 3) := by decide +kernel
theorem dX8_home_55 : decode cX8_home 55 = .ok (.iload 4, 2) := by decide +kernel
theorem dX8_home_57 : decode cX8_home 57 = .ok (.iload 4, 2) := by decide +kernel
theorem dX8_home_59 : decode cX8_home 59 = .ok (.ifCond .ne 7, 3) := by decide +kernel
theorem dX8_home_62 : decode cX8_home 62 = .ok (.iconst 1, 1) := by decide +kernel
theorem dX8_home_63 : decode cX8_home 63 = .ok (.goto 4, 3) := by decide +kernel
theorem dX8_home_66 : decode cX8_home 66 = .ok (.iconst 0, 1) := by decide +kernel
theorem dX8_home_67 : decode cX8_home 67 = .ok (.iastore, 1) := by decide +kernel
theorem dX8_home_68 : decode cX8_home 68 = .ok (.aload_n 0, 1) := by decide +kernel
theorem dX8_home_69 : decode cX8_home 69 = .ok (.getfield 64, 3) := by decide +kernel
theorem dX8_home_72 : decode cX8_home 72 = .ok (.iload 4, 2) := by decide +kernel
theorem dX8_home_74 : decode cX8_home 74 = .ok (.iload 4, 2) := by decide +kernel
theorem dX8_home_76 : decode cX8_home 76 = .ok (.ifCond .ne 7, 3) := by decide +kernel
theorem dX8_home_79 : decode cX8_home 79 = .ok (.iconst 0, 1) := by decide +kernel
theorem dX8_home_80 : decode cX8_home 80 = .ok (.goto 5, 3) := by decide +kernel
theorem dX8_home_83 : decode cX8_home 83 = .ok (.ldc 206, 2) := by decide +kernel
theorem dX8_home_85 : decode cX8_home 85 = .ok (.iastore, 1) := by decide +kernel
theorem dX8_home_86 : decode cX8_home 86 = .ok (.iinc 4 1, 3) := by decide +kernel
theorem dX8_home_89 : decode cX8_home 89 = .ok (.goto (-45), 3) := by decide +kernel
theorem dX8_home_92 : decode cX8_home 92 = .ok (.iconst 1, 1) := by decide +kernel
theorem dX8_home_93 : decode cX8_home 93 = .ok (.istore 4, 2) := by decide +kernel
theorem dX8_home_95 : decode cX8_home 95 = .ok (.iload 4, 2) := by decide +kernel
theorem dX8_home_97 : decode cX8_home 97 = .ok (.iload_n 2, 1) := by decide +kernel
theorem dX8_home_98 : decode cX8_home 98 = .ok (.if_icmp .gt 97, 3) := by decide +kernel
theorem dX8_home_101 : decode cX8_home 101 = .ok (.iload 4, 2) := by decide +kernel
theorem dX8_home_103 : decode cX8_home 103 = .ok (.istore 5, 2) := by decide +kernel
theorem dX8_home_105 : decode cX8_home 105 = .ok (.iload 5, 2) := by decide +kernel
theorem dX8_home_107 : decode cX8_home 107 = .ok (.bipush 40, 2) := by decide +kernel
theorem dX8_home_109 : decode cX8_home 109 = .ok (.if_icmp .ge 80, 3) := by decide +kernel
theorem dX8_home_112 : decode cX8_home 112 = .ok (.aload_n 0, 1) := by decide +kernel
theorem dX8_home_113 : decode cX8_home 113 = .ok (.getfield 61, 3) := by decide +kernel
theorem dX8_home_116 : decode cX8_home 116 = .ok (.iload 5, 2) := by decide +kernel
theorem dX8_home_118 : decode cX8_home 118 = .ok (.dup2, 1) := by decide +kernel
theorem dX8_home_119 : decode cX8_home 119 = .ok (.iaload, 1) := by decide +kernel
theorem dX8_home_120 : decode cX8_home 120 = .ok (.aload_n 0, 1) := by decide +kernel
theorem dX8_home_121 : decode cX8_home 121 = .ok (.getfield 61, 3) := by decide +kernel
theorem dX8_home_124 : decode cX8_home 124 = .ok (.iload 5, 2) := by decide +kernel
theorem dX8_home_126 : decode cX8_home 126 = .ok (.iload 4, 2) := by decide +kernel
theorem dX8_home_128 : decode cX8_home 128 = .ok (.isub, 1) := by decide +kernel
theorem dX8_home_129 : decode cX8_home 129 = .ok (.iaload, 1) := by decide +kernel
theorem dX8_home_130 : decode cX8_home 130 = .ok (.iadd, 1) := by decide +kernel
theorem dX8_home_131 : decode cX8_home 131 = .ok (.iastore, 1) := by decide +kernel
theorem dX8_home_132 : decode cX8_home 132 = .ok (.aload_n 0, 1) := by decide +kernel
theorem dX8_home_133 : decode cX8_home 133 = .ok (.getfield 64, 3) := by decide +kernel
theorem dX8_home_136 : decode cX8_home 136 = .ok (.iload 5, 2) := by decide +kernel
theorem dX8_home_138 : decode cX8_home 138 = .ok (.aload_n 0, 1) := by decide +kernel
theorem dX8_home_139 : decode cX8_home 139 = .ok (.getfield 64, 3) := by decide +kernel
theorem dX8_home_142 : decode cX8_home 142 = .ok (.iload 5, 2) := by decide +kernel
theorem dX8_home_144 : decode cX8_home 144 = .ok (.iload 4, 2) := by decide +kernel
theorem dX8_home_146 : decode cX8_home 146 = .ok (.isub, 1) := by decide +kernel
theorem dX8_home_147 : decode cX8_home 147 = .ok (.iaload, 1) := by decide +kernel
theorem dX8_home_148 : decode cX8_home 148 = .ok (.iconst 1, 1) := by decide +kernel
theorem dX8_home_149 : decode cX8_home 149 = .ok (.iadd, 1) := by decide +kernel
theorem dX8_home_150 : decode cX8_home 150 = .ok (.aload_n 0, 1) := by decide +kernel
theorem dX8_home_151 : decode cX8_home 151 = .ok (.getfield 64, 3) := by decide +kernel
theorem dX8_home_154 : decode cX8_home 154 = .ok (.iload 5, 2) := by decide +kernel
theorem dX8_home_156 : decode cX8_home 156 = .ok (.iaload, 1) := by decide +kernel
theorem dX8_home_157 : decode cX8_home 157 = .ok (.if_icmp .ge 18, 3) := by decide +kernel
theorem dX8_home_160 : decode cX8_home 160 = .ok (.aload_n 0, 1) := by decide +kernel
theorem dX8_home_161 : decode cX8_home 161 = .ok (.getfield 64, 3) := by decide +kernel
theorem dX8_home_164 : decode cX8_home 164 = .ok (.iload 5, 2) := by decide +kernel
theorem dX8_home_166 : decode cX8_home 166 = .ok (.iload 4, 2) := by decide +kernel
theorem dX8_home_168 : decode cX8_home 168 = .ok (.isub, 1) := by decide +kernel
theorem dX8_home_169 : decode cX8_home 169 = .ok (.iaload, 1) := by decide +kernel
theorem dX8_home_170 : decode cX8_home 170 = .ok (.iconst 1, 1) := by decide +kernel
theorem dX8_home_171 : decode cX8_home 171 = .ok (.iadd, 1) := by decide +kernel
theorem dX8_home_172 : decode cX8_home 172 = .ok (.goto 10, 3) := by decide +kernel
theorem dX8_home_175 : decode cX8_home 175 = .ok (.aload_n 0, 1) := by decide +kernel
theorem dX8_home_176 : decode cX8_home 176 = .ok (.getfield 64, 3) := by decide +kernel
theorem dX8_home_179 : decode cX8_home 179 = .ok (.iload 5, 2) := by decide +kernel
theorem dX8_home_181 : decode cX8_home 181 = .ok (.iaload, 1) := by decide +kernel
theorem dX8_home_182 : decode cX8_home 182 = .ok (.iastore, 1) := by decide +kernel
theorem dX8_home_183 : decode cX8_home 183 = .ok (.iinc 5 1, 3) := by decide +kernel
theorem dX8_home_186 : decode cX8_home 186 = .ok (.goto (-81), 3) := by decide +kernel
theorem dX8_home_189 : decode cX8_home 189 = .ok (.iinc 4 2, 3) := by decide +kernel
theorem dX8_home_192 : decode cX8_home 192 = .ok (.goto (-97), 3) := by decide +kernel
theorem dX8_home_195 : decode cX8_home 195 = .ok (.iload_n 3, 1) := by decide +kernel
theorem dX8_home_196 : decode cX8_home 196 = .ok (.ifCond .ne 14, 3) := by decide +kernel
theorem dX8_home_199 : decode cX8_home 199 = .ok (.aload_n 0, 1) := by decide +kernel
theorem dX8_home_200 : decode cX8_home 200 = .ok (.getfield 61, 3) := by decide +kernel
theorem dX8_home_203 : decode cX8_home 203 = .ok (.iload_n 1, 1) := by decide +kernel
theorem dX8_home_204 : decode cX8_home 204 = .ok (.iconst 1, 1) := by decide +kernel
theorem dX8_home_205 : decode cX8_home 205 = .ok (.isub, 1) := by decide +kernel
theorem dX8_home_206 : decode cX8_home 206 = .ok (.iaload, 1) := by decide +kernel
theorem dX8_home_207 : decode cX8_home 207 = .ok (.goto 28, 3) := by decide +kernel
theorem dX8_home_210 : decode cX8_home 210 = .ok (.aload_n 0, 1) := by decide +kernel
theorem dX8_home_211 : decode cX8_home 211 = .ok (.getfield 64, 3) := by decide +kernel
theorem dX8_home_214 : decode cX8_home 214 = .ok (.iload_n 1, 1) := by decide +kernel
theorem dX8_home_215 : decode cX8_home 215 = .ok (.iconst 1, 1) := by decide +kernel
theorem dX8_home_216 : decode cX8_home 216 = .ok (.isub, 1) := by decide +kernel
theorem dX8_home_217 : decode cX8_home 217 = .ok (.iaload, 1) := by decide +kernel
theorem dX8_home_218 : decode cX8_home 218 = .ok (.ldc 206, 2) := by decide +kernel
theorem dX8_home_220 : decode cX8_home 220 = .ok (.if_icmp .lt 7, 3) := by decide +kernel
theorem dX8_home_223 : decode cX8_home 223 = .ok (.iconst (-1), 1) := by decide +kernel
theorem dX8_home_224 : decode cX8_home 224 = .ok (.goto 11, 3) := by decide +kernel
theorem dX8_home_227 : decode cX8_home 227 = .ok (.aload_n 0, 1) := by decide +kernel
theorem dX8_home_228 : decode cX8_home 228 = .ok (.getfield 64, 3) := by decide +kernel
theorem dX8_home_231 : decode cX8_home 231 = .ok (.iload_n 1, 1) := by decide +kernel
theorem dX8_home_232 : decode cX8_home 232 = .ok (.iconst 1, 1) := by decide +kernel
theorem dX8_home_233 : decode cX8_home 233 = .ok (.isub, 1) := by decide +kernel
theorem dX8_home_234 : decode cX8_home 234 = .ok (.iaload, 1) := by decide +kernel
theorem dX8_home_235 : decode cX8_home 235 = .ok (.ireturn, 1) := by decide +kernel
theorem dX8_said_0 : decode cX8_said 0 = .ok (.aload_n 0, 1) := by decide +kernel
theorem dX8_said_1 : decode cX8_said 1 = .ok (.getfield 7, 3) := by decide +kernel
theorem dX8_said_4 : decode cX8_said 4 = .ok (.bipush 100, 2) := by decide +kernel
theorem dX8_said_6 : decode cX8_said 6 = .ok (.iaload, 1) := by decide +kernel
theorem dX8_said_7 : decode cX8_said 7 = .ok (.ireturn, 1) := by decide +kernel
theorem dX8_say_0 : decode cX8_say 0 = .ok (.aload_n 0, 1) := by decide +kernel
theorem dX8_say_1 : decode cX8_say 1 = .ok (.iload_n 1, 1) := by decide +kernel
theorem dX8_say_2 : decode cX8_say 2 = .ok (.invokevirtual 203, 3) := by decide +kernel
theorem dX8_say_5 : decode cX8_say 5 = .ok (.ifCond .eq 26, 3) := by decide +kernel
theorem dX8_say_8 : decode cX8_say 8 = .ok (.iload_n 3, 1) := by decide +kernel
theorem dX8_say_9 : decode cX8_say 9 = .ok (.i2l, 1) := by decide +kernel
theorem dX8_say_10 : decode cX8_say 10 = .ok (.lconst 0, 1) := by decide +kernel
theorem dX8_say_11 : decode cX8_say 11 = .ok (.ldc2_w 241, 3) := by decide +kernel
theorem dX8_say_14 : decode cX8_say 14 = .ok (.invokestatic 74, 3) := by decide +kernel
theorem dX8_say_17 : decode cX8_say 17 = .ok (.ifCond .eq 14, 3) := by decide +kernel
theorem dX8_say_20 : decode cX8_say 20 = .ok (.iload_n 2, 1) := by decide +kernel
theorem dX8_say_21 : decode cX8_say 21 = .ok (.i2l, 1) := by decide +kernel
theorem dX8_say_22 : decode cX8_say 22 = .ok (.lconst 0, 1) := by decide +kernel
theorem dX8_say_23 : decode cX8_say 23 = .ok (.iload_n 3, 1) := by decide +kernel
theorem dX8_say_24 : decode cX8_say 24 = .ok (.i2l, 1) := by decide +kernel
theorem dX8_say_25 : decode cX8_say 25 = .ok (.invokestatic 74, 3) := by decide +kernel
theorem dX8_say_28 : decode cX8_say 28 = .ok (.ifCond .ne 10, 3) := by decide +kernel
theorem dX8_say_31 : decode cX8_say 31 = .ok (.aload_n 0, 1) := by decide +kernel
theorem dX8_say_32 : decode cX8_say 32 = .ok (.bipush (-2), 2) := by decide +kernel
theorem dX8_say_34 : decode cX8_say 34 = .ok (.invokevirtual 87, 3) := by decide +kernel
theorem dX8_say_37 : decode cX8_say 37 = .ok (.ireturn, 1) := by decide +kernel
theorem dX8_say_38 : decode cX8_say 38 = .ok (.aload_n 0, 1) := by decide +kernel
theorem dX8_say_39 : decode cX8_say 39 = .ok (.invokevirtual 243, 3) := by decide +kernel
theorem dX8_say_42 : decode cX8_say 42 = .ok (.istore 4, 2) := by decide +kernel
theorem dX8_say_44 : decode cX8_say 44 = .ok (.iload 4, 2) := by decide +kernel
theorem dX8_say_46 : decode cX8_say 46 = .ok (.bipush 8, 2) := by decide +kernel
theorem dX8_say_48 : decode cX8_say 48 = .ok (.if_icmp .ne 8, 3) := by decide +kernel
theorem dX8_say_51 : decode cX8_say 51 = .ok (.aload_n 0, 1) := by decide +kernel
theorem dX8_say_52 : decode cX8_say 52 = .ok (.invokevirtual 91, 3) := by decide +kernel
theorem dX8_say_55 : decode cX8_say 55 = .ok (.ireturn, 1) := by decide +kernel
theorem dX8_say_56 : decode cX8_say 56 = .ok (.aload_n 0, 1) := by decide +kernel
theorem dX8_say_57 : decode cX8_say 57 = .ok (.getfield 7, 3) := by decide +kernel
theorem dX8_say_60 : decode cX8_say 60 = .ok (.bipush 75, 2) := by decide +kernel
theorem dX8_say_62 : decode cX8_say 62 = .ok (.iconst 3, 1) := by decide +kernel
theorem dX8_say_63 : decode cX8_say 63 = .ok (.iload 4, 2) := by decide +kernel
theorem dX8_say_65 : decode cX8_say 65 = .ok (.imul, 1) := by decide +kernel
theorem dX8_say_66 : decode cX8_say 66 = .ok (.iadd, 1) := by decide +kernel
theorem dX8_say_67 : decode cX8_say 67 = .ok (.iload_n 1, 1) := by decide +kernel
theorem dX8_say_68 : decode cX8_say 68 = .ok (.iastore, 1) := by decide +kernel
theorem dX8_say_69 : decode cX8_say 69 = .ok (.aload_n 0, 1) := by decide +kernel
theorem dX8_say_70 : decode cX8_say 70 = .ok (.getfield 7, 3) := by decide +kernel
theorem dX8_say_73 : decode cX8_say 73 = .ok (.bipush 75, 2) := by decide +kernel
theorem dX8_say_75 : decode cX8_say 75 = .ok (.iconst 3, 1) := by decide +kernel
theorem dX8_say_76 : decode cX8_say 76 = .ok (.iload 4, 2) := by decide +kernel
theorem dX8_say_78 : decode cX8_say 78 = .ok (.imul, 1) := by decide +kernel
theorem dX8_say_79 : decode cX8_say 79 = .ok (.iadd, 1) := by decide +kernel
theorem dX8_say_80 : decode cX8_say 80 = .ok (.iconst 1, 1) := by decide +kernel
theorem dX8_say_81 : decode cX8_say 81 = .ok (.iadd, 1) := by decide +kernel
theorem dX8_say_82 : decode cX8_say 82 = .ok (.iload_n 2, 1) := by decide +kernel
theorem dX8_say_83 : decode cX8_say 83 = .ok (.iastore, 1) := by decide +kernel
theorem dX8_say_84 : decode cX8_say 84 = .ok (.aload_n 0, 1) := by decide +kernel
theorem dX8_say_85 : decode cX8_say 85 = .ok (.getfield 7, 3) := by decide +kernel
theorem dX8_say_88 : decode cX8_say 88 = .ok (.bipush 75, 2) := by decide +kernel
theorem dX8_say_90 : decode cX8_say 90 = .ok (.iconst 3, 1) := by decide +kernel
theorem dX8_say_91 : decode cX8_say 91 = .ok (.iload 4, 2) := by decide +kernel
theorem dX8_say_93 : decode cX8_say 93 = .ok (.imul, 1) := by decide +kernel
theorem dX8_say_94 : decode cX8_say 94 = .ok (.iadd, 1) := by decide +kernel
theorem dX8_say_95 : decode cX8_say 95 = .ok (.iconst 2, 1) := by decide +kernel
theorem dX8_say_96 : decode cX8_say 96 = .ok (.iadd, 1) := by decide +kernel
theorem dX8_say_97 : decode cX8_say 97 = .ok (.iload_n 3, 1) := by decide +kernel
theorem dX8_say_98 : decode cX8_say 98 = .ok (.iastore, 1) := by decide +kernel
theorem dX8_say_99 : decode cX8_say 99 = .ok (.aload_n 0, 1) := by decide +kernel
theorem dX8_say_100 : decode cX8_say 100 = .ok (.getfield 7, 3) := by decide +kernel
theorem dX8_say_103 : decode cX8_say 103 = .ok (.bipush 100, 2) := by decide +kernel
theorem dX8_say_105 : decode cX8_say 105 = .ok (.dup2, 1) := by decide +kernel
theorem dX8_say_106 : decode cX8_say 106 = .ok (.iaload, 1) := by decide +kernel
theorem dX8_say_107 : decode cX8_say 107 = .ok (.iconst 1, 1) := by decide +kernel
theorem dX8_say_108 : decode cX8_say 108 = .ok (.iadd, 1) := by decide +kernel
theorem dX8_say_109 : decode cX8_say 109 = .ok (.iastore, 1) := by decide +kernel
theorem dX8_say_110 : decode cX8_say 110 = .ok (.iload 4, 2) := by decide +kernel
theorem dX8_say_112 : decode cX8_say 112 = .ok (.ireturn, 1) := by decide +kernel
theorem dX8_hush_0 : decode cX8_hush 0 = .ok (.aload_n 0, 1) := by decide +kernel
theorem dX8_hush_1 : decode cX8_hush 1 = .ok (.invokevirtual 243, 3) := by decide +kernel
theorem dX8_hush_4 : decode cX8_hush 4 = .ok (.istore_n 1, 1) := by decide +kernel
theorem dX8_hush_5 : decode cX8_hush 5 = .ok (.aload_n 0, 1) := by decide +kernel
theorem dX8_hush_6 : decode cX8_hush 6 = .ok (.getfield 7, 3) := by decide +kernel
theorem dX8_hush_9 : decode cX8_hush 9 = .ok (.bipush 100, 2) := by decide +kernel
theorem dX8_hush_11 : decode cX8_hush 11 = .ok (.iconst 0, 1) := by decide +kernel
theorem dX8_hush_12 : decode cX8_hush 12 = .ok (.iastore, 1) := by decide +kernel
theorem dX8_hush_13 : decode cX8_hush 13 = .ok (.iload_n 1, 1) := by decide +kernel
theorem dX8_hush_14 : decode cX8_hush 14 = .ok (.ireturn, 1) := by decide +kernel
theorem dX8_onBy_0 : decode cX8_onBy 0 = .ok (.iconst 0, 1) := by decide +kernel
theorem dX8_onBy_1 : decode cX8_onBy 1 = .ok (.istore_n 3, 1) := by decide +kernel
theorem dX8_onBy_2 : decode cX8_onBy 2 = .ok (.iconst 0, 1) := by decide +kernel
theorem dX8_onBy_3 : decode cX8_onBy 3 = .ok (.istore 4, 2) := by decide +kernel
theorem dX8_onBy_5 : decode cX8_onBy 5 = .ok (.iload 4, 2) := by decide +kernel
theorem dX8_onBy_7 : decode cX8_onBy 7 = .ok (.aload_n 0, 1) := by decide +kernel
theorem dX8_onBy_8 : decode cX8_onBy 8 = .ok (.invokevirtual 243, 3) := by decide +kernel
theorem dX8_onBy_11 : decode cX8_onBy 11 = .ok (.if_icmp .ge 89, 3) := by decide +kernel
theorem dX8_onBy_14 : decode cX8_onBy 14 = .ok (.iload_n 2, 1) := by decide +kernel
theorem dX8_onBy_15 : decode cX8_onBy 15 = .ok (.iload 4, 2) := by decide +kernel
theorem dX8_onBy_17 : decode cX8_onBy 17 = .ok (.ishr, 1) := by decide +kernel
theorem dX8_onBy_18 : decode cX8_onBy 18 = .ok (.iconst 1, 1) := by decide +kernel
theorem dX8_onBy_19 : decode cX8_onBy 19 = .ok (.iand, 1) := by decide +kernel
theorem dX8_onBy_20 : decode cX8_onBy 20 = .ok (.ifCond .ne 45, 3) := by decide +kernel
theorem dX8_onBy_23 : decode cX8_onBy 23 = .ok (.iload_n 1, 1) := by decide +kernel
theorem dX8_onBy_24 : decode cX8_onBy 24 = .ok (.i2l, 1) := by decide +kernel
theorem dX8_onBy_25 : decode cX8_onBy 25 = .ok (.aload_n 0, 1) := by decide +kernel
theorem dX8_onBy_26 : decode cX8_onBy 26 = .ok (.getfield 7, 3) := by decide +kernel
theorem dX8_onBy_29 : decode cX8_onBy 29 = .ok (.bipush 75, 2) := by decide +kernel
theorem dX8_onBy_31 : decode cX8_onBy 31 = .ok (.iconst 3, 1) := by decide +kernel
theorem dX8_onBy_32 : decode cX8_onBy 32 = .ok (.iload 4, 2) := by decide +kernel
theorem dX8_onBy_34 : decode cX8_onBy 34 = .ok (.imul, 1) := by decide +kernel
theorem dX8_onBy_35 : decode cX8_onBy 35 = .ok (.iadd, 1) := by decide +kernel
theorem dX8_onBy_36 : decode cX8_onBy 36 = .ok (.iconst 1, 1) := by decide +kernel
theorem dX8_onBy_37 : decode cX8_onBy 37 = .ok (.iadd, 1) := by decide +kernel
theorem dX8_onBy_38 : decode cX8_onBy 38 = .ok (.iaload, 1) := by decide +kernel
theorem dX8_onBy_39 : decode cX8_onBy 39 = .ok (.i2l, 1) := by decide +kernel
theorem dX8_onBy_40 : decode cX8_onBy 40 = .ok (.aload_n 0, 1) := by decide +kernel
theorem dX8_onBy_41 : decode cX8_onBy 41 = .ok (.getfield 7, 3) := by decide +kernel
theorem dX8_onBy_44 : decode cX8_onBy 44 = .ok (.bipush 75, 2) := by decide +kernel
theorem dX8_onBy_46 : decode cX8_onBy 46 = .ok (.iconst 3, 1) := by decide +kernel
theorem dX8_onBy_47 : decode cX8_onBy 47 = .ok (.iload 4, 2) := by decide +kernel
theorem dX8_onBy_49 : decode cX8_onBy 49 = .ok (.imul, 1) := by decide +kernel
theorem dX8_onBy_50 : decode cX8_onBy 50 = .ok (.iadd, 1) := by decide +kernel
theorem dX8_onBy_51 : decode cX8_onBy 51 = .ok (.iconst 2, 1) := by decide +kernel
theorem dX8_onBy_52 : decode cX8_onBy 52 = .ok (.iadd, 1) := by decide +kernel
theorem dX8_onBy_53 : decode cX8_onBy 53 = .ok (.iaload, 1) := by decide +kernel
theorem dX8_onBy_54 : decode cX8_onBy 54 = .ok (.i2l, 1) := by decide +kernel
theorem dX8_onBy_55 : decode cX8_onBy 55 = .ok (.invokestatic 74, 3) := by decide +kernel
theorem dX8_onBy_58 : decode cX8_onBy 58 = .ok (.ifCond .eq 7, 3) := by decide +kernel
theorem dX8_onBy_61 : decode cX8_onBy 61 = .ok (.iconst 1, 1) := by decide +kernel
theorem dX8_onBy_62 : decode cX8_onBy 62 = .ok (.goto 4, 3) := by decide +kernel
theorem dX8_onBy_65 : decode cX8_onBy 65 = .ok (.iconst 0, 1) := by decide +kernel
theorem dX8_onBy_66 : decode cX8_onBy 66 = .ok (.istore 5, 2) := by decide +kernel
theorem dX8_onBy_68 : decode cX8_onBy 68 = .ok (.iload_n 3, 1) := by decide +kernel
theorem dX8_onBy_69 : decode cX8_onBy 69 = .ok (.iload 5, 2) := by decide +kernel
theorem dX8_onBy_71 : decode cX8_onBy 71 = .ok (.ifCond .eq 20, 3) := by decide +kernel
theorem dX8_onBy_74 : decode cX8_onBy 74 = .ok (.iconst 1, 1) := by decide +kernel
theorem dX8_onBy_75 : decode cX8_onBy 75 = .ok (.aload_n 0, 1) := by decide +kernel
theorem dX8_onBy_76 : decode cX8_onBy 76 = .ok (.getfield 7, 3) := by decide +kernel
theorem dX8_onBy_79 : decode cX8_onBy 79 = .ok (.bipush 75, 2) := by decide +kernel
theorem dX8_onBy_81 : decode cX8_onBy 81 = .ok (.iconst 3, 1) := by decide +kernel
theorem dX8_onBy_82 : decode cX8_onBy 82 = .ok (.iload 4, 2) := by decide +kernel
theorem dX8_onBy_84 : decode cX8_onBy 84 = .ok (.imul, 1) := by decide +kernel
theorem dX8_onBy_85 : decode cX8_onBy 85 = .ok (.iadd, 1) := by decide +kernel
theorem dX8_onBy_86 : decode cX8_onBy 86 = .ok (.iaload, 1) := by decide +kernel
theorem dX8_onBy_87 : decode cX8_onBy 87 = .ok (.ishl, 1) := by decide +kernel
theorem dX8_onBy_88 : decode cX8_onBy 88 = .ok (.goto 4, 3) := by decide +kernel
theorem dX8_onBy_91 : decode cX8_onBy 91 = .ok (.iconst 0, 1) := by decide +kernel
theorem dX8_onBy_92 : decode cX8_onBy 92 = .ok (.ior, 1) := by decide +kernel
theorem dX8_onBy_93 : decode cX8_onBy 93 = .ok (.istore_n 3, 1) := by decide +kernel
theorem dX8_onBy_94 : decode cX8_onBy 94 = .ok (.iinc 4 1, 3) := by decide +kernel
theorem dX8_onBy_97 : decode cX8_onBy 97 = .ok (.goto (-92), 3) := by decide +kernel
theorem dX8_onBy_100 : decode cX8_onBy 100 = .ok (.iload_n 3, 1) := by decide +kernel
theorem dX8_onBy_101 : decode cX8_onBy 101 = .ok (.ireturn, 1) := by decide +kernel
theorem dX8_disputeOf_0 : decode cX8_disputeOf 0 = .ok (.lconst 0, 1) := by decide +kernel
theorem dX8_disputeOf_1 : decode cX8_disputeOf 1 = .ok (.lstore_n 2, 1) := by decide +kernel
theorem dX8_disputeOf_2 : decode cX8_disputeOf 2 = .ok (.iconst 0, 1) := by decide +kernel
theorem dX8_disputeOf_3 : decode cX8_disputeOf 3 = .ok (.istore 4, 2) := by decide +kernel
theorem dX8_disputeOf_5 : decode cX8_disputeOf 5 = .ok (.iload 4, 2) := by decide +kernel
theorem dX8_disputeOf_7 : decode cX8_disputeOf 7 = .ok (.bipush 63, 2) := by decide +kernel
theorem dX8_disputeOf_9 : decode cX8_disputeOf 9 = .ok (.if_icmp .ge 37, 3) := by decide +kernel
theorem dX8_disputeOf_12 : decode cX8_disputeOf 12 = .ok (.lload_n 2, 1) := by decide +kernel
theorem dX8_disputeOf_13 : decode cX8_disputeOf 13 = .ok (.aload_n 0, 1) := by decide +kernel
theorem dX8_disputeOf_14 : decode cX8_disputeOf 14 = .ok (.aload_n 0, 1) := by decide +kernel
theorem dX8_disputeOf_15 : decode cX8_disputeOf 15 = .ok (.iload 4, 2) := by decide +kernel
theorem dX8_disputeOf_17 : decode cX8_disputeOf 17 = .ok (.iload_n 1, 1) := by decide +kernel
theorem dX8_disputeOf_18 : decode cX8_disputeOf 18 = .ok (.invokevirtual 246, 3) := by decide +kernel
theorem dX8_disputeOf_21 : decode cX8_disputeOf 21 = .ok (.iload 4, 2) := by decide +kernel
theorem dX8_disputeOf_23 : decode cX8_disputeOf 23 = .ok (.iconst 0, 1) := by decide +kernel
theorem dX8_disputeOf_24 : decode cX8_disputeOf 24 = .ok (.invokevirtual 175, 3) := by decide +kernel
theorem dX8_disputeOf_27 : decode cX8_disputeOf 27 = .ok (.ifCond .eq 7, 3) := by decide +kernel
theorem dX8_disputeOf_30 : decode cX8_disputeOf 30 = .ok (.lconst 0, 1) := by decide +kernel
theorem dX8_disputeOf_31 : decode cX8_disputeOf 31 = .ok (.goto 7, 3) := by decide +kernel
theorem dX8_disputeOf_34 : decode cX8_disputeOf 34 = .ok (.lconst 1, 1) := by decide +kernel
theorem dX8_disputeOf_35 : decode cX8_disputeOf 35 = .ok (.iload 4, 2) := by decide +kernel
theorem dX8_disputeOf_37 : decode cX8_disputeOf 37 = .ok (.lshl, 1) := by decide +kernel
theorem dX8_disputeOf_38 : decode cX8_disputeOf 38 = .ok (.lor, 1) := by decide +kernel
theorem dX8_disputeOf_39 : decode cX8_disputeOf 39 = .ok (.lstore_n 2, 1) := by decide +kernel
theorem dX8_disputeOf_40 : decode cX8_disputeOf 40 = .ok (.iinc 4 1, 3) := by decide +kernel
theorem dX8_disputeOf_43 : decode cX8_disputeOf 43 = .ok (.goto (-38), 3) := by decide +kernel
theorem dX8_disputeOf_46 : decode cX8_disputeOf 46 = .ok (.lload_n 2, 1) := by decide +kernel
theorem dX8_disputeOf_47 : decode cX8_disputeOf 47 = .ok (.lreturn, 1) := by decide +kernel
theorem dX8_dispute_0 : decode cX8_dispute 0 = .ok (.iload_n 1, 1) := by decide +kernel
theorem dX8_dispute_1 : decode cX8_dispute 1 = .ok (.i2l, 1) := by decide +kernel
theorem dX8_dispute_2 : decode cX8_dispute 2 = .ok (.lconst 0, 1) := by decide +kernel
theorem dX8_dispute_3 : decode cX8_dispute 3 = .ok (.iconst 1, 1) := by decide +kernel
theorem dX8_dispute_4 : decode cX8_dispute 4 = .ok (.aload_n 0, 1) := by decide +kernel
theorem dX8_dispute_5 : decode cX8_dispute 5 = .ok (.invokevirtual 243, 3) := by decide +kernel
theorem dX8_dispute_8 : decode cX8_dispute 8 = .ok (.ishl, 1) := by decide +kernel
theorem dX8_dispute_9 : decode cX8_dispute 9 = .ok (.iconst 1, 1) := by decide +kernel
theorem dX8_dispute_10 : decode cX8_dispute 10 = .ok (.isub, 1) := by decide +kernel
theorem dX8_dispute_11 : decode cX8_dispute 11 = .ok (.i2l, 1) := by decide +kernel
theorem dX8_dispute_12 : decode cX8_dispute 12 = .ok (.invokestatic 74, 3) := by decide +kernel
theorem dX8_dispute_15 : decode cX8_dispute 15 = .ok (.ifCond .eq 11, 3) := by decide +kernel
theorem dX8_dispute_18 : decode cX8_dispute 18 = .ok (.aload_n 0, 1) := by decide +kernel
theorem dX8_dispute_19 : decode cX8_dispute 19 = .ok (.iload_n 1, 1) := by decide +kernel
theorem dX8_dispute_20 : decode cX8_dispute 20 = .ok (.invokevirtual 249, 3) := by decide +kernel
theorem dX8_dispute_23 : decode cX8_dispute 23 = .ok (.goto 10, 3) := by decide +kernel
theorem dX8_dispute_26 : decode cX8_dispute 26 = .ok (.aload_n 0, 1) := by decide +kernel
theorem dX8_dispute_27 : decode cX8_dispute 27 = .ok (.bipush (-2), 2) := by decide +kernel
theorem dX8_dispute_29 : decode cX8_dispute 29 = .ok (.invokevirtual 87, 3) := by decide +kernel
theorem dX8_dispute_32 : decode cX8_dispute 32 = .ok (.i2l, 1) := by decide +kernel
theorem dX8_dispute_33 : decode cX8_dispute 33 = .ok (.lreturn, 1) := by decide +kernel
theorem dX8_lied_0 : decode cX8_lied 0 = .ok (.iload_n 1, 1) := by decide +kernel
theorem dX8_lied_1 : decode cX8_lied 1 = .ok (.i2l, 1) := by decide +kernel
theorem dX8_lied_2 : decode cX8_lied 2 = .ok (.lconst 0, 1) := by decide +kernel
theorem dX8_lied_3 : decode cX8_lied 3 = .ok (.lconst 1, 1) := by decide +kernel
theorem dX8_lied_4 : decode cX8_lied 4 = .ok (.invokestatic 74, 3) := by decide +kernel
theorem dX8_lied_7 : decode cX8_lied 7 = .ok (.ifCond .ne 10, 3) := by decide +kernel
theorem dX8_lied_10 : decode cX8_lied 10 = .ok (.aload_n 0, 1) := by decide +kernel
theorem dX8_lied_11 : decode cX8_lied 11 = .ok (.bipush (-2), 2) := by decide +kernel
theorem dX8_lied_13 : decode cX8_lied 13 = .ok (.invokevirtual 87, 3) := by decide +kernel
theorem dX8_lied_16 : decode cX8_lied 16 = .ok (.ireturn, 1) := by decide +kernel
theorem dX8_lied_17 : decode cX8_lied 17 = .ok (.iconst 0, 1) := by decide +kernel
theorem dX8_lied_18 : decode cX8_lied 18 = .ok (.istore_n 2, 1) := by decide +kernel
theorem dX8_lied_19 : decode cX8_lied 19 = .ok (.iconst 0, 1) := by decide +kernel
theorem dX8_lied_20 : decode cX8_lied 20 = .ok (.istore_n 3, 1) := by decide +kernel
theorem dX8_lied_21 : decode cX8_lied 21 = .ok (.iload_n 3, 1) := by decide +kernel
theorem dX8_lied_22 : decode cX8_lied 22 = .ok (.aload_n 0, 1) := by decide +kernel
theorem dX8_lied_23 : decode cX8_lied 23 = .ok (.invokevirtual 243, 3) := by decide +kernel
theorem dX8_lied_26 : decode cX8_lied 26 = .ok (.if_icmp .ge 35, 3) := by decide +kernel
theorem dX8_lied_29 : decode cX8_lied 29 = .ok (.iload_n 1, 1) := by decide +kernel
theorem dX8_lied_30 : decode cX8_lied 30 = .ok (.ifCond .ne 31, 3) := by decide +kernel
theorem dX8_lied_33 : decode cX8_lied 33 = .ok (.iload_n 2, 1) := by decide +kernel
theorem dX8_lied_34 : decode cX8_lied 34 = .ok (.aload_n 0, 1) := by decide +kernel
theorem dX8_lied_35 : decode cX8_lied 35 = .ok (.iconst 1, 1) := by decide +kernel
theorem dX8_lied_36 : decode cX8_lied 36 = .ok (.iload_n 3, 1) := by decide +kernel
theorem dX8_lied_37 : decode cX8_lied 37 = .ok (.ishl, 1) := by decide +kernel
theorem dX8_lied_38 : decode cX8_lied 38 = .ok (.invokevirtual 249, 3) := by decide +kernel
theorem dX8_lied_41 : decode cX8_lied 41 = .ok (.lconst 0, 1) := by decide +kernel
theorem dX8_lied_42 : decode cX8_lied 42 = .ok (.lcmp, 1) := by decide +kernel
theorem dX8_lied_43 : decode cX8_lied 43 = .ok (.ifCond .ne 9, 3) := by decide +kernel
theorem dX8_lied_46 : decode cX8_lied 46 = .ok (.iconst 1, 1) := by decide +kernel
theorem dX8_lied_47 : decode cX8_lied 47 = .ok (.iload_n 3, 1) := by decide +kernel
theorem dX8_lied_48 : decode cX8_lied 48 = .ok (.ishl, 1) := by decide +kernel
theorem dX8_lied_49 : decode cX8_lied 49 = .ok (.goto 4, 3) := by decide +kernel
theorem dX8_lied_52 : decode cX8_lied 52 = .ok (.iconst 0, 1) := by decide +kernel
theorem dX8_lied_53 : decode cX8_lied 53 = .ok (.ior, 1) := by decide +kernel
theorem dX8_lied_54 : decode cX8_lied 54 = .ok (.istore_n 2, 1) := by decide +kernel
theorem dX8_lied_55 : decode cX8_lied 55 = .ok (.iinc 3 1, 3) := by decide +kernel
theorem dX8_lied_58 : decode cX8_lied 58 = .ok (.goto (-37), 3) := by decide +kernel
theorem dX8_lied_61 : decode cX8_lied 61 = .ok (.iconst 1, 1) := by decide +kernel
theorem dX8_lied_62 : decode cX8_lied 62 = .ok (.aload_n 0, 1) := by decide +kernel
theorem dX8_lied_63 : decode cX8_lied 63 = .ok (.invokevirtual 243, 3) := by decide +kernel
theorem dX8_lied_66 : decode cX8_lied 66 = .ok (.ishl, 1) := by decide +kernel
theorem dX8_lied_67 : decode cX8_lied 67 = .ok (.iconst 1, 1) := by decide +kernel
theorem dX8_lied_68 : decode cX8_lied 68 = .ok (.isub, 1) := by decide +kernel
theorem dX8_lied_69 : decode cX8_lied 69 = .ok (.istore_n 3, 1) := by decide +kernel
theorem dX8_lied_70 : decode cX8_lied 70 = .ok (.iconst 0, 1) := by decide +kernel
theorem dX8_lied_71 : decode cX8_lied 71 = .ok (.istore 4, 2) := by decide +kernel
theorem dX8_lied_73 : decode cX8_lied 73 = .ok (.iload 4, 2) := by decide +kernel
theorem dX8_lied_75 : decode cX8_lied 75 = .ok (.iconst 1, 1) := by decide +kernel
theorem dX8_lied_76 : decode cX8_lied 76 = .ok (.aload_n 0, 1) := by decide +kernel
theorem dX8_lied_77 : decode cX8_lied 77 = .ok (.invokevirtual 243, 3) := by decide +kernel
theorem dX8_lied_80 : decode cX8_lied 80 = .ok (.ishl, 1) := by decide +kernel
theorem dX8_lied_81 : decode cX8_lied 81 = .ok (.if_icmp .ge 60, 3) := by decide +kernel
theorem dX8_lied_84 : decode cX8_lied 84 = .ok (.iload_n 1, 1) := by decide +kernel
theorem dX8_lied_85 : decode cX8_lied 85 = .ok (.iconst 1, 1) := by decide +kernel
theorem dX8_lied_86 : decode cX8_lied 86 = .ok (.if_icmp .ne 55, 3) := by decide +kernel
theorem dX8_lied_89 : decode cX8_lied 89 = .ok (.iload_n 3, 1) := by decide +kernel
theorem dX8_lied_90 : decode cX8_lied 90 = .ok (.invokestatic 193, 3) := by decide +kernel
theorem dX8_lied_93 : decode cX8_lied 93 = .ok (.iload 4, 2) := by decide +kernel
theorem dX8_lied_95 : decode cX8_lied 95 = .ok (.invokestatic 193, 3) := by decide +kernel
theorem dX8_lied_98 : decode cX8_lied 98 = .ok (.isub, 1) := by decide +kernel
theorem dX8_lied_99 : decode cX8_lied 99 = .ok (.istore 5, 2) := by decide +kernel
theorem dX8_lied_101 : decode cX8_lied 101 = .ok (.iload 5, 2) := by decide +kernel
theorem dX8_lied_103 : decode cX8_lied 103 = .ok (.ifCond .gt 14, 3) := by decide +kernel
theorem dX8_lied_106 : decode cX8_lied 106 = .ok (.iload 5, 2) := by decide +kernel
theorem dX8_lied_108 : decode cX8_lied 108 = .ok (.ifCond .ne 25, 3) := by decide +kernel
theorem dX8_lied_111 : decode cX8_lied 111 = .ok (.iload 4, 2) := by decide +kernel
theorem dX8_lied_113 : decode cX8_lied 113 = .ok (.iload_n 3, 1) := by decide +kernel
theorem dX8_lied_114 : decode cX8_lied 114 = .ok (.if_icmp .ge 19, 3) := by decide +kernel
theorem dX8_lied_117 : decode cX8_lied 117 = .ok (.aload_n 0, 1) := by decide +kernel
theorem dX8_lied_118 : decode cX8_lied 118 = .ok (.iload 4, 2) := by decide +kernel
theorem dX8_lied_120 : decode cX8_lied 120 = .ok (.invokevirtual 249, 3) := by decide +kernel
theorem dX8_lied_123 : decode cX8_lied 123 = .ok (.lconst 0, 1) := by decide +kernel
theorem dX8_lied_124 : decode cX8_lied 124 = .ok (.lcmp, 1) := by decide +kernel
theorem dX8_lied_125 : decode cX8_lied 125 = .ok (.ifCond .ne 8, 3) := by decide +kernel
theorem dX8_lied_128 : decode cX8_lied 128 = .ok (.iload 4, 2) := by decide +kernel
theorem dX8_lied_130 : decode cX8_lied 130 = .ok (.goto 4, 3) := by decide +kernel
theorem dX8_lied_133 : decode cX8_lied 133 = .ok (.iload_n 3, 1) := by decide +kernel
theorem dX8_lied_134 : decode cX8_lied 134 = .ok (.istore_n 3, 1) := by decide +kernel
theorem dX8_lied_135 : decode cX8_lied 135 = .ok (.iinc 4 1, 3) := by decide +kernel
theorem dX8_lied_138 : decode cX8_lied 138 = .ok (.goto (-65), 3) := by decide +kernel
theorem dX8_lied_141 : decode cX8_lied 141 = .ok (.iload_n 1, 1) := by decide +kernel
theorem dX8_lied_142 : decode cX8_lied 142 = .ok (.ifCond .ne 7, 3) := by decide +kernel
theorem dX8_lied_145 : decode cX8_lied 145 = .ok (.iload_n 2, 1) := by decide +kernel
theorem dX8_lied_146 : decode cX8_lied 146 = .ok (.goto 4, 3) := by decide +kernel
theorem dX8_lied_149 : decode cX8_lied 149 = .ok (.iload_n 3, 1) := by decide +kernel
theorem dX8_lied_150 : decode cX8_lied 150 = .ok (.ireturn, 1) := by decide +kernel
theorem dX8_part_0 : decode cX8_part 0 = .ok (.iload_n 1, 1) := by decide +kernel
theorem dX8_part_1 : decode cX8_part 1 = .ok (.ifCond .ne 10, 3) := by decide +kernel
theorem dX8_part_4 : decode cX8_part 4 = .ok (.aload_n 0, 1) := by decide +kernel
theorem dX8_part_5 : decode cX8_part 5 = .ok (.getfield 67, 3) := by decide +kernel
theorem dX8_part_8 : decode cX8_part 8 = .ok (.goto 22, 3) := by decide +kernel
theorem dX8_part_11 : decode cX8_part 11 = .ok (.iload_n 1, 1) := by decide +kernel
theorem dX8_part_12 : decode cX8_part 12 = .ok (.iconst 1, 1) := by decide +kernel
theorem dX8_part_13 : decode cX8_part 13 = .ok (.if_icmp .ne 10, 3) := by decide +kernel
theorem dX8_part_16 : decode cX8_part 16 = .ok (.aload_n 0, 1) := by decide +kernel
theorem dX8_part_17 : decode cX8_part 17 = .ok (.getfield 23, 3) := by decide +kernel
theorem dX8_part_20 : decode cX8_part 20 = .ok (.goto 10, 3) := by decide +kernel
theorem dX8_part_23 : decode cX8_part 23 = .ok (.aload_n 0, 1) := by decide +kernel
theorem dX8_part_24 : decode cX8_part 24 = .ok (.bipush (-2), 2) := by decide +kernel
theorem dX8_part_26 : decode cX8_part 26 = .ok (.invokevirtual 87, 3) := by decide +kernel
theorem dX8_part_29 : decode cX8_part 29 = .ok (.i2l, 1) := by decide +kernel
theorem dX8_part_30 : decode cX8_part 30 = .ok (.lreturn, 1) := by decide +kernel
theorem dX8_image_0 : decode cX8_image 0 = .ok (.iload_n 1, 1) := by decide +kernel
theorem dX8_image_1 : decode cX8_image 1 = .ok (.i2l, 1) := by decide +kernel
theorem dX8_image_2 : decode cX8_image 2 = .ok (.lconst 0, 1) := by decide +kernel
theorem dX8_image_3 : decode cX8_image 3 = .ok (.lconst 1, 1) := by decide +kernel
theorem dX8_image_4 : decode cX8_image 4 = .ok (.invokestatic 74, 3) := by decide +kernel
theorem dX8_image_7 : decode cX8_image 7 = .ok (.ifCond .ne 10, 3) := by decide +kernel
theorem dX8_image_10 : decode cX8_image 10 = .ok (.aload_n 0, 1) := by decide +kernel
theorem dX8_image_11 : decode cX8_image 11 = .ok (.bipush (-2), 2) := by decide +kernel
theorem dX8_image_13 : decode cX8_image 13 = .ok (.invokevirtual 87, 3) := by decide +kernel
theorem dX8_image_16 : decode cX8_image 16 = .ok (.ireturn, 1) := by decide +kernel
theorem dX8_image_17 : decode cX8_image 17 = .ok (.iconst 0, 1) := by decide +kernel
theorem dX8_image_18 : decode cX8_image 18 = .ok (.istore_n 2, 1) := by decide +kernel
theorem dX8_image_19 : decode cX8_image 19 = .ok (.iload_n 2, 1) := by decide +kernel
theorem dX8_image_20 : decode cX8_image 20 = .ok (.bipush 101, 2) := by decide +kernel
theorem dX8_image_22 : decode cX8_image 22 = .ok (.if_icmp .ge 26, 3) := by decide +kernel
theorem dX8_image_25 : decode cX8_image 25 = .ok (.aload_n 0, 1) := by decide +kernel
theorem dX8_image_26 : decode cX8_image 26 = .ok (.getfield 13, 3) := by decide +kernel
theorem dX8_image_29 : decode cX8_image 29 = .ok (.bipush 101, 2) := by decide +kernel
theorem dX8_image_31 : decode cX8_image 31 = .ok (.iload_n 1, 1) := by decide +kernel
theorem dX8_image_32 : decode cX8_image 32 = .ok (.imul, 1) := by decide +kernel
theorem dX8_image_33 : decode cX8_image 33 = .ok (.iload_n 2, 1) := by decide +kernel
theorem dX8_image_34 : decode cX8_image 34 = .ok (.iadd, 1) := by decide +kernel
theorem dX8_image_35 : decode cX8_image 35 = .ok (.aload_n 0, 1) := by decide +kernel
theorem dX8_image_36 : decode cX8_image 36 = .ok (.getfield 7, 3) := by decide +kernel
theorem dX8_image_39 : decode cX8_image 39 = .ok (.iload_n 2, 1) := by decide +kernel
theorem dX8_image_40 : decode cX8_image 40 = .ok (.iaload, 1) := by decide +kernel
theorem dX8_image_41 : decode cX8_image 41 = .ok (.iastore, 1) := by decide +kernel
theorem dX8_image_42 : decode cX8_image 42 = .ok (.iinc 2 1, 3) := by decide +kernel
theorem dX8_image_45 : decode cX8_image 45 = .ok (.goto (-26), 3) := by decide +kernel
theorem dX8_image_48 : decode cX8_image 48 = .ok (.aload_n 0, 1) := by decide +kernel
theorem dX8_image_49 : decode cX8_image 49 = .ok (.getfield 16, 3) := by decide +kernel
theorem dX8_image_52 : decode cX8_image 52 = .ok (.iload_n 1, 1) := by decide +kernel
theorem dX8_image_53 : decode cX8_image 53 = .ok (.iconst 1, 1) := by decide +kernel
theorem dX8_image_54 : decode cX8_image 54 = .ok (.bastore, 1) := by decide +kernel
theorem dX8_image_55 : decode cX8_image 55 = .ok (.iconst 1, 1) := by decide +kernel
theorem dX8_image_56 : decode cX8_image 56 = .ok (.ireturn, 1) := by decide +kernel
theorem dX8_from_0 : decode cX8_from 0 = .ok (.iload_n 1, 1) := by decide +kernel
theorem dX8_from_1 : decode cX8_from 1 = .ok (.i2l, 1) := by decide +kernel
theorem dX8_from_2 : decode cX8_from 2 = .ok (.lconst 0, 1) := by decide +kernel
theorem dX8_from_3 : decode cX8_from 3 = .ok (.lconst 1, 1) := by decide +kernel
theorem dX8_from_4 : decode cX8_from 4 = .ok (.invokestatic 74, 3) := by decide +kernel
theorem dX8_from_7 : decode cX8_from 7 = .ok (.ifCond .ne 10, 3) := by decide +kernel
theorem dX8_from_10 : decode cX8_from 10 = .ok (.aload_n 0, 1) := by decide +kernel
theorem dX8_from_11 : decode cX8_from 11 = .ok (.bipush (-2), 2) := by decide +kernel
theorem dX8_from_13 : decode cX8_from 13 = .ok (.invokevirtual 87, 3) := by decide +kernel
theorem dX8_from_16 : decode cX8_from 16 = .ok (.ireturn, 1) := by decide +kernel
theorem dX8_from_17 : decode cX8_from 17 = .ok (.aload_n 0, 1) := by decide +kernel
theorem dX8_from_18 : decode cX8_from 18 = .ok (.getfield 16, 3) := by decide +kernel
theorem dX8_from_21 : decode cX8_from 21 = .ok (.iload_n 1, 1) := by decide +kernel
theorem dX8_from_22 : decode cX8_from 22 = .ok (.baload, 1) := by decide +kernel
theorem dX8_from_23 : decode cX8_from 23 = .ok (.ifCond .ne 8, 3) := by decide +kernel
theorem dX8_from_26 : decode cX8_from 26 = .ok (.aload_n 0, 1) := by decide +kernel
theorem dX8_from_27 : decode cX8_from 27 = .ok (.invokevirtual 232, 3) := by decide +kernel
theorem dX8_from_30 : decode cX8_from 30 = .ok (.ireturn, 1) := by decide +kernel
theorem dX8_from_31 : decode cX8_from 31 = .ok (.iconst 0, 1) := by decide +kernel
theorem dX8_from_32 : decode cX8_from 32 = .ok (.istore_n 2, 1) := by decide +kernel
theorem dX8_from_33 : decode cX8_from 33 = .ok (.iload_n 2, 1) := by decide +kernel
theorem dX8_from_34 : decode cX8_from 34 = .ok (.bipush 101, 2) := by decide +kernel
theorem dX8_from_36 : decode cX8_from 36 = .ok (.if_icmp .ge 26, 3) := by decide +kernel
theorem dX8_from_39 : decode cX8_from 39 = .ok (.aload_n 0, 1) := by decide +kernel
theorem dX8_from_40 : decode cX8_from 40 = .ok (.getfield 7, 3) := by decide +kernel
theorem dX8_from_43 : decode cX8_from 43 = .ok (.iload_n 2, 1) := by decide +kernel
theorem dX8_from_44 : decode cX8_from 44 = .ok (.aload_n 0, 1) := by decide +kernel
theorem dX8_from_45 : decode cX8_from 45 = .ok (.getfield 13, 3) := by decide +kernel
theorem dX8_from_48 : decode cX8_from 48 = .ok (.bipush 101, 2) := by decide +kernel
theorem dX8_from_50 : decode cX8_from 50 = .ok (.iload_n 1, 1) := by decide +kernel
theorem dX8_from_51 : decode cX8_from 51 = .ok (.imul, 1) := by decide +kernel
theorem dX8_from_52 : decode cX8_from 52 = .ok (.iload_n 2, 1) := by decide +kernel
theorem dX8_from_53 : decode cX8_from 53 = .ok (.iadd, 1) := by decide +kernel
theorem dX8_from_54 : decode cX8_from 54 = .ok (.iaload, 1) := by decide +kernel
theorem dX8_from_55 : decode cX8_from 55 = .ok (.iastore, 1) := by decide +kernel
theorem dX8_from_56 : decode cX8_from 56 = .ok (.iinc 2 1, 3) := by decide +kernel
theorem dX8_from_59 : decode cX8_from 59 = .ok (.goto (-26), 3) := by decide +kernel
theorem dX8_from_62 : decode cX8_from 62 = .ok (.iconst 1, 1) := by decide +kernel
theorem dX8_from_63 : decode cX8_from 63 = .ok (.ireturn, 1) := by decide +kernel
theorem dX8_status_0 : decode cX8_status 0 = .ok (.iload_n 1, 1) := by decide +kernel
theorem dX8_status_1 : decode cX8_status 1 = .ok (.i2l, 1) := by decide +kernel
theorem dX8_status_2 : decode cX8_status 2 = .ok (.lconst 0, 1) := by decide +kernel
theorem dX8_status_3 : decode cX8_status 3 = .ok (.ldc2_w 253, 3) := by decide +kernel
theorem dX8_status_6 : decode cX8_status 6 = .ok (.invokestatic 74, 3) := by decide +kernel
theorem dX8_status_9 : decode cX8_status 9 = .ok (.ifCond .eq 12, 3) := by decide +kernel
theorem dX8_status_12 : decode cX8_status 12 = .ok (.aload_n 0, 1) := by decide +kernel
theorem dX8_status_13 : decode cX8_status 13 = .ok (.getfield 20, 3) := by decide +kernel
theorem dX8_status_16 : decode cX8_status 16 = .ok (.iload_n 1, 1) := by decide +kernel
theorem dX8_status_17 : decode cX8_status 17 = .ok (.iaload, 1) := by decide +kernel
theorem dX8_status_18 : decode cX8_status 18 = .ok (.goto 8, 3) := by decide +kernel
theorem dX8_status_21 : decode cX8_status 21 = .ok (.aload_n 0, 1) := by decide +kernel
theorem dX8_status_22 : decode cX8_status 22 = .ok (.iconst (-1), 1) := by decide +kernel
theorem dX8_status_23 : decode cX8_status 23 = .ok (.invokevirtual 87, 3) := by decide +kernel
theorem dX8_status_26 : decode cX8_status 26 = .ok (.ireturn, 1) := by decide +kernel
theorem dX8_count_0 : decode cX8_count 0 = .ok (.iload_n 1, 1) := by decide +kernel
theorem dX8_count_1 : decode cX8_count 1 = .ok (.ifCond .ne 10, 3) := by decide +kernel
theorem dX8_count_4 : decode cX8_count 4 = .ok (.aload_n 0, 1) := by decide +kernel
theorem dX8_count_5 : decode cX8_count 5 = .ok (.invokevirtual 70, 3) := by decide +kernel
theorem dX8_count_8 : decode cX8_count 8 = .ok (.goto 36, 3) := by decide +kernel
theorem dX8_count_11 : decode cX8_count 11 = .ok (.iload_n 1, 1) := by decide +kernel
theorem dX8_count_12 : decode cX8_count 12 = .ok (.iconst 1, 1) := by decide +kernel
theorem dX8_count_13 : decode cX8_count 13 = .ok (.if_icmp .ne 13, 3) := by decide +kernel
theorem dX8_count_16 : decode cX8_count 16 = .ok (.aload_n 0, 1) := by decide +kernel
theorem dX8_count_17 : decode cX8_count 17 = .ok (.getfield 7, 3) := by decide +kernel
theorem dX8_count_20 : decode cX8_count 20 = .ok (.bipush 34, 2) := by decide +kernel
theorem dX8_count_22 : decode cX8_count 22 = .ok (.iaload, 1) := by decide +kernel
theorem dX8_count_23 : decode cX8_count 23 = .ok (.goto 21, 3) := by decide +kernel
theorem dX8_count_26 : decode cX8_count 26 = .ok (.iload_n 1, 1) := by decide +kernel
theorem dX8_count_27 : decode cX8_count 27 = .ok (.iconst 2, 1) := by decide +kernel
theorem dX8_count_28 : decode cX8_count 28 = .ok (.if_icmp .ne 10, 3) := by decide +kernel
theorem dX8_count_31 : decode cX8_count 31 = .ok (.aload_n 0, 1) := by decide +kernel
theorem dX8_count_32 : decode cX8_count 32 = .ok (.invokevirtual 243, 3) := by decide +kernel
theorem dX8_count_35 : decode cX8_count 35 = .ok (.goto 9, 3) := by decide +kernel
theorem dX8_count_38 : decode cX8_count 38 = .ok (.aload_n 0, 1) := by decide +kernel
theorem dX8_count_39 : decode cX8_count 39 = .ok (.bipush (-2), 2) := by decide +kernel
theorem dX8_count_41 : decode cX8_count 41 = .ok (.invokevirtual 87, 3) := by decide +kernel
theorem dX8_count_44 : decode cX8_count 44 = .ok (.ireturn, 1) := by decide +kernel
theorem dX8_sums_0 : decode cX8_sums 0 = .ok (.lload_n 1, 1) := by decide +kernel
theorem dX8_sums_1 : decode cX8_sums 1 = .ok (.lstore 5, 2) := by decide +kernel
theorem dX8_sums_3 : decode cX8_sums 3 = .ok (.iconst 0, 1) := by decide +kernel
theorem dX8_sums_4 : decode cX8_sums 4 = .ok (.istore 7, 2) := by decide +kernel
theorem dX8_sums_6 : decode cX8_sums 6 = .ok (.iload 7, 2) := by decide +kernel
theorem dX8_sums_8 : decode cX8_sums 8 = .ok (.iload 4, 2) := by decide +kernel
theorem dX8_sums_10 : decode cX8_sums 10 = .ok (.if_icmp .ge 28, 3) := by decide +kernel
theorem dX8_sums_13 : decode cX8_sums 13 = .ok (.ldc2_w 255, 3) := by decide +kernel
theorem dX8_sums_16 : decode cX8_sums 16 = .ok (.lload 5, 2) := by decide +kernel
theorem dX8_sums_18 : decode cX8_sums 18 = .ok (.lmul, 1) := by decide +kernel
theorem dX8_sums_19 : decode cX8_sums 19 = .ok (.aload_n 0, 1) := by decide +kernel
theorem dX8_sums_20 : decode cX8_sums 20 = .ok (.getfield 7, 3) := by decide +kernel
theorem dX8_sums_23 : decode cX8_sums 23 = .ok (.iload_n 3, 1) := by decide +kernel
theorem dX8_sums_24 : decode cX8_sums 24 = .ok (.iload 7, 2) := by decide +kernel
theorem dX8_sums_26 : decode cX8_sums 26 = .ok (.iadd, 1) := by decide +kernel
theorem dX8_sums_27 : decode cX8_sums 27 = .ok (.iaload, 1) := by decide +kernel
theorem dX8_sums_28 : decode cX8_sums 28 = .ok (.i2l, 1) := by decide +kernel
theorem dX8_sums_29 : decode cX8_sums 29 = .ok (.ladd, 1) := by decide +kernel
theorem dX8_sums_30 : decode cX8_sums 30 = .ok (.lstore 5, 2) := by decide +kernel
theorem dX8_sums_32 : decode cX8_sums 32 = .ok (.iinc 7 1, 3) := by decide +kernel
theorem dX8_sums_35 : decode cX8_sums 35 = .ok (.goto (-29), 3) := by decide +kernel
theorem dX8_sums_38 : decode cX8_sums 38 = .ok (.lload 5, 2) := by decide +kernel
theorem dX8_sums_40 : decode cX8_sums 40 = .ok (.lreturn, 1) := by decide +kernel
theorem dX8_digest_0 : decode cX8_digest 0 = .ok (.ldc2_w 255, 3) := by decide +kernel
theorem dX8_digest_3 : decode cX8_digest 3 = .ok (.ldc2_w 255, 3) := by decide +kernel
theorem dX8_digest_6 : decode cX8_digest 6 = .ok (.ldc2_w 257, 3) := by decide +kernel
theorem dX8_digest_9 : decode cX8_digest 9 = .ok (.aload_n 0, 1) := by decide +kernel
theorem dX8_digest_10 : decode cX8_digest 10 = .ok (.invokevirtual 70, 3) := by decide +kernel
theorem dX8_digest_13 : decode cX8_digest 13 = .ok (.i2l, 1) := by decide +kernel
theorem dX8_digest_14 : decode cX8_digest 14 = .ok (.ladd, 1) := by decide +kernel
theorem dX8_digest_15 : decode cX8_digest 15 = .ok (.lmul, 1) := by decide +kernel
theorem dX8_digest_16 : decode cX8_digest 16 = .ok (.aload_n 0, 1) := by decide +kernel
theorem dX8_digest_17 : decode cX8_digest 17 = .ok (.getfield 7, 3) := by decide +kernel
theorem dX8_digest_20 : decode cX8_digest 20 = .ok (.bipush 34, 2) := by decide +kernel
theorem dX8_digest_22 : decode cX8_digest 22 = .ok (.iaload, 1) := by decide +kernel
theorem dX8_digest_23 : decode cX8_digest 23 = .ok (.i2l, 1) := by decide +kernel
theorem dX8_digest_24 : decode cX8_digest 24 = .ok (.ladd, 1) := by decide +kernel
theorem dX8_digest_25 : decode cX8_digest 25 = .ok (.lmul, 1) := by decide +kernel
theorem dX8_digest_26 : decode cX8_digest 26 = .ok (.aload_n 0, 1) := by decide +kernel
theorem dX8_digest_27 : decode cX8_digest 27 = .ok (.invokevirtual 243, 3) := by decide +kernel
theorem dX8_digest_30 : decode cX8_digest 30 = .ok (.i2l, 1) := by decide +kernel
theorem dX8_digest_31 : decode cX8_digest 31 = .ok (.ladd, 1) := by decide +kernel
theorem dX8_digest_32 : decode cX8_digest 32 = .ok (.lstore_n 1, 1) := by decide +kernel
theorem dX8_digest_33 : decode cX8_digest 33 = .ok (.aload_n 0, 1) := by decide +kernel
theorem dX8_digest_34 : decode cX8_digest 34 = .ok (.lload_n 1, 1) := by decide +kernel
theorem dX8_digest_35 : decode cX8_digest 35 = .ok (.iconst 0, 1) := by decide +kernel
theorem dX8_digest_36 : decode cX8_digest 36 = .ok (.iconst 4, 1) := by decide +kernel
theorem dX8_digest_37 : decode cX8_digest 37 = .ok (.aload_n 0, 1) := by decide +kernel
theorem dX8_digest_38 : decode cX8_digest 38 = .ok (.invokevirtual 70, 3) := by decide +kernel
theorem dX8_digest_41 : decode cX8_digest 41 = .ok (.imul, 1) := by decide +kernel
theorem dX8_digest_42 : decode cX8_digest 42 = .ok (.invokevirtual 259, 3) := by decide +kernel
theorem dX8_digest_45 : decode cX8_digest 45 = .ok (.lstore_n 1, 1) := by decide +kernel
theorem dX8_digest_46 : decode cX8_digest 46 = .ok (.aload_n 0, 1) := by decide +kernel
theorem dX8_digest_47 : decode cX8_digest 47 = .ok (.lload_n 1, 1) := by decide +kernel
theorem dX8_digest_48 : decode cX8_digest 48 = .ok (.bipush 32, 2) := by decide +kernel
theorem dX8_digest_50 : decode cX8_digest 50 = .ok (.iconst 2, 1) := by decide +kernel
theorem dX8_digest_51 : decode cX8_digest 51 = .ok (.invokevirtual 259, 3) := by decide +kernel
theorem dX8_digest_54 : decode cX8_digest 54 = .ok (.lstore_n 1, 1) := by decide +kernel
theorem dX8_digest_55 : decode cX8_digest 55 = .ok (.aload_n 0, 1) := by decide +kernel
theorem dX8_digest_56 : decode cX8_digest 56 = .ok (.lload_n 1, 1) := by decide +kernel
theorem dX8_digest_57 : decode cX8_digest 57 = .ok (.bipush 35, 2) := by decide +kernel
theorem dX8_digest_59 : decode cX8_digest 59 = .ok (.aload_n 0, 1) := by decide +kernel
theorem dX8_digest_60 : decode cX8_digest 60 = .ok (.getfield 7, 3) := by decide +kernel
theorem dX8_digest_63 : decode cX8_digest 63 = .ok (.bipush 34, 2) := by decide +kernel
theorem dX8_digest_65 : decode cX8_digest 65 = .ok (.iaload, 1) := by decide +kernel
theorem dX8_digest_66 : decode cX8_digest 66 = .ok (.invokevirtual 259, 3) := by decide +kernel
theorem dX8_digest_69 : decode cX8_digest 69 = .ok (.lstore_n 1, 1) := by decide +kernel
theorem dX8_digest_70 : decode cX8_digest 70 = .ok (.aload_n 0, 1) := by decide +kernel
theorem dX8_digest_71 : decode cX8_digest 71 = .ok (.lload_n 1, 1) := by decide +kernel
theorem dX8_digest_72 : decode cX8_digest 72 = .ok (.bipush 75, 2) := by decide +kernel
theorem dX8_digest_74 : decode cX8_digest 74 = .ok (.iconst 3, 1) := by decide +kernel
theorem dX8_digest_75 : decode cX8_digest 75 = .ok (.aload_n 0, 1) := by decide +kernel
theorem dX8_digest_76 : decode cX8_digest 76 = .ok (.invokevirtual 243, 3) := by decide +kernel
theorem dX8_digest_79 : decode cX8_digest 79 = .ok (.imul, 1) := by decide +kernel
theorem dX8_digest_80 : decode cX8_digest 80 = .ok (.invokevirtual 259, 3) := by decide +kernel
theorem dX8_digest_83 : decode cX8_digest 83 = .ok (.lstore_n 1, 1) := by decide +kernel
theorem dX8_digest_84 : decode cX8_digest 84 = .ok (.ldc2_w 255, 3) := by decide +kernel
theorem dX8_digest_87 : decode cX8_digest 87 = .ok (.ldc2_w 255, 3) := by decide +kernel
theorem dX8_digest_90 : decode cX8_digest 90 = .ok (.lload_n 1, 1) := by decide +kernel
theorem dX8_digest_91 : decode cX8_digest 91 = .ok (.lmul, 1) := by decide +kernel
theorem dX8_digest_92 : decode cX8_digest 92 = .ok (.aload_n 0, 1) := by decide +kernel
theorem dX8_digest_93 : decode cX8_digest 93 = .ok (.getfield 67, 3) := by decide +kernel
theorem dX8_digest_96 : decode cX8_digest 96 = .ok (.ladd, 1) := by decide +kernel
theorem dX8_digest_97 : decode cX8_digest 97 = .ok (.lmul, 1) := by decide +kernel
theorem dX8_digest_98 : decode cX8_digest 98 = .ok (.aload_n 0, 1) := by decide +kernel
theorem dX8_digest_99 : decode cX8_digest 99 = .ok (.getfield 23, 3) := by decide +kernel
theorem dX8_digest_102 : decode cX8_digest 102 = .ok (.ladd, 1) := by decide +kernel
theorem dX8_digest_103 : decode cX8_digest 103 = .ok (.lreturn, 1) := by decide +kernel
theorem dJ11_isValidCodePoint_9a6ad_0 : decode cJ11_isValidCodePoint_9a6ad 0 = .ok (.iload_n 0, 1) := by decide +kernel
theorem dJ11_isValidCodePoint_9a6ad_1 : decode cJ11_isValidCodePoint_9a6ad 1 = .ok (.bipush 16, 2) := by decide +kernel
theorem dJ11_isValidCodePoint_9a6ad_3 : decode cJ11_isValidCodePoint_9a6ad 3 = .ok (.iushr, 1) := by decide +kernel
theorem dJ11_isValidCodePoint_9a6ad_4 : decode cJ11_isValidCodePoint_9a6ad 4 = .ok (.istore_n 1, 1) := by decide +kernel
end
section
theorem dJ11_isValidCodePoint_9a6ad_5 : decode cJ11_isValidCodePoint_9a6ad 5 = .ok (.iload_n 1, 1) := by decide +kernel
theorem dJ11_isValidCodePoint_9a6ad_6 : decode cJ11_isValidCodePoint_9a6ad 6 = .ok (.bipush 17, 2) := by decide +kernel
theorem dJ11_isValidCodePoint_9a6ad_8 : decode cJ11_isValidCodePoint_9a6ad 8 = .ok (.if_icmp .ge 7, 3) := by decide +kernel
theorem dJ11_isValidCodePoint_9a6ad_11 : decode cJ11_isValidCodePoint_9a6ad 11 = .ok (.iconst 1, 1) := by decide +kernel
theorem dJ11_isValidCodePoint_9a6ad_12 : decode cJ11_isValidCodePoint_9a6ad 12 = .ok (.goto 4, 3) := by decide +kernel
theorem dJ11_isValidCodePoint_9a6ad_15 : decode cJ11_isValidCodePoint_9a6ad 15 = .ok (.iconst 0, 1) := by decide +kernel
theorem dJ11_isValidCodePoint_9a6ad_16 : decode cJ11_isValidCodePoint_9a6ad 16 = .ok (.ireturn, 1) := by decide +kernel
theorem dJ11_highSurrogate_5068e_0 : decode cJ11_highSurrogate_5068e 0 = .ok (.iload_n 0, 1) := by decide +kernel
theorem dJ11_highSurrogate_5068e_1 : decode cJ11_highSurrogate_5068e 1 = .ok (.bipush 10, 2) := by decide +kernel
theorem dJ11_highSurrogate_5068e_3 : decode cJ11_highSurrogate_5068e 3 = .ok (.iushr, 1) := by decide +kernel
theorem dJ11_highSurrogate_5068e_4 : decode cJ11_highSurrogate_5068e 4 = .ok (.ldc 110, 2) := by decide +kernel
theorem dJ11_highSurrogate_5068e_6 : decode cJ11_highSurrogate_5068e 6 = .ok (.iadd, 1) := by decide +kernel
theorem dJ11_highSurrogate_5068e_7 : decode cJ11_highSurrogate_5068e 7 = .ok (.i2c, 1) := by decide +kernel
theorem dJ11_highSurrogate_5068e_8 : decode cJ11_highSurrogate_5068e 8 = .ok (.ireturn, 1) := by decide +kernel
theorem dJ11_lowSurrogate_5068e_0 : decode cJ11_lowSurrogate_5068e 0 = .ok (.iload_n 0, 1) := by decide +kernel
theorem dJ11_lowSurrogate_5068e_1 : decode cJ11_lowSurrogate_5068e 1 = .ok (.sipush 1023, 3) := by decide +kernel
theorem dJ11_lowSurrogate_5068e_4 : decode cJ11_lowSurrogate_5068e 4 = .ok (.iand, 1) := by decide +kernel
theorem dJ11_lowSurrogate_5068e_5 : decode cJ11_lowSurrogate_5068e 5 = .ok (.ldc 76, 2) := by decide +kernel
theorem dJ11_lowSurrogate_5068e_7 : decode cJ11_lowSurrogate_5068e 7 = .ok (.iadd, 1) := by decide +kernel
theorem dJ11_lowSurrogate_5068e_8 : decode cJ11_lowSurrogate_5068e 8 = .ok (.i2c, 1) := by decide +kernel
theorem dJ11_lowSurrogate_5068e_9 : decode cJ11_lowSurrogate_5068e 9 = .ok (.ireturn, 1) := by decide +kernel
theorem dJ6_bitCount_0f7a4_0 : decode cJ6_bitCount_0f7a4 0 = .ok (.iload_n 0, 1) := by decide +kernel
theorem dJ6_bitCount_0f7a4_1 : decode cJ6_bitCount_0f7a4 1 = .ok (.iload_n 0, 1) := by decide +kernel
theorem dJ6_bitCount_0f7a4_2 : decode cJ6_bitCount_0f7a4 2 = .ok (.iconst 1, 1) := by decide +kernel
theorem dJ6_bitCount_0f7a4_3 : decode cJ6_bitCount_0f7a4 3 = .ok (.iushr, 1) := by decide +kernel
theorem dJ6_bitCount_0f7a4_4 : decode cJ6_bitCount_0f7a4 4 = .ok (.ldc_w 265, 3) := by decide +kernel
theorem dJ6_bitCount_0f7a4_7 : decode cJ6_bitCount_0f7a4 7 = .ok (.iand, 1) := by decide +kernel
theorem dJ6_bitCount_0f7a4_8 : decode cJ6_bitCount_0f7a4 8 = .ok (.isub, 1) := by decide +kernel
theorem dJ6_bitCount_0f7a4_9 : decode cJ6_bitCount_0f7a4 9 = .ok (.istore_n 0, 1) := by decide +kernel
theorem dJ6_bitCount_0f7a4_10 : decode cJ6_bitCount_0f7a4 10 = .ok (.iload_n 0, 1) := by decide +kernel
theorem dJ6_bitCount_0f7a4_11 : decode cJ6_bitCount_0f7a4 11 = .ok (.ldc_w 266, 3) := by decide +kernel
theorem dJ6_bitCount_0f7a4_14 : decode cJ6_bitCount_0f7a4 14 = .ok (.iand, 1) := by decide +kernel
theorem dJ6_bitCount_0f7a4_15 : decode cJ6_bitCount_0f7a4 15 = .ok (.iload_n 0, 1) := by decide +kernel
theorem dJ6_bitCount_0f7a4_16 : decode cJ6_bitCount_0f7a4 16 = .ok (.iconst 2, 1) := by decide +kernel
theorem dJ6_bitCount_0f7a4_17 : decode cJ6_bitCount_0f7a4 17 = .ok (.iushr, 1) := by decide +kernel
theorem dJ6_bitCount_0f7a4_18 : decode cJ6_bitCount_0f7a4 18 = .ok (.ldc_w 266, 3) := by decide +kernel
theorem dJ6_bitCount_0f7a4_21 : decode cJ6_bitCount_0f7a4 21 = .ok (.iand, 1) := by decide +kernel
theorem dJ6_bitCount_0f7a4_22 : decode cJ6_bitCount_0f7a4 22 = .ok (.iadd, 1) := by decide +kernel
theorem dJ6_bitCount_0f7a4_23 : decode cJ6_bitCount_0f7a4 23 = .ok (.istore_n 0, 1) := by decide +kernel
theorem dJ6_bitCount_0f7a4_24 : decode cJ6_bitCount_0f7a4 24 = .ok (.iload_n 0, 1) := by decide +kernel
theorem dJ6_bitCount_0f7a4_25 : decode cJ6_bitCount_0f7a4 25 = .ok (.iload_n 0, 1) := by decide +kernel
theorem dJ6_bitCount_0f7a4_26 : decode cJ6_bitCount_0f7a4 26 = .ok (.iconst 4, 1) := by decide +kernel
theorem dJ6_bitCount_0f7a4_27 : decode cJ6_bitCount_0f7a4 27 = .ok (.iushr, 1) := by decide +kernel
theorem dJ6_bitCount_0f7a4_28 : decode cJ6_bitCount_0f7a4 28 = .ok (.iadd, 1) := by decide +kernel
theorem dJ6_bitCount_0f7a4_29 : decode cJ6_bitCount_0f7a4 29 = .ok (.ldc_w 267, 3) := by decide +kernel
theorem dJ6_bitCount_0f7a4_32 : decode cJ6_bitCount_0f7a4 32 = .ok (.iand, 1) := by decide +kernel
theorem dJ6_bitCount_0f7a4_33 : decode cJ6_bitCount_0f7a4 33 = .ok (.istore_n 0, 1) := by decide +kernel
theorem dJ6_bitCount_0f7a4_34 : decode cJ6_bitCount_0f7a4 34 = .ok (.iload_n 0, 1) := by decide +kernel
theorem dJ6_bitCount_0f7a4_35 : decode cJ6_bitCount_0f7a4 35 = .ok (.iload_n 0, 1) := by decide +kernel
theorem dJ6_bitCount_0f7a4_36 : decode cJ6_bitCount_0f7a4 36 = .ok (.bipush 8, 2) := by decide +kernel
theorem dJ6_bitCount_0f7a4_38 : decode cJ6_bitCount_0f7a4 38 = .ok (.iushr, 1) := by decide +kernel
theorem dJ6_bitCount_0f7a4_39 : decode cJ6_bitCount_0f7a4 39 = .ok (.iadd, 1) := by decide +kernel
theorem dJ6_bitCount_0f7a4_40 : decode cJ6_bitCount_0f7a4 40 = .ok (.istore_n 0, 1) := by decide +kernel
theorem dJ6_bitCount_0f7a4_41 : decode cJ6_bitCount_0f7a4 41 = .ok (.iload_n 0, 1) := by decide +kernel
theorem dJ6_bitCount_0f7a4_42 : decode cJ6_bitCount_0f7a4 42 = .ok (.iload_n 0, 1) := by decide +kernel
theorem dJ6_bitCount_0f7a4_43 : decode cJ6_bitCount_0f7a4 43 = .ok (.bipush 16, 2) := by decide +kernel
theorem dJ6_bitCount_0f7a4_45 : decode cJ6_bitCount_0f7a4 45 = .ok (.iushr, 1) := by decide +kernel
theorem dJ6_bitCount_0f7a4_46 : decode cJ6_bitCount_0f7a4 46 = .ok (.iadd, 1) := by decide +kernel
theorem dJ6_bitCount_0f7a4_47 : decode cJ6_bitCount_0f7a4 47 = .ok (.istore_n 0, 1) := by decide +kernel
theorem dJ6_bitCount_0f7a4_48 : decode cJ6_bitCount_0f7a4 48 = .ok (.iload_n 0, 1) := by decide +kernel
theorem dJ6_bitCount_0f7a4_49 : decode cJ6_bitCount_0f7a4 49 = .ok (.bipush 63, 2) := by decide +kernel
theorem dJ6_bitCount_0f7a4_51 : decode cJ6_bitCount_0f7a4 51 = .ok (.iand, 1) := by decide +kernel
theorem dJ6_bitCount_0f7a4_52 : decode cJ6_bitCount_0f7a4 52 = .ok (.ireturn, 1) := by decide +kernel
theorem dJ9_max_7cf53_0 : decode cJ9_max_7cf53 0 = .ok (.iload_n 0, 1) := by decide +kernel
theorem dJ9_max_7cf53_1 : decode cJ9_max_7cf53 1 = .ok (.iload_n 1, 1) := by decide +kernel
theorem dJ9_max_7cf53_2 : decode cJ9_max_7cf53 2 = .ok (.if_icmp .lt 7, 3) := by decide +kernel
theorem dJ9_max_7cf53_5 : decode cJ9_max_7cf53 5 = .ok (.iload_n 0, 1) := by decide +kernel
theorem dJ9_max_7cf53_6 : decode cJ9_max_7cf53 6 = .ok (.goto 4, 3) := by decide +kernel
theorem dJ9_max_7cf53_9 : decode cJ9_max_7cf53 9 = .ok (.iload_n 1, 1) := by decide +kernel
theorem dJ9_max_7cf53_10 : decode cJ9_max_7cf53 10 = .ok (.ireturn, 1) := by decide +kernel
theorem dJ9_min_7cf53_0 : decode cJ9_min_7cf53 0 = .ok (.iload_n 0, 1) := by decide +kernel
theorem dJ9_min_7cf53_1 : decode cJ9_min_7cf53 1 = .ok (.iload_n 1, 1) := by decide +kernel
theorem dJ9_min_7cf53_2 : decode cJ9_min_7cf53 2 = .ok (.if_icmp .gt 7, 3) := by decide +kernel
theorem dJ9_min_7cf53_5 : decode cJ9_min_7cf53 5 = .ok (.iload_n 0, 1) := by decide +kernel
theorem dJ9_min_7cf53_6 : decode cJ9_min_7cf53 6 = .ok (.goto 4, 3) := by decide +kernel
theorem dJ9_min_7cf53_9 : decode cJ9_min_7cf53 9 = .ok (.iload_n 1, 1) := by decide +kernel
theorem dJ9_min_7cf53_10 : decode cJ9_min_7cf53 10 = .ok (.ireturn, 1) := by decide +kernel
theorem dJ0_length_8abf5_0 : decode cJ0_length_8abf5 0 = .ok (.aload_n 0, 1) := by decide +kernel
theorem dJ0_length_8abf5_1 : decode cJ0_length_8abf5 1 = .ok (.getfield 9, 3) := by decide +kernel
theorem dJ0_length_8abf5_4 : decode cJ0_length_8abf5 4 = .ok (.arraylength, 1) := by decide +kernel
theorem dJ0_length_8abf5_5 : decode cJ0_length_8abf5 5 = .ok (.aload_n 0, 1) := by decide +kernel
theorem dJ0_length_8abf5_6 : decode cJ0_length_8abf5 6 = .ok (.invokevirtual 335, 3) := by decide +kernel
theorem dJ0_length_8abf5_9 : decode cJ0_length_8abf5 9 = .ok (.ishr, 1) := by decide +kernel
theorem dJ0_length_8abf5_10 : decode cJ0_length_8abf5 10 = .ok (.ireturn, 1) := by decide +kernel
theorem dJ0_indexOf_0f7a4_0 : decode cJ0_indexOf_0f7a4 0 = .ok (.aload_n 0, 1) := by decide +kernel
theorem dJ0_indexOf_0f7a4_1 : decode cJ0_indexOf_0f7a4 1 = .ok (.iload_n 1, 1) := by decide +kernel
theorem dJ0_indexOf_0f7a4_2 : decode cJ0_indexOf_0f7a4 2 = .ok (.iconst 0, 1) := by decide +kernel
theorem dJ0_indexOf_0f7a4_3 : decode cJ0_indexOf_0f7a4 3 = .ok (.invokevirtual 633, 3) := by decide +kernel
theorem dJ0_indexOf_0f7a4_6 : decode cJ0_indexOf_0f7a4 6 = .ok (.ireturn, 1) := by decide +kernel
theorem dJ0_indexOf_7cf53_0 : decode cJ0_indexOf_7cf53 0 = .ok (.aload_n 0, 1) := by decide +kernel
theorem dJ0_indexOf_7cf53_1 : decode cJ0_indexOf_7cf53 1 = .ok (.invokevirtual 492, 3) := by decide +kernel
theorem dJ0_indexOf_7cf53_4 : decode cJ0_indexOf_7cf53 4 = .ok (.ifCond .eq 19, 3) := by decide +kernel
theorem dJ0_indexOf_7cf53_7 : decode cJ0_indexOf_7cf53 7 = .ok (.aload_n 0, 1) := by decide +kernel
theorem dJ0_indexOf_7cf53_8 : decode cJ0_indexOf_7cf53 8 = .ok (.getfield 9, 3) := by decide +kernel
theorem dJ0_indexOf_7cf53_11 : decode cJ0_indexOf_7cf53 11 = .ok (.iload_n 1, 1) := by decide +kernel
theorem dJ0_indexOf_7cf53_12 : decode cJ0_indexOf_7cf53 12 = .ok (.iload_n 2, 1) := by decide +kernel
theorem dJ0_indexOf_7cf53_13 : decode cJ0_indexOf_7cf53 13 = .ok (.aload_n 0, 1) := by decide +kernel
theorem dJ0_indexOf_7cf53_14 : decode cJ0_indexOf_7cf53 14 = .ok (.invokevirtual 505, 3) := by decide +kernel
theorem dJ0_indexOf_7cf53_17 : decode cJ0_indexOf_7cf53 17 = .ok (.invokestatic 637, 3) := by decide +kernel
theorem dJ0_indexOf_7cf53_20 : decode cJ0_indexOf_7cf53 20 = .ok (.goto 16, 3) := by decide +kernel
theorem dJ0_indexOf_7cf53_23 : decode cJ0_indexOf_7cf53 23 = .ok (.aload_n 0, 1) := by decide +kernel
theorem dJ0_indexOf_7cf53_24 : decode cJ0_indexOf_7cf53 24 = .ok (.getfield 9, 3) := by decide +kernel
theorem dJ0_indexOf_7cf53_27 : decode cJ0_indexOf_7cf53 27 = .ok (.iload_n 1, 1) := by decide +kernel
theorem dJ0_indexOf_7cf53_28 : decode cJ0_indexOf_7cf53 28 = .ok (.iload_n 2, 1) := by decide +kernel
theorem dJ0_indexOf_7cf53_29 : decode cJ0_indexOf_7cf53 29 = .ok (.aload_n 0, 1) := by decide +kernel
theorem dJ0_indexOf_7cf53_30 : decode cJ0_indexOf_7cf53 30 = .ok (.invokevirtual 505, 3) := by decide +kernel
theorem dJ0_indexOf_7cf53_33 : decode cJ0_indexOf_7cf53 33 = .ok (.invokestatic 640, 3) := by decide +kernel
theorem dJ0_indexOf_7cf53_36 : decode cJ0_indexOf_7cf53 36 = .ok (.ireturn, 1) := by decide +kernel
theorem dJ0_coder_7d493_0 : decode cJ0_coder_7d493 0 = .ok (.getstatic 38, 3) := by decide +kernel
theorem dJ0_coder_7d493_3 : decode cJ0_coder_7d493 3 = .ok (.ifCond .eq 10, 3) := by decide +kernel
theorem dJ0_coder_7d493_6 : decode cJ0_coder_7d493 6 = .ok (.aload_n 0, 1) := by decide +kernel
theorem dJ0_coder_7d493_7 : decode cJ0_coder_7d493 7 = .ok (.getfield 15, 3) := by decide +kernel
theorem dJ0_coder_7d493_10 : decode cJ0_coder_7d493 10 = .ok (.goto 4, 3) := by decide +kernel
theorem dJ0_coder_7d493_13 : decode cJ0_coder_7d493 13 = .ok (.iconst 1, 1) := by decide +kernel
theorem dJ0_coder_7d493_14 : decode cJ0_coder_7d493 14 = .ok (.ireturn, 1) := by decide +kernel
theorem dJ0_isLatin1_aae02_0 : decode cJ0_isLatin1_aae02 0 = .ok (.getstatic 38, 3) := by decide +kernel
theorem dJ0_isLatin1_aae02_3 : decode cJ0_isLatin1_aae02 3 = .ok (.ifCond .eq 14, 3) := by decide +kernel
theorem dJ0_isLatin1_aae02_6 : decode cJ0_isLatin1_aae02 6 = .ok (.aload_n 0, 1) := by decide +kernel
theorem dJ0_isLatin1_aae02_7 : decode cJ0_isLatin1_aae02 7 = .ok (.getfield 15, 3) := by decide +kernel
theorem dJ0_isLatin1_aae02_10 : decode cJ0_isLatin1_aae02 10 = .ok (.ifCond .ne 7, 3) := by decide +kernel
theorem dJ0_isLatin1_aae02_13 : decode cJ0_isLatin1_aae02 13 = .ok (.iconst 1, 1) := by decide +kernel
theorem dJ0_isLatin1_aae02_14 : decode cJ0_isLatin1_aae02 14 = .ok (.goto 4, 3) := by decide +kernel
theorem dJ0_isLatin1_aae02_17 : decode cJ0_isLatin1_aae02 17 = .ok (.iconst 0, 1) := by decide +kernel
theorem dJ0_isLatin1_aae02_18 : decode cJ0_isLatin1_aae02 18 = .ok (.ireturn, 1) := by decide +kernel
theorem dJ0_checkBoundsBeginEnd_23922_0 : decode cJ0_checkBoundsBeginEnd_23922 0 = .ok (.iload_n 0, 1) := by decide +kernel
theorem dJ0_checkBoundsBeginEnd_23922_1 : decode cJ0_checkBoundsBeginEnd_23922 1 = .ok (.iload_n 1, 1) := by decide +kernel
theorem dJ0_checkBoundsBeginEnd_23922_2 : decode cJ0_checkBoundsBeginEnd_23922 2 = .ok (.iload_n 2, 1) := by decide +kernel
theorem dJ0_checkBoundsBeginEnd_23922_3 : decode cJ0_checkBoundsBeginEnd_23922 3 = .ok (.getstatic 1053, 3) := by decide +kernel
theorem dJ0_checkBoundsBeginEnd_23922_6 : decode cJ0_checkBoundsBeginEnd_23922 6 = .ok (.invokestatic 1062, 3) := by decide +kernel
theorem dJ0_checkBoundsBeginEnd_23922_9 : decode cJ0_checkBoundsBeginEnd_23922 9 = .ok (.pop, 1) := by decide +kernel
theorem dJ0_checkBoundsBeginEnd_23922_10 : decode cJ0_checkBoundsBeginEnd_23922 10 = .ok (.return_, 1) := by decide +kernel
theorem dJ1_canEncode_9a6ad_0 : decode cJ1_canEncode_9a6ad 0 = .ok (.iload_n 0, 1) := by decide +kernel
theorem dJ1_canEncode_9a6ad_1 : decode cJ1_canEncode_9a6ad 1 = .ok (.ifCond .lt 14, 3) := by decide +kernel
theorem dJ1_canEncode_9a6ad_4 : decode cJ1_canEncode_9a6ad 4 = .ok (.iload_n 0, 1) := by decide +kernel
theorem dJ1_canEncode_9a6ad_5 : decode cJ1_canEncode_9a6ad 5 = .ok (.sipush 255, 3) := by decide +kernel
theorem dJ1_canEncode_9a6ad_8 : decode cJ1_canEncode_9a6ad 8 = .ok (.if_icmp .gt 7, 3) := by decide +kernel
theorem dJ1_canEncode_9a6ad_11 : decode cJ1_canEncode_9a6ad 11 = .ok (.iconst 1, 1) := by decide +kernel
theorem dJ1_canEncode_9a6ad_12 : decode cJ1_canEncode_9a6ad 12 = .ok (.goto 4, 3) := by decide +kernel
theorem dJ1_canEncode_9a6ad_15 : decode cJ1_canEncode_9a6ad 15 = .ok (.iconst 0, 1) := by decide +kernel
theorem dJ1_canEncode_9a6ad_16 : decode cJ1_canEncode_9a6ad 16 = .ok (.ireturn, 1) := by decide +kernel
theorem dJ1_indexOf_4cfef_0 : decode cJ1_indexOf_4cfef 0 = .ok (.iload_n 1, 1) := by decide +kernel
theorem dJ1_indexOf_4cfef_1 : decode cJ1_indexOf_4cfef 1 = .ok (.invokestatic 88, 3) := by decide +kernel
theorem dJ1_indexOf_4cfef_4 : decode cJ1_indexOf_4cfef 4 = .ok (.ifCond .ne 5, 3) := by decide +kernel
theorem dJ1_indexOf_4cfef_7 : decode cJ1_indexOf_4cfef 7 = .ok (.iconst (-1), 1) := by decide +kernel
theorem dJ1_indexOf_4cfef_8 : decode cJ1_indexOf_4cfef 8 = .ok (.ireturn, 1) := by decide +kernel
theorem dJ1_indexOf_4cfef_9 : decode cJ1_indexOf_4cfef 9 = .ok (.iload_n 2, 1) := by decide +kernel
theorem dJ1_indexOf_4cfef_10 : decode cJ1_indexOf_4cfef 10 = .ok (.iconst 0, 1) := by decide +kernel
theorem dJ1_indexOf_4cfef_11 : decode cJ1_indexOf_4cfef 11 = .ok (.invokestatic 92, 3) := by decide +kernel
theorem dJ1_indexOf_4cfef_14 : decode cJ1_indexOf_4cfef 14 = .ok (.istore_n 2, 1) := by decide +kernel
theorem dJ1_indexOf_4cfef_15 : decode cJ1_indexOf_4cfef 15 = .ok (.iload_n 3, 1) := by decide +kernel
theorem dJ1_indexOf_4cfef_16 : decode cJ1_indexOf_4cfef 16 = .ok (.aload_n 0, 1) := by decide +kernel
theorem dJ1_indexOf_4cfef_17 : decode cJ1_indexOf_4cfef 17 = .ok (.arraylength, 1) := by decide +kernel
theorem dJ1_indexOf_4cfef_18 : decode cJ1_indexOf_4cfef 18 = .ok (.invokestatic 38, 3) := by decide +kernel
theorem dJ1_indexOf_4cfef_21 : decode cJ1_indexOf_4cfef 21 = .ok (.istore_n 3, 1) := by decide +kernel
theorem dJ1_indexOf_4cfef_22 : decode cJ1_indexOf_4cfef 22 = .ok (.iload_n 2, 1) := by decide +kernel
theorem dJ1_indexOf_4cfef_23 : decode cJ1_indexOf_4cfef 23 = .ok (.iload_n 3, 1) := by decide +kernel
theorem dJ1_indexOf_4cfef_24 : decode cJ1_indexOf_4cfef 24 = .ok (.if_icmp .lt 5, 3) := by decide +kernel
theorem dJ1_indexOf_4cfef_27 : decode cJ1_indexOf_4cfef 27 = .ok (.iconst (-1), 1) := by decide +kernel
theorem dJ1_indexOf_4cfef_28 : decode cJ1_indexOf_4cfef 28 = .ok (.ireturn, 1) := by decide +kernel
theorem dJ1_indexOf_4cfef_29 : decode cJ1_indexOf_4cfef 29 = .ok (.aload_n 0, 1) := by decide +kernel
theorem dJ1_indexOf_4cfef_30 : decode cJ1_indexOf_4cfef 30 = .ok (.iload_n 1, 1) := by decide +kernel
theorem dJ1_indexOf_4cfef_31 : decode cJ1_indexOf_4cfef 31 = .ok (.iload_n 2, 1) := by decide +kernel
theorem dJ1_indexOf_4cfef_32 : decode cJ1_indexOf_4cfef 32 = .ok (.iload_n 3, 1) := by decide +kernel
theorem dJ1_indexOf_4cfef_33 : decode cJ1_indexOf_4cfef 33 = .ok (.invokestatic 95, 3) := by decide +kernel
theorem dJ1_indexOf_4cfef_36 : decode cJ1_indexOf_4cfef 36 = .ok (.ireturn, 1) := by decide +kernel
theorem dJ1_indexOfChar_4cfef_0 : decode cJ1_indexOfChar_4cfef 0 = .ok (.iload_n 1, 1) := by decide +kernel
theorem dJ1_indexOfChar_4cfef_1 : decode cJ1_indexOfChar_4cfef 1 = .ok (.i2b, 1) := by decide +kernel
theorem dJ1_indexOfChar_4cfef_2 : decode cJ1_indexOfChar_4cfef 2 = .ok (.istore 4, 2) := by decide +kernel
theorem dJ1_indexOfChar_4cfef_4 : decode cJ1_indexOfChar_4cfef 4 = .ok (.iload_n 2, 1) := by decide +kernel
theorem dJ1_indexOfChar_4cfef_5 : decode cJ1_indexOfChar_4cfef 5 = .ok (.istore 5, 2) := by decide +kernel
theorem dJ1_indexOfChar_4cfef_7 : decode cJ1_indexOfChar_4cfef 7 = .ok (.iload 5, 2) := by decide +kernel
theorem dJ1_indexOfChar_4cfef_9 : decode cJ1_indexOfChar_4cfef 9 = .ok (.iload_n 3, 1) := by decide +kernel
theorem dJ1_indexOfChar_4cfef_10 : decode cJ1_indexOfChar_4cfef 10 = .ok (.if_icmp .ge 21, 3) := by decide +kernel
theorem dJ1_indexOfChar_4cfef_13 : decode cJ1_indexOfChar_4cfef 13 = .ok (.aload_n 0, 1) := by decide +kernel
theorem dJ1_indexOfChar_4cfef_14 : decode cJ1_indexOfChar_4cfef 14 = .ok (.iload 5, 2) := by decide +kernel
theorem dJ1_indexOfChar_4cfef_16 : decode cJ1_indexOfChar_4cfef 16 = .ok (.baload, 1) := by decide +kernel
theorem dJ1_indexOfChar_4cfef_17 : decode cJ1_indexOfChar_4cfef 17 = .ok (.iload 4, 2) := by decide +kernel
theorem dJ1_indexOfChar_4cfef_19 : decode cJ1_indexOfChar_4cfef 19 = .ok (.if_icmp .ne 6, 3) := by decide +kernel
theorem dJ1_indexOfChar_4cfef_22 : decode cJ1_indexOfChar_4cfef 22 = .ok (.iload 5, 2) := by decide +kernel
theorem dJ1_indexOfChar_4cfef_24 : decode cJ1_indexOfChar_4cfef 24 = .ok (.ireturn, 1) := by decide +kernel
theorem dJ1_indexOfChar_4cfef_25 : decode cJ1_indexOfChar_4cfef 25 = .ok (.iinc 5 1, 3) := by decide +kernel
theorem dJ1_indexOfChar_4cfef_28 : decode cJ1_indexOfChar_4cfef 28 = .ok (.goto (-21), 3) := by decide +kernel
theorem dJ1_indexOfChar_4cfef_31 : decode cJ1_indexOfChar_4cfef 31 = .ok (.iconst (-1), 1) := by decide +kernel
theorem dJ1_indexOfChar_4cfef_32 : decode cJ1_indexOfChar_4cfef 32 = .ok (.ireturn, 1) := by decide +kernel
theorem dJ2_getChar_3b067_0 : decode cJ2_getChar_3b067 0 = .ok (.getstatic 44, 3) := by decide +kernel
theorem dJ2_getChar_3b067_3 : decode cJ2_getChar_3b067 3 = .ok (.ifCond .ne 25, 3) := by decide +kernel
theorem dJ2_getChar_3b067_6 : decode cJ2_getChar_3b067 6 = .ok (.iload_n 1, 1) := by decide +kernel
theorem dJ2_getChar_3b067_7 : decode cJ2_getChar_3b067 7 = .ok (.ifCond .lt 11, 3) := by decide +kernel
theorem dJ2_getChar_3b067_10 : decode cJ2_getChar_3b067 10 = .ok (.iload_n 1, 1) := by decide +kernel
theorem dJ2_getChar_3b067_11 : decode cJ2_getChar_3b067 11 = .ok (.aload_n 0, 1) := by decide +kernel
theorem dJ2_getChar_3b067_12 : decode cJ2_getChar_3b067 12 = .ok (.invokestatic 48, 3) := by decide +kernel
theorem dJ2_getChar_3b067_15 : decode cJ2_getChar_3b067 15 = .ok (.if_icmp .lt 13, 3) := by decide +kernel
theorem dJ2_getChar_3b067_18 : decode cJ2_getChar_3b067 18 = .ok (.new 52, 3) := by decide +kernel
theorem dJ2_getChar_3b067_21 : decode cJ2_getChar_3b067 21 = .ok (.dup, 1) := by decide +kernel
theorem dJ2_getChar_3b067_22 : decode cJ2_getChar_3b067 22 = .ok (.ldc 54, 2) := by decide +kernel
theorem dJ2_getChar_3b067_24 : decode cJ2_getChar_3b067 24 = .ok (.invokespecial 56, 3) := by decide +kernel
theorem dJ2_getChar_3b067_27 : decode cJ2_getChar_3b067 27 = .ok (.athrow, 1) := by decide +kernel
theorem dJ2_getChar_3b067_28 : decode cJ2_getChar_3b067 28 = .ok (.iload_n 1, 1) := by decide +kernel
theorem dJ2_getChar_3b067_29 : decode cJ2_getChar_3b067 29 = .ok (.iconst 1, 1) := by decide +kernel
theorem dJ2_getChar_3b067_30 : decode cJ2_getChar_3b067 30 = .ok (.ishl, 1) := by decide +kernel
theorem dJ2_getChar_3b067_31 : decode cJ2_getChar_3b067 31 = .ok (.istore_n 1, 1) := by decide +kernel
theorem dJ2_getChar_3b067_32 : decode cJ2_getChar_3b067 32 = .ok (.aload_n 0, 1) := by decide +kernel
theorem dJ2_getChar_3b067_33 : decode cJ2_getChar_3b067 33 = .ok (.iload_n 1, 1) := by decide +kernel
theorem dJ2_getChar_3b067_34 : decode cJ2_getChar_3b067 34 = .ok (.iinc 1 1, 3) := by decide +kernel
theorem dJ2_getChar_3b067_37 : decode cJ2_getChar_3b067 37 = .ok (.baload, 1) := by decide +kernel
theorem dJ2_getChar_3b067_38 : decode cJ2_getChar_3b067 38 = .ok (.sipush 255, 3) := by decide +kernel
theorem dJ2_getChar_3b067_41 : decode cJ2_getChar_3b067 41 = .ok (.iand, 1) := by decide +kernel
theorem dJ2_getChar_3b067_42 : decode cJ2_getChar_3b067 42 = .ok (.getstatic 59, 3) := by decide +kernel
theorem dJ2_getChar_3b067_45 : decode cJ2_getChar_3b067 45 = .ok (.ishl, 1) := by decide +kernel
theorem dJ2_getChar_3b067_46 : decode cJ2_getChar_3b067 46 = .ok (.aload_n 0, 1) := by decide +kernel
theorem dJ2_getChar_3b067_47 : decode cJ2_getChar_3b067 47 = .ok (.iload_n 1, 1) := by decide +kernel
theorem dJ2_getChar_3b067_48 : decode cJ2_getChar_3b067 48 = .ok (.baload, 1) := by decide +kernel
theorem dJ2_getChar_3b067_49 : decode cJ2_getChar_3b067 49 = .ok (.sipush 255, 3) := by decide +kernel
theorem dJ2_getChar_3b067_52 : decode cJ2_getChar_3b067 52 = .ok (.iand, 1) := by decide +kernel
theorem dJ2_getChar_3b067_53 : decode cJ2_getChar_3b067 53 = .ok (.getstatic 63, 3) := by decide +kernel
theorem dJ2_getChar_3b067_56 : decode cJ2_getChar_3b067 56 = .ok (.ishl, 1) := by decide +kernel
theorem dJ2_getChar_3b067_57 : decode cJ2_getChar_3b067 57 = .ok (.ior, 1) := by decide +kernel
theorem dJ2_getChar_3b067_58 : decode cJ2_getChar_3b067 58 = .ok (.i2c, 1) := by decide +kernel
theorem dJ2_getChar_3b067_59 : decode cJ2_getChar_3b067 59 = .ok (.ireturn, 1) := by decide +kernel
theorem dJ2_length_9d52b_0 : decode cJ2_length_9d52b 0 = .ok (.aload_n 0, 1) := by decide +kernel
theorem dJ2_length_9d52b_1 : decode cJ2_length_9d52b 1 = .ok (.arraylength, 1) := by decide +kernel
theorem dJ2_length_9d52b_2 : decode cJ2_length_9d52b 2 = .ok (.iconst 1, 1) := by decide +kernel
theorem dJ2_length_9d52b_3 : decode cJ2_length_9d52b 3 = .ok (.ishr, 1) := by decide +kernel
theorem dJ2_length_9d52b_4 : decode cJ2_length_9d52b 4 = .ok (.ireturn, 1) := by decide +kernel
theorem dJ2_indexOf_4cfef_0 : decode cJ2_indexOf_4cfef 0 = .ok (.iload_n 2, 1) := by decide +kernel
theorem dJ2_indexOf_4cfef_1 : decode cJ2_indexOf_4cfef 1 = .ok (.iconst 0, 1) := by decide +kernel
theorem dJ2_indexOf_4cfef_2 : decode cJ2_indexOf_4cfef 2 = .ok (.invokestatic 224, 3) := by decide +kernel
theorem dJ2_indexOf_4cfef_5 : decode cJ2_indexOf_4cfef 5 = .ok (.istore_n 2, 1) := by decide +kernel
theorem dJ2_indexOf_4cfef_6 : decode cJ2_indexOf_4cfef 6 = .ok (.iload_n 3, 1) := by decide +kernel
theorem dJ2_indexOf_4cfef_7 : decode cJ2_indexOf_4cfef 7 = .ok (.aload_n 0, 1) := by decide +kernel
theorem dJ2_indexOf_4cfef_8 : decode cJ2_indexOf_4cfef 8 = .ok (.arraylength, 1) := by decide +kernel
theorem dJ2_indexOf_4cfef_9 : decode cJ2_indexOf_4cfef 9 = .ok (.iconst 1, 1) := by decide +kernel
theorem dJ2_indexOf_4cfef_10 : decode cJ2_indexOf_4cfef 10 = .ok (.ishr, 1) := by decide +kernel
theorem dJ2_indexOf_4cfef_11 : decode cJ2_indexOf_4cfef 11 = .ok (.invokestatic 183, 3) := by decide +kernel
theorem dJ2_indexOf_4cfef_14 : decode cJ2_indexOf_4cfef 14 = .ok (.istore_n 3, 1) := by decide +kernel
theorem dJ2_indexOf_4cfef_15 : decode cJ2_indexOf_4cfef 15 = .ok (.iload_n 2, 1) := by decide +kernel
theorem dJ2_indexOf_4cfef_16 : decode cJ2_indexOf_4cfef 16 = .ok (.iload_n 3, 1) := by decide +kernel
theorem dJ2_indexOf_4cfef_17 : decode cJ2_indexOf_4cfef 17 = .ok (.if_icmp .lt 5, 3) := by decide +kernel
theorem dJ2_indexOf_4cfef_20 : decode cJ2_indexOf_4cfef 20 = .ok (.iconst (-1), 1) := by decide +kernel
theorem dJ2_indexOf_4cfef_21 : decode cJ2_indexOf_4cfef 21 = .ok (.ireturn, 1) := by decide +kernel
theorem dJ2_indexOf_4cfef_22 : decode cJ2_indexOf_4cfef 22 = .ok (.iload_n 1, 1) := by decide +kernel
theorem dJ2_indexOf_4cfef_23 : decode cJ2_indexOf_4cfef 23 = .ok (.ldc 227, 2) := by decide +kernel
theorem dJ2_indexOf_4cfef_25 : decode cJ2_indexOf_4cfef 25 = .ok (.if_icmp .ge 11, 3) := by decide +kernel
theorem dJ2_indexOf_4cfef_28 : decode cJ2_indexOf_4cfef 28 = .ok (.aload_n 0, 1) := by decide +kernel
theorem dJ2_indexOf_4cfef_29 : decode cJ2_indexOf_4cfef 29 = .ok (.iload_n 1, 1) := by decide +kernel
theorem dJ2_indexOf_4cfef_30 : decode cJ2_indexOf_4cfef 30 = .ok (.iload_n 2, 1) := by decide +kernel
theorem dJ2_indexOf_4cfef_31 : decode cJ2_indexOf_4cfef 31 = .ok (.iload_n 3, 1) := by decide +kernel
theorem dJ2_indexOf_4cfef_32 : decode cJ2_indexOf_4cfef 32 = .ok (.invokestatic 228, 3) := by decide +kernel
theorem dJ2_indexOf_4cfef_35 : decode cJ2_indexOf_4cfef 35 = .ok (.ireturn, 1) := by decide +kernel
theorem dJ2_indexOf_4cfef_36 : decode cJ2_indexOf_4cfef 36 = .ok (.aload_n 0, 1) := by decide +kernel
theorem dJ2_indexOf_4cfef_37 : decode cJ2_indexOf_4cfef 37 = .ok (.iload_n 1, 1) := by decide +kernel
theorem dJ2_indexOf_4cfef_38 : decode cJ2_indexOf_4cfef 38 = .ok (.iload_n 2, 1) := by decide +kernel
theorem dJ2_indexOf_4cfef_39 : decode cJ2_indexOf_4cfef 39 = .ok (.iload_n 3, 1) := by decide +kernel
theorem dJ2_indexOf_4cfef_40 : decode cJ2_indexOf_4cfef 40 = .ok (.invokestatic 232, 3) := by decide +kernel
theorem dJ2_indexOf_4cfef_43 : decode cJ2_indexOf_4cfef 43 = .ok (.ireturn, 1) := by decide +kernel
theorem dJ2_indexOfChar_4cfef_0 : decode cJ2_indexOfChar_4cfef 0 = .ok (.iload_n 2, 1) := by decide +kernel
theorem dJ2_indexOfChar_4cfef_1 : decode cJ2_indexOfChar_4cfef 1 = .ok (.iload_n 3, 1) := by decide +kernel
theorem dJ2_indexOfChar_4cfef_2 : decode cJ2_indexOfChar_4cfef 2 = .ok (.aload_n 0, 1) := by decide +kernel
theorem dJ2_indexOfChar_4cfef_3 : decode cJ2_indexOfChar_4cfef 3 = .ok (.invokestatic 96, 3) := by decide +kernel
theorem dJ2_indexOfChar_4cfef_6 : decode cJ2_indexOfChar_4cfef 6 = .ok (.aload_n 0, 1) := by decide +kernel
theorem dJ2_indexOfChar_4cfef_7 : decode cJ2_indexOfChar_4cfef 7 = .ok (.iload_n 1, 1) := by decide +kernel
theorem dJ2_indexOfChar_4cfef_8 : decode cJ2_indexOfChar_4cfef 8 = .ok (.iload_n 2, 1) := by decide +kernel
theorem dJ2_indexOfChar_4cfef_9 : decode cJ2_indexOfChar_4cfef 9 = .ok (.iload_n 3, 1) := by decide +kernel
theorem dJ2_indexOfChar_4cfef_10 : decode cJ2_indexOfChar_4cfef 10 = .ok (.invokestatic 244, 3) := by decide +kernel
theorem dJ2_indexOfChar_4cfef_13 : decode cJ2_indexOfChar_4cfef 13 = .ok (.ireturn, 1) := by decide +kernel
theorem dJ2_indexOfCharUnsafe_4cfef_0 : decode cJ2_indexOfCharUnsafe_4cfef 0 = .ok (.iload_n 2, 1) := by decide +kernel
theorem dJ2_indexOfCharUnsafe_4cfef_1 : decode cJ2_indexOfCharUnsafe_4cfef 1 = .ok (.istore 4, 2) := by decide +kernel
theorem dJ2_indexOfCharUnsafe_4cfef_3 : decode cJ2_indexOfCharUnsafe_4cfef 3 = .ok (.iload 4, 2) := by decide +kernel
theorem dJ2_indexOfCharUnsafe_4cfef_5 : decode cJ2_indexOfCharUnsafe_4cfef 5 = .ok (.iload_n 3, 1) := by decide +kernel
theorem dJ2_indexOfCharUnsafe_4cfef_6 : decode cJ2_indexOfCharUnsafe_4cfef 6 = .ok (.if_icmp .ge 22, 3) := by decide +kernel
theorem dJ2_indexOfCharUnsafe_4cfef_9 : decode cJ2_indexOfCharUnsafe_4cfef 9 = .ok (.aload_n 0, 1) := by decide +kernel
theorem dJ2_indexOfCharUnsafe_4cfef_10 : decode cJ2_indexOfCharUnsafe_4cfef 10 = .ok (.iload 4, 2) := by decide +kernel
theorem dJ2_indexOfCharUnsafe_4cfef_12 : decode cJ2_indexOfCharUnsafe_4cfef 12 = .ok (.invokestatic 71, 3) := by decide +kernel
theorem dJ2_indexOfCharUnsafe_4cfef_15 : decode cJ2_indexOfCharUnsafe_4cfef 15 = .ok (.iload_n 1, 1) := by decide +kernel
theorem dJ2_indexOfCharUnsafe_4cfef_16 : decode cJ2_indexOfCharUnsafe_4cfef 16 = .ok (.if_icmp .ne 6, 3) := by decide +kernel
theorem dJ2_indexOfCharUnsafe_4cfef_19 : decode cJ2_indexOfCharUnsafe_4cfef 19 = .ok (.iload 4, 2) := by decide +kernel
theorem dJ2_indexOfCharUnsafe_4cfef_21 : decode cJ2_indexOfCharUnsafe_4cfef 21 = .ok (.ireturn, 1) := by decide +kernel
theorem dJ2_indexOfCharUnsafe_4cfef_22 : decode cJ2_indexOfCharUnsafe_4cfef 22 = .ok (.iinc 4 1, 3) := by decide +kernel
theorem dJ2_indexOfCharUnsafe_4cfef_25 : decode cJ2_indexOfCharUnsafe_4cfef 25 = .ok (.goto (-22), 3) := by decide +kernel
theorem dJ2_indexOfCharUnsafe_4cfef_28 : decode cJ2_indexOfCharUnsafe_4cfef 28 = .ok (.iconst (-1), 1) := by decide +kernel
theorem dJ2_indexOfCharUnsafe_4cfef_29 : decode cJ2_indexOfCharUnsafe_4cfef 29 = .ok (.ireturn, 1) := by decide +kernel
theorem dJ2_indexOfSupplementary_4cfef_0 : decode cJ2_indexOfSupplementary_4cfef 0 = .ok (.iload_n 1, 1) := by decide +kernel
theorem dJ2_indexOfSupplementary_4cfef_1 : decode cJ2_indexOfSupplementary_4cfef 1 = .ok (.invokestatic 164, 3) := by decide +kernel
theorem dJ2_indexOfSupplementary_4cfef_4 : decode cJ2_indexOfSupplementary_4cfef 4 = .ok (.ifCond .eq 65, 3) := by decide +kernel
theorem dJ2_indexOfSupplementary_4cfef_7 : decode cJ2_indexOfSupplementary_4cfef 7 = .ok (.iload_n 1, 1) := by decide +kernel
theorem dJ2_indexOfSupplementary_4cfef_8 : decode cJ2_indexOfSupplementary_4cfef 8 = .ok (.invokestatic 157, 3) := by decide +kernel
theorem dJ2_indexOfSupplementary_4cfef_11 : decode cJ2_indexOfSupplementary_4cfef 11 = .ok (.istore 4, 2) := by decide +kernel
theorem dJ2_indexOfSupplementary_4cfef_13 : decode cJ2_indexOfSupplementary_4cfef 13 = .ok (.iload_n 1, 1) := by decide +kernel
theorem dJ2_indexOfSupplementary_4cfef_14 : decode cJ2_indexOfSupplementary_4cfef 14 = .ok (.invokestatic 161, 3) := by decide +kernel
theorem dJ2_indexOfSupplementary_4cfef_17 : decode cJ2_indexOfSupplementary_4cfef 17 = .ok (.istore 5, 2) := by decide +kernel
theorem dJ2_indexOfSupplementary_4cfef_19 : decode cJ2_indexOfSupplementary_4cfef 19 = .ok (.iload_n 2, 1) := by decide +kernel
theorem dJ2_indexOfSupplementary_4cfef_20 : decode cJ2_indexOfSupplementary_4cfef 20 = .ok (.iload_n 3, 1) := by decide +kernel
theorem dJ2_indexOfSupplementary_4cfef_21 : decode cJ2_indexOfSupplementary_4cfef 21 = .ok (.aload_n 0, 1) := by decide +kernel
theorem dJ2_indexOfSupplementary_4cfef_22 : decode cJ2_indexOfSupplementary_4cfef 22 = .ok (.invokestatic 96, 3) := by decide +kernel
theorem dJ2_indexOfSupplementary_4cfef_25 : decode cJ2_indexOfSupplementary_4cfef 25 = .ok (.iload_n 2, 1) := by decide +kernel
theorem dJ2_indexOfSupplementary_4cfef_26 : decode cJ2_indexOfSupplementary_4cfef 26 = .ok (.istore 6, 2) := by decide +kernel
theorem dJ2_indexOfSupplementary_4cfef_28 : decode cJ2_indexOfSupplementary_4cfef 28 = .ok (.iload 6, 2) := by decide +kernel
theorem dJ2_indexOfSupplementary_4cfef_30 : decode cJ2_indexOfSupplementary_4cfef 30 = .ok (.iload_n 3, 1) := by decide +kernel
theorem dJ2_indexOfSupplementary_4cfef_31 : decode cJ2_indexOfSupplementary_4cfef 31 = .ok (.iconst 1, 1) := by decide +kernel
theorem dJ2_indexOfSupplementary_4cfef_32 : decode cJ2_indexOfSupplementary_4cfef 32 = .ok (.isub, 1) := by decide +kernel
theorem dJ2_indexOfSupplementary_4cfef_33 : decode cJ2_indexOfSupplementary_4cfef 33 = .ok (.if_icmp .ge 36, 3) := by decide +kernel
theorem dJ2_indexOfSupplementary_4cfef_36 : decode cJ2_indexOfSupplementary_4cfef 36 = .ok (.aload_n 0, 1) := by decide +kernel
theorem dJ2_indexOfSupplementary_4cfef_37 : decode cJ2_indexOfSupplementary_4cfef 37 = .ok (.iload 6, 2) := by decide +kernel
theorem dJ2_indexOfSupplementary_4cfef_39 : decode cJ2_indexOfSupplementary_4cfef 39 = .ok (.invokestatic 71, 3) := by decide +kernel
theorem dJ2_indexOfSupplementary_4cfef_42 : decode cJ2_indexOfSupplementary_4cfef 42 = .ok (.iload 4, 2) := by decide +kernel
theorem dJ2_indexOfSupplementary_4cfef_44 : decode cJ2_indexOfSupplementary_4cfef 44 = .ok (.if_icmp .ne 19, 3) := by decide +kernel
theorem dJ2_indexOfSupplementary_4cfef_47 : decode cJ2_indexOfSupplementary_4cfef 47 = .ok (.aload_n 0, 1) := by decide +kernel
theorem dJ2_indexOfSupplementary_4cfef_48 : decode cJ2_indexOfSupplementary_4cfef 48 = .ok (.iload 6, 2) := by decide +kernel
theorem dJ2_indexOfSupplementary_4cfef_50 : decode cJ2_indexOfSupplementary_4cfef 50 = .ok (.iconst 1, 1) := by decide +kernel
theorem dJ2_indexOfSupplementary_4cfef_51 : decode cJ2_indexOfSupplementary_4cfef 51 = .ok (.iadd, 1) := by decide +kernel
theorem dJ2_indexOfSupplementary_4cfef_52 : decode cJ2_indexOfSupplementary_4cfef 52 = .ok (.invokestatic 71, 3) := by decide +kernel
theorem dJ2_indexOfSupplementary_4cfef_55 : decode cJ2_indexOfSupplementary_4cfef 55 = .ok (.iload 5, 2) := by decide +kernel
theorem dJ2_indexOfSupplementary_4cfef_57 : decode cJ2_indexOfSupplementary_4cfef 57 = .ok (.if_icmp .ne 6, 3) := by decide +kernel
theorem dJ2_indexOfSupplementary_4cfef_60 : decode cJ2_indexOfSupplementary_4cfef 60 = .ok (.iload 6, 2) := by decide +kernel
theorem dJ2_indexOfSupplementary_4cfef_62 : decode cJ2_indexOfSupplementary_4cfef 62 = .ok (.ireturn, 1) := by decide +kernel
theorem dJ2_indexOfSupplementary_4cfef_63 : decode cJ2_indexOfSupplementary_4cfef 63 = .ok (.iinc 6 1, 3) := by decide +kernel
theorem dJ2_indexOfSupplementary_4cfef_66 : decode cJ2_indexOfSupplementary_4cfef 66 = .ok (.goto (-38), 3) := by decide +kernel
theorem dJ2_indexOfSupplementary_4cfef_69 : decode cJ2_indexOfSupplementary_4cfef 69 = .ok (.iconst (-1), 1) := by decide +kernel
theorem dJ2_indexOfSupplementary_4cfef_70 : decode cJ2_indexOfSupplementary_4cfef 70 = .ok (.ireturn, 1) := by decide +kernel
theorem dJ2_checkBoundsBeginEnd_d044e_0 : decode cJ2_checkBoundsBeginEnd_d044e 0 = .ok (.iload_n 0, 1) := by decide +kernel
theorem dJ2_checkBoundsBeginEnd_d044e_1 : decode cJ2_checkBoundsBeginEnd_d044e 1 = .ok (.iload_n 1, 1) := by decide +kernel
theorem dJ2_checkBoundsBeginEnd_d044e_2 : decode cJ2_checkBoundsBeginEnd_d044e 2 = .ok (.aload_n 2, 1) := by decide +kernel
theorem dJ2_checkBoundsBeginEnd_d044e_3 : decode cJ2_checkBoundsBeginEnd_d044e 3 = .ok (.invokestatic 48, 3) := by decide +kernel
theorem dJ2_checkBoundsBeginEnd_d044e_6 : decode cJ2_checkBoundsBeginEnd_d044e 6 = .ok (.invokestatic 241, 3) := by decide +kernel
theorem dJ2_checkBoundsBeginEnd_d044e_9 : decode cJ2_checkBoundsBeginEnd_d044e 9 = .ok (.return_, 1) := by decide +kernel
theorem dJ7_fill_d0a16_0 : decode cJ7_fill_d0a16 0 = .ok (.iconst 0, 1) := by decide +kernel
theorem dJ7_fill_d0a16_1 : decode cJ7_fill_d0a16 1 = .ok (.istore_n 3, 1) := by decide +kernel
theorem dJ7_fill_d0a16_2 : decode cJ7_fill_d0a16 2 = .ok (.aload_n 0, 1) := by decide +kernel
theorem dJ7_fill_d0a16_3 : decode cJ7_fill_d0a16 3 = .ok (.arraylength, 1) := by decide +kernel
theorem dJ7_fill_d0a16_4 : decode cJ7_fill_d0a16 4 = .ok (.istore 4, 2) := by decide +kernel
theorem dJ7_fill_d0a16_6 : decode cJ7_fill_d0a16 6 = .ok (.iload_n 3, 1) := by decide +kernel
theorem dJ7_fill_d0a16_7 : decode cJ7_fill_d0a16 7 = .ok (.iload 4, 2) := by decide +kernel
theorem dJ7_fill_d0a16_9 : decode cJ7_fill_d0a16 9 = .ok (.if_icmp .ge 13, 3) := by decide +kernel
theorem dJ7_fill_d0a16_12 : decode cJ7_fill_d0a16 12 = .ok (.aload_n 0, 1) := by decide +kernel
theorem dJ7_fill_d0a16_13 : decode cJ7_fill_d0a16 13 = .ok (.iload_n 3, 1) := by decide +kernel
theorem dJ7_fill_d0a16_14 : decode cJ7_fill_d0a16 14 = .ok (.lload_n 1, 1) := by decide +kernel
theorem dJ7_fill_d0a16_15 : decode cJ7_fill_d0a16 15 = .ok (.lastore, 1) := by decide +kernel
theorem dJ7_fill_d0a16_16 : decode cJ7_fill_d0a16 16 = .ok (.iinc 3 1, 3) := by decide +kernel
theorem dJ7_fill_d0a16_19 : decode cJ7_fill_d0a16 19 = .ok (.goto (-13), 3) := by decide +kernel
theorem dJ7_fill_d0a16_22 : decode cJ7_fill_d0a16 22 = .ok (.return_, 1) := by decide +kernel
theorem dJ7_fill_53178_0 : decode cJ7_fill_53178 0 = .ok (.iconst 0, 1) := by decide +kernel
theorem dJ7_fill_53178_1 : decode cJ7_fill_53178 1 = .ok (.istore_n 2, 1) := by decide +kernel
theorem dJ7_fill_53178_2 : decode cJ7_fill_53178 2 = .ok (.aload_n 0, 1) := by decide +kernel
theorem dJ7_fill_53178_3 : decode cJ7_fill_53178 3 = .ok (.arraylength, 1) := by decide +kernel
theorem dJ7_fill_53178_4 : decode cJ7_fill_53178 4 = .ok (.istore_n 3, 1) := by decide +kernel
theorem dJ7_fill_53178_5 : decode cJ7_fill_53178 5 = .ok (.iload_n 2, 1) := by decide +kernel
theorem dJ7_fill_53178_6 : decode cJ7_fill_53178 6 = .ok (.iload_n 3, 1) := by decide +kernel
theorem dJ7_fill_53178_7 : decode cJ7_fill_53178 7 = .ok (.if_icmp .ge 13, 3) := by decide +kernel
theorem dJ7_fill_53178_10 : decode cJ7_fill_53178 10 = .ok (.aload_n 0, 1) := by decide +kernel
theorem dJ7_fill_53178_11 : decode cJ7_fill_53178 11 = .ok (.iload_n 2, 1) := by decide +kernel
theorem dJ7_fill_53178_12 : decode cJ7_fill_53178 12 = .ok (.iload_n 1, 1) := by decide +kernel
theorem dJ7_fill_53178_13 : decode cJ7_fill_53178 13 = .ok (.iastore, 1) := by decide +kernel
theorem dJ7_fill_53178_14 : decode cJ7_fill_53178 14 = .ok (.iinc 2 1, 3) := by decide +kernel
theorem dJ7_fill_53178_17 : decode cJ7_fill_53178 17 = .ok (.goto (-12), 3) := by decide +kernel
theorem dJ7_fill_53178_20 : decode cJ7_fill_53178 20 = .ok (.return_, 1) := by decide +kernel
theorem dJ3_checkFromToIndex_8c36e_0 : decode cJ3_checkFromToIndex_8c36e 0 = .ok (.iload_n 0, 1) := by decide +kernel
theorem dJ3_checkFromToIndex_8c36e_1 : decode cJ3_checkFromToIndex_8c36e 1 = .ok (.ifCond .lt 13, 3) := by decide +kernel
theorem dJ3_checkFromToIndex_8c36e_4 : decode cJ3_checkFromToIndex_8c36e 4 = .ok (.iload_n 0, 1) := by decide +kernel
theorem dJ3_checkFromToIndex_8c36e_5 : decode cJ3_checkFromToIndex_8c36e 5 = .ok (.iload_n 1, 1) := by decide +kernel
theorem dJ3_checkFromToIndex_8c36e_6 : decode cJ3_checkFromToIndex_8c36e 6 = .ok (.if_icmp .gt 8, 3) := by decide +kernel
theorem dJ3_checkFromToIndex_8c36e_9 : decode cJ3_checkFromToIndex_8c36e 9 = .ok (.iload_n 1, 1) := by decide +kernel
theorem dJ3_checkFromToIndex_8c36e_10 : decode cJ3_checkFromToIndex_8c36e 10 = .ok (.iload_n 2, 1) := by decide +kernel
theorem dJ3_checkFromToIndex_8c36e_11 : decode cJ3_checkFromToIndex_8c36e 11 = .ok (.if_icmp .le 11, 3) := by decide +kernel
theorem dJ3_checkFromToIndex_8c36e_14 : decode cJ3_checkFromToIndex_8c36e 14 = .ok (.aload_n 3, 1) := by decide +kernel
theorem dJ3_checkFromToIndex_8c36e_15 : decode cJ3_checkFromToIndex_8c36e 15 = .ok (.iload_n 0, 1) := by decide +kernel
theorem dJ3_checkFromToIndex_8c36e_16 : decode cJ3_checkFromToIndex_8c36e 16 = .ok (.iload_n 1, 1) := by decide +kernel
theorem dJ3_checkFromToIndex_8c36e_17 : decode cJ3_checkFromToIndex_8c36e 17 = .ok (.iload_n 2, 1) := by decide +kernel
theorem dJ3_checkFromToIndex_8c36e_18 : decode cJ3_checkFromToIndex_8c36e 18 = .ok (.invokestatic 99, 3) := by decide +kernel
theorem dJ3_checkFromToIndex_8c36e_21 : decode cJ3_checkFromToIndex_8c36e 21 = .ok (.athrow, 1) := by decide +kernel
theorem dJ3_checkFromToIndex_8c36e_22 : decode cJ3_checkFromToIndex_8c36e 22 = .ok (.iload_n 0, 1) := by decide +kernel
theorem dJ3_checkFromToIndex_8c36e_23 : decode cJ3_checkFromToIndex_8c36e 23 = .ok (.ireturn, 1) := by decide +kernel
theorem dL_law_0 : decode cL_law 0 = .ok (.new 7, 3) := by decide +kernel
theorem dL_law_3 : decode cL_law 3 = .ok (.dup, 1) := by decide +kernel
theorem dL_law_4 : decode cL_law 4 = .ok (.invokespecial 9, 3) := by decide +kernel
theorem dL_law_7 : decode cL_law 7 = .ok (.astore_n 1, 1) := by decide +kernel
theorem dL_law_8 : decode cL_law 8 = .ok (.new 10, 3) := by decide +kernel
theorem dL_law_11 : decode cL_law 11 = .ok (.dup, 1) := by decide +kernel
theorem dL_law_12 : decode cL_law 12 = .ok (.invokespecial 12, 3) := by decide +kernel
theorem dL_law_15 : decode cL_law 15 = .ok (.astore_n 2, 1) := by decide +kernel
theorem dL_law_16 : decode cL_law 16 = .ok (.iconst 0, 1) := by decide +kernel
theorem dL_law_17 : decode cL_law 17 = .ok (.istore_n 3, 1) := by decide +kernel
theorem dL_law_18 : decode cL_law 18 = .ok (.iload_n 3, 1) := by decide +kernel
theorem dL_law_19 : decode cL_law 19 = .ok (.aload_n 0, 1) := by decide +kernel
theorem dL_law_20 : decode cL_law 20 = .ok (.arraylength, 1) := by decide +kernel
theorem dL_law_21 : decode cL_law 21 = .ok (.iconst 4, 1) := by decide +kernel
theorem dL_law_22 : decode cL_law 22 = .ok (.isub, 1) := by decide +kernel
theorem dL_law_23 : decode cL_law 23 = .ok (.if_icmp .gt 816, 3) := by decide +kernel
theorem dL_law_26 : decode cL_law 26 = .ok (.aload_n 0, 1) := by decide +kernel
theorem dL_law_27 : decode cL_law 27 = .ok (.iload_n 3, 1) := by decide +kernel
theorem dL_law_28 : decode cL_law 28 = .ok (.iaload, 1) := by decide +kernel
theorem dL_law_29 : decode cL_law 29 = .ok (.bipush 31, 2) := by decide +kernel
theorem dL_law_31 : decode cL_law 31 = .ok (.iand, 1) := by decide +kernel
theorem dL_law_32 : decode cL_law 32 = .ok (.tableswitch 801 0 25 #[120, 163, 196, 219, 232, 245, 278, 311, 334, 367, 390, 413, 436, 469, 502, 525, 568, 611, 624, 648, 671, 695, 718, 741, 764, 787], 120) := by decide +kernel
theorem dL_law_152 : decode cL_law 152 = .ok (.aload_n 1, 1) := by decide +kernel
theorem dL_law_153 : decode cL_law 153 = .ok (.aload_n 0, 1) := by decide +kernel
theorem dL_law_154 : decode cL_law 154 = .ok (.iload_n 3, 1) := by decide +kernel
theorem dL_law_155 : decode cL_law 155 = .ok (.iconst 1, 1) := by decide +kernel
theorem dL_law_156 : decode cL_law 156 = .ok (.iadd, 1) := by decide +kernel
theorem dL_law_157 : decode cL_law 157 = .ok (.iaload, 1) := by decide +kernel
theorem dL_law_158 : decode cL_law 158 = .ok (.aload_n 0, 1) := by decide +kernel
theorem dL_law_159 : decode cL_law 159 = .ok (.iload_n 3, 1) := by decide +kernel
theorem dL_law_160 : decode cL_law 160 = .ok (.iconst 2, 1) := by decide +kernel
theorem dL_law_161 : decode cL_law 161 = .ok (.iadd, 1) := by decide +kernel
theorem dL_law_162 : decode cL_law 162 = .ok (.iaload, 1) := by decide +kernel
theorem dL_law_163 : decode cL_law 163 = .ok (.aload_n 0, 1) := by decide +kernel
theorem dL_law_164 : decode cL_law 164 = .ok (.iload_n 3, 1) := by decide +kernel
theorem dL_law_165 : decode cL_law 165 = .ok (.iconst 3, 1) := by decide +kernel
theorem dL_law_166 : decode cL_law 166 = .ok (.iadd, 1) := by decide +kernel
theorem dL_law_167 : decode cL_law 167 = .ok (.iaload, 1) := by decide +kernel
theorem dL_law_168 : decode cL_law 168 = .ok (.invokevirtual 13, 3) := by decide +kernel
theorem dL_law_171 : decode cL_law 171 = .ok (.aload_n 2, 1) := by decide +kernel
theorem dL_law_172 : decode cL_law 172 = .ok (.aload_n 0, 1) := by decide +kernel
theorem dL_law_173 : decode cL_law 173 = .ok (.iload_n 3, 1) := by decide +kernel
theorem dL_law_174 : decode cL_law 174 = .ok (.iconst 1, 1) := by decide +kernel
theorem dL_law_175 : decode cL_law 175 = .ok (.iadd, 1) := by decide +kernel
theorem dL_law_176 : decode cL_law 176 = .ok (.iaload, 1) := by decide +kernel
theorem dL_law_177 : decode cL_law 177 = .ok (.aload_n 0, 1) := by decide +kernel
theorem dL_law_178 : decode cL_law 178 = .ok (.iload_n 3, 1) := by decide +kernel
theorem dL_law_179 : decode cL_law 179 = .ok (.iconst 2, 1) := by decide +kernel
theorem dL_law_180 : decode cL_law 180 = .ok (.iadd, 1) := by decide +kernel
theorem dL_law_181 : decode cL_law 181 = .ok (.iaload, 1) := by decide +kernel
theorem dL_law_182 : decode cL_law 182 = .ok (.aload_n 0, 1) := by decide +kernel
theorem dL_law_183 : decode cL_law 183 = .ok (.iload_n 3, 1) := by decide +kernel
theorem dL_law_184 : decode cL_law 184 = .ok (.iconst 3, 1) := by decide +kernel
theorem dL_law_185 : decode cL_law 185 = .ok (.iadd, 1) := by decide +kernel
theorem dL_law_186 : decode cL_law 186 = .ok (.iaload, 1) := by decide +kernel
theorem dL_law_187 : decode cL_law 187 = .ok (.invokevirtual 17, 3) := by decide +kernel
theorem dL_law_190 : decode cL_law 190 = .ok (.if_icmp .eq 643, 3) := by decide +kernel
theorem dL_law_193 : decode cL_law 193 = .ok (.iconst 0, 1) := by decide +kernel
theorem dL_law_194 : decode cL_law 194 = .ok (.ireturn, 1) := by decide +kernel
theorem dL_law_195 : decode cL_law 195 = .ok (.aload_n 1, 1) := by decide +kernel
theorem dL_law_196 : decode cL_law 196 = .ok (.aload_n 0, 1) := by decide +kernel
theorem dL_law_197 : decode cL_law 197 = .ok (.iload_n 3, 1) := by decide +kernel
theorem dL_law_198 : decode cL_law 198 = .ok (.iconst 1, 1) := by decide +kernel
theorem dL_law_199 : decode cL_law 199 = .ok (.iadd, 1) := by decide +kernel
theorem dL_law_200 : decode cL_law 200 = .ok (.iaload, 1) := by decide +kernel
theorem dL_law_201 : decode cL_law 201 = .ok (.aload_n 0, 1) := by decide +kernel
theorem dL_law_202 : decode cL_law 202 = .ok (.iload_n 3, 1) := by decide +kernel
theorem dL_law_203 : decode cL_law 203 = .ok (.iconst 2, 1) := by decide +kernel
theorem dL_law_204 : decode cL_law 204 = .ok (.iadd, 1) := by decide +kernel
theorem dL_law_205 : decode cL_law 205 = .ok (.iaload, 1) := by decide +kernel
theorem dL_law_206 : decode cL_law 206 = .ok (.invokevirtual 18, 3) := by decide +kernel
theorem dL_law_209 : decode cL_law 209 = .ok (.aload_n 2, 1) := by decide +kernel
theorem dL_law_210 : decode cL_law 210 = .ok (.aload_n 0, 1) := by decide +kernel
theorem dL_law_211 : decode cL_law 211 = .ok (.iload_n 3, 1) := by decide +kernel
theorem dL_law_212 : decode cL_law 212 = .ok (.iconst 1, 1) := by decide +kernel
theorem dL_law_213 : decode cL_law 213 = .ok (.iadd, 1) := by decide +kernel
theorem dL_law_214 : decode cL_law 214 = .ok (.iaload, 1) := by decide +kernel
theorem dL_law_215 : decode cL_law 215 = .ok (.aload_n 0, 1) := by decide +kernel
theorem dL_law_216 : decode cL_law 216 = .ok (.iload_n 3, 1) := by decide +kernel
theorem dL_law_217 : decode cL_law 217 = .ok (.iconst 2, 1) := by decide +kernel
theorem dL_law_218 : decode cL_law 218 = .ok (.iadd, 1) := by decide +kernel
theorem dL_law_219 : decode cL_law 219 = .ok (.iaload, 1) := by decide +kernel
theorem dL_law_220 : decode cL_law 220 = .ok (.invokevirtual 22, 3) := by decide +kernel
theorem dL_law_223 : decode cL_law 223 = .ok (.if_icmp .eq 610, 3) := by decide +kernel
theorem dL_law_226 : decode cL_law 226 = .ok (.iconst 0, 1) := by decide +kernel
theorem dL_law_227 : decode cL_law 227 = .ok (.ireturn, 1) := by decide +kernel
theorem dL_law_228 : decode cL_law 228 = .ok (.aload_n 1, 1) := by decide +kernel
theorem dL_law_229 : decode cL_law 229 = .ok (.aload_n 0, 1) := by decide +kernel
theorem dL_law_230 : decode cL_law 230 = .ok (.iload_n 3, 1) := by decide +kernel
theorem dL_law_231 : decode cL_law 231 = .ok (.iconst 1, 1) := by decide +kernel
theorem dL_law_232 : decode cL_law 232 = .ok (.iadd, 1) := by decide +kernel
theorem dL_law_233 : decode cL_law 233 = .ok (.iaload, 1) := by decide +kernel
theorem dL_law_234 : decode cL_law 234 = .ok (.invokevirtual 23, 3) := by decide +kernel
theorem dL_law_237 : decode cL_law 237 = .ok (.aload_n 2, 1) := by decide +kernel
theorem dL_law_238 : decode cL_law 238 = .ok (.aload_n 0, 1) := by decide +kernel
theorem dL_law_239 : decode cL_law 239 = .ok (.iload_n 3, 1) := by decide +kernel
theorem dL_law_240 : decode cL_law 240 = .ok (.iconst 1, 1) := by decide +kernel
theorem dL_law_241 : decode cL_law 241 = .ok (.iadd, 1) := by decide +kernel
theorem dL_law_242 : decode cL_law 242 = .ok (.iaload, 1) := by decide +kernel
theorem dL_law_243 : decode cL_law 243 = .ok (.invokevirtual 27, 3) := by decide +kernel
theorem dL_law_246 : decode cL_law 246 = .ok (.if_icmp .eq 587, 3) := by decide +kernel
theorem dL_law_249 : decode cL_law 249 = .ok (.iconst 0, 1) := by decide +kernel
theorem dL_law_250 : decode cL_law 250 = .ok (.ireturn, 1) := by decide +kernel
theorem dL_law_251 : decode cL_law 251 = .ok (.aload_n 1, 1) := by decide +kernel
theorem dL_law_252 : decode cL_law 252 = .ok (.invokevirtual 28, 3) := by decide +kernel
theorem dL_law_255 : decode cL_law 255 = .ok (.aload_n 2, 1) := by decide +kernel
theorem dL_law_256 : decode cL_law 256 = .ok (.invokevirtual 32, 3) := by decide +kernel
theorem dL_law_259 : decode cL_law 259 = .ok (.if_icmp .eq 574, 3) := by decide +kernel
theorem dL_law_262 : decode cL_law 262 = .ok (.iconst 0, 1) := by decide +kernel
theorem dL_law_263 : decode cL_law 263 = .ok (.ireturn, 1) := by decide +kernel
theorem dL_law_264 : decode cL_law 264 = .ok (.aload_n 1, 1) := by decide +kernel
theorem dL_law_265 : decode cL_law 265 = .ok (.invokevirtual 33, 3) := by decide +kernel
theorem dL_law_268 : decode cL_law 268 = .ok (.aload_n 2, 1) := by decide +kernel
theorem dL_law_269 : decode cL_law 269 = .ok (.invokevirtual 36, 3) := by decide +kernel
theorem dL_law_272 : decode cL_law 272 = .ok (.if_icmp .eq 561, 3) := by decide +kernel
theorem dL_law_275 : decode cL_law 275 = .ok (.iconst 0, 1) := by decide +kernel
theorem dL_law_276 : decode cL_law 276 = .ok (.ireturn, 1) := by decide +kernel
theorem dL_law_277 : decode cL_law 277 = .ok (.aload_n 1, 1) := by decide +kernel
theorem dL_law_278 : decode cL_law 278 = .ok (.aload_n 0, 1) := by decide +kernel
theorem dL_law_279 : decode cL_law 279 = .ok (.iload_n 3, 1) := by decide +kernel
theorem dL_law_280 : decode cL_law 280 = .ok (.iconst 1, 1) := by decide +kernel
theorem dL_law_281 : decode cL_law 281 = .ok (.iadd, 1) := by decide +kernel
theorem dL_law_282 : decode cL_law 282 = .ok (.iaload, 1) := by decide +kernel
theorem dL_law_283 : decode cL_law 283 = .ok (.aload_n 0, 1) := by decide +kernel
theorem dL_law_284 : decode cL_law 284 = .ok (.iload_n 3, 1) := by decide +kernel
theorem dL_law_285 : decode cL_law 285 = .ok (.iconst 2, 1) := by decide +kernel
theorem dL_law_286 : decode cL_law 286 = .ok (.iadd, 1) := by decide +kernel
theorem dL_law_287 : decode cL_law 287 = .ok (.iaload, 1) := by decide +kernel
theorem dL_law_288 : decode cL_law 288 = .ok (.invokevirtual 37, 3) := by decide +kernel
theorem dL_law_291 : decode cL_law 291 = .ok (.aload_n 2, 1) := by decide +kernel
theorem dL_law_292 : decode cL_law 292 = .ok (.aload_n 0, 1) := by decide +kernel
theorem dL_law_293 : decode cL_law 293 = .ok (.iload_n 3, 1) := by decide +kernel
theorem dL_law_294 : decode cL_law 294 = .ok (.iconst 1, 1) := by decide +kernel
theorem dL_law_295 : decode cL_law 295 = .ok (.iadd, 1) := by decide +kernel
theorem dL_law_296 : decode cL_law 296 = .ok (.iaload, 1) := by decide +kernel
theorem dL_law_297 : decode cL_law 297 = .ok (.aload_n 0, 1) := by decide +kernel
theorem dL_law_298 : decode cL_law 298 = .ok (.iload_n 3, 1) := by decide +kernel
theorem dL_law_299 : decode cL_law 299 = .ok (.iconst 2, 1) := by decide +kernel
theorem dL_law_300 : decode cL_law 300 = .ok (.iadd, 1) := by decide +kernel
theorem dL_law_301 : decode cL_law 301 = .ok (.iaload, 1) := by decide +kernel
theorem dL_law_302 : decode cL_law 302 = .ok (.invokevirtual 40, 3) := by decide +kernel
theorem dL_law_305 : decode cL_law 305 = .ok (.if_icmp .eq 528, 3) := by decide +kernel
theorem dL_law_308 : decode cL_law 308 = .ok (.iconst 0, 1) := by decide +kernel
theorem dL_law_309 : decode cL_law 309 = .ok (.ireturn, 1) := by decide +kernel
theorem dL_law_310 : decode cL_law 310 = .ok (.aload_n 1, 1) := by decide +kernel
theorem dL_law_311 : decode cL_law 311 = .ok (.aload_n 0, 1) := by decide +kernel
theorem dL_law_312 : decode cL_law 312 = .ok (.iload_n 3, 1) := by decide +kernel
theorem dL_law_313 : decode cL_law 313 = .ok (.iconst 1, 1) := by decide +kernel
theorem dL_law_314 : decode cL_law 314 = .ok (.iadd, 1) := by decide +kernel
theorem dL_law_315 : decode cL_law 315 = .ok (.iaload, 1) := by decide +kernel
theorem dL_law_316 : decode cL_law 316 = .ok (.aload_n 0, 1) := by decide +kernel
theorem dL_law_317 : decode cL_law 317 = .ok (.iload_n 3, 1) := by decide +kernel
theorem dL_law_318 : decode cL_law 318 = .ok (.iconst 2, 1) := by decide +kernel
theorem dL_law_319 : decode cL_law 319 = .ok (.iadd, 1) := by decide +kernel
theorem dL_law_320 : decode cL_law 320 = .ok (.iaload, 1) := by decide +kernel
theorem dL_law_321 : decode cL_law 321 = .ok (.invokevirtual 41, 3) := by decide +kernel
theorem dL_law_324 : decode cL_law 324 = .ok (.aload_n 2, 1) := by decide +kernel
theorem dL_law_325 : decode cL_law 325 = .ok (.aload_n 0, 1) := by decide +kernel
theorem dL_law_326 : decode cL_law 326 = .ok (.iload_n 3, 1) := by decide +kernel
theorem dL_law_327 : decode cL_law 327 = .ok (.iconst 1, 1) := by decide +kernel
theorem dL_law_328 : decode cL_law 328 = .ok (.iadd, 1) := by decide +kernel
theorem dL_law_329 : decode cL_law 329 = .ok (.iaload, 1) := by decide +kernel
theorem dL_law_330 : decode cL_law 330 = .ok (.aload_n 0, 1) := by decide +kernel
theorem dL_law_331 : decode cL_law 331 = .ok (.iload_n 3, 1) := by decide +kernel
theorem dL_law_332 : decode cL_law 332 = .ok (.iconst 2, 1) := by decide +kernel
theorem dL_law_333 : decode cL_law 333 = .ok (.iadd, 1) := by decide +kernel
theorem dL_law_334 : decode cL_law 334 = .ok (.iaload, 1) := by decide +kernel
theorem dL_law_335 : decode cL_law 335 = .ok (.invokevirtual 44, 3) := by decide +kernel
theorem dL_law_338 : decode cL_law 338 = .ok (.if_icmp .eq 495, 3) := by decide +kernel
theorem dL_law_341 : decode cL_law 341 = .ok (.iconst 0, 1) := by decide +kernel
theorem dL_law_342 : decode cL_law 342 = .ok (.ireturn, 1) := by decide +kernel
theorem dL_law_343 : decode cL_law 343 = .ok (.aload_n 1, 1) := by decide +kernel
theorem dL_law_344 : decode cL_law 344 = .ok (.aload_n 0, 1) := by decide +kernel
theorem dL_law_345 : decode cL_law 345 = .ok (.iload_n 3, 1) := by decide +kernel
theorem dL_law_346 : decode cL_law 346 = .ok (.iconst 1, 1) := by decide +kernel
theorem dL_law_347 : decode cL_law 347 = .ok (.iadd, 1) := by decide +kernel
theorem dL_law_348 : decode cL_law 348 = .ok (.iaload, 1) := by decide +kernel
theorem dL_law_349 : decode cL_law 349 = .ok (.invokevirtual 45, 3) := by decide +kernel
theorem dL_law_352 : decode cL_law 352 = .ok (.aload_n 2, 1) := by decide +kernel
theorem dL_law_353 : decode cL_law 353 = .ok (.aload_n 0, 1) := by decide +kernel
theorem dL_law_354 : decode cL_law 354 = .ok (.iload_n 3, 1) := by decide +kernel
theorem dL_law_355 : decode cL_law 355 = .ok (.iconst 1, 1) := by decide +kernel
theorem dL_law_356 : decode cL_law 356 = .ok (.iadd, 1) := by decide +kernel
theorem dL_law_357 : decode cL_law 357 = .ok (.iaload, 1) := by decide +kernel
theorem dL_law_358 : decode cL_law 358 = .ok (.invokevirtual 48, 3) := by decide +kernel
theorem dL_law_361 : decode cL_law 361 = .ok (.if_icmp .eq 472, 3) := by decide +kernel
theorem dL_law_364 : decode cL_law 364 = .ok (.iconst 0, 1) := by decide +kernel
theorem dL_law_365 : decode cL_law 365 = .ok (.ireturn, 1) := by decide +kernel
theorem dL_law_366 : decode cL_law 366 = .ok (.aload_n 1, 1) := by decide +kernel
theorem dL_law_367 : decode cL_law 367 = .ok (.aload_n 0, 1) := by decide +kernel
theorem dL_law_368 : decode cL_law 368 = .ok (.iload_n 3, 1) := by decide +kernel
theorem dL_law_369 : decode cL_law 369 = .ok (.iconst 1, 1) := by decide +kernel
theorem dL_law_370 : decode cL_law 370 = .ok (.iadd, 1) := by decide +kernel
theorem dL_law_371 : decode cL_law 371 = .ok (.iaload, 1) := by decide +kernel
theorem dL_law_372 : decode cL_law 372 = .ok (.aload_n 0, 1) := by decide +kernel
theorem dL_law_373 : decode cL_law 373 = .ok (.iload_n 3, 1) := by decide +kernel
theorem dL_law_374 : decode cL_law 374 = .ok (.iconst 2, 1) := by decide +kernel
theorem dL_law_375 : decode cL_law 375 = .ok (.iadd, 1) := by decide +kernel
theorem dL_law_376 : decode cL_law 376 = .ok (.iaload, 1) := by decide +kernel
theorem dL_law_377 : decode cL_law 377 = .ok (.invokevirtual 49, 3) := by decide +kernel
theorem dL_law_380 : decode cL_law 380 = .ok (.aload_n 2, 1) := by decide +kernel
theorem dL_law_381 : decode cL_law 381 = .ok (.aload_n 0, 1) := by decide +kernel
theorem dL_law_382 : decode cL_law 382 = .ok (.iload_n 3, 1) := by decide +kernel
theorem dL_law_383 : decode cL_law 383 = .ok (.iconst 1, 1) := by decide +kernel
theorem dL_law_384 : decode cL_law 384 = .ok (.iadd, 1) := by decide +kernel
theorem dL_law_385 : decode cL_law 385 = .ok (.iaload, 1) := by decide +kernel
theorem dL_law_386 : decode cL_law 386 = .ok (.aload_n 0, 1) := by decide +kernel
theorem dL_law_387 : decode cL_law 387 = .ok (.iload_n 3, 1) := by decide +kernel
theorem dL_law_388 : decode cL_law 388 = .ok (.iconst 2, 1) := by decide +kernel
theorem dL_law_389 : decode cL_law 389 = .ok (.iadd, 1) := by decide +kernel
theorem dL_law_390 : decode cL_law 390 = .ok (.iaload, 1) := by decide +kernel
theorem dL_law_391 : decode cL_law 391 = .ok (.invokevirtual 52, 3) := by decide +kernel
theorem dL_law_394 : decode cL_law 394 = .ok (.if_icmp .eq 439, 3) := by decide +kernel
theorem dL_law_397 : decode cL_law 397 = .ok (.iconst 0, 1) := by decide +kernel
theorem dL_law_398 : decode cL_law 398 = .ok (.ireturn, 1) := by decide +kernel
theorem dL_law_399 : decode cL_law 399 = .ok (.aload_n 1, 1) := by decide +kernel
theorem dL_law_400 : decode cL_law 400 = .ok (.aload_n 0, 1) := by decide +kernel
theorem dL_law_401 : decode cL_law 401 = .ok (.iload_n 3, 1) := by decide +kernel
theorem dL_law_402 : decode cL_law 402 = .ok (.iconst 1, 1) := by decide +kernel
theorem dL_law_403 : decode cL_law 403 = .ok (.iadd, 1) := by decide +kernel
theorem dL_law_404 : decode cL_law 404 = .ok (.iaload, 1) := by decide +kernel
theorem dL_law_405 : decode cL_law 405 = .ok (.invokevirtual 53, 3) := by decide +kernel
theorem dL_law_408 : decode cL_law 408 = .ok (.aload_n 2, 1) := by decide +kernel
theorem dL_law_409 : decode cL_law 409 = .ok (.aload_n 0, 1) := by decide +kernel
theorem dL_law_410 : decode cL_law 410 = .ok (.iload_n 3, 1) := by decide +kernel
theorem dL_law_411 : decode cL_law 411 = .ok (.iconst 1, 1) := by decide +kernel
theorem dL_law_412 : decode cL_law 412 = .ok (.iadd, 1) := by decide +kernel
theorem dL_law_413 : decode cL_law 413 = .ok (.iaload, 1) := by decide +kernel
theorem dL_law_414 : decode cL_law 414 = .ok (.invokevirtual 56, 3) := by decide +kernel
theorem dL_law_417 : decode cL_law 417 = .ok (.if_icmp .eq 416, 3) := by decide +kernel
theorem dL_law_420 : decode cL_law 420 = .ok (.iconst 0, 1) := by decide +kernel
theorem dL_law_421 : decode cL_law 421 = .ok (.ireturn, 1) := by decide +kernel
theorem dL_law_422 : decode cL_law 422 = .ok (.aload_n 1, 1) := by decide +kernel
theorem dL_law_423 : decode cL_law 423 = .ok (.aload_n 0, 1) := by decide +kernel
theorem dL_law_424 : decode cL_law 424 = .ok (.iload_n 3, 1) := by decide +kernel
theorem dL_law_425 : decode cL_law 425 = .ok (.iconst 1, 1) := by decide +kernel
theorem dL_law_426 : decode cL_law 426 = .ok (.iadd, 1) := by decide +kernel
theorem dL_law_427 : decode cL_law 427 = .ok (.iaload, 1) := by decide +kernel
theorem dL_law_428 : decode cL_law 428 = .ok (.invokevirtual 57, 3) := by decide +kernel
theorem dL_law_431 : decode cL_law 431 = .ok (.aload_n 2, 1) := by decide +kernel
theorem dL_law_432 : decode cL_law 432 = .ok (.aload_n 0, 1) := by decide +kernel
theorem dL_law_433 : decode cL_law 433 = .ok (.iload_n 3, 1) := by decide +kernel
theorem dL_law_434 : decode cL_law 434 = .ok (.iconst 1, 1) := by decide +kernel
theorem dL_law_435 : decode cL_law 435 = .ok (.iadd, 1) := by decide +kernel
theorem dL_law_436 : decode cL_law 436 = .ok (.iaload, 1) := by decide +kernel
theorem dL_law_437 : decode cL_law 437 = .ok (.invokevirtual 60, 3) := by decide +kernel
theorem dL_law_440 : decode cL_law 440 = .ok (.if_icmp .eq 393, 3) := by decide +kernel
theorem dL_law_443 : decode cL_law 443 = .ok (.iconst 0, 1) := by decide +kernel
theorem dL_law_444 : decode cL_law 444 = .ok (.ireturn, 1) := by decide +kernel
theorem dL_law_445 : decode cL_law 445 = .ok (.aload_n 1, 1) := by decide +kernel
theorem dL_law_446 : decode cL_law 446 = .ok (.aload_n 0, 1) := by decide +kernel
theorem dL_law_447 : decode cL_law 447 = .ok (.iload_n 3, 1) := by decide +kernel
theorem dL_law_448 : decode cL_law 448 = .ok (.iconst 1, 1) := by decide +kernel
theorem dL_law_449 : decode cL_law 449 = .ok (.iadd, 1) := by decide +kernel
theorem dL_law_450 : decode cL_law 450 = .ok (.iaload, 1) := by decide +kernel
theorem dL_law_451 : decode cL_law 451 = .ok (.invokevirtual 61, 3) := by decide +kernel
theorem dL_law_454 : decode cL_law 454 = .ok (.aload_n 2, 1) := by decide +kernel
theorem dL_law_455 : decode cL_law 455 = .ok (.aload_n 0, 1) := by decide +kernel
theorem dL_law_456 : decode cL_law 456 = .ok (.iload_n 3, 1) := by decide +kernel
theorem dL_law_457 : decode cL_law 457 = .ok (.iconst 1, 1) := by decide +kernel
theorem dL_law_458 : decode cL_law 458 = .ok (.iadd, 1) := by decide +kernel
theorem dL_law_459 : decode cL_law 459 = .ok (.iaload, 1) := by decide +kernel
theorem dL_law_460 : decode cL_law 460 = .ok (.invokevirtual 64, 3) := by decide +kernel
theorem dL_law_463 : decode cL_law 463 = .ok (.if_icmp .eq 370, 3) := by decide +kernel
theorem dL_law_466 : decode cL_law 466 = .ok (.iconst 0, 1) := by decide +kernel
theorem dL_law_467 : decode cL_law 467 = .ok (.ireturn, 1) := by decide +kernel
theorem dL_law_468 : decode cL_law 468 = .ok (.aload_n 1, 1) := by decide +kernel
theorem dL_law_469 : decode cL_law 469 = .ok (.aload_n 0, 1) := by decide +kernel
theorem dL_law_470 : decode cL_law 470 = .ok (.iload_n 3, 1) := by decide +kernel
theorem dL_law_471 : decode cL_law 471 = .ok (.iconst 1, 1) := by decide +kernel
theorem dL_law_472 : decode cL_law 472 = .ok (.iadd, 1) := by decide +kernel
theorem dL_law_473 : decode cL_law 473 = .ok (.iaload, 1) := by decide +kernel
theorem dL_law_474 : decode cL_law 474 = .ok (.aload_n 0, 1) := by decide +kernel
theorem dL_law_475 : decode cL_law 475 = .ok (.iload_n 3, 1) := by decide +kernel
theorem dL_law_476 : decode cL_law 476 = .ok (.iconst 2, 1) := by decide +kernel
theorem dL_law_477 : decode cL_law 477 = .ok (.iadd, 1) := by decide +kernel
theorem dL_law_478 : decode cL_law 478 = .ok (.iaload, 1) := by decide +kernel
theorem dL_law_479 : decode cL_law 479 = .ok (.invokevirtual 65, 3) := by decide +kernel
theorem dL_law_482 : decode cL_law 482 = .ok (.aload_n 2, 1) := by decide +kernel
theorem dL_law_483 : decode cL_law 483 = .ok (.aload_n 0, 1) := by decide +kernel
theorem dL_law_484 : decode cL_law 484 = .ok (.iload_n 3, 1) := by decide +kernel
theorem dL_law_485 : decode cL_law 485 = .ok (.iconst 1, 1) := by decide +kernel
theorem dL_law_486 : decode cL_law 486 = .ok (.iadd, 1) := by decide +kernel
theorem dL_law_487 : decode cL_law 487 = .ok (.iaload, 1) := by decide +kernel
theorem dL_law_488 : decode cL_law 488 = .ok (.aload_n 0, 1) := by decide +kernel
theorem dL_law_489 : decode cL_law 489 = .ok (.iload_n 3, 1) := by decide +kernel
theorem dL_law_490 : decode cL_law 490 = .ok (.iconst 2, 1) := by decide +kernel
theorem dL_law_491 : decode cL_law 491 = .ok (.iadd, 1) := by decide +kernel
theorem dL_law_492 : decode cL_law 492 = .ok (.iaload, 1) := by decide +kernel
theorem dL_law_493 : decode cL_law 493 = .ok (.invokevirtual 68, 3) := by decide +kernel
theorem dL_law_496 : decode cL_law 496 = .ok (.if_icmp .eq 337, 3) := by decide +kernel
theorem dL_law_499 : decode cL_law 499 = .ok (.iconst 0, 1) := by decide +kernel
theorem dL_law_500 : decode cL_law 500 = .ok (.ireturn, 1) := by decide +kernel
theorem dL_law_501 : decode cL_law 501 = .ok (.aload_n 1, 1) := by decide +kernel
theorem dL_law_502 : decode cL_law 502 = .ok (.aload_n 0, 1) := by decide +kernel
theorem dL_law_503 : decode cL_law 503 = .ok (.iload_n 3, 1) := by decide +kernel
theorem dL_law_504 : decode cL_law 504 = .ok (.iconst 1, 1) := by decide +kernel
theorem dL_law_505 : decode cL_law 505 = .ok (.iadd, 1) := by decide +kernel
theorem dL_law_506 : decode cL_law 506 = .ok (.iaload, 1) := by decide +kernel
theorem dL_law_507 : decode cL_law 507 = .ok (.aload_n 0, 1) := by decide +kernel
theorem dL_law_508 : decode cL_law 508 = .ok (.iload_n 3, 1) := by decide +kernel
theorem dL_law_509 : decode cL_law 509 = .ok (.iconst 2, 1) := by decide +kernel
theorem dL_law_510 : decode cL_law 510 = .ok (.iadd, 1) := by decide +kernel
theorem dL_law_511 : decode cL_law 511 = .ok (.iaload, 1) := by decide +kernel
theorem dL_law_512 : decode cL_law 512 = .ok (.invokevirtual 69, 3) := by decide +kernel
theorem dL_law_515 : decode cL_law 515 = .ok (.aload_n 2, 1) := by decide +kernel
theorem dL_law_516 : decode cL_law 516 = .ok (.aload_n 0, 1) := by decide +kernel
theorem dL_law_517 : decode cL_law 517 = .ok (.iload_n 3, 1) := by decide +kernel
theorem dL_law_518 : decode cL_law 518 = .ok (.iconst 1, 1) := by decide +kernel
theorem dL_law_519 : decode cL_law 519 = .ok (.iadd, 1) := by decide +kernel
theorem dL_law_520 : decode cL_law 520 = .ok (.iaload, 1) := by decide +kernel
theorem dL_law_521 : decode cL_law 521 = .ok (.aload_n 0, 1) := by decide +kernel
theorem dL_law_522 : decode cL_law 522 = .ok (.iload_n 3, 1) := by decide +kernel
theorem dL_law_523 : decode cL_law 523 = .ok (.iconst 2, 1) := by decide +kernel
theorem dL_law_524 : decode cL_law 524 = .ok (.iadd, 1) := by decide +kernel
theorem dL_law_525 : decode cL_law 525 = .ok (.iaload, 1) := by decide +kernel
theorem dL_law_526 : decode cL_law 526 = .ok (.invokevirtual 72, 3) := by decide +kernel
theorem dL_law_529 : decode cL_law 529 = .ok (.if_icmp .eq 304, 3) := by decide +kernel
theorem dL_law_532 : decode cL_law 532 = .ok (.iconst 0, 1) := by decide +kernel
theorem dL_law_533 : decode cL_law 533 = .ok (.ireturn, 1) := by decide +kernel
theorem dL_law_534 : decode cL_law 534 = .ok (.aload_n 1, 1) := by decide +kernel
theorem dL_law_535 : decode cL_law 535 = .ok (.aload_n 0, 1) := by decide +kernel
theorem dL_law_536 : decode cL_law 536 = .ok (.iload_n 3, 1) := by decide +kernel
theorem dL_law_537 : decode cL_law 537 = .ok (.iconst 1, 1) := by decide +kernel
theorem dL_law_538 : decode cL_law 538 = .ok (.iadd, 1) := by decide +kernel
theorem dL_law_539 : decode cL_law 539 = .ok (.iaload, 1) := by decide +kernel
theorem dL_law_540 : decode cL_law 540 = .ok (.invokevirtual 73, 3) := by decide +kernel
theorem dL_law_543 : decode cL_law 543 = .ok (.aload_n 2, 1) := by decide +kernel
theorem dL_law_544 : decode cL_law 544 = .ok (.aload_n 0, 1) := by decide +kernel
theorem dL_law_545 : decode cL_law 545 = .ok (.iload_n 3, 1) := by decide +kernel
theorem dL_law_546 : decode cL_law 546 = .ok (.iconst 1, 1) := by decide +kernel
theorem dL_law_547 : decode cL_law 547 = .ok (.iadd, 1) := by decide +kernel
theorem dL_law_548 : decode cL_law 548 = .ok (.iaload, 1) := by decide +kernel
theorem dL_law_549 : decode cL_law 549 = .ok (.invokevirtual 76, 3) := by decide +kernel
theorem dL_law_552 : decode cL_law 552 = .ok (.if_icmp .eq 281, 3) := by decide +kernel
theorem dL_law_555 : decode cL_law 555 = .ok (.iconst 0, 1) := by decide +kernel
theorem dL_law_556 : decode cL_law 556 = .ok (.ireturn, 1) := by decide +kernel
theorem dL_law_557 : decode cL_law 557 = .ok (.aload_n 1, 1) := by decide +kernel
theorem dL_law_558 : decode cL_law 558 = .ok (.aload_n 0, 1) := by decide +kernel
theorem dL_law_559 : decode cL_law 559 = .ok (.iload_n 3, 1) := by decide +kernel
theorem dL_law_560 : decode cL_law 560 = .ok (.iconst 1, 1) := by decide +kernel
theorem dL_law_561 : decode cL_law 561 = .ok (.iadd, 1) := by decide +kernel
theorem dL_law_562 : decode cL_law 562 = .ok (.iaload, 1) := by decide +kernel
theorem dL_law_563 : decode cL_law 563 = .ok (.aload_n 0, 1) := by decide +kernel
theorem dL_law_564 : decode cL_law 564 = .ok (.iload_n 3, 1) := by decide +kernel
theorem dL_law_565 : decode cL_law 565 = .ok (.iconst 2, 1) := by decide +kernel
theorem dL_law_566 : decode cL_law 566 = .ok (.iadd, 1) := by decide +kernel
theorem dL_law_567 : decode cL_law 567 = .ok (.iaload, 1) := by decide +kernel
theorem dL_law_568 : decode cL_law 568 = .ok (.aload_n 0, 1) := by decide +kernel
theorem dL_law_569 : decode cL_law 569 = .ok (.iload_n 3, 1) := by decide +kernel
theorem dL_law_570 : decode cL_law 570 = .ok (.iconst 3, 1) := by decide +kernel
theorem dL_law_571 : decode cL_law 571 = .ok (.iadd, 1) := by decide +kernel
theorem dL_law_572 : decode cL_law 572 = .ok (.iaload, 1) := by decide +kernel
theorem dL_law_573 : decode cL_law 573 = .ok (.invokevirtual 77, 3) := by decide +kernel
theorem dL_law_576 : decode cL_law 576 = .ok (.aload_n 2, 1) := by decide +kernel
theorem dL_law_577 : decode cL_law 577 = .ok (.aload_n 0, 1) := by decide +kernel
theorem dL_law_578 : decode cL_law 578 = .ok (.iload_n 3, 1) := by decide +kernel
theorem dL_law_579 : decode cL_law 579 = .ok (.iconst 1, 1) := by decide +kernel
theorem dL_law_580 : decode cL_law 580 = .ok (.iadd, 1) := by decide +kernel
theorem dL_law_581 : decode cL_law 581 = .ok (.iaload, 1) := by decide +kernel
theorem dL_law_582 : decode cL_law 582 = .ok (.aload_n 0, 1) := by decide +kernel
theorem dL_law_583 : decode cL_law 583 = .ok (.iload_n 3, 1) := by decide +kernel
theorem dL_law_584 : decode cL_law 584 = .ok (.iconst 2, 1) := by decide +kernel
theorem dL_law_585 : decode cL_law 585 = .ok (.iadd, 1) := by decide +kernel
theorem dL_law_586 : decode cL_law 586 = .ok (.iaload, 1) := by decide +kernel
theorem dL_law_587 : decode cL_law 587 = .ok (.aload_n 0, 1) := by decide +kernel
theorem dL_law_588 : decode cL_law 588 = .ok (.iload_n 3, 1) := by decide +kernel
theorem dL_law_589 : decode cL_law 589 = .ok (.iconst 3, 1) := by decide +kernel
theorem dL_law_590 : decode cL_law 590 = .ok (.iadd, 1) := by decide +kernel
theorem dL_law_591 : decode cL_law 591 = .ok (.iaload, 1) := by decide +kernel
theorem dL_law_592 : decode cL_law 592 = .ok (.invokevirtual 80, 3) := by decide +kernel
theorem dL_law_595 : decode cL_law 595 = .ok (.if_icmp .eq 238, 3) := by decide +kernel
theorem dL_law_598 : decode cL_law 598 = .ok (.iconst 0, 1) := by decide +kernel
theorem dL_law_599 : decode cL_law 599 = .ok (.ireturn, 1) := by decide +kernel
theorem dL_law_600 : decode cL_law 600 = .ok (.aload_n 1, 1) := by decide +kernel
theorem dL_law_601 : decode cL_law 601 = .ok (.aload_n 0, 1) := by decide +kernel
theorem dL_law_602 : decode cL_law 602 = .ok (.iload_n 3, 1) := by decide +kernel
theorem dL_law_603 : decode cL_law 603 = .ok (.iconst 1, 1) := by decide +kernel
theorem dL_law_604 : decode cL_law 604 = .ok (.iadd, 1) := by decide +kernel
theorem dL_law_605 : decode cL_law 605 = .ok (.iaload, 1) := by decide +kernel
theorem dL_law_606 : decode cL_law 606 = .ok (.aload_n 0, 1) := by decide +kernel
theorem dL_law_607 : decode cL_law 607 = .ok (.iload_n 3, 1) := by decide +kernel
theorem dL_law_608 : decode cL_law 608 = .ok (.iconst 2, 1) := by decide +kernel
theorem dL_law_609 : decode cL_law 609 = .ok (.iadd, 1) := by decide +kernel
theorem dL_law_610 : decode cL_law 610 = .ok (.iaload, 1) := by decide +kernel
theorem dL_law_611 : decode cL_law 611 = .ok (.aload_n 0, 1) := by decide +kernel
theorem dL_law_612 : decode cL_law 612 = .ok (.iload_n 3, 1) := by decide +kernel
theorem dL_law_613 : decode cL_law 613 = .ok (.iconst 3, 1) := by decide +kernel
theorem dL_law_614 : decode cL_law 614 = .ok (.iadd, 1) := by decide +kernel
theorem dL_law_615 : decode cL_law 615 = .ok (.iaload, 1) := by decide +kernel
theorem dL_law_616 : decode cL_law 616 = .ok (.invokevirtual 81, 3) := by decide +kernel
theorem dL_law_619 : decode cL_law 619 = .ok (.aload_n 2, 1) := by decide +kernel
theorem dL_law_620 : decode cL_law 620 = .ok (.aload_n 0, 1) := by decide +kernel
theorem dL_law_621 : decode cL_law 621 = .ok (.iload_n 3, 1) := by decide +kernel
theorem dL_law_622 : decode cL_law 622 = .ok (.iconst 1, 1) := by decide +kernel
theorem dL_law_623 : decode cL_law 623 = .ok (.iadd, 1) := by decide +kernel
theorem dL_law_624 : decode cL_law 624 = .ok (.iaload, 1) := by decide +kernel
theorem dL_law_625 : decode cL_law 625 = .ok (.aload_n 0, 1) := by decide +kernel
theorem dL_law_626 : decode cL_law 626 = .ok (.iload_n 3, 1) := by decide +kernel
theorem dL_law_627 : decode cL_law 627 = .ok (.iconst 2, 1) := by decide +kernel
theorem dL_law_628 : decode cL_law 628 = .ok (.iadd, 1) := by decide +kernel
theorem dL_law_629 : decode cL_law 629 = .ok (.iaload, 1) := by decide +kernel
theorem dL_law_630 : decode cL_law 630 = .ok (.aload_n 0, 1) := by decide +kernel
theorem dL_law_631 : decode cL_law 631 = .ok (.iload_n 3, 1) := by decide +kernel
theorem dL_law_632 : decode cL_law 632 = .ok (.iconst 3, 1) := by decide +kernel
theorem dL_law_633 : decode cL_law 633 = .ok (.iadd, 1) := by decide +kernel
theorem dL_law_634 : decode cL_law 634 = .ok (.iaload, 1) := by decide +kernel
theorem dL_law_635 : decode cL_law 635 = .ok (.invokevirtual 84, 3) := by decide +kernel
theorem dL_law_638 : decode cL_law 638 = .ok (.if_icmp .eq 195, 3) := by decide +kernel
theorem dL_law_641 : decode cL_law 641 = .ok (.iconst 0, 1) := by decide +kernel
theorem dL_law_642 : decode cL_law 642 = .ok (.ireturn, 1) := by decide +kernel
theorem dL_law_643 : decode cL_law 643 = .ok (.aload_n 1, 1) := by decide +kernel
theorem dL_law_644 : decode cL_law 644 = .ok (.invokevirtual 85, 3) := by decide +kernel
theorem dL_law_647 : decode cL_law 647 = .ok (.aload_n 2, 1) := by decide +kernel
theorem dL_law_648 : decode cL_law 648 = .ok (.invokevirtual 88, 3) := by decide +kernel
theorem dL_law_651 : decode cL_law 651 = .ok (.if_icmp .eq 182, 3) := by decide +kernel
theorem dL_law_654 : decode cL_law 654 = .ok (.iconst 0, 1) := by decide +kernel
theorem dL_law_655 : decode cL_law 655 = .ok (.ireturn, 1) := by decide +kernel
theorem dL_law_656 : decode cL_law 656 = .ok (.aload_n 1, 1) := by decide +kernel
theorem dL_law_657 : decode cL_law 657 = .ok (.aload_n 0, 1) := by decide +kernel
theorem dL_law_658 : decode cL_law 658 = .ok (.iload_n 3, 1) := by decide +kernel
theorem dL_law_659 : decode cL_law 659 = .ok (.iconst 1, 1) := by decide +kernel
theorem dL_law_660 : decode cL_law 660 = .ok (.iadd, 1) := by decide +kernel
theorem dL_law_661 : decode cL_law 661 = .ok (.iaload, 1) := by decide +kernel
theorem dL_law_662 : decode cL_law 662 = .ok (.invokevirtual 89, 3) := by decide +kernel
theorem dL_law_665 : decode cL_law 665 = .ok (.aload_n 2, 1) := by decide +kernel
theorem dL_law_666 : decode cL_law 666 = .ok (.aload_n 0, 1) := by decide +kernel
theorem dL_law_667 : decode cL_law 667 = .ok (.iload_n 3, 1) := by decide +kernel
theorem dL_law_668 : decode cL_law 668 = .ok (.iconst 1, 1) := by decide +kernel
theorem dL_law_669 : decode cL_law 669 = .ok (.iadd, 1) := by decide +kernel
theorem dL_law_670 : decode cL_law 670 = .ok (.iaload, 1) := by decide +kernel
theorem dL_law_671 : decode cL_law 671 = .ok (.invokevirtual 93, 3) := by decide +kernel
theorem dL_law_674 : decode cL_law 674 = .ok (.lcmp, 1) := by decide +kernel
theorem dL_law_675 : decode cL_law 675 = .ok (.ifCond .eq 158, 3) := by decide +kernel
theorem dL_law_678 : decode cL_law 678 = .ok (.iconst 0, 1) := by decide +kernel
theorem dL_law_679 : decode cL_law 679 = .ok (.ireturn, 1) := by decide +kernel
theorem dL_law_680 : decode cL_law 680 = .ok (.aload_n 1, 1) := by decide +kernel
theorem dL_law_681 : decode cL_law 681 = .ok (.aload_n 0, 1) := by decide +kernel
theorem dL_law_682 : decode cL_law 682 = .ok (.iload_n 3, 1) := by decide +kernel
theorem dL_law_683 : decode cL_law 683 = .ok (.iconst 1, 1) := by decide +kernel
theorem dL_law_684 : decode cL_law 684 = .ok (.iadd, 1) := by decide +kernel
theorem dL_law_685 : decode cL_law 685 = .ok (.iaload, 1) := by decide +kernel
theorem dL_law_686 : decode cL_law 686 = .ok (.invokevirtual 94, 3) := by decide +kernel
theorem dL_law_689 : decode cL_law 689 = .ok (.aload_n 2, 1) := by decide +kernel
theorem dL_law_690 : decode cL_law 690 = .ok (.aload_n 0, 1) := by decide +kernel
theorem dL_law_691 : decode cL_law 691 = .ok (.iload_n 3, 1) := by decide +kernel
theorem dL_law_692 : decode cL_law 692 = .ok (.iconst 1, 1) := by decide +kernel
theorem dL_law_693 : decode cL_law 693 = .ok (.iadd, 1) := by decide +kernel
theorem dL_law_694 : decode cL_law 694 = .ok (.iaload, 1) := by decide +kernel
theorem dL_law_695 : decode cL_law 695 = .ok (.invokevirtual 97, 3) := by decide +kernel
theorem dL_law_698 : decode cL_law 698 = .ok (.if_icmp .eq 135, 3) := by decide +kernel
theorem dL_law_701 : decode cL_law 701 = .ok (.iconst 0, 1) := by decide +kernel
theorem dL_law_702 : decode cL_law 702 = .ok (.ireturn, 1) := by decide +kernel
theorem dL_law_703 : decode cL_law 703 = .ok (.aload_n 1, 1) := by decide +kernel
theorem dL_law_704 : decode cL_law 704 = .ok (.aload_n 0, 1) := by decide +kernel
theorem dL_law_705 : decode cL_law 705 = .ok (.iload_n 3, 1) := by decide +kernel
theorem dL_law_706 : decode cL_law 706 = .ok (.iconst 1, 1) := by decide +kernel
theorem dL_law_707 : decode cL_law 707 = .ok (.iadd, 1) := by decide +kernel
theorem dL_law_708 : decode cL_law 708 = .ok (.iaload, 1) := by decide +kernel
theorem dL_law_709 : decode cL_law 709 = .ok (.invokevirtual 98, 3) := by decide +kernel
theorem dL_law_712 : decode cL_law 712 = .ok (.aload_n 2, 1) := by decide +kernel
theorem dL_law_713 : decode cL_law 713 = .ok (.aload_n 0, 1) := by decide +kernel
theorem dL_law_714 : decode cL_law 714 = .ok (.iload_n 3, 1) := by decide +kernel
theorem dL_law_715 : decode cL_law 715 = .ok (.iconst 1, 1) := by decide +kernel
theorem dL_law_716 : decode cL_law 716 = .ok (.iadd, 1) := by decide +kernel
theorem dL_law_717 : decode cL_law 717 = .ok (.iaload, 1) := by decide +kernel
theorem dL_law_718 : decode cL_law 718 = .ok (.invokevirtual 101, 3) := by decide +kernel
theorem dL_law_721 : decode cL_law 721 = .ok (.lcmp, 1) := by decide +kernel
theorem dL_law_722 : decode cL_law 722 = .ok (.ifCond .eq 111, 3) := by decide +kernel
theorem dL_law_725 : decode cL_law 725 = .ok (.iconst 0, 1) := by decide +kernel
theorem dL_law_726 : decode cL_law 726 = .ok (.ireturn, 1) := by decide +kernel
theorem dL_law_727 : decode cL_law 727 = .ok (.aload_n 1, 1) := by decide +kernel
theorem dL_law_728 : decode cL_law 728 = .ok (.aload_n 0, 1) := by decide +kernel
theorem dL_law_729 : decode cL_law 729 = .ok (.iload_n 3, 1) := by decide +kernel
theorem dL_law_730 : decode cL_law 730 = .ok (.iconst 1, 1) := by decide +kernel
theorem dL_law_731 : decode cL_law 731 = .ok (.iadd, 1) := by decide +kernel
theorem dL_law_732 : decode cL_law 732 = .ok (.iaload, 1) := by decide +kernel
theorem dL_law_733 : decode cL_law 733 = .ok (.invokevirtual 102, 3) := by decide +kernel
theorem dL_law_736 : decode cL_law 736 = .ok (.aload_n 2, 1) := by decide +kernel
theorem dL_law_737 : decode cL_law 737 = .ok (.aload_n 0, 1) := by decide +kernel
theorem dL_law_738 : decode cL_law 738 = .ok (.iload_n 3, 1) := by decide +kernel
theorem dL_law_739 : decode cL_law 739 = .ok (.iconst 1, 1) := by decide +kernel
theorem dL_law_740 : decode cL_law 740 = .ok (.iadd, 1) := by decide +kernel
theorem dL_law_741 : decode cL_law 741 = .ok (.iaload, 1) := by decide +kernel
theorem dL_law_742 : decode cL_law 742 = .ok (.invokevirtual 105, 3) := by decide +kernel
theorem dL_law_745 : decode cL_law 745 = .ok (.if_icmp .eq 88, 3) := by decide +kernel
theorem dL_law_748 : decode cL_law 748 = .ok (.iconst 0, 1) := by decide +kernel
theorem dL_law_749 : decode cL_law 749 = .ok (.ireturn, 1) := by decide +kernel
theorem dL_law_750 : decode cL_law 750 = .ok (.aload_n 1, 1) := by decide +kernel
theorem dL_law_751 : decode cL_law 751 = .ok (.aload_n 0, 1) := by decide +kernel
theorem dL_law_752 : decode cL_law 752 = .ok (.iload_n 3, 1) := by decide +kernel
theorem dL_law_753 : decode cL_law 753 = .ok (.iconst 1, 1) := by decide +kernel
theorem dL_law_754 : decode cL_law 754 = .ok (.iadd, 1) := by decide +kernel
theorem dL_law_755 : decode cL_law 755 = .ok (.iaload, 1) := by decide +kernel
theorem dL_law_756 : decode cL_law 756 = .ok (.invokevirtual 106, 3) := by decide +kernel
theorem dL_law_759 : decode cL_law 759 = .ok (.aload_n 2, 1) := by decide +kernel
theorem dL_law_760 : decode cL_law 760 = .ok (.aload_n 0, 1) := by decide +kernel
theorem dL_law_761 : decode cL_law 761 = .ok (.iload_n 3, 1) := by decide +kernel
theorem dL_law_762 : decode cL_law 762 = .ok (.iconst 1, 1) := by decide +kernel
theorem dL_law_763 : decode cL_law 763 = .ok (.iadd, 1) := by decide +kernel
theorem dL_law_764 : decode cL_law 764 = .ok (.iaload, 1) := by decide +kernel
theorem dL_law_765 : decode cL_law 765 = .ok (.invokevirtual 109, 3) := by decide +kernel
theorem dL_law_768 : decode cL_law 768 = .ok (.if_icmp .eq 65, 3) := by decide +kernel
theorem dL_law_771 : decode cL_law 771 = .ok (.iconst 0, 1) := by decide +kernel
theorem dL_law_772 : decode cL_law 772 = .ok (.ireturn, 1) := by decide +kernel
theorem dL_law_773 : decode cL_law 773 = .ok (.aload_n 1, 1) := by decide +kernel
theorem dL_law_774 : decode cL_law 774 = .ok (.aload_n 0, 1) := by decide +kernel
theorem dL_law_775 : decode cL_law 775 = .ok (.iload_n 3, 1) := by decide +kernel
theorem dL_law_776 : decode cL_law 776 = .ok (.iconst 1, 1) := by decide +kernel
theorem dL_law_777 : decode cL_law 777 = .ok (.iadd, 1) := by decide +kernel
theorem dL_law_778 : decode cL_law 778 = .ok (.iaload, 1) := by decide +kernel
theorem dL_law_779 : decode cL_law 779 = .ok (.invokevirtual 110, 3) := by decide +kernel
theorem dL_law_782 : decode cL_law 782 = .ok (.aload_n 2, 1) := by decide +kernel
theorem dL_law_783 : decode cL_law 783 = .ok (.aload_n 0, 1) := by decide +kernel
theorem dL_law_784 : decode cL_law 784 = .ok (.iload_n 3, 1) := by decide +kernel
theorem dL_law_785 : decode cL_law 785 = .ok (.iconst 1, 1) := by decide +kernel
theorem dL_law_786 : decode cL_law 786 = .ok (.iadd, 1) := by decide +kernel
theorem dL_law_787 : decode cL_law 787 = .ok (.iaload, 1) := by decide +kernel
theorem dL_law_788 : decode cL_law 788 = .ok (.invokevirtual 113, 3) := by decide +kernel
theorem dL_law_791 : decode cL_law 791 = .ok (.if_icmp .eq 42, 3) := by decide +kernel
theorem dL_law_794 : decode cL_law 794 = .ok (.iconst 0, 1) := by decide +kernel
theorem dL_law_795 : decode cL_law 795 = .ok (.ireturn, 1) := by decide +kernel
theorem dL_law_796 : decode cL_law 796 = .ok (.aload_n 1, 1) := by decide +kernel
theorem dL_law_797 : decode cL_law 797 = .ok (.aload_n 0, 1) := by decide +kernel
theorem dL_law_798 : decode cL_law 798 = .ok (.iload_n 3, 1) := by decide +kernel
theorem dL_law_799 : decode cL_law 799 = .ok (.iconst 1, 1) := by decide +kernel
theorem dL_law_800 : decode cL_law 800 = .ok (.iadd, 1) := by decide +kernel
theorem dL_law_801 : decode cL_law 801 = .ok (.iaload, 1) := by decide +kernel
theorem dL_law_802 : decode cL_law 802 = .ok (.invokevirtual 114, 3) := by decide +kernel
theorem dL_law_805 : decode cL_law 805 = .ok (.aload_n 2, 1) := by decide +kernel
theorem dL_law_806 : decode cL_law 806 = .ok (.aload_n 0, 1) := by decide +kernel
theorem dL_law_807 : decode cL_law 807 = .ok (.iload_n 3, 1) := by decide +kernel
theorem dL_law_808 : decode cL_law 808 = .ok (.iconst 1, 1) := by decide +kernel
theorem dL_law_809 : decode cL_law 809 = .ok (.iadd, 1) := by decide +kernel
theorem dL_law_810 : decode cL_law 810 = .ok (.iaload, 1) := by decide +kernel
theorem dL_law_811 : decode cL_law 811 = .ok (.invokevirtual 117, 3) := by decide +kernel
theorem dL_law_814 : decode cL_law 814 = .ok (.if_icmp .eq 19, 3) := by decide +kernel
theorem dL_law_817 : decode cL_law 817 = .ok (.iconst 0, 1) := by decide +kernel
theorem dL_law_818 : decode cL_law 818 = .ok (.ireturn, 1) := by decide +kernel
theorem dL_law_819 : decode cL_law 819 = .ok (.aload_n 1, 1) := by decide +kernel
theorem dL_law_820 : decode cL_law 820 = .ok (.invokevirtual 118, 3) := by decide +kernel
theorem dL_law_823 : decode cL_law 823 = .ok (.aload_n 2, 1) := by decide +kernel
theorem dL_law_824 : decode cL_law 824 = .ok (.invokevirtual 122, 3) := by decide +kernel
theorem dL_law_827 : decode cL_law 827 = .ok (.lcmp, 1) := by decide +kernel
theorem dL_law_828 : decode cL_law 828 = .ok (.ifCond .eq 5, 3) := by decide +kernel
theorem dL_law_831 : decode cL_law 831 = .ok (.iconst 0, 1) := by decide +kernel
theorem dL_law_832 : decode cL_law 832 = .ok (.ireturn, 1) := by decide +kernel
theorem dL_law_833 : decode cL_law 833 = .ok (.iinc 3 4, 3) := by decide +kernel
theorem dL_law_836 : decode cL_law 836 = .ok (.goto (-818), 3) := by decide +kernel
theorem dL_law_839 : decode cL_law 839 = .ok (.iconst 1, 1) := by decide +kernel
theorem dL_law_840 : decode cL_law 840 = .ok (.ireturn, 1) := by decide +kernel
end
section
/-! THE PURE MACHINE: a memory of ints and longs by (cell, place), a fixed shape of the heap, and the judgement J over it -/
abbrev jM : Type := (Nat → Nat → Int32) × (Nat → Nat → Int64)
abbrev jS : Type := Option (Option (Option Nat))
abbrev jC : Type := (FieldType × Nat) ⊕ (Nat × List jS)
abbrev jG : Type := va_G × (Nat → Nat) × (Nat → ClassId)
def gI (σ : jM) (c i : Nat) : Int32 := σ.1 c i
def gL (σ : jM) (c i : Nat) : Int64 := σ.2 c i
def gC (σ : jM) (c i : Nat) : Int32 := vp_nar .char (σ.1 c i)
def pI (σ : jM) (c i : Nat) (v : Int32) : jM := (fun a => if a = c then upd (σ.1 c) i v else σ.1 a, σ.2)
def pL (σ : jM) (c i : Nat) (v : Int64) : jM := (σ.1, fun a => if a = c then vp_updL (σ.2 c) i v else σ.2 a)
def cpI (σ : jM) (a b sp dp n : Nat) : jM := (fun c => if c = b then va_cpy (σ.1 a) (σ.1 b) sp dp n else σ.1 c, σ.2)
def rnV (ad : Nat → Nat) : Value → Value
  | .ref k => .ref (ad k)
  | v => v
def slV (ad : Nat → Nat) (σ : jM) (k i : Nat) : jS → Value
  | none => .int (σ.1 k i)
  | some none => .long (σ.2 k i)
  | some (some none) => .null
  | some (some (some r)) => .ref (ad r)
def arA (σ : jM) (k n : Nat) : FieldType → vp_A
  | .long => (n, .inr (.inl (σ.2 k)))
  | .char => (n, .inl (fun j => vp_nar .char (σ.1 k j)))
  | _ => (n, .inl (σ.1 k))
def ceE (ad : Nat → Nat) (ca : Nat → ClassId) (σ : jM) (k : Nat) : jC → va_E
  | .inl q => .inl (ca k, arA σ k q.2 q.1)
  | .inr q => .inr (q.1, q.2.mapIdx (fun i d => slV ad σ k i d))
def wsG (G : jG) (Sh : List jC) (σ : jM) : va_W := Sh.mapIdx (fun k c => (G.2.1 k, ceE G.2.1 G.2.2 σ k c))
theorem wsG_at {G : jG} {Sh : List jC} {σ : jM} {k : Nat} {c : jC} (h : Sh[k]? = some c) : (wsG G Sh σ)[k]? = some (G.2.1 k, ceE G.2.1 G.2.2 σ k c) := by
  unfold wsG
  rw [List.getElem?_mapIdx, h]
  rfl
theorem wsG_of {G : jG} {Sh : List jC} {σ : jM} {k : Nat} {q : Nat × va_E} (h : (wsG G Sh σ)[k]? = some q) : ∃ c, Sh[k]? = some c ∧ q = (G.2.1 k, ceE G.2.1 G.2.2 σ k c) := by
  unfold wsG at h
  rw [List.getElem?_mapIdx] at h
  cases hc : Sh[k]? with
  | none => rw [hc] at h; cases h
  | some c => rw [hc] at h; exact ⟨c, rfl, (Option.some.inj h).symm⟩
def Wd (G : jG) (Sh : List jC) (σ : jM) (s : State) (A : Nat → Prop) (H : Heap) : Prop :=
  va_P G.1 vwCl (wsG G Sh σ) H ∧ va_K G.1 vwCl [] s ∧ va_D A (wsG G Sh σ) ∧ ∀ (k : Nat) (ty : FieldType) (n : Nat), Sh[k]? = some (.inl (ty, n)) → ArrOfT s (G.2.2 k) ty ∧ va_RA s (G.2.2 k) ty
/-! the words -/
def isNestW : Cond → Bool
  | .fieldLinkNest _ _ _ _ _ _ => true
  | .methodLinkNest _ _ _ _ => true
  | _ => false
def TBW : List Cond := lw_tbl.filter goodWord
def NW : List Cond := lw_tbl.filter isNestW
theorem mTB {w : Cond} (i : Nat) (h : lw_tbl[i]? = some w) (g : goodWord w = true) : w ∈ TBW := List.mem_filter.mpr ⟨List.mem_of_getElem? h, g⟩
theorem mNW {w : Cond} (i : Nat) (h : lw_tbl[i]? = some w) (g : isNestW w = true) : w ∈ NW := List.mem_filter.mpr ⟨List.mem_of_getElem? h, g⟩
theorem nw_warm {w : Cond} (hw : w ∈ NW) {s U : State} (hW : s.WarmedH U.vm) (h : va_Nw w s) : va_Nw w U := by
  have h1 : isNestW w = true := (List.mem_filter.mp hw).2
  cases w with
  | fieldLinkNest a i b n d h0 => exact va_Nw.warmF hW h
  | methodLinkNest a i x h0 => exact va_Nw.warmM hW h
  | _ => cases h1
theorem nw_same {w : Cond} (hw : w ∈ NW) {s U : State} (hv : s.vm = U.vm) (h : va_Nw w s) : va_Nw w U := by
  have h1 : isNestW w = true := (List.mem_filter.mp hw).2
  cases w with
  | fieldLinkNest a i b n d h0 => exact va_Nw.same rfl hv h
  | methodLinkNest a i x h0 => exact va_Nw.same rfl hv h
  | _ => cases h1
/-! what lies outside the world and is only read: the texts (1000 + i, their bytes 2000 + i), the row BROUGHT (3000) -/
def srS : List (String × Nat × String × Nat) := [("OddBridge$Vow", 89, "!-", 0), ("OddBridge$Vow", 120, ")", 1), ("OddBridge$Vow", 109, "pbudl", 2), ("OddBridge$Vow", 87, "*/", 3), ("OddBridge$Vow", 82, "+-", 4), ("OddBridge$Vow", 77, "<>=", 5), ("OddBridge$Vow", 72, "&", 6), ("OddBridge$Vow", 59, "|", 7)]
def byS : List (List Int32) := [[33, 45], [41], [112, 98, 117, 100, 108], [42, 47], [43, 45], [60, 62, 61], [38], [124]]
def leS : List Nat := [2, 1, 5, 2, 2, 3, 1, 1]
def brS : List Int32 := [1, 0, 0, 0, 0, 1, 0, 1, 0, 0, 1, 2, 0, 0, 0, 1, 0, 0, 1, 0, 1, 0, 0, 0, 1, 0, 0, 0, 0, 0, 1, 0, 0, 1, 2, 1, 1, 2, 0, 0]
def Env (ad : Nat → Nat) (A : Nat → Prop) (U : State) (H : Heap) : Prop :=
  (∀ w ∈ NW, va_Nw w U) ∧ (∀ q ∈ srS, vk_R q.1 q.2.1 q.2.2.1 (ad (1000 + q.2.2.2)) U) ∧ vk_S 8 leS byS (fun i => ad (1000 + i)) (fun i => ad (2000 + i)) A U H ∧ va_Z "java/lang/String" "COMPACT_STRINGS" "Z" (.int 1) A U H ∧ va_Z "OddBridge" "BROUGHT" "[I" (.ref (ad 3000)) A U H ∧ va_T .int (ad 3000) 40 (fun j => .int (brS.getD j 0)) A U H
theorem Env.warm {ad : Nat → Nat} {A : Nat → Prop} {s U : State} {H : Heap} (hW : s.WarmedH U.vm) (h : Env ad A s H) : Env ad A U H :=
  ⟨fun w hw => nw_warm hw hW (h.1 w hw), fun q hq => (h.2.1 q hq).warm hW, h.2.2.1.moved hW.alike, h.2.2.2.1.moved hW.alike, h.2.2.2.2.1.moved hW.alike, h.2.2.2.2.2.moved hW.alike⟩
theorem Env.same {ad : Nat → Nat} {A : Nat → Prop} {s U : State} {H : Heap} (hv : s.vm = U.vm) (h : Env ad A s H) : Env ad A U H := by
  have ha : s.vm.Alike U.vm := by rw [hv]; exact Vm.Alike.refl _
  exact ⟨fun w hw => nw_same hw hv (h.1 w hw), fun q hq => (h.2.1 q hq).same hv.symm, h.2.2.1.moved ha, h.2.2.2.1.moved ha, h.2.2.2.2.1.moved ha, h.2.2.2.2.2.moved ha⟩
theorem Env.kept {ad : Nat → Nat} {A : Nat → Prop} {U : State} {H H1 : Heap} (h : Env ad A U H) (hq : ∀ a : Nat, a < H.size → ¬ A a → H1[a]? = H[a]?) : Env ad A U H1 :=
  ⟨h.1, h.2.1, h.2.2.1.kept hq, h.2.2.2.1.kept hq, h.2.2.2.2.1.kept hq, h.2.2.2.2.2.kept hq⟩
theorem Env.narrow {ad : Nat → Nat} {A B : Nat → Prop} {U : State} {H : Heap} (h : Env ad A U H) (hAB : ∀ q, B q → A q) : Env ad B U H :=
  ⟨h.1, h.2.1, h.2.2.1.narrow hAB, h.2.2.2.1.narrow hAB, h.2.2.2.2.1.narrow hAB, h.2.2.2.2.2.narrow hAB⟩
theorem Env.re {ad ad' : Nat → Nat} {A : Nat → Prop} {U : State} {H : Heap} (he : ∀ k, 1000 ≤ k → ad' k = ad k) (h : Env ad A U H) : Env ad' A U H := by
  have e1 : (fun i => ad' (1000 + i)) = fun i => ad (1000 + i) := funext fun i => he _ (by omega)
  have e2 : (fun i => ad' (2000 + i)) = fun i => ad (2000 + i) := funext fun i => he _ (by omega)
  have e3 : ad' 3000 = ad 3000 := he _ (by omega)
  exact ⟨h.1, fun q hq => by rw [he _ (by omega)]; exact h.2.1 q hq, by rw [e1, e2]; exact h.2.2.1, h.2.2.2.1, by rw [e3]; exact h.2.2.2.2.1, by rw [e3]; exact h.2.2.2.2.2⟩
/-! locals -/
def LV (ad : Nat → Nat) (lsA : Array Slot) (nL : Nat) (ls : List (Option Value)) : Prop := lsA.size = nL ∧ lv_wf lsA ∧ ∀ (i : Nat) (v : Value), ls[i]? = some (some v) → lsA[i]? = some (.val (rnV ad v))
def kl2 : Option Value → Option Value
  | some v => if v.category = 2 then none else some v
  | none => none
def stI : List (Option Value) → Nat → Value → List (Option Value)
  | [], _, _ => []
  | _ :: t, 0, v => some v :: t
  | a :: t, i + 1, v => (if i = 0 then kl2 a else a) :: stI t i v
def kl0 : List (Option Value) → List (Option Value)
  | [] => []
  | _ :: t => none :: t
def stL : List (Option Value) → Nat → Value → List (Option Value)
  | [], _, _ => []
  | _ :: t, 0, v => some v :: kl0 t
  | a :: t, i + 1, v => (if i = 0 then kl2 a else a) :: stL t i v
def asl (ad : Nat → Nat) : Nat → List (Option Value) → List (Nat × Value)
  | _, [] => []
  | i, some v :: t => (i, rnV ad v) :: asl ad (i + 1) t
  | i, none :: t => asl ad (i + 1) t
theorem asl_mem {ad : Nat → Nat} : ∀ {ls : List (Option Value)} {o i : Nat} {v : Value}, ls[i]? = some (some v) → (o + i, rnV ad v) ∈ asl ad o ls := by
  intro ls
  induction ls with
  | nil => intro o i v h; simp at h
  | cons a t ih =>
    intro o i v h
    cases i with
    | zero =>
      simp at h
      subst h
      exact List.mem_cons_self
    | succ i =>
      have h2 : t[i]? = some (some v) := by simpa using h
      have h3 := ih (o := o + 1) h2
      have e : o + 1 + i = o + (i + 1) := by omega
      rw [e] at h3
      cases a with
      | none => exact h3
      | some w => exact List.mem_cons_of_mem _ h3
theorem asl_of {ad : Nat → Nat} : ∀ {ls : List (Option Value)} {o : Nat} {q : Nat × Value}, q ∈ asl ad o ls → ∃ i v, ls[i]? = some (some v) ∧ q = (o + i, rnV ad v) := by
  intro ls
  induction ls with
  | nil => intro o q h; cases h
  | cons a t ih =>
    intro o q h
    cases a with
    | none =>
      obtain ⟨i, v, h1, h2⟩ := ih (o := o + 1) h
      exact ⟨i + 1, v, by simpa using h1, by rw [h2]; congr 1; omega⟩
    | some w =>
      rcases List.mem_cons.mp h with h | h
      · exact ⟨0, w, by simp, by rw [h]; rfl⟩
      · obtain ⟨i, v, h1, h2⟩ := ih (o := o + 1) h
        exact ⟨i + 1, v, by simpa using h1, by rw [h2]; congr 1; omega⟩
theorem LV.has {ad : Nat → Nat} {lsA : Array Slot} {nL : Nat} {ls : List (Option Value)} (h : LV ad lsA nL ls) : lv_has lsA nL (asl ad 0 ls) := by
  refine ⟨h.1, h.2.1, fun q hq => ?_⟩
  obtain ⟨i, v, h1, h2⟩ := asl_of hq
  rw [h2]
  simp only [Nat.zero_add]
  exact h.2.2 i v h1
theorem LV.at {ad : Nat → Nat} {lsA : Array Slot} {nL : Nat} {ls : List (Option Value)} (h : LV ad lsA nL ls) {i : Nat} {v : Value} (hi : ls[i]? = some (some v)) : lsA[i]? = some (.val (rnV ad v)) := h.2.2 i v hi
theorem rnV_cat (ad : Nat → Nat) (v : Value) : (rnV ad v).category = v.category := by cases v <;> rfl
theorem kl2_some {a : Option Value} {w : Value} (h : kl2 a = some w) : a = some w ∧ ¬ w.category = 2 := by
  cases a with
  | none => cases h
  | some v =>
    simp only [kl2] at h
    split at h
    · cases h
    · rename_i hc; cases h; exact ⟨rfl, hc⟩
theorem stI_at : ∀ {ls : List (Option Value)} {i : Nat} {v : Value} {j : Nat} {w : Value}, (stI ls i v)[j]? = some (some w) → (j = i ∧ w = v) ∨ (j ≠ i ∧ ls[j]? = some (some w) ∧ ¬ (j + 1 = i ∧ w.category = 2)) := by
  intro ls
  induction ls with
  | nil => intro i v j w h; simp [stI] at h
  | cons a t ih =>
    intro i v j w h
    cases i with
    | zero =>
      cases j with
      | zero => simp [stI] at h; exact Or.inl ⟨rfl, h.symm⟩
      | succ j => simp [stI] at h; exact Or.inr ⟨by omega, by simpa using h, by omega⟩
    | succ i =>
      cases j with
      | zero =>
        simp only [stI, List.getElem?_cons_zero, Option.some.injEq] at h
        refine Or.inr ⟨by omega, ?_, ?_⟩
        · split at h
          · simp [(kl2_some h).1]
          · simp [h]
        · intro hc
          split at h
          · exact (kl2_some h).2 hc.2
          · omega
      | succ j =>
        simp only [stI, List.getElem?_cons_succ] at h
        rcases ih h with ⟨h1, h2⟩ | ⟨h1, h2, h3⟩
        · exact Or.inl ⟨by omega, h2⟩
        · exact Or.inr ⟨by omega, by simpa using h2, by rintro ⟨h4, h5⟩; exact h3 ⟨by omega, h5⟩⟩
theorem stL_at : ∀ {ls : List (Option Value)} {i : Nat} {v : Value} {j : Nat} {w : Value}, (stL ls i v)[j]? = some (some w) → (j = i ∧ w = v) ∨ (j ≠ i ∧ j ≠ i + 1 ∧ ls[j]? = some (some w) ∧ ¬ (j + 1 = i ∧ w.category = 2)) := by
  intro ls
  induction ls with
  | nil => intro i v j w h; simp [stL] at h
  | cons a t ih =>
    intro i v j w h
    cases i with
    | zero =>
      cases j with
      | zero => simp [stL] at h; exact Or.inl ⟨rfl, h.symm⟩
      | succ j =>
        simp only [stL, List.getElem?_cons_succ] at h
        cases t with
        | nil => simp [kl0] at h
        | cons b t =>
          cases j with
          | zero => simp [kl0] at h
          | succ j => simp [kl0] at h; exact Or.inr ⟨by omega, by omega, by simpa using h, by omega⟩
    | succ i =>
      cases j with
      | zero =>
        simp only [stL, List.getElem?_cons_zero, Option.some.injEq] at h
        refine Or.inr ⟨by omega, by omega, ?_, ?_⟩
        · split at h
          · simp [(kl2_some h).1]
          · simp [h]
        · intro hc
          split at h
          · exact (kl2_some h).2 hc.2
          · omega
      | succ j =>
        simp only [stL, List.getElem?_cons_succ] at h
        rcases ih h with ⟨h1, h2⟩ | ⟨h1, h2, h3, h4⟩
        · exact Or.inl ⟨by omega, h2⟩
        · exact Or.inr ⟨by omega, by omega, by simpa using h3, by rintro ⟨h5, h6⟩; exact h4 ⟨by omega, h6⟩⟩
theorem LV.stI {ad : Nat → Nat} {lsB : Array Slot} {nL : Nat} {ls : List (Option Value)} {i : Nat} {v : Value} (h : lv_has lsB nL ((i, rnV ad v) :: (asl ad 0 ls).filter (fun q => !(q.1 == i) && !(q.1 + 1 == i && q.2.category == 2)))) : LV ad lsB nL (stI ls i v) := by
  refine ⟨h.1, h.2.1, fun j w hj => ?_⟩
  rcases stI_at hj with ⟨rfl, rfl⟩ | ⟨h1, h2, h3⟩
  · exact h.2.2 _ List.mem_cons_self
  · refine h.2.2 (j, rnV ad w) (List.mem_cons_of_mem _ (List.mem_filter.mpr ⟨by simpa using asl_mem (ad := ad) (o := 0) h2, ?_⟩))
    simp only [rnV_cat, Bool.and_eq_true, Bool.not_eq_true', beq_eq_false_iff_ne, Bool.and_eq_false_iff]
    refine ⟨h1, ?_⟩
    by_cases hc : j + 1 = i
    · exact Or.inr (fun h4 => h3 ⟨hc, h4⟩)
    · exact Or.inl hc
theorem LV.stL {ad : Nat → Nat} {lsB : Array Slot} {nL : Nat} {ls : List (Option Value)} {i : Nat} {v : Value} (h : lv_has lsB nL ((i, rnV ad v) :: (asl ad 0 ls).filter (fun q => !(q.1 == i) && (!(q.1 == i + 1) && !(q.1 + 1 == i && q.2.category == 2))))) : LV ad lsB nL (stL ls i v) := by
  refine ⟨h.1, h.2.1, fun j w hj => ?_⟩
  rcases stL_at hj with ⟨rfl, rfl⟩ | ⟨h1, h2, h3, h4⟩
  · exact h.2.2 _ List.mem_cons_self
  · refine h.2.2 (j, rnV ad w) (List.mem_cons_of_mem _ (List.mem_filter.mpr ⟨by simpa using asl_mem (ad := ad) (o := 0) h3, ?_⟩))
    simp only [rnV_cat, Bool.and_eq_true, Bool.not_eq_true', beq_eq_false_iff_ne, Bool.and_eq_false_iff]
    refine ⟨h1, h2, ?_⟩
    by_cases hc : j + 1 = i
    · exact Or.inr (fun h5 => h4 ⟨hc, h5⟩)
    · exact Or.inl hc
/-- fewer locals known -/
def lsub : List (Option Value) → List (Option Value) → Prop
  | [], _ => True
  | none :: t, b => lsub t (b.drop 1)
  | some v :: t, b => b.head? = some (some v) ∧ lsub t (b.drop 1)
theorem lsub_at : ∀ {l1 l2 : List (Option Value)}, lsub l1 l2 → ∀ (i : Nat) (v : Value), l1[i]? = some (some v) → l2[i]? = some (some v) := by
  intro l1
  induction l1 with
  | nil => intro l2 _ i v h; simp at h
  | cons a t ih =>
    intro l2 hs i v h
    have hd : ∀ j, (l2.drop 1)[j]? = l2[j + 1]? := fun j => by rw [List.getElem?_drop]; congr 1; omega
    cases i with
    | zero =>
      simp at h
      subst h
      have := hs.1
      rwa [List.head?_eq_getElem?] at this
    | succ i =>
      have h2 : t[i]? = some (some v) := by simpa using h
      cases a with
      | none => rw [← hd]; exact ih hs i v h2
      | some w => rw [← hd]; exact ih hs.2 i v h2
theorem LV.sub {ad : Nat → Nat} {lsA : Array Slot} {nL : Nat} {l1 l2 : List (Option Value)} (h : LV ad lsA nL l2) (hs : lsub l1 l2) : LV ad lsA nL l1 := ⟨h.1, h.2.1, fun i v hi => h.2.2 i v (lsub_at hs i v hi)⟩
/-- the locals with which a method begins -/
def lvs : List Value → List (Option Value)
  | [] => []
  | v :: t => if v.category = 2 then some v :: none :: lvs t else some v :: lvs t
theorem lvs_args {ad : Nat → Nat} : ∀ {as : List Value} {o i : Nat} {v : Value}, (lvs as)[i]? = some (some v) → (o + i, rnV ad v) ∈ lv_args o (as.map (rnV ad)) := by
  intro as
  induction as with
  | nil => intro o i v h; simp [lvs] at h
  | cons a t ih =>
    intro o i v h
    simp only [List.map_cons, lv_args, rnV_cat]
    by_cases hc : a.category = 2
    · simp only [lvs, hc, if_true] at h ⊢
      match i, h with
      | 0, h => simp at h; subst h; exact List.mem_cons_self
      | 1, h => simp at h
      | i + 2, h =>
        have h2 : (lvs t)[i]? = some (some v) := by simpa using h
        have h3 := ih (o := o + 2) h2
        have e : o + 2 + i = o + (i + 2) := by omega
        rw [e] at h3
        exact List.mem_cons_of_mem _ h3
    · simp only [lvs, hc, if_false] at h ⊢
      match i, h with
      | 0, h => simp at h; subst h; exact List.mem_cons_self
      | i + 1, h =>
        have h2 : (lvs t)[i]? = some (some v) := by simpa using h
        have h3 := ih (o := o + 1) h2
        have e : o + 1 + i = o + (i + 1) := by omega
        rw [e] at h3
        exact List.mem_cons_of_mem _ h3
end
section
/-! THE JUDGEMENT -/
def Ctx (own : String) (cc : ByteArray) (nL : Nat) (ret : Option FieldType) (ini : Bool) (Cx : jG → State → (Nat → Prop) → Prop) (p : Program) (s : State) (m : MethodId) (args : Array Value) (meth : Method) (c : Code) (G : jG) (A : Nat → Prop) : Prop :=
  p.tables.exec = Jvm.exec ∧ c.code = cc ∧ c.maxLocals = nL ∧ meth.sig.returnType = ret ∧ s.vm.findClass own = some m.cls ∧ (∀ w ∈ TBW, w.before args s = true) ∧ meth.locks = false ∧ (ini = true → meth.name = "<init>") ∧ Env G.2.1 A s s.heap ∧ Cx G s A ∧ (∀ q, s.heap.size ≤ q → A q)
def noCx : jG → State → (Nat → Prop) → Prop := fun _ _ _ => True
def jAg (n n' : Nat) (G G' : jG) : Prop := G'.1 = G.1 ∧ (∀ k, (k < n ∨ 1000 ≤ k) → G'.2.1 k = G.2.1 k) ∧ (∀ k, k < n → G'.2.2 k = G.2.2 k) ∧ n ≤ n' ∧ (n' = n → G' = G)
theorem jAg.rf (n : Nat) (G : jG) : jAg n n G G := ⟨rfl, fun _ _ => rfl, fun _ _ => rfl, Nat.le_refl _, fun _ => rfl⟩
def isRet (cc : ByteArray) (pc : Nat) (ret : Option FieldType) (v : Option Value) : Prop :=
  (v = none ∧ ret = none ∧ decode cc pc = .ok (.return_, 1)) ∨
  (∃ x, v = some (.int x) ∧ (∃ ty, ret = some ty ∧ narrow ty (.int x) = .int x) ∧ decode cc pc = .ok (.ireturn, 1)) ∨
  (∃ x, v = some (.long x) ∧ ret = some .long ∧ decode cc pc = .ok (.lreturn, 1)) ∨
  (∃ k, v = some (.ref k) ∧ (∃ n, ret = some (.object n)) ∧ decode cc pc = .ok (.areturn, 1))
/-- what a result tells: the value, the memory, the shape, the room used -/
abbrev jR : Type := Option Value × jM × List jC × Nat × Nat
def J (l : Launch) (own : String) (cc : ByteArray) (nL : Nat) (ret : Option FieldType) (ini : Bool) (R : Room) (Cx : jG → State → (Nat → Prop) → Prop) {ρ : Type} (enc : ρ → jR) (Sh : List jC) (k n : Nat) (σ : jM) (pc : Nat) (ls : List (Option Value)) (st : List Value) (o : Option ρ) : Prop :=
  ∀ res : ρ, o = some res → ∀ (p : Program) (e : Jvm.Env) (s : State) (m : MethodId) (args : Array Value) (below : List Frame) (meth : Method) (c : Code) (G : jG) (A : Nat → Prop) (Q : State → Prop) (H : Heap) (locs : List Loc) (lsA : Array Slot),
    Ctx own cc nL ret ini Cx p s m args meth c G A →
    (∀ (G' : jG) (H' : Heap) (locs' : List Loc) (pc' : Nat) (lsA' : Array Slot), jAg Sh.length (enc res).2.2.1.length G G' → Wd G' (enc res).2.2.1 (enc res).2.1 s A H' → va_S A s.heap H' locs' → isRet cc pc' ret (enc res).1 →
      W p l e R s m args below meth c H' locs' (enc res).2.2.2.1 (enc res).2.2.2.2 Q (F0 m pc' lsA' (((enc res).1.map (rnV G'.2.1)).toList))) →
    Wd G Sh σ s A H → va_S A s.heap H locs → LV G.2.1 lsA nL ls → W p l e R s m args below meth c H locs k n Q (F0 m pc lsA (st.map (rnV G.2.1)))
def gd {ρ : Type} (b : Bool) (o : Option ρ) : Option ρ := match b with
  | true => o
  | false => none
def lt_ {α β : Type} (x : α) (f : α → β) : β := f x
def jn_ {α β : Type} (k : α) (f : α → β) : β := f k
def ib (i : Int32) (n : Nat) : Bool := decide (0 ≤ i.toInt) && decide (i.toInt < (n : Int))
theorem ib_in {i : Int32} {n : Nat} (h : ib i n = true) : vp_in i n := by
  rw [vp_in_iff]
  simpa [ib] using h
section Rows
variable {l : Launch} {own : String} {cc : ByteArray} {nL : Nat} {ret : Option FieldType} {ini : Bool} {R : Room} {Cx : jG → State → (Nat → Prop) → Prop} {ρ : Type} {enc : ρ → jR} {Sh : List jC} {k n : Nat} {σ : jM} {pc : Nat} {ls : List (Option Value)} {rest : List Value} {o : Option ρ}
theorem J_none {st : List Value} : J l own cc nL ret ini R Cx enc Sh k n σ pc ls st none := fun _ h => by cases h
theorem J_gd {st : List Value} {b : Bool} (kk : b = true → J l own cc nL ret ini R Cx enc Sh k n σ pc ls st o) : J l own cc nL ret ini R Cx enc Sh k n σ pc ls st (gd b o) := by
  cases b with
  | true => exact kk rfl
  | false => exact J_none
theorem J_sub {st : List Value} {l1 : List (Option Value)} (hs : lsub l1 ls) (kk : J l own cc nL ret ini R Cx enc Sh k n σ pc l1 st o) : J l own cc nL ret ini R Cx enc Sh k n σ pc ls st o :=
  fun res h p e s m args below meth c G A Q H locs lsA C K hW hS hl => kk res h p e s m args below meth c G A Q H locs lsA C K hW hS (hl.sub hs)
theorem J_pc {st : List Value} {pc' : Nat} (h : pc' = pc) (kk : J l own cc nL ret ini R Cx enc Sh k n σ pc' ls st o) : J l own cc nL ret ini R Cx enc Sh k n σ pc ls st o := h ▸ kk
theorem J_let {α : Type} {st : List Value} {x : α} {f : α → Option ρ} {S : α → List Value} (hs : S x = st) (kk : ∀ y : α, J l own cc nL ret ini R Cx enc Sh k n σ pc ls (S y) (f y)) : J l own cc nL ret ini R Cx enc Sh k n σ pc ls st (lt_ x f) := by
  subst hs
  exact kk x
theorem J_letM {σ' : jM} {st : List Value} {f : jM → Option ρ} (hs : σ' = σ) (kk : ∀ y : jM, J l own cc nL ret ini R Cx enc Sh k n y pc ls st (f y)) : J l own cc nL ret ini R Cx enc Sh k n σ pc ls st (lt_ σ' f) := by
  subst hs
  exact kk _
theorem J_if {c : Prop} {inst : Decidable c} {st : List Value} {o2 : Option ρ} (k1 : c → J l own cc nL ret ini R Cx enc Sh k n σ pc ls st o) (k2 : ¬ c → J l own cc nL ret ini R Cx enc Sh k n σ pc ls st o2) : J l own cc nL ret ini R Cx enc Sh k n σ pc ls st (@ite _ c inst o o2) := by
  by_cases h : c
  · rw [if_pos h]; exact k1 h
  · rw [if_neg h]; exact k2 h
theorem J_iconst {a : Int} {v : Int32} (hd : decode cc pc = .ok (.iconst a, 1)) (hv : Int32.ofInt a = v) (kk : J l own cc nL ret ini R Cx enc Sh k n σ (pc + 1) ls (.int v :: rest) o) : J l own cc nL ret ini R Cx enc Sh k n σ pc ls (rest) o := fun res h p e s m args below meth c G A Q H locs lsA C K hW hS hl => lv_iconst C.1 C.2.1 hd hv (kk res h p e s m args below meth c G A Q H locs lsA C K hW hS hl)
theorem J_bipush {a : Int} {v : Int32} (hd : decode cc pc = .ok (.bipush a, 2)) (hv : (Int8.ofInt a).toInt32 = v) (kk : J l own cc nL ret ini R Cx enc Sh k n σ (pc + 2) ls (.int v :: rest) o) : J l own cc nL ret ini R Cx enc Sh k n σ pc ls (rest) o := fun res h p e s m args below meth c G A Q H locs lsA C K hW hS hl => lv_bipush C.1 C.2.1 hd hv (kk res h p e s m args below meth c G A Q H locs lsA C K hW hS hl)
theorem J_sipush {a : Int} {v : Int32} (hd : decode cc pc = .ok (.sipush a, 3)) (hv : (Int16.ofInt a).toInt32 = v) (kk : J l own cc nL ret ini R Cx enc Sh k n σ (pc + 3) ls (.int v :: rest) o) : J l own cc nL ret ini R Cx enc Sh k n σ pc ls (rest) o := fun res h p e s m args below meth c G A Q H locs lsA C K hW hS hl => lv_sipush C.1 C.2.1 hd hv (kk res h p e s m args below meth c G A Q H locs lsA C K hW hS hl)
theorem J_lconst {a : Fin 2} {v : Int64} (hd : decode cc pc = .ok (.lconst a, 1)) (hv : Int64.ofNat (a : Nat) = v) (kk : J l own cc nL ret ini R Cx enc Sh k n σ (pc + 1) ls (.long v :: rest) o) : J l own cc nL ret ini R Cx enc Sh k n σ pc ls (rest) o := fun res h p e s m args below meth c G A Q H locs lsA C K hW hS hl => lv_lconst C.1 C.2.1 hd hv (kk res h p e s m args below meth c G A Q H locs lsA C K hW hS hl)
theorem J_iload_n {a : Fin 4} {i : Nat} {x : Int32} (hd : decode cc pc = .ok (.iload_n a, 1)) (hi : (a : Nat) = i) (hx : ls[i]? = some (some (.int x))) (kk : J l own cc nL ret ini R Cx enc Sh k n σ (pc + 1) ls (.int x :: rest) o) : J l own cc nL ret ini R Cx enc Sh k n σ pc ls (rest) o := fun res h p e s m args below meth c G A Q H locs lsA C K hW hS hl => lv_iload_n C.1 C.2.1 hd hi (hl.at hx) (kk res h p e s m args below meth c G A Q H locs lsA C K hW hS hl)
theorem J_iload {i : Nat} {x : Int32} (hd : decode cc pc = .ok (.iload i, 2)) (hx : ls[i]? = some (some (.int x))) (kk : J l own cc nL ret ini R Cx enc Sh k n σ (pc + 2) ls (.int x :: rest) o) : J l own cc nL ret ini R Cx enc Sh k n σ pc ls (rest) o := fun res h p e s m args below meth c G A Q H locs lsA C K hW hS hl => lv_iload C.1 C.2.1 hd (hl.at hx) (kk res h p e s m args below meth c G A Q H locs lsA C K hW hS hl)
theorem J_lload_n {a : Fin 4} {i : Nat} {x : Int64} (hd : decode cc pc = .ok (.lload_n a, 1)) (hi : (a : Nat) = i) (hx : ls[i]? = some (some (.long x))) (kk : J l own cc nL ret ini R Cx enc Sh k n σ (pc + 1) ls (.long x :: rest) o) : J l own cc nL ret ini R Cx enc Sh k n σ pc ls (rest) o := fun res h p e s m args below meth c G A Q H locs lsA C K hW hS hl => lv_lload_n C.1 C.2.1 hd hi (hl.at hx) (kk res h p e s m args below meth c G A Q H locs lsA C K hW hS hl)
theorem J_lload {i : Nat} {x : Int64} (hd : decode cc pc = .ok (.lload i, 2)) (hx : ls[i]? = some (some (.long x))) (kk : J l own cc nL ret ini R Cx enc Sh k n σ (pc + 2) ls (.long x :: rest) o) : J l own cc nL ret ini R Cx enc Sh k n σ pc ls (rest) o := fun res h p e s m args below meth c G A Q H locs lsA C K hW hS hl => lv_lload C.1 C.2.1 hd (hl.at hx) (kk res h p e s m args below meth c G A Q H locs lsA C K hW hS hl)
theorem J_aload_n {a : Fin 4} {i : Nat} {x : Nat} (hd : decode cc pc = .ok (.aload_n a, 1)) (hi : (a : Nat) = i) (hx : ls[i]? = some (some (.ref x))) (kk : J l own cc nL ret ini R Cx enc Sh k n σ (pc + 1) ls (.ref x :: rest) o) : J l own cc nL ret ini R Cx enc Sh k n σ pc ls (rest) o := fun res h p e s m args below meth c G A Q H locs lsA C K hW hS hl => lv_aload_n C.1 C.2.1 hd hi (hl.at hx) (kk res h p e s m args below meth c G A Q H locs lsA C K hW hS hl)
theorem J_aload {i : Nat} {x : Nat} (hd : decode cc pc = .ok (.aload i, 2)) (hx : ls[i]? = some (some (.ref x))) (kk : J l own cc nL ret ini R Cx enc Sh k n σ (pc + 2) ls (.ref x :: rest) o) : J l own cc nL ret ini R Cx enc Sh k n σ pc ls (rest) o := fun res h p e s m args below meth c G A Q H locs lsA C K hW hS hl => lv_aload C.1 C.2.1 hd (hl.at hx) (kk res h p e s m args below meth c G A Q H locs lsA C K hW hS hl)
theorem J_istore_n {a : Fin 4} {i : Nat} {x : Int32} {ls2 : List (Option Value)} (hd : decode cc pc = .ok (.istore_n a, 1)) (hi : (a : Nat) = i) (hs : stI ls i (.int x) = ls2) (hn : i < nL) (kk : J l own cc nL ret ini R Cx enc Sh k n σ (pc + 1) ls2 rest o) : J l own cc nL ret ini R Cx enc Sh k n σ pc ls (.int x :: rest) o := fun res h p e s m args below meth c G A Q H locs lsA C K hW hS hl => lv_istore_n C.1 C.2.1 hd hi hl.has hn rfl (fun lsB hl2 => by subst hs; exact kk res h p e s m args below meth c G A Q H locs lsB C K hW hS (LV.stI (v := .int x) hl2))
theorem J_istore {i : Nat} {x : Int32} {ls2 : List (Option Value)} (hd : decode cc pc = .ok (.istore i, 2)) (hs : stI ls i (.int x) = ls2) (hn : i < nL) (kk : J l own cc nL ret ini R Cx enc Sh k n σ (pc + 2) ls2 rest o) : J l own cc nL ret ini R Cx enc Sh k n σ pc ls (.int x :: rest) o := fun res h p e s m args below meth c G A Q H locs lsA C K hW hS hl => lv_istore C.1 C.2.1 hd hl.has hn rfl (fun lsB hl2 => by subst hs; exact kk res h p e s m args below meth c G A Q H locs lsB C K hW hS (LV.stI (v := .int x) hl2))
theorem J_lstore_n {a : Fin 4} {i : Nat} {x : Int64} {ls2 : List (Option Value)} (hd : decode cc pc = .ok (.lstore_n a, 1)) (hi : (a : Nat) = i) (hs : stL ls i (.long x) = ls2) (hn : i + 1 < nL) (kk : J l own cc nL ret ini R Cx enc Sh k n σ (pc + 1) ls2 rest o) : J l own cc nL ret ini R Cx enc Sh k n σ pc ls (.long x :: rest) o := fun res h p e s m args below meth c G A Q H locs lsA C K hW hS hl => lv_lstore_n C.1 C.2.1 hd hi hl.has hn rfl (fun lsB hl2 => by subst hs; exact kk res h p e s m args below meth c G A Q H locs lsB C K hW hS (LV.stL (v := .long x) hl2))
theorem J_lstore {i : Nat} {x : Int64} {ls2 : List (Option Value)} (hd : decode cc pc = .ok (.lstore i, 2)) (hs : stL ls i (.long x) = ls2) (hn : i + 1 < nL) (kk : J l own cc nL ret ini R Cx enc Sh k n σ (pc + 2) ls2 rest o) : J l own cc nL ret ini R Cx enc Sh k n σ pc ls (.long x :: rest) o := fun res h p e s m args below meth c G A Q H locs lsA C K hW hS hl => lv_lstore C.1 C.2.1 hd hl.has hn rfl (fun lsB hl2 => by subst hs; exact kk res h p e s m args below meth c G A Q H locs lsB C K hW hS (LV.stL (v := .long x) hl2))
theorem J_astore_n {a : Fin 4} {i : Nat} {x : Nat} {ls2 : List (Option Value)} (hd : decode cc pc = .ok (.astore_n a, 1)) (hi : (a : Nat) = i) (hs : stI ls i (.ref x) = ls2) (hn : i < nL) (kk : J l own cc nL ret ini R Cx enc Sh k n σ (pc + 1) ls2 rest o) : J l own cc nL ret ini R Cx enc Sh k n σ pc ls (.ref x :: rest) o := fun res h p e s m args below meth c G A Q H locs lsA C K hW hS hl => lv_astore_n C.1 C.2.1 hd hi hl.has hn rfl (fun lsB hl2 => by subst hs; exact kk res h p e s m args below meth c G A Q H locs lsB C K hW hS (LV.stI (v := .ref x) hl2))
theorem J_astore {i : Nat} {x : Nat} {ls2 : List (Option Value)} (hd : decode cc pc = .ok (.astore i, 2)) (hs : stI ls i (.ref x) = ls2) (hn : i < nL) (kk : J l own cc nL ret ini R Cx enc Sh k n σ (pc + 2) ls2 rest o) : J l own cc nL ret ini R Cx enc Sh k n σ pc ls (.ref x :: rest) o := fun res h p e s m args below meth c G A Q H locs lsA C K hW hS hl => lv_astore C.1 C.2.1 hd hl.has hn rfl (fun lsB hl2 => by subst hs; exact kk res h p e s m args below meth c G A Q H locs lsB C K hW hS (LV.stI (v := .ref x) hl2))
theorem J_iinc {i : Nat} {a : Int} {x v : Int32} {ls2 : List (Option Value)} (hd : decode cc pc = .ok (.iinc i a, 3)) (hx : ls[i]? = some (some (.int x))) (hv : x + Int32.ofInt a = v) (hs : stI ls i (.int v) = ls2) (hn : i < nL) (kk : J l own cc nL ret ini R Cx enc Sh k n σ (pc + 3) ls2 rest o) : J l own cc nL ret ini R Cx enc Sh k n σ pc ls rest o := fun res h p e s m args below meth c G A Q H locs lsA C K hW hS hl => by
  obtain ⟨q, hq⟩ := List.getElem?_of_mem (asl_mem (ad := G.2.1) (o := 0) hx)
  rw [Nat.zero_add] at hq
  exact lv_iinc C.1 C.2.1 hd hl.has hq hv hn rfl (fun lsB hl2 => by subst hs; exact kk res h p e s m args below meth c G A Q H locs lsB C K hW hS (LV.stI (v := .int v) hl2))
theorem J_iadd {x y : Int32} (hd : decode cc pc = .ok (.iadd, 1))  (kk : J l own cc nL ret ini R Cx enc Sh k n σ (pc + 1) ls (.int (x + y) :: rest) o) : J l own cc nL ret ini R Cx enc Sh k n σ pc ls (.int y :: .int x :: rest) o := fun res h p e s m args below meth c G A Q H locs lsA C K hW hS hl => lv_iadd C.1 C.2.1 hd  (kk res h p e s m args below meth c G A Q H locs lsA C K hW hS hl)
theorem J_isub {x y : Int32} (hd : decode cc pc = .ok (.isub, 1))  (kk : J l own cc nL ret ini R Cx enc Sh k n σ (pc + 1) ls (.int (x - y) :: rest) o) : J l own cc nL ret ini R Cx enc Sh k n σ pc ls (.int y :: .int x :: rest) o := fun res h p e s m args below meth c G A Q H locs lsA C K hW hS hl => lv_isub C.1 C.2.1 hd  (kk res h p e s m args below meth c G A Q H locs lsA C K hW hS hl)
theorem J_imul {x y : Int32} (hd : decode cc pc = .ok (.imul, 1))  (kk : J l own cc nL ret ini R Cx enc Sh k n σ (pc + 1) ls (.int (x * y) :: rest) o) : J l own cc nL ret ini R Cx enc Sh k n σ pc ls (.int y :: .int x :: rest) o := fun res h p e s m args below meth c G A Q H locs lsA C K hW hS hl => lv_imul C.1 C.2.1 hd  (kk res h p e s m args below meth c G A Q H locs lsA C K hW hS hl)
theorem J_iand {x y : Int32} (hd : decode cc pc = .ok (.iand, 1))  (kk : J l own cc nL ret ini R Cx enc Sh k n σ (pc + 1) ls (.int (x &&& y) :: rest) o) : J l own cc nL ret ini R Cx enc Sh k n σ pc ls (.int y :: .int x :: rest) o := fun res h p e s m args below meth c G A Q H locs lsA C K hW hS hl => lv_iand C.1 C.2.1 hd  (kk res h p e s m args below meth c G A Q H locs lsA C K hW hS hl)
theorem J_ior {x y : Int32} (hd : decode cc pc = .ok (.ior, 1))  (kk : J l own cc nL ret ini R Cx enc Sh k n σ (pc + 1) ls (.int (x ||| y) :: rest) o) : J l own cc nL ret ini R Cx enc Sh k n σ pc ls (.int y :: .int x :: rest) o := fun res h p e s m args below meth c G A Q H locs lsA C K hW hS hl => lv_ior C.1 C.2.1 hd  (kk res h p e s m args below meth c G A Q H locs lsA C K hW hS hl)
theorem J_ixor {x y : Int32} (hd : decode cc pc = .ok (.ixor, 1))  (kk : J l own cc nL ret ini R Cx enc Sh k n σ (pc + 1) ls (.int (x ^^^ y) :: rest) o) : J l own cc nL ret ini R Cx enc Sh k n σ pc ls (.int y :: .int x :: rest) o := fun res h p e s m args below meth c G A Q H locs lsA C K hW hS hl => lv_ixor C.1 C.2.1 hd  (kk res h p e s m args below meth c G A Q H locs lsA C K hW hS hl)
theorem J_ishl {x y : Int32} (hd : decode cc pc = .ok (.ishl, 1))  (kk : J l own cc nL ret ini R Cx enc Sh k n σ (pc + 1) ls (.int (x <<< (y &&& 31)) :: rest) o) : J l own cc nL ret ini R Cx enc Sh k n σ pc ls (.int y :: .int x :: rest) o := fun res h p e s m args below meth c G A Q H locs lsA C K hW hS hl => lv_ishl C.1 C.2.1 hd  (kk res h p e s m args below meth c G A Q H locs lsA C K hW hS hl)
theorem J_ishr {x y : Int32} (hd : decode cc pc = .ok (.ishr, 1))  (kk : J l own cc nL ret ini R Cx enc Sh k n σ (pc + 1) ls (.int (x >>> (y &&& 31)) :: rest) o) : J l own cc nL ret ini R Cx enc Sh k n σ pc ls (.int y :: .int x :: rest) o := fun res h p e s m args below meth c G A Q H locs lsA C K hW hS hl => lv_ishr C.1 C.2.1 hd  (kk res h p e s m args below meth c G A Q H locs lsA C K hW hS hl)
theorem J_ladd {x y : Int64} (hd : decode cc pc = .ok (.ladd, 1))  (kk : J l own cc nL ret ini R Cx enc Sh k n σ (pc + 1) ls (.long (x + y) :: rest) o) : J l own cc nL ret ini R Cx enc Sh k n σ pc ls (.long y :: .long x :: rest) o := fun res h p e s m args below meth c G A Q H locs lsA C K hW hS hl => lv_ladd C.1 C.2.1 hd  (kk res h p e s m args below meth c G A Q H locs lsA C K hW hS hl)
theorem J_lsub {x y : Int64} (hd : decode cc pc = .ok (.lsub, 1))  (kk : J l own cc nL ret ini R Cx enc Sh k n σ (pc + 1) ls (.long (x - y) :: rest) o) : J l own cc nL ret ini R Cx enc Sh k n σ pc ls (.long y :: .long x :: rest) o := fun res h p e s m args below meth c G A Q H locs lsA C K hW hS hl => lv_lsub C.1 C.2.1 hd  (kk res h p e s m args below meth c G A Q H locs lsA C K hW hS hl)
theorem J_lmul {x y : Int64} (hd : decode cc pc = .ok (.lmul, 1))  (kk : J l own cc nL ret ini R Cx enc Sh k n σ (pc + 1) ls (.long (x * y) :: rest) o) : J l own cc nL ret ini R Cx enc Sh k n σ pc ls (.long y :: .long x :: rest) o := fun res h p e s m args below meth c G A Q H locs lsA C K hW hS hl => lv_lmul C.1 C.2.1 hd  (kk res h p e s m args below meth c G A Q H locs lsA C K hW hS hl)
theorem J_land {x y : Int64} (hd : decode cc pc = .ok (.land, 1))  (kk : J l own cc nL ret ini R Cx enc Sh k n σ (pc + 1) ls (.long (x &&& y) :: rest) o) : J l own cc nL ret ini R Cx enc Sh k n σ pc ls (.long y :: .long x :: rest) o := fun res h p e s m args below meth c G A Q H locs lsA C K hW hS hl => lv_land C.1 C.2.1 hd  (kk res h p e s m args below meth c G A Q H locs lsA C K hW hS hl)
theorem J_lor {x y : Int64} (hd : decode cc pc = .ok (.lor, 1))  (kk : J l own cc nL ret ini R Cx enc Sh k n σ (pc + 1) ls (.long (x ||| y) :: rest) o) : J l own cc nL ret ini R Cx enc Sh k n σ pc ls (.long y :: .long x :: rest) o := fun res h p e s m args below meth c G A Q H locs lsA C K hW hS hl => lv_lor C.1 C.2.1 hd  (kk res h p e s m args below meth c G A Q H locs lsA C K hW hS hl)
theorem J_lxor {x y : Int64} (hd : decode cc pc = .ok (.lxor, 1))  (kk : J l own cc nL ret ini R Cx enc Sh k n σ (pc + 1) ls (.long (x ^^^ y) :: rest) o) : J l own cc nL ret ini R Cx enc Sh k n σ pc ls (.long y :: .long x :: rest) o := fun res h p e s m args below meth c G A Q H locs lsA C K hW hS hl => lv_lxor C.1 C.2.1 hd  (kk res h p e s m args below meth c G A Q H locs lsA C K hW hS hl)
theorem J_ineg {x : Int32} (hd : decode cc pc = .ok (.ineg, 1))  (kk : J l own cc nL ret ini R Cx enc Sh k n σ (pc + 1) ls (.int (-x) :: rest) o) : J l own cc nL ret ini R Cx enc Sh k n σ pc ls (.int x :: rest) o := fun res h p e s m args below meth c G A Q H locs lsA C K hW hS hl => lv_ineg C.1 C.2.1 hd  (kk res h p e s m args below meth c G A Q H locs lsA C K hW hS hl)
theorem J_lneg {x : Int64} (hd : decode cc pc = .ok (.lneg, 1))  (kk : J l own cc nL ret ini R Cx enc Sh k n σ (pc + 1) ls (.long (-x) :: rest) o) : J l own cc nL ret ini R Cx enc Sh k n σ pc ls (.long x :: rest) o := fun res h p e s m args below meth c G A Q H locs lsA C K hW hS hl => lv_lneg C.1 C.2.1 hd  (kk res h p e s m args below meth c G A Q H locs lsA C K hW hS hl)
theorem J_i2l {x : Int32} (hd : decode cc pc = .ok (.i2l, 1))  (kk : J l own cc nL ret ini R Cx enc Sh k n σ (pc + 1) ls (.long (x.toInt64) :: rest) o) : J l own cc nL ret ini R Cx enc Sh k n σ pc ls (.int x :: rest) o := fun res h p e s m args below meth c G A Q H locs lsA C K hW hS hl => lv_i2l C.1 C.2.1 hd rfl (kk res h p e s m args below meth c G A Q H locs lsA C K hW hS hl)
theorem J_i2c {x : Int32} (hd : decode cc pc = .ok (.i2c, 1))  (kk : J l own cc nL ret ini R Cx enc Sh k n σ (pc + 1) ls (.int ((x.toUInt32 % 65536).toInt32) :: rest) o) : J l own cc nL ret ini R Cx enc Sh k n σ pc ls (.int x :: rest) o := fun res h p e s m args below meth c G A Q H locs lsA C K hW hS hl => lv_i2c C.1 C.2.1 hd rfl (kk res h p e s m args below meth c G A Q H locs lsA C K hW hS hl)
theorem J_iushr {x y : Int32} (hd : decode cc pc = .ok (.iushr, 1))  (kk : J l own cc nL ret ini R Cx enc Sh k n σ (pc + 1) ls (.int ((x.toUInt32 >>> (y.toUInt32 &&& Int32.toUInt32 31)).toInt32) :: rest) o) : J l own cc nL ret ini R Cx enc Sh k n σ pc ls (.int y :: .int x :: rest) o := fun res h p e s m args below meth c G A Q H locs lsA C K hW hS hl => lv_iushr C.1 C.2.1 hd rfl (kk res h p e s m args below meth c G A Q H locs lsA C K hW hS hl)
theorem J_lshl {x : Int64} {y : Int32} (hd : decode cc pc = .ok (.lshl, 1))  (kk : J l own cc nL ret ini R Cx enc Sh k n σ (pc + 1) ls (.long (x <<< (y.toInt64 &&& 63)) :: rest) o) : J l own cc nL ret ini R Cx enc Sh k n σ pc ls (.int y :: .long x :: rest) o := fun res h p e s m args below meth c G A Q H locs lsA C K hW hS hl => lv_lshl C.1 C.2.1 hd rfl (kk res h p e s m args below meth c G A Q H locs lsA C K hW hS hl)
theorem J_irem {x y : Int32} (hd : decode cc pc = .ok (.irem, 1)) (kk : J l own cc nL ret ini R Cx enc Sh k n σ (pc + 1) ls (.int (x - x / y * y) :: rest) o) : J l own cc nL ret ini R Cx enc Sh k n σ pc ls (.int y :: .int x :: rest) (gd (decide (¬ y = 0)) o) := J_gd (fun hy => fun res h p e s m args below meth c G A Q H locs lsA C K hW hS hl => lv_irem C.1 C.2.1 hd (of_decide_eq_true hy) (kk res h p e s m args below meth c G A Q H locs lsA C K hW hS hl))
theorem J_ldiv {x y : Int64} (hd : decode cc pc = .ok (.ldiv, 1)) (kk : J l own cc nL ret ini R Cx enc Sh k n σ (pc + 1) ls (.long (x / y) :: rest) o) : J l own cc nL ret ini R Cx enc Sh k n σ pc ls (.long y :: .long x :: rest) (gd (decide (¬ y = 0)) o) := J_gd (fun hy => fun res h p e s m args below meth c G A Q H locs lsA C K hW hS hl => lv_ldiv C.1 C.2.1 hd (of_decide_eq_true hy) (kk res h p e s m args below meth c G A Q H locs lsA C K hW hS hl))
theorem J_lrem {x y : Int64} (hd : decode cc pc = .ok (.lrem, 1)) (kk : J l own cc nL ret ini R Cx enc Sh k n σ (pc + 1) ls (.long (x - x / y * y) :: rest) o) : J l own cc nL ret ini R Cx enc Sh k n σ pc ls (.long y :: .long x :: rest) (gd (decide (¬ y = 0)) o) := J_gd (fun hy => fun res h p e s m args below meth c G A Q H locs lsA C K hW hS hl => lv_lrem C.1 C.2.1 hd (of_decide_eq_true hy) (kk res h p e s m args below meth c G A Q H locs lsA C K hW hS hl))
theorem J_dup {v : Value} (hd : decode cc pc = .ok (.dup, 1)) (hc : v.category = 1) (kk : J l own cc nL ret ini R Cx enc Sh k n σ (pc + 1) ls (v :: v :: rest) o) : J l own cc nL ret ini R Cx enc Sh k n σ pc ls (v :: rest) o := fun res h p e s m args below meth c G A Q H locs lsA C K hW hS hl => lv_dup C.1 C.2.1 hd ((rnV_cat _ _).trans hc) (kk res h p e s m args below meth c G A Q H locs lsA C K hW hS hl)
end Rows
end
section
section Rows2
variable {l : Launch} {own : String} {cc : ByteArray} {nL : Nat} {ret : Option FieldType} {ini : Bool} {R : Room} {Cx : jG → State → (Nat → Prop) → Prop} {ρ : Type} {enc : ρ → jR} {Sh : List jC} {k n : Nat} {σ : jM} {pc : Nat} {ls : List (Option Value)} {rest : List Value} {o o2 : Option ρ}
theorem J_dup2_11 {va vb : Value} (hd : decode cc pc = .ok (.dup2, 1)) (ha : va.category = 1) (hb : vb.category = 1) (kk : J l own cc nL ret ini R Cx enc Sh k n σ (pc + 1) ls (va :: vb :: va :: vb :: rest) o) : J l own cc nL ret ini R Cx enc Sh k n σ pc ls (va :: vb :: rest) o := fun res h p e s m args below meth c G A Q H locs lsA C K hW hS hl => lv_dup2_11 C.1 C.2.1 hd ((rnV_cat _ _).trans ha) ((rnV_cat _ _).trans hb) (kk res h p e s m args below meth c G A Q H locs lsA C K hW hS hl)
theorem J_dup2_2 {va : Value} (hd : decode cc pc = .ok (.dup2, 1)) (ha : va.category = 2) (kk : J l own cc nL ret ini R Cx enc Sh k n σ (pc + 1) ls (va :: va :: rest) o) : J l own cc nL ret ini R Cx enc Sh k n σ pc ls (va :: rest) o := fun res h p e s m args below meth c G A Q H locs lsA C K hW hS hl => lv_dup2_2 C.1 C.2.1 hd ((rnV_cat _ _).trans ha) (kk res h p e s m args below meth c G A Q H locs lsA C K hW hS hl)
theorem J_goto {off : Int} {tgt : Nat} (hd : decode cc pc = .ok (.goto off, 3)) (ht : (pc : Int) + off = (tgt : Int)) (kk : J l own cc nL ret ini R Cx enc Sh k n σ tgt ls rest o) : J l own cc nL ret ini R Cx enc Sh k n σ pc ls rest o := fun res h p e s m args below meth c G A Q H locs lsA C K hW hS hl => lv_goto C.1 C.2.1 hd ht (kk res h p e s m args below meth c G A Q H locs lsA C K hW hS hl)
theorem J_if_eq {x : Int32} {off : Int} {tgt : Nat} (hd : decode cc pc = .ok (.ifCond .eq off, 3)) (ht : ((pc : Nat) : Int) + off = (tgt : Int)) (kt : x = 0 → J l own cc nL ret ini R Cx enc Sh k n σ tgt ls rest o) (kf : ¬ x = 0 → J l own cc nL ret ini R Cx enc Sh k n σ (pc + 3) ls rest o2) : J l own cc nL ret ini R Cx enc Sh k n σ pc ls (.int x :: rest) (if x = 0 then o else o2) := fun res h p e s m args below meth c G A Q H locs lsA C K hW hS hl => lv_if_eq C.1 C.2.1 hd ht (fun hc => kt hc res (by rw [← h]; exact (if_pos hc).symm) p e s m args below meth c G A Q H locs lsA C K hW hS hl) (fun hc => kf hc res (by rw [← h]; exact (if_neg hc).symm) p e s m args below meth c G A Q H locs lsA C K hW hS hl)
theorem J_icmp_eq {x y : Int32} {off : Int} {tgt : Nat} (hd : decode cc pc = .ok (.if_icmp .eq off, 3)) (ht : ((pc : Nat) : Int) + off = (tgt : Int)) (kt : x = y → J l own cc nL ret ini R Cx enc Sh k n σ tgt ls rest o) (kf : ¬ x = y → J l own cc nL ret ini R Cx enc Sh k n σ (pc + 3) ls rest o2) : J l own cc nL ret ini R Cx enc Sh k n σ pc ls (.int y :: .int x :: rest) (if x = y then o else o2) := fun res h p e s m args below meth c G A Q H locs lsA C K hW hS hl => lv_icmp_eq C.1 C.2.1 hd ht (fun hc => kt hc res (by rw [← h]; exact (if_pos hc).symm) p e s m args below meth c G A Q H locs lsA C K hW hS hl) (fun hc => kf hc res (by rw [← h]; exact (if_neg hc).symm) p e s m args below meth c G A Q H locs lsA C K hW hS hl)
theorem J_lcmp_eq {x y : Int64} {off : Int} {tgt : Nat} (hd0 : decode cc pc = .ok (.lcmp, 1)) (hd : decode cc (pc + 1) = .ok (.ifCond .eq off, 3)) (ht : ((pc + 1 : Nat) : Int) + off = (tgt : Int)) (kt : x = y → J l own cc nL ret ini R Cx enc Sh k n σ tgt ls rest o) (kf : ¬ x = y → J l own cc nL ret ini R Cx enc Sh k n σ (pc + 1 + 3) ls rest o2) : J l own cc nL ret ini R Cx enc Sh k n σ pc ls (.long y :: .long x :: rest) (if x = y then o else o2) := fun res h p e s m args below meth c G A Q H locs lsA C K hW hS hl => W.lcmp C.1 C.2.1 hd0 (lv_if_eq C.1 C.2.1 hd ht (fun hc0 => by have hc := (lg_cmp_eq x y).mp hc0; exact kt hc res (by rw [← h]; exact (if_pos hc).symm) p e s m args below meth c G A Q H locs lsA C K hW hS hl) (fun hc0 => by have hc := fun q => hc0 ((lg_cmp_eq x y).mpr q); exact kf hc res (by rw [← h]; exact (if_neg hc).symm) p e s m args below meth c G A Q H locs lsA C K hW hS hl))
theorem J_if_ne {x : Int32} {off : Int} {tgt : Nat} (hd : decode cc pc = .ok (.ifCond .ne off, 3)) (ht : ((pc : Nat) : Int) + off = (tgt : Int)) (kt : ¬ x = 0 → J l own cc nL ret ini R Cx enc Sh k n σ tgt ls rest o) (kf : x = 0 → J l own cc nL ret ini R Cx enc Sh k n σ (pc + 3) ls rest o2) : J l own cc nL ret ini R Cx enc Sh k n σ pc ls (.int x :: rest) (if x = 0 then o2 else o) := fun res h p e s m args below meth c G A Q H locs lsA C K hW hS hl => lv_if_ne C.1 C.2.1 hd ht (fun hc => kt hc res (by rw [← h]; exact (if_neg hc).symm) p e s m args below meth c G A Q H locs lsA C K hW hS hl) (fun hc => kf hc res (by rw [← h]; exact (if_pos hc).symm) p e s m args below meth c G A Q H locs lsA C K hW hS hl)
theorem J_icmp_ne {x y : Int32} {off : Int} {tgt : Nat} (hd : decode cc pc = .ok (.if_icmp .ne off, 3)) (ht : ((pc : Nat) : Int) + off = (tgt : Int)) (kt : ¬ x = y → J l own cc nL ret ini R Cx enc Sh k n σ tgt ls rest o) (kf : x = y → J l own cc nL ret ini R Cx enc Sh k n σ (pc + 3) ls rest o2) : J l own cc nL ret ini R Cx enc Sh k n σ pc ls (.int y :: .int x :: rest) (if x = y then o2 else o) := fun res h p e s m args below meth c G A Q H locs lsA C K hW hS hl => lv_icmp_ne C.1 C.2.1 hd ht (fun hc => kt hc res (by rw [← h]; exact (if_neg hc).symm) p e s m args below meth c G A Q H locs lsA C K hW hS hl) (fun hc => kf hc res (by rw [← h]; exact (if_pos hc).symm) p e s m args below meth c G A Q H locs lsA C K hW hS hl)
theorem J_lcmp_ne {x y : Int64} {off : Int} {tgt : Nat} (hd0 : decode cc pc = .ok (.lcmp, 1)) (hd : decode cc (pc + 1) = .ok (.ifCond .ne off, 3)) (ht : ((pc + 1 : Nat) : Int) + off = (tgt : Int)) (kt : ¬ x = y → J l own cc nL ret ini R Cx enc Sh k n σ tgt ls rest o) (kf : x = y → J l own cc nL ret ini R Cx enc Sh k n σ (pc + 1 + 3) ls rest o2) : J l own cc nL ret ini R Cx enc Sh k n σ pc ls (.long y :: .long x :: rest) (if x = y then o2 else o) := fun res h p e s m args below meth c G A Q H locs lsA C K hW hS hl => W.lcmp C.1 C.2.1 hd0 (lv_if_ne C.1 C.2.1 hd ht (fun hc0 => by have hc := fun q => hc0 ((lg_cmp_eq x y).mpr q); exact kt hc res (by rw [← h]; exact (if_neg hc).symm) p e s m args below meth c G A Q H locs lsA C K hW hS hl) (fun hc0 => by have hc := (lg_cmp_eq x y).mp hc0; exact kf hc res (by rw [← h]; exact (if_pos hc).symm) p e s m args below meth c G A Q H locs lsA C K hW hS hl))
theorem J_if_lt {x : Int32} {off : Int} {tgt : Nat} (hd : decode cc pc = .ok (.ifCond .lt off, 3)) (ht : ((pc : Nat) : Int) + off = (tgt : Int)) (kt : x < 0 → J l own cc nL ret ini R Cx enc Sh k n σ tgt ls rest o) (kf : ¬ x < 0 → J l own cc nL ret ini R Cx enc Sh k n σ (pc + 3) ls rest o2) : J l own cc nL ret ini R Cx enc Sh k n σ pc ls (.int x :: rest) (if x < 0 then o else o2) := fun res h p e s m args below meth c G A Q H locs lsA C K hW hS hl => lv_if_lt C.1 C.2.1 hd ht (fun hc => kt hc res (by rw [← h]; exact (if_pos hc).symm) p e s m args below meth c G A Q H locs lsA C K hW hS hl) (fun hc => kf hc res (by rw [← h]; exact (if_neg hc).symm) p e s m args below meth c G A Q H locs lsA C K hW hS hl)
theorem J_icmp_lt {x y : Int32} {off : Int} {tgt : Nat} (hd : decode cc pc = .ok (.if_icmp .lt off, 3)) (ht : ((pc : Nat) : Int) + off = (tgt : Int)) (kt : x < y → J l own cc nL ret ini R Cx enc Sh k n σ tgt ls rest o) (kf : ¬ x < y → J l own cc nL ret ini R Cx enc Sh k n σ (pc + 3) ls rest o2) : J l own cc nL ret ini R Cx enc Sh k n σ pc ls (.int y :: .int x :: rest) (if x < y then o else o2) := fun res h p e s m args below meth c G A Q H locs lsA C K hW hS hl => lv_icmp_lt C.1 C.2.1 hd ht (fun hc => kt hc res (by rw [← h]; exact (if_pos hc).symm) p e s m args below meth c G A Q H locs lsA C K hW hS hl) (fun hc => kf hc res (by rw [← h]; exact (if_neg hc).symm) p e s m args below meth c G A Q H locs lsA C K hW hS hl)
theorem J_lcmp_lt {x y : Int64} {off : Int} {tgt : Nat} (hd0 : decode cc pc = .ok (.lcmp, 1)) (hd : decode cc (pc + 1) = .ok (.ifCond .lt off, 3)) (ht : ((pc + 1 : Nat) : Int) + off = (tgt : Int)) (kt : x < y → J l own cc nL ret ini R Cx enc Sh k n σ tgt ls rest o) (kf : ¬ x < y → J l own cc nL ret ini R Cx enc Sh k n σ (pc + 1 + 3) ls rest o2) : J l own cc nL ret ini R Cx enc Sh k n σ pc ls (.long y :: .long x :: rest) (if x < y then o else o2) := fun res h p e s m args below meth c G A Q H locs lsA C K hW hS hl => W.lcmp C.1 C.2.1 hd0 (lv_if_lt C.1 C.2.1 hd ht (fun hc0 => by have hc := (lg_cmp_lt x y).mp hc0; exact kt hc res (by rw [← h]; exact (if_pos hc).symm) p e s m args below meth c G A Q H locs lsA C K hW hS hl) (fun hc0 => by have hc := fun q => hc0 ((lg_cmp_lt x y).mpr q); exact kf hc res (by rw [← h]; exact (if_neg hc).symm) p e s m args below meth c G A Q H locs lsA C K hW hS hl))
theorem J_if_ge {x : Int32} {off : Int} {tgt : Nat} (hd : decode cc pc = .ok (.ifCond .ge off, 3)) (ht : ((pc : Nat) : Int) + off = (tgt : Int)) (kt : 0 ≤ x → J l own cc nL ret ini R Cx enc Sh k n σ tgt ls rest o) (kf : ¬ 0 ≤ x → J l own cc nL ret ini R Cx enc Sh k n σ (pc + 3) ls rest o2) : J l own cc nL ret ini R Cx enc Sh k n σ pc ls (.int x :: rest) (if 0 ≤ x then o else o2) := fun res h p e s m args below meth c G A Q H locs lsA C K hW hS hl => lv_if_ge C.1 C.2.1 hd ht (fun hc => kt hc res (by rw [← h]; exact (if_pos hc).symm) p e s m args below meth c G A Q H locs lsA C K hW hS hl) (fun hc => kf hc res (by rw [← h]; exact (if_neg hc).symm) p e s m args below meth c G A Q H locs lsA C K hW hS hl)
theorem J_icmp_ge {x y : Int32} {off : Int} {tgt : Nat} (hd : decode cc pc = .ok (.if_icmp .ge off, 3)) (ht : ((pc : Nat) : Int) + off = (tgt : Int)) (kt : y ≤ x → J l own cc nL ret ini R Cx enc Sh k n σ tgt ls rest o) (kf : ¬ y ≤ x → J l own cc nL ret ini R Cx enc Sh k n σ (pc + 3) ls rest o2) : J l own cc nL ret ini R Cx enc Sh k n σ pc ls (.int y :: .int x :: rest) (if y ≤ x then o else o2) := fun res h p e s m args below meth c G A Q H locs lsA C K hW hS hl => lv_icmp_ge C.1 C.2.1 hd ht (fun hc => kt hc res (by rw [← h]; exact (if_pos hc).symm) p e s m args below meth c G A Q H locs lsA C K hW hS hl) (fun hc => kf hc res (by rw [← h]; exact (if_neg hc).symm) p e s m args below meth c G A Q H locs lsA C K hW hS hl)
theorem J_lcmp_ge {x y : Int64} {off : Int} {tgt : Nat} (hd0 : decode cc pc = .ok (.lcmp, 1)) (hd : decode cc (pc + 1) = .ok (.ifCond .ge off, 3)) (ht : ((pc + 1 : Nat) : Int) + off = (tgt : Int)) (kt : y ≤ x → J l own cc nL ret ini R Cx enc Sh k n σ tgt ls rest o) (kf : ¬ y ≤ x → J l own cc nL ret ini R Cx enc Sh k n σ (pc + 1 + 3) ls rest o2) : J l own cc nL ret ini R Cx enc Sh k n σ pc ls (.long y :: .long x :: rest) (if y ≤ x then o else o2) := fun res h p e s m args below meth c G A Q H locs lsA C K hW hS hl => W.lcmp C.1 C.2.1 hd0 (lv_if_ge C.1 C.2.1 hd ht (fun hc0 => by have hc := (lg_cmp_ge x y).mp hc0; exact kt hc res (by rw [← h]; exact (if_pos hc).symm) p e s m args below meth c G A Q H locs lsA C K hW hS hl) (fun hc0 => by have hc := fun q => hc0 ((lg_cmp_ge x y).mpr q); exact kf hc res (by rw [← h]; exact (if_neg hc).symm) p e s m args below meth c G A Q H locs lsA C K hW hS hl))
theorem J_if_gt {x : Int32} {off : Int} {tgt : Nat} (hd : decode cc pc = .ok (.ifCond .gt off, 3)) (ht : ((pc : Nat) : Int) + off = (tgt : Int)) (kt : 0 < x → J l own cc nL ret ini R Cx enc Sh k n σ tgt ls rest o) (kf : ¬ 0 < x → J l own cc nL ret ini R Cx enc Sh k n σ (pc + 3) ls rest o2) : J l own cc nL ret ini R Cx enc Sh k n σ pc ls (.int x :: rest) (if 0 < x then o else o2) := fun res h p e s m args below meth c G A Q H locs lsA C K hW hS hl => lv_if_gt C.1 C.2.1 hd ht (fun hc => kt hc res (by rw [← h]; exact (if_pos hc).symm) p e s m args below meth c G A Q H locs lsA C K hW hS hl) (fun hc => kf hc res (by rw [← h]; exact (if_neg hc).symm) p e s m args below meth c G A Q H locs lsA C K hW hS hl)
theorem J_icmp_gt {x y : Int32} {off : Int} {tgt : Nat} (hd : decode cc pc = .ok (.if_icmp .gt off, 3)) (ht : ((pc : Nat) : Int) + off = (tgt : Int)) (kt : y < x → J l own cc nL ret ini R Cx enc Sh k n σ tgt ls rest o) (kf : ¬ y < x → J l own cc nL ret ini R Cx enc Sh k n σ (pc + 3) ls rest o2) : J l own cc nL ret ini R Cx enc Sh k n σ pc ls (.int y :: .int x :: rest) (if y < x then o else o2) := fun res h p e s m args below meth c G A Q H locs lsA C K hW hS hl => lv_icmp_gt C.1 C.2.1 hd ht (fun hc => kt hc res (by rw [← h]; exact (if_pos hc).symm) p e s m args below meth c G A Q H locs lsA C K hW hS hl) (fun hc => kf hc res (by rw [← h]; exact (if_neg hc).symm) p e s m args below meth c G A Q H locs lsA C K hW hS hl)
theorem J_lcmp_gt {x y : Int64} {off : Int} {tgt : Nat} (hd0 : decode cc pc = .ok (.lcmp, 1)) (hd : decode cc (pc + 1) = .ok (.ifCond .gt off, 3)) (ht : ((pc + 1 : Nat) : Int) + off = (tgt : Int)) (kt : y < x → J l own cc nL ret ini R Cx enc Sh k n σ tgt ls rest o) (kf : ¬ y < x → J l own cc nL ret ini R Cx enc Sh k n σ (pc + 1 + 3) ls rest o2) : J l own cc nL ret ini R Cx enc Sh k n σ pc ls (.long y :: .long x :: rest) (if y < x then o else o2) := fun res h p e s m args below meth c G A Q H locs lsA C K hW hS hl => W.lcmp C.1 C.2.1 hd0 (lv_if_gt C.1 C.2.1 hd ht (fun hc0 => by have hc := (lg_cmp_gt x y).mp hc0; exact kt hc res (by rw [← h]; exact (if_pos hc).symm) p e s m args below meth c G A Q H locs lsA C K hW hS hl) (fun hc0 => by have hc := fun q => hc0 ((lg_cmp_gt x y).mpr q); exact kf hc res (by rw [← h]; exact (if_neg hc).symm) p e s m args below meth c G A Q H locs lsA C K hW hS hl))
theorem J_if_le {x : Int32} {off : Int} {tgt : Nat} (hd : decode cc pc = .ok (.ifCond .le off, 3)) (ht : ((pc : Nat) : Int) + off = (tgt : Int)) (kt : x ≤ 0 → J l own cc nL ret ini R Cx enc Sh k n σ tgt ls rest o) (kf : ¬ x ≤ 0 → J l own cc nL ret ini R Cx enc Sh k n σ (pc + 3) ls rest o2) : J l own cc nL ret ini R Cx enc Sh k n σ pc ls (.int x :: rest) (if x ≤ 0 then o else o2) := fun res h p e s m args below meth c G A Q H locs lsA C K hW hS hl => lv_if_le C.1 C.2.1 hd ht (fun hc => kt hc res (by rw [← h]; exact (if_pos hc).symm) p e s m args below meth c G A Q H locs lsA C K hW hS hl) (fun hc => kf hc res (by rw [← h]; exact (if_neg hc).symm) p e s m args below meth c G A Q H locs lsA C K hW hS hl)
theorem J_icmp_le {x y : Int32} {off : Int} {tgt : Nat} (hd : decode cc pc = .ok (.if_icmp .le off, 3)) (ht : ((pc : Nat) : Int) + off = (tgt : Int)) (kt : x ≤ y → J l own cc nL ret ini R Cx enc Sh k n σ tgt ls rest o) (kf : ¬ x ≤ y → J l own cc nL ret ini R Cx enc Sh k n σ (pc + 3) ls rest o2) : J l own cc nL ret ini R Cx enc Sh k n σ pc ls (.int y :: .int x :: rest) (if x ≤ y then o else o2) := fun res h p e s m args below meth c G A Q H locs lsA C K hW hS hl => lv_icmp_le C.1 C.2.1 hd ht (fun hc => kt hc res (by rw [← h]; exact (if_pos hc).symm) p e s m args below meth c G A Q H locs lsA C K hW hS hl) (fun hc => kf hc res (by rw [← h]; exact (if_neg hc).symm) p e s m args below meth c G A Q H locs lsA C K hW hS hl)
theorem J_lcmp_le {x y : Int64} {off : Int} {tgt : Nat} (hd0 : decode cc pc = .ok (.lcmp, 1)) (hd : decode cc (pc + 1) = .ok (.ifCond .le off, 3)) (ht : ((pc + 1 : Nat) : Int) + off = (tgt : Int)) (kt : x ≤ y → J l own cc nL ret ini R Cx enc Sh k n σ tgt ls rest o) (kf : ¬ x ≤ y → J l own cc nL ret ini R Cx enc Sh k n σ (pc + 1 + 3) ls rest o2) : J l own cc nL ret ini R Cx enc Sh k n σ pc ls (.long y :: .long x :: rest) (if x ≤ y then o else o2) := fun res h p e s m args below meth c G A Q H locs lsA C K hW hS hl => W.lcmp C.1 C.2.1 hd0 (lv_if_le C.1 C.2.1 hd ht (fun hc0 => by have hc := (lg_cmp_le x y).mp hc0; exact kt hc res (by rw [← h]; exact (if_pos hc).symm) p e s m args below meth c G A Q H locs lsA C K hW hS hl) (fun hc0 => by have hc := fun q => hc0 ((lg_cmp_le x y).mpr q); exact kf hc res (by rw [← h]; exact (if_neg hc).symm) p e s m args below meth c G A Q H locs lsA C K hW hS hl))
theorem J_tswIn {dflt lo hi : Int} {offs : Array Int} {len : Nat} {x : Int32} {off : Int} {tgt : Nat} (i : Int) (hd : decode cc pc = .ok (.tableswitch dflt lo hi offs, len)) (hx : x.toInt = i) (h1 : ¬ i < lo) (h2 : ¬ hi < i) (ho : offs[(i - lo).toNat]? = some off) (ht : (pc : Int) + off = (tgt : Int)) (kk : J l own cc nL ret ini R Cx enc Sh k n σ tgt ls rest o) : J l own cc nL ret ini R Cx enc Sh k n σ pc ls (.int x :: rest) o := fun res h p e s m args below meth c G A Q H locs lsA C K hW hS hl => lv_tableIn C.1 C.2.1 hd (by rw [hx]; exact h1) (by rw [hx]; exact h2) (by rw [hx]; exact ho) ht (kk res h p e s m args below meth c G A Q H locs lsA C K hW hS hl)
theorem J_tswOut {dflt lo hi : Int} {offs : Array Int} {len : Nat} {x : Int32} {tgt : Nat} (hd : decode cc pc = .ok (.tableswitch dflt lo hi offs, len)) (hx : x.toInt < lo ∨ hi < x.toInt) (ht : (pc : Int) + dflt = (tgt : Int)) (kk : J l own cc nL ret ini R Cx enc Sh k n σ tgt ls rest o) : J l own cc nL ret ini R Cx enc Sh k n σ pc ls (.int x :: rest) o := fun res h p e s m args below meth c G A Q H locs lsA C K hW hS hl => lv_tableOut C.1 C.2.1 hd hx ht (kk res h p e s m args below meth c G A Q H locs lsA C K hW hS hl)
theorem J_lsw {dflt : Int} {ps : Array (Int × Int)} {len : Nat} {x : Int32} {off : Int} {tgt : Nat} (hd : decode cc pc = .ok (.lookupswitch dflt ps, len)) (hp : (ps.toList.zip (ps.toList.drop 1)).all (fun (a, next) => a.1 < next.1) = true) (ho : Op.lookupswitch.offset ps.toList dflt x.toInt = off) (ht : (pc : Int) + off = (tgt : Int)) (kk : J l own cc nL ret ini R Cx enc Sh k n σ tgt ls rest o) : J l own cc nL ret ini R Cx enc Sh k n σ pc ls (.int x :: rest) o := fun res h p e s m args below meth c G A Q H locs lsA C K hW hS hl => lv_lookup C.1 C.2.1 hd hp ho ht (kk res h p e s m args below meth c G A Q H locs lsA C K hW hS hl)
theorem toI_ne {x c : Int32} (h : ¬ x = c) : ¬ x.toInt = c.toInt := fun e => h (Int32.toInt_inj.mp e)
def zb (x : Int32) : Bool := decide (x = 0) || decide (x = 1)
theorem zb_nar {x : Int32} (h : zb x = true) : narrow .boolean (.int x) = .int x := by
  simp only [zb, Bool.or_eq_true, decide_eq_true_eq] at h
  rcases h with rfl | rfl <;> rfl
theorem J_ireturn {x : Int32} {ty : FieldType} {r : ρ} (hd : decode cc pc = .ok (.ireturn, 1)) (hr : ret = some ty) (hn : narrow ty (.int x) = .int x) (he : enc r = (some (.int x), σ, Sh, k, n)) : J l own cc nL ret ini R Cx enc Sh k n σ pc ls ([.int x]) (some r) := fun res h p e s m args below meth c G A Q H locs lsA C K hW hS hl => by
  cases h
  have h9 := K G H locs pc lsA (by rw [he]; exact jAg.rf _ _) (by rw [he]; exact hW) hS (by rw [he]; exact Or.inr (Or.inl ⟨x, rfl, ⟨ty, hr, hn⟩, hd⟩))
  rw [he] at h9
  exact h9
theorem J_lreturn {x : Int64} {r : ρ} (hd : decode cc pc = .ok (.lreturn, 1)) (hr : ret = some .long) (he : enc r = (some (.long x), σ, Sh, k, n)) : J l own cc nL ret ini R Cx enc Sh k n σ pc ls ([.long x]) (some r) := fun res h p e s m args below meth c G A Q H locs lsA C K hW hS hl => by
  cases h
  have h9 := K G H locs pc lsA (by rw [he]; exact jAg.rf _ _) (by rw [he]; exact hW) hS (by rw [he]; exact Or.inr (Or.inr (Or.inl ⟨x, rfl, hr, hd⟩)))
  rw [he] at h9
  exact h9
theorem J_return {r : ρ} (hd : decode cc pc = .ok (.return_, 1)) (hr : ret = none) (he : enc r = (none, σ, Sh, k, n)) : J l own cc nL ret ini R Cx enc Sh k n σ pc ls ([]) (some r) := fun res h p e s m args below meth c G A Q H locs lsA C K hW hS hl => by
  cases h
  have h9 := K G H locs pc lsA (by rw [he]; exact jAg.rf _ _) (by rw [he]; exact hW) hS (by rw [he]; exact Or.inl ⟨rfl, hr, hd⟩)
  rw [he] at h9
  exact h9
theorem J_areturn {x : Nat} {nm : String} {r : ρ} (hd : decode cc pc = .ok (.areturn, 1)) (hr : ret = some (.object nm)) (he : enc r = (some (.ref x), σ, Sh, k, n)) : J l own cc nL ret ini R Cx enc Sh k n σ pc ls ([.ref x]) (some r) := fun res h p e s m args below meth c G A Q H locs lsA C K hW hS hl => by
  cases h
  have h9 := K G H locs pc lsA (by rw [he]; exact jAg.rf _ _) (by rw [he]; exact hW) hS (by rw [he]; exact Or.inr (Or.inr (Or.inr ⟨x, rfl, ⟨nm, hr⟩, hd⟩)))
  rw [he] at h9
  exact h9
theorem J_ldcI {idx : Nat} {v : Int32} (hd : decode cc pc = .ok (.ldc idx, 2)) (hc : Cond.constant own idx v ∈ TBW) (kk : J l own cc nL ret ini R Cx enc Sh k n σ (pc + 2) ls (.int v :: rest) o) : J l own cc nL ret ini R Cx enc Sh k n σ pc ls rest o := fun res h p e s m args below meth c G A Q H locs lsA C K hW hS hl => lv_ldc C.1 C.2.1 C.2.2.2.2.1 (C.2.2.2.2.2.1 _ hc) hd (kk res h p e s m args below meth c G A Q H locs lsA C K hW hS hl)
theorem J_ldcS {idx i : Nat} {tx : String} (hd : decode cc pc = .ok (.ldc idx, 2)) (hc : (own, idx, tx, i) ∈ srS) (kk : J l own cc nL ret ini R Cx enc Sh k n σ (pc + 2) ls (.ref (1000 + i) :: rest) o) : J l own cc nL ret ini R Cx enc Sh k n σ pc ls rest o := fun res h p e s m args below meth c G A Q H locs lsA C K hW hS hl => va_ldcS C.1 C.2.1 C.2.2.2.2.1 (C.2.2.2.2.2.2.2.2.1.2.1 _ hc) hd (kk res h p e s m args below meth c G A Q H locs lsA C K hW hS hl)
end Rows2
end
section
/-! fields and arrays -/
def shO (Sh : List jC) (a k : Nat) : Option (Nat × jS) := match Sh[a]? with
  | some (.inr q) => (q.2[k]?).map (fun d => (q.1, d))
  | _ => none
def shA (Sh : List jC) (a : Nat) : Option (FieldType × Nat) := match Sh[a]? with
  | some (.inl q) => some q
  | _ => none
theorem shO_of {Sh : List jC} {a k ci : Nat} {d : jS} (h : shO Sh a k = some (ci, d)) : ∃ sl : List jS, Sh[a]? = some (.inr (ci, sl)) ∧ sl[k]? = some d := by
  unfold shO at h
  split at h
  next q hq =>
    cases hd : q.2[k]? with
    | none => rw [hd] at h; cases h
    | some d0 =>
      rw [hd] at h
      cases h
      exact ⟨q.2, hq, hd⟩
  next => cases h
theorem shA_of {Sh : List jC} {a : Nat} {q : FieldType × Nat} (h : shA Sh a = some q) : Sh[a]? = some (.inl q) := by
  unfold shA at h
  split at h
  next q0 hq => cases h; exact hq
  next => cases h
theorem ceE_cg {ad : Nat → Nat} {ca : Nat → ClassId} {σ σ' : jM} {j : Nat} {c : jC} (h1 : σ'.1 j = σ.1 j) (h2 : σ'.2 j = σ.2 j) : ceE ad ca σ' j c = ceE ad ca σ j c := by
  cases c with
  | inl q =>
    obtain ⟨ty, n⟩ := q
    simp only [ceE]
    congr 2
    cases ty <;> simp [arA, h1, h2]
  | inr q =>
    simp only [ceE]
    congr 2
    apply List.ext_getElem?
    intro i
    rw [List.getElem?_mapIdx, List.getElem?_mapIdx]
    cases q.2[i]? with
    | none => rfl
    | some d =>
      simp only [Option.map_some, Option.some.injEq]
      rcases d with _ | _ | _ | r <;> simp [slV, h1, h2]
theorem wsG_set {G : jG} {Sh : List jC} {σ σ' : jM} {a : Nat} {c : jC} {e : va_E} (hc : Sh[a]? = some c) (h1 : ∀ j, j ≠ a → σ'.1 j = σ.1 j) (h2 : ∀ j, j ≠ a → σ'.2 j = σ.2 j) (he : e = ceE G.2.1 G.2.2 σ' a c) : (wsG G Sh σ).set a (G.2.1 a, e) = wsG G Sh σ' := by
  apply List.ext_getElem?
  intro j
  have hl : a < (wsG G Sh σ).length := by
    unfold wsG
    rw [List.length_mapIdx]
    exact (List.getElem?_eq_some_iff.mp hc).1
  by_cases hj : a = j
  · subst hj
    rw [List.getElem?_set_self hl, wsG_at hc, he]
  · rw [List.getElem?_set_ne hj]
    unfold wsG
    rw [List.getElem?_mapIdx, List.getElem?_mapIdx]
    cases Sh[j]? with
    | none => rfl
    | some c2 =>
      simp only [Option.map_some]
      rw [ceE_cg (h1 j (fun e => hj e.symm)) (h2 j (fun e => hj e.symm))]
theorem wsG_setI {G : jG} {Sh : List jC} {σ : jM} {a k ci : Nat} {sl : List jS} {v : Int32} (hc : Sh[a]? = some (.inr (ci, sl))) (hk : sl[k]? = some none) : (wsG G Sh σ).set a (G.2.1 a, .inr (ci, (sl.mapIdx (fun i d => slV G.2.1 σ a i d)).set k (.int v))) = wsG G Sh (pI σ a k v) := by
  refine wsG_set hc (fun j hj => by simp [pI, hj]) (fun j hj => rfl) ?_
  simp only [ceE]
  congr 2
  apply List.ext_getElem?
  intro i
  have hl : k < (sl.mapIdx (fun i d => slV G.2.1 σ a i d)).length := by
    rw [List.length_mapIdx]
    exact (List.getElem?_eq_some_iff.mp hk).1
  by_cases hj : k = i
  · subst hj
    rw [List.getElem?_set_self hl, List.getElem?_mapIdx, hk]
    simp [slV, pI, upd]
  · rw [List.getElem?_set_ne hj, List.getElem?_mapIdx, List.getElem?_mapIdx]
    cases sl[i]? with
    | none => rfl
    | some d =>
      simp only [Option.map_some, Option.some.injEq]
      have hji : ¬ i = k := fun e => hj e.symm
      rcases d with _ | _ | _ | r <;> simp [slV, pI, upd, hji]
theorem wsG_setL {G : jG} {Sh : List jC} {σ : jM} {a k ci : Nat} {sl : List jS} {v : Int64} (hc : Sh[a]? = some (.inr (ci, sl))) (hk : sl[k]? = some (some none)) : (wsG G Sh σ).set a (G.2.1 a, .inr (ci, (sl.mapIdx (fun i d => slV G.2.1 σ a i d)).set k (.long v))) = wsG G Sh (pL σ a k v) := by
  refine wsG_set hc (fun j hj => rfl) (fun j hj => by simp [pL, hj]) ?_
  simp only [ceE]
  congr 2
  apply List.ext_getElem?
  intro i
  have hl : k < (sl.mapIdx (fun i d => slV G.2.1 σ a i d)).length := by
    rw [List.length_mapIdx]
    exact (List.getElem?_eq_some_iff.mp hk).1
  by_cases hj : k = i
  · subst hj
    rw [List.getElem?_set_self hl, List.getElem?_mapIdx, hk]
    simp [slV, pL, vp_updL]
  · rw [List.getElem?_set_ne hj, List.getElem?_mapIdx, List.getElem?_mapIdx]
    cases sl[i]? with
    | none => rfl
    | some d =>
      simp only [Option.map_some, Option.some.injEq]
      have hji : ¬ i = k := fun e => hj e.symm
      rcases d with _ | _ | _ | r <;> simp [slV, pL, vp_updL, hji]
/-- where a field's row of the pool leads: kind ci of vwCl, place k -/
def FL (own : String) (idx ci k : Nat) : Prop := ∃ (C : String) (T : u_T) (N : Nat), vwCl[ci]? = some (C, T, N) ∧ (∀ w ∈ u_ws C T N, w ∈ TBW) ∧ k < N ∧
  (Cond.fieldLink own idx (T k).1 (T k).2.1 (T k).2.2.1 ∈ TBW ∨ ∃ host, Cond.fieldLinkNest own idx (T k).1 (T k).2.1 (T k).2.2.1 host ∈ NW)
def FP (own : String) (idx ci k : Nat) (fin : Bool) (ty : FieldType) : Prop := ∃ (C : String) (T : u_T) (N : Nat), vwCl[ci]? = some (C, T, N) ∧ (∀ w ∈ u_ws C T N, w ∈ TBW) ∧ k < N ∧
  (Cond.fieldLink own idx (T k).1 (T k).2.1 (T k).2.2.1 ∈ TBW ∨ (fin = false ∧ ∃ host, Cond.fieldLinkNest own idx (T k).1 (T k).2.1 (T k).2.2.1 host ∈ NW)) ∧
  (∃ ty0 : Nat → FieldType, ∀ j, j < N → parseFieldDescriptor (T j).2.2.1 = some (ty0 j)) ∧ (∀ a, a < N → ∀ b, b < N → a ≠ b → (T a).2.1 ≠ (T b).2.1) ∧ (T k).2.2.2 = fin ∧ parseFieldDescriptor (T k).2.2.1 = some ty ∧ (fin = true → (T k).1 = own)
section Rows3
variable {l : Launch} {own : String} {cc : ByteArray} {nL : Nat} {ret : Option FieldType} {ini : Bool} {R : Room} {Cx : jG → State → (Nat → Prop) → Prop} {ρ : Type} {enc : ρ → jR} {Sh : List jC} {k n : Nat} {σ : jM} {pc : Nat} {ls : List (Option Value)} {rest : List Value} {o o2 : Option ρ}
theorem J_ldc2 {idx : Nat} {v : Int64} (hd : decode cc pc = .ok (.ldc2_w idx, 3)) (hc : Cond.constantLong own idx v ∈ TBW) (kk : J l own cc nL ret ini R Cx enc Sh k n σ (pc + 3) ls (.long v :: rest) o) : J l own cc nL ret ini R Cx enc Sh k n σ pc ls rest o := fun res h p e s m args below meth c G A Q H locs lsA C K hW hS hl => lv_ldc2 C.1 C.2.1 C.2.2.2.2.1 (C.2.2.2.2.2.1 _ hc) hd (kk res h p e s m args below meth c G A Q H locs lsA C K hW hS hl)
theorem J_ldcw {idx : Nat} {v : Int32} (hd : decode cc pc = .ok (.ldc_w idx, 3)) (hc : Cond.constant own idx v ∈ TBW) (kk : J l own cc nL ret ini R Cx enc Sh k n σ (pc + 3) ls (.int v :: rest) o) : J l own cc nL ret ini R Cx enc Sh k n σ pc ls rest o := fun res h p e s m args below meth c G A Q H locs lsA C K hW hS hl => lv_ldcw C.1 C.2.1 C.2.2.2.2.1 (C.2.2.2.2.2.1 _ hc) hd (kk res h p e s m args below meth c G A Q H locs lsA C K hW hS hl)
theorem J_get0 {idx a ci q : Nat} {d : jS} {v : Value} (hd : decode cc pc = .ok (.getfield idx, 3)) (f : FL own idx ci q) (hs : shO Sh a q = some (ci, d)) (hv : ∀ ad, slV ad σ a q d = rnV ad v) (kk : J l own cc nL ret ini R Cx enc Sh k n σ (pc + 3) ls (v :: rest) o) : J l own cc nL ret ini R Cx enc Sh k n σ pc ls (.ref a :: rest) o := fun res h p e s m args below meth c G A Q H locs lsA C K hW hS hl => by
  obtain ⟨cn, T, N, hc, hin, hk, hlink⟩ := f
  obtain ⟨sl, h1, h2⟩ := shO_of hs
  have he := wsG_at (G := G) (σ := σ) h1
  have hfs : (sl.mapIdx (fun i d => slV G.2.1 σ a i d))[q]? = some (rnV G.2.1 v) := by rw [List.getElem?_mapIdx, h2, ← hv]; rfl
  rcases hlink with hlink | ⟨host, hlink⟩
  · exact va_get C.1 C.2.1 C.2.2.2.2.2.1 hin C.2.2.2.2.1 hW.2.1 hW.1 a he hc q hk (C.2.2.2.2.2.1 _ hlink) (fun _ h => h) hfs hd (kk res h p e s m args below meth c G A Q H locs lsA C K hW hS hl)
  · exact va_getN C.1 C.2.1 C.2.2.2.2.2.1 hin C.2.2.2.2.1 hW.2.1 hW.1 a he hc q hk (va_Nw.use (by first | rfl | exact (nw_onT hlink)) (C.2.2.2.2.2.2.2.2.1.1 _ hlink)) (fun _ h => h) hfs hd (kk res h p e s m args below meth c G A Q H locs lsA C K hW hS hl)
theorem J_getI {idx a ci q : Nat} (hd : decode cc pc = .ok (.getfield idx, 3)) (f : FL own idx ci q) (hs : shO Sh a q = some (ci, none)) (kk : J l own cc nL ret ini R Cx enc Sh k n σ (pc + 3) ls (.int (gI σ a q) :: rest) o) : J l own cc nL ret ini R Cx enc Sh k n σ pc ls (.ref a :: rest) o := J_get0 hd f hs (fun _ => rfl) kk
theorem J_getL {idx a ci q : Nat} (hd : decode cc pc = .ok (.getfield idx, 3)) (f : FL own idx ci q) (hs : shO Sh a q = some (ci, some none)) (kk : J l own cc nL ret ini R Cx enc Sh k n σ (pc + 3) ls (.long (gL σ a q) :: rest) o) : J l own cc nL ret ini R Cx enc Sh k n σ pc ls (.ref a :: rest) o := J_get0 hd f hs (fun _ => rfl) kk
theorem J_getR {idx a ci q r : Nat} (hd : decode cc pc = .ok (.getfield idx, 3)) (f : FL own idx ci q) (hs : shO Sh a q = some (ci, some (some (some r)))) (kk : J l own cc nL ret ini R Cx enc Sh k n σ (pc + 3) ls (.ref r :: rest) o) : J l own cc nL ret ini R Cx enc Sh k n σ pc ls (.ref a :: rest) o := J_get0 hd f hs (fun _ => rfl) kk
theorem J_putI {idx a ci q : Nat} {fin : Bool} {ty : FieldType} {v : Int32} (hd : decode cc pc = .ok (.putfield idx, 3)) (f : FP own idx ci q fin ty) (hfin : fin = true → ini = true) (hs : shO Sh a q = some (ci, none)) (hn : narrow ty (.int v) = .int v) (hft : fits ty (.int v) = true) (kk : J l own cc nL ret ini R Cx enc Sh k n (pI σ a q v) (pc + 3) ls rest o) : J l own cc nL ret ini R Cx enc Sh k n σ pc ls (.int v :: .ref a :: rest) o := fun res h p e s m args below meth c G A Q H locs lsA C K hW hS hl => by
  obtain ⟨cn, T, N, hc, hin, hk, hlink, ⟨ty0, hty⟩, hnm, hf, hdt, hdecl⟩ := f
  obtain ⟨sl, h1, h2⟩ := shO_of hs
  have he := wsG_at (G := G) (σ := σ) h1
  have hlen : q < (sl.mapIdx (fun i d => slV G.2.1 σ a i d)).length := by rw [List.length_mapIdx]; exact (List.getElem?_eq_some_iff.mp h2).1
  have fin2 : ∀ (H1 : Heap) (locs1 : List Loc), va_P G.1 vwCl ((wsG G Sh σ).set a (G.2.1 a, .inr (ci, (sl.mapIdx (fun i d => slV G.2.1 σ a i d)).set q (.int v)))) H1 → va_D A ((wsG G Sh σ).set a (G.2.1 a, .inr (ci, (sl.mapIdx (fun i d => slV G.2.1 σ a i d)).set q (.int v)))) → va_S A s.heap H1 locs1 → W p l e R s m args below meth c H1 locs1 k n Q (F0 m (pc + 3) lsA (rest.map (rnV G.2.1))) := by
    intro H1 locs1 hP1 hD1 hS1
    rw [wsG_setI h1 h2] at hP1 hD1
    exact kk res h p e s m args below meth c G A Q H1 locs1 lsA C K ⟨hP1, hW.2.1, hD1, hW.2.2.2⟩ hS1 hl
  cases fin with
  | false =>
    rcases hlink with hlink | ⟨-, host, hlink⟩
    · exact va_put C.1 C.2.1 C.2.2.2.2.2.1 hin ty0 hty hnm C.2.2.2.2.1 hW.2.1 hW.1 hW.2.2.1 hS a he hc q hk (C.2.2.2.2.2.1 _ hlink) (fun _ h => h) hf hdt hn hft hlen hd fin2
    · exact va_putN C.1 C.2.1 C.2.2.2.2.2.1 hin ty0 hty hnm C.2.2.2.2.1 hW.2.1 hW.1 hW.2.2.1 hS a he hc q hk (va_Nw.use (by first | rfl | exact (nw_onT hlink)) (C.2.2.2.2.2.2.2.2.1.1 _ hlink)) (fun _ h => h) hf hdt hn hft hlen hd fin2
  | true =>
    rcases hlink with hlink | ⟨hz, -⟩
    · exact va_putF C.1 C.2.1 C.2.2.2.2.2.1 hin ty0 hty hnm C.2.2.2.2.1 hW.2.1 hW.1 hW.2.2.1 hS a he hc q hk (C.2.2.2.2.2.1 _ hlink) (fun _ h => h) hf (C.2.2.2.2.2.2.2.1 (hfin rfl)) (hdecl rfl) hdt hn hft hlen hd fin2
    · cases hz
theorem J_putL {idx a ci q : Nat} {fin : Bool} {ty : FieldType} {v : Int64} (hd : decode cc pc = .ok (.putfield idx, 3)) (f : FP own idx ci q fin ty) (hfin : fin = true → ini = true) (hs : shO Sh a q = some (ci, some none)) (hn : narrow ty (.long v) = .long v) (hft : fits ty (.long v) = true) (kk : J l own cc nL ret ini R Cx enc Sh k n (pL σ a q v) (pc + 3) ls rest o) : J l own cc nL ret ini R Cx enc Sh k n σ pc ls (.long v :: .ref a :: rest) o := fun res h p e s m args below meth c G A Q H locs lsA C K hW hS hl => by
  obtain ⟨cn, T, N, hc, hin, hk, hlink, ⟨ty0, hty⟩, hnm, hf, hdt, hdecl⟩ := f
  obtain ⟨sl, h1, h2⟩ := shO_of hs
  have he := wsG_at (G := G) (σ := σ) h1
  have hlen : q < (sl.mapIdx (fun i d => slV G.2.1 σ a i d)).length := by rw [List.length_mapIdx]; exact (List.getElem?_eq_some_iff.mp h2).1
  have fin2 : ∀ (H1 : Heap) (locs1 : List Loc), va_P G.1 vwCl ((wsG G Sh σ).set a (G.2.1 a, .inr (ci, (sl.mapIdx (fun i d => slV G.2.1 σ a i d)).set q (.long v)))) H1 → va_D A ((wsG G Sh σ).set a (G.2.1 a, .inr (ci, (sl.mapIdx (fun i d => slV G.2.1 σ a i d)).set q (.long v)))) → va_S A s.heap H1 locs1 → W p l e R s m args below meth c H1 locs1 k n Q (F0 m (pc + 3) lsA (rest.map (rnV G.2.1))) := by
    intro H1 locs1 hP1 hD1 hS1
    rw [wsG_setL h1 h2] at hP1 hD1
    exact kk res h p e s m args below meth c G A Q H1 locs1 lsA C K ⟨hP1, hW.2.1, hD1, hW.2.2.2⟩ hS1 hl
  cases fin with
  | false =>
    rcases hlink with hlink | ⟨-, host, hlink⟩
    · exact va_put C.1 C.2.1 C.2.2.2.2.2.1 hin ty0 hty hnm C.2.2.2.2.1 hW.2.1 hW.1 hW.2.2.1 hS a he hc q hk (C.2.2.2.2.2.1 _ hlink) (fun _ h => h) hf hdt hn hft hlen hd fin2
    · exact va_putN C.1 C.2.1 C.2.2.2.2.2.1 hin ty0 hty hnm C.2.2.2.2.1 hW.2.1 hW.1 hW.2.2.1 hS a he hc q hk (va_Nw.use (by first | rfl | exact (nw_onT hlink)) (C.2.2.2.2.2.2.2.2.1.1 _ hlink)) (fun _ h => h) hf hdt hn hft hlen hd fin2
  | true =>
    rcases hlink with hlink | ⟨hz, -⟩
    · exact va_putF C.1 C.2.1 C.2.2.2.2.2.1 hin ty0 hty hnm C.2.2.2.2.1 hW.2.1 hW.1 hW.2.2.1 hS a he hc q hk (C.2.2.2.2.2.1 _ hlink) (fun _ h => h) hf (C.2.2.2.2.2.2.2.1 (hfin rfl)) (hdecl rfl) hdt hn hft hlen hd fin2
    · cases hz
theorem J_iald {a N : Nat} {i : Int32} (hd : decode cc pc = .ok (.iaload, 1)) (hs : shA Sh a = some (.int, N)) (kk : J l own cc nL ret ini R Cx enc Sh k n σ (pc + 1) ls (.int (gI σ a i.toNatClampNeg) :: rest) o) : J l own cc nL ret ini R Cx enc Sh k n σ pc ls (.int i :: .ref a :: rest) (gd (ib i N) o) := J_gd (fun hi => fun res h p e s m args below meth c G A Q H locs lsA C K hW hS hl => by
  have h1 := shA_of hs
  have hT := hW.2.2.2 a _ _ h1
  exact va_iald (tys := [(G.2.2 a, .int)]) C.1 C.2.1 ⟨hW.2.1.1, fun j q hj => by cases j with | zero => (cases hj; exact hT) | succ j => cases hj⟩ hW.1 a 0 (wsG_at h1) rfl (ib_in hi) hd (kk res h p e s m args below meth c G A Q H locs lsA C K hW hS hl))
theorem J_lald {a N : Nat} {i : Int32} (hd : decode cc pc = .ok (.laload, 1)) (hs : shA Sh a = some (.long, N)) (kk : J l own cc nL ret ini R Cx enc Sh k n σ (pc + 1) ls (.long (gL σ a i.toNatClampNeg) :: rest) o) : J l own cc nL ret ini R Cx enc Sh k n σ pc ls (.int i :: .ref a :: rest) (gd (ib i N) o) := J_gd (fun hi => fun res h p e s m args below meth c G A Q H locs lsA C K hW hS hl => by
  have h1 := shA_of hs
  have hT := hW.2.2.2 a _ _ h1
  exact va_lald (tys := [(G.2.2 a, .long)]) C.1 C.2.1 ⟨hW.2.1.1, fun j q hj => by cases j with | zero => (cases hj; exact hT) | succ j => cases hj⟩ hW.1 a 0 (wsG_at h1) rfl (ib_in hi) hd (kk res h p e s m args below meth c G A Q H locs lsA C K hW hS hl))
theorem J_cald {a N : Nat} {i : Int32} (hd : decode cc pc = .ok (.caload, 1)) (hs : shA Sh a = some (.char, N)) (kk : J l own cc nL ret ini R Cx enc Sh k n σ (pc + 1) ls (.int (gC σ a i.toNatClampNeg) :: rest) o) : J l own cc nL ret ini R Cx enc Sh k n σ pc ls (.int i :: .ref a :: rest) (gd (ib i N) o) := J_gd (fun hi => fun res h p e s m args below meth c G A Q H locs lsA C K hW hS hl => by
  have h1 := shA_of hs
  have hT := hW.2.2.2 a _ _ h1
  exact va_cald (tys := [(G.2.2 a, .char)]) C.1 C.2.1 ⟨hW.2.1.1, fun j q hj => by cases j with | zero => (cases hj; exact hT) | succ j => cases hj⟩ hW.1 a 0 (wsG_at h1) rfl (ib_in hi) hd (kk res h p e s m args below meth c G A Q H locs lsA C K hW hS hl))
theorem J_zald {a N : Nat} {i : Int32} (hd : decode cc pc = .ok (.baload, 1)) (hs : shA Sh a = some (.boolean, N)) (kk : J l own cc nL ret ini R Cx enc Sh k n σ (pc + 1) ls (.int (gI σ a i.toNatClampNeg) :: rest) o) : J l own cc nL ret ini R Cx enc Sh k n σ pc ls (.int i :: .ref a :: rest) (gd (ib i N) o) := J_gd (fun hi => fun res h p e s m args below meth c G A Q H locs lsA C K hW hS hl => by
  have h1 := shA_of hs
  have hT := hW.2.2.2 a _ _ h1
  exact va_zald (tys := [(G.2.2 a, .boolean)]) C.1 C.2.1 ⟨hW.2.1.1, fun j q hj => by cases j with | zero => (cases hj; exact hT) | succ j => cases hj⟩ hW.1 a 0 (wsG_at h1) rfl (ib_in hi) hd (kk res h p e s m args below meth c G A Q H locs lsA C K hW hS hl))
theorem J_iast {a N : Nat} {i : Int32} {x : Int32} (hd : decode cc pc = .ok (.iastore, 1)) (hs : shA Sh a = some (.int, N)) (kk : J l own cc nL ret ini R Cx enc Sh k n (pI σ a i.toNatClampNeg x) (pc + 1) ls rest o) : J l own cc nL ret ini R Cx enc Sh k n σ pc ls (.int x :: .int i :: .ref a :: rest) (gd (ib i N) o) := J_gd (fun hi => fun res h p e s m args below meth c G A Q H locs lsA C K hW hS hl => by
  have h1 := shA_of hs
  have hT := hW.2.2.2 a _ _ h1
  have E : (wsG G Sh σ).set a (G.2.1 a, .inl (G.2.2 a, N, .inl (upd (σ.1 a) i.toNatClampNeg x))) = wsG G Sh (pI σ a i.toNatClampNeg x) := wsG_set h1 (fun j hj => by simp [pI, hj]) (fun j hj => rfl) (by simp [ceE, arA, pI])
  refine va_iast (tys := [(G.2.2 a, .int)]) C.1 C.2.1 ⟨hW.2.1.1, fun j q hj => by cases j with | zero => (cases hj; exact hT) | succ j => cases hj⟩ hW.1 hW.2.2.1 hS a 0 (wsG_at h1) rfl (ib_in hi) hd (fun H1 locs1 hP1 hD1 hS1 => ?_)
  exact kk res h p e s m args below meth c G A Q H1 locs1 lsA C K ⟨by rw [← E]; exact hP1, hW.2.1, by rw [← E]; exact hD1, hW.2.2.2⟩ hS1 hl)
theorem J_zast {a N : Nat} {i : Int32} {x : Int32} (hd : decode cc pc = .ok (.bastore, 1)) (hs : shA Sh a = some (.boolean, N)) (kk : J l own cc nL ret ini R Cx enc Sh k n (pI σ a i.toNatClampNeg (vp_nar .boolean x)) (pc + 1) ls rest o) : J l own cc nL ret ini R Cx enc Sh k n σ pc ls (.int x :: .int i :: .ref a :: rest) (gd (ib i N) o) := J_gd (fun hi => fun res h p e s m args below meth c G A Q H locs lsA C K hW hS hl => by
  have h1 := shA_of hs
  have hT := hW.2.2.2 a _ _ h1
  have E : (wsG G Sh σ).set a (G.2.1 a, .inl (G.2.2 a, N, .inl (upd (σ.1 a) i.toNatClampNeg (vp_nar .boolean x)))) = wsG G Sh (pI σ a i.toNatClampNeg (vp_nar .boolean x)) := wsG_set h1 (fun j hj => by simp [pI, hj]) (fun j hj => rfl) (by simp [ceE, arA, pI])
  refine va_zast (tys := [(G.2.2 a, .boolean)]) C.1 C.2.1 ⟨hW.2.1.1, fun j q hj => by cases j with | zero => (cases hj; exact hT) | succ j => cases hj⟩ hW.1 hW.2.2.1 hS a 0 (wsG_at h1) rfl (ib_in hi) hd (fun H1 locs1 hP1 hD1 hS1 => ?_)
  exact kk res h p e s m args below meth c G A Q H1 locs1 lsA C K ⟨by rw [← E]; exact hP1, hW.2.1, by rw [← E]; exact hD1, hW.2.2.2⟩ hS1 hl)
theorem J_cast {a N : Nat} {i : Int32} {x : Int32} (hd : decode cc pc = .ok (.castore, 1)) (hs : shA Sh a = some (.char, N)) (kk : J l own cc nL ret ini R Cx enc Sh k n (pI σ a i.toNatClampNeg x) (pc + 1) ls rest o) : J l own cc nL ret ini R Cx enc Sh k n σ pc ls (.int x :: .int i :: .ref a :: rest) (gd (ib i N) o) := J_gd (fun hi => fun res h p e s m args below meth c G A Q H locs lsA C K hW hS hl => by
  have h1 := shA_of hs
  have hT := hW.2.2.2 a _ _ h1
  have E : (wsG G Sh σ).set a (G.2.1 a, .inl (G.2.2 a, N, .inl (upd (fun j => vp_nar .char (σ.1 a j)) i.toNatClampNeg (vp_nar .char x)))) = wsG G Sh (pI σ a i.toNatClampNeg x) := wsG_set h1 (fun j hj => by simp [pI, hj]) (fun j hj => rfl) (by (simp only [ceE, arA, pI, if_true]; congr 4; funext j; unfold upd; split <;> rfl))
  refine va_cast (tys := [(G.2.2 a, .char)]) C.1 C.2.1 ⟨hW.2.1.1, fun j q hj => by cases j with | zero => (cases hj; exact hT) | succ j => cases hj⟩ hW.1 hW.2.2.1 hS a 0 (wsG_at h1) rfl (ib_in hi) hd (fun H1 locs1 hP1 hD1 hS1 => ?_)
  exact kk res h p e s m args below meth c G A Q H1 locs1 lsA C K ⟨by rw [← E]; exact hP1, hW.2.1, by rw [← E]; exact hD1, hW.2.2.2⟩ hS1 hl)
theorem J_last {a N : Nat} {i : Int32} {x : Int64} (hd : decode cc pc = .ok (.lastore, 1)) (hs : shA Sh a = some (.long, N)) (kk : J l own cc nL ret ini R Cx enc Sh k n (pL σ a i.toNatClampNeg x) (pc + 1) ls rest o) : J l own cc nL ret ini R Cx enc Sh k n σ pc ls (.long x :: .int i :: .ref a :: rest) (gd (ib i N) o) := J_gd (fun hi => fun res h p e s m args below meth c G A Q H locs lsA C K hW hS hl => by
  have h1 := shA_of hs
  have hT := hW.2.2.2 a _ _ h1
  have E : (wsG G Sh σ).set a (G.2.1 a, .inl (G.2.2 a, N, .inr (.inl (vp_updL (σ.2 a) i.toNatClampNeg x)))) = wsG G Sh (pL σ a i.toNatClampNeg x) := wsG_set h1 (fun j hj => rfl) (fun j hj => by simp [pL, hj]) (by simp [ceE, arA, pL])
  refine va_last (tys := [(G.2.2 a, .long)]) C.1 C.2.1 ⟨hW.2.1.1, fun j q hj => by cases j with | zero => (cases hj; exact hT) | succ j => cases hj⟩ hW.1 hW.2.2.1 hS a 0 (wsG_at h1) rfl (ib_in hi) hd (fun H1 locs1 hP1 hD1 hS1 => ?_)
  exact kk res h p e s m args below meth c G A Q H1 locs1 lsA C K ⟨by rw [← E]; exact hP1, hW.2.1, by rw [← E]; exact hD1, hW.2.2.2⟩ hS1 hl)
theorem J_alen {a N : Nat} {ty : FieldType} (hd : decode cc pc = .ok (.arraylength, 1)) (hs : shA Sh a = some (ty, N)) (kk : J l own cc nL ret ini R Cx enc Sh k n σ (pc + 1) ls (.int (Int32.ofNat N) :: rest) o) : J l own cc nL ret ini R Cx enc Sh k n σ pc ls (.ref a :: rest) o := fun res h p e s m args below meth c G A Q H locs lsA C K hW hS hl => by
  have h1 := shA_of hs
  have hT := hW.2.2.2 a _ _ h1
  exact va_alen (tys := [(G.2.2 a, ty)]) C.1 C.2.1 ⟨hW.2.1.1, fun j q hj => by cases j with | zero => (cases hj; exact hT) | succ j => cases hj⟩ hW.1 a 0 (wsG_at h1) rfl (by cases ty <;> rfl) hd (kk res h p e s m args below meth c G A Q H locs lsA C K hW hS hl)
theorem J_txtV {idx i : Nat} (hi : i < 8) (hd : decode cc pc = .ok (.getfield idx, 3)) (hc : Cond.fieldLink own idx "java/lang/String" "value" "[B" ∈ TBW) (kk : J l own cc nL ret ini R Cx enc Sh k n σ (pc + 3) ls (.ref (2000 + i) :: rest) o) : J l own cc nL ret ini R Cx enc Sh k n σ pc ls (.ref (1000 + i) :: rest) o := fun res h p e s m args below meth c G A Q H locs lsA C K hW hS hl => vk_getf C.1 C.2.1 (C.2.2.2.2.2.2.2.2.1.2.2.1.1 i hi).2.2.1 hS C.2.2.2.2.1 (C.2.2.2.2.2.1 _ hc) (fun _ h => h) hd (kk res h p e s m args below meth c G A Q H locs lsA C K hW hS hl)
theorem J_txtC {idx i : Nat} (hi : i < 8) (hd : decode cc pc = .ok (.getfield idx, 3)) (hc : Cond.fieldLink own idx "java/lang/String" "coder" "B" ∈ TBW) (kk : J l own cc nL ret ini R Cx enc Sh k n σ (pc + 3) ls (.int 0 :: rest) o) : J l own cc nL ret ini R Cx enc Sh k n σ pc ls (.ref (1000 + i) :: rest) o := fun res h p e s m args below meth c G A Q H locs lsA C K hW hS hl => vk_getf C.1 C.2.1 (C.2.2.2.2.2.2.2.2.1.2.2.1.1 i hi).2.1 hS C.2.2.2.2.1 (C.2.2.2.2.2.1 _ hc) (fun _ h => h) hd (kk res h p e s m args below meth c G A Q H locs lsA C K hW hS hl)
theorem J_cmpS {idx : Nat} (hd : decode cc pc = .ok (.getstatic idx, 3)) (hc : Cond.fieldLink own idx "java/lang/String" "COMPACT_STRINGS" "Z" ∈ TBW) (kk : J l own cc nL ret ini R Cx enc Sh k n σ (pc + 3) ls (.int 1 :: rest) o) : J l own cc nL ret ini R Cx enc Sh k n σ pc ls rest o := fun res h p e s m args below meth c G A Q H locs lsA C K hW hS hl => va_gets C.1 C.2.1 C.2.2.2.2.2.2.2.2.1.2.2.2.1 hS C.2.2.2.2.1 (C.2.2.2.2.2.1 _ hc) (fun _ h => h) hd (kk res h p e s m args below meth c G A Q H locs lsA C K hW hS hl)
theorem J_brS {idx : Nat} {host : String} (hd : decode cc pc = .ok (.getstatic idx, 3)) (hc : Cond.fieldLinkNest own idx "OddBridge" "BROUGHT" "[I" host ∈ NW) (kk : J l own cc nL ret ini R Cx enc Sh k n σ (pc + 3) ls (.ref 3000 :: rest) o) : J l own cc nL ret ini R Cx enc Sh k n σ pc ls rest o := fun res h p e s m args below meth c G A Q H locs lsA C K hW hS hl => va_getsN C.1 C.2.1 C.2.2.2.2.2.2.2.2.1.2.2.2.2.1 hS C.2.2.2.2.1 (va_Nw.use rfl (C.2.2.2.2.2.2.2.2.1.1 _ hc)) (fun _ h => h) hd (kk res h p e s m args below meth c G A Q H locs lsA C K hW hS hl)
theorem xT_at {ty : FieldType} {t N : Nat} {f : Nat → Value} {A : Nat → Prop} {U : State} {H0 H : Heap} {locs : List Loc} (h : va_T ty t N f A U H0) (hS : va_S A H0 H locs) : ∃ cell : Cell, H[t]? = some cell ∧ U.isArrayOf cell ty ∧ cell.vm ≠ .unknown ∧ N ≤ cell.slots.size ∧ cell.slots.size.toInt32 = Int32.ofNat N ∧ ∀ j : Nat, j < N → cell.slots[j]? = some (f j) := by
  obtain ⟨cell, h1, h2, h3, h4, h5, h6, h7⟩ := h
  exact ⟨cell, by rw [hS.2.1 t (Array.getElem?_eq_some_iff.mp h1).1 h7]; exact h1, h2, h3, h4, h5, h6⟩
theorem vp_in_lt {i : Int32} {N : Nat} (h : vp_in i N) : i.toNatClampNeg < N := Nat.lt_of_not_le fun q => h (Or.inr q)
theorem J_brA {i : Int32} (hd : decode cc pc = .ok (.iaload, 1)) (kk : J l own cc nL ret ini R Cx enc Sh k n σ (pc + 1) ls (.int (brS.getD i.toNatClampNeg 0) :: rest) o) : J l own cc nL ret ini R Cx enc Sh k n σ pc ls (.int i :: .ref 3000 :: rest) (gd (ib i 40) o) := J_gd (fun hi => fun res h p e s m args below meth c G A Q H locs lsA C K hW hS hl => by
  obtain ⟨cell, h1, h2, h3, h4, h5, h6⟩ := xT_at C.2.2.2.2.2.2.2.2.1.2.2.2.2.2 hS
  have hv := ib_in hi
  exact W.iald C.1 C.2.1 h1 h2 h3 (fun hx => hv (hx.imp id (fun hx => Nat.le_trans h4 hx))) (h6 _ (vp_in_lt hv)) rfl rfl hd (kk res h p e s m args below meth c G A Q H locs lsA C K hW hS hl))
theorem J_brL (hd : decode cc pc = .ok (.arraylength, 1)) (kk : J l own cc nL ret ini R Cx enc Sh k n σ (pc + 1) ls (.int 40 :: rest) o) : J l own cc nL ret ini R Cx enc Sh k n σ pc ls (.ref 3000 :: rest) o := fun res h p e s m args below meth c G A Q H locs lsA C K hW hS hl => by
  obtain ⟨cell, h1, h2, h3, h4, h5, h6⟩ := xT_at C.2.2.2.2.2.2.2.2.1.2.2.2.2.2 hS
  exact W.alen C.1 C.2.1 h1 h2 h5 rfl rfl hd (kk res h p e s m args below meth c G A Q H locs lsA C K hW hS hl)
theorem J_txtL {i : Nat} (hi : i < 8) (hd : decode cc pc = .ok (.arraylength, 1)) (kk : J l own cc nL ret ini R Cx enc Sh k n σ (pc + 1) ls (.int (Int32.ofNat (leS.getD i 0)) :: rest) o) : J l own cc nL ret ini R Cx enc Sh k n σ pc ls (.ref (2000 + i) :: rest) o := fun res h p e s m args below meth c G A Q H locs lsA C K hW hS hl => by
  obtain ⟨cell, h1, h2, h3, h4, h5, h6⟩ := xT_at (C.2.2.2.2.2.2.2.2.1.2.2.1.1 i hi).2.2.2 hS
  exact W.alen C.1 C.2.1 h1 h2 h5 rfl rfl hd (kk res h p e s m args below meth c G A Q H locs lsA C K hW hS hl)
theorem J_txtB {i : Nat} {j : Int32} (hi : i < 8) (hd : decode cc pc = .ok (.baload, 1)) (kk : J l own cc nL ret ini R Cx enc Sh k n σ (pc + 1) ls (.int ((byS.getD i []).getD j.toNatClampNeg 0) :: rest) o) : J l own cc nL ret ini R Cx enc Sh k n σ pc ls (.int j :: .ref (2000 + i) :: rest) (gd (ib j (leS.getD i 0)) o) := J_gd (fun hj => fun res h p e s m args below meth c G A Q H locs lsA C K hW hS hl => va_tb C.1 C.2.1 (C.2.2.2.2.2.2.2.2.1.2.2.1.1 i hi).2.2.2 hS (ib_in hj) rfl hd (kk res h p e s m args below meth c G A Q H locs lsA C K hW hS hl))
end Rows3
end
section
/-! contracts and calls -/
def rmD (d mc ms : Nat) : Room := { frames := d, cells := mc, slots := ms, locals := 64 * d }
def wsU (y : MethodName) (b : ByteArray) (mL : Nat) (ret : Option FieldType) : List Cond := Cond.code y b mL ret :: TBW
def conQ (rs : jR) (G : jG) (Sh : List jC) (σ : jM) (sz : Nat) : Array Value → State → Outcome → State → Prop := fun _ st oc t =>
  (∃ G' : jG, jAg Sh.length rs.2.2.1.length G G' ∧ oc = .returned (rs.1.map (rnV G'.2.1)) ∧ Wd G' rs.2.2.1 rs.2.1 t (va_A (wsG G Sh σ) sz) t.heap) ∧ va_F (va_A (wsG G Sh σ) sz) st t
def conP (as : List Value) (G : jG) (Sh : List jC) (σ : jM) (sz : Nat) : Array Value → State → Prop := va_Pc (as.map (rnV G.2.1)) (fun U => U.heap.size = sz ∧ Env G.2.1 (va_A (wsG G Sh σ) sz) U U.heap ∧ Wd G Sh σ U (fun _ => True) U.heap)
def Con (l : Launch) (d : Nat) (y : MethodName) (b : ByteArray) (mL : Nat) (ret : Option FieldType) {ρ : Type} (enc : ρ → jR) (Sh : List jC) (as : List Value) (σ : jM) (o : Option ρ) : Prop :=
  ∀ res : ρ, o = some res → ∀ (G : jG) (sz : Nat), Met l y (wsU y b mL ret) (rmD d (enc res).2.2.2.1 (enc res).2.2.2.2) (conP as G Sh σ sz) (conQ (enc res) G Sh σ sz) (enc res).2.2.2.1 (enc res).2.2.2.2 (va_A (wsG G Sh σ) sz)
theorem Wd.moved {G : jG} {Sh : List jC} {σ : jM} {s t : State} {A : Nat → Prop} {H : Heap} (hv : s.vm.Alike t.vm) (h : Wd G Sh σ s A H) : Wd G Sh σ t A H :=
  ⟨h.1, va_K.moved hv h.2.1, h.2.2.1, fun k ty n hk => ⟨arrOfT_moved hv (h.2.2.2 k ty n hk).1, (h.2.2.2 k ty n hk).2.moved hv⟩⟩
theorem Wd.dom {G : jG} {Sh : List jC} {σ : jM} {s : State} {A B : Nat → Prop} {H : Heap} (h : Wd G Sh σ s A H) (hAB : ∀ (k : Nat) (q : Nat × va_E), (wsG G Sh σ)[k]? = some q → A q.1 → B q.1) : Wd G Sh σ s B H :=
  ⟨h.1, h.2.1, h.2.2.1.weaken hAB, h.2.2.2⟩
theorem lg_len : ∀ (as : List Value) (ad : Nat → Nat), (lg_sl (as.map (rnV ad))).length = (lvs as).length := by
  intro as ad
  induction as with
  | nil => rfl
  | cons a t ih =>
    simp only [List.map_cons, lg_sl, List.flatMap_cons, rnV_cat, List.length_append, lvs] at ih ⊢
    rw [ih]
    by_cases hc : a.category = 2
    · simp [hc]; omega
    · simp [hc]; omega
theorem Con_of {l : Launch} {d mc ms : Nat} {y : MethodName} {b : ByteArray} {mL : Nat} {ret : Option FieldType} {ini : Bool} {ρ : Type} {enc : ρ → jR} {Sh : List jC} {as : List Value} {σ : jM} {o : Option ρ} {ls0 : List (Option Value)}
    (hy : plainName y.cls = true) (hls : lvs as ++ List.replicate (mL - (lvs as).length) none = ls0) (hlen : (lvs as).length ≤ mL) (hini : ini = true → y.name = "<init>") (henc : ∀ r, o = some r → (enc r).2.2.2 = (mc, ms))
    (hJ : J l y.cls b mL ret ini (rmD d mc ms) noCx enc Sh 0 0 σ 0 ls0 [] o) : Con l d y b mL ret enc Sh as σ o := by
  intro res hres G sz
  have e1 : (enc res).2.2.2.1 = mc := by rw [henc res hres]
  have e2 : (enc res).2.2.2.2 = ms := by rw [henc res hres]
  rw [e1, e2]
  refine Met.ofW (cc := b) (maxL := mL) (ret := ret) hy rfl ?_
  intro p e s m args below meth c s₁ B hml hv
  obtain ⟨rfl, hsz, hE, hW⟩ := hv
  subst hsz
  have hts := atoms_spec (ws := wsU y b mL ret) B.pre
  have hlv := lv_entry (as.map (rnV G.2.1)) (n := mL) (by rw [lg_len]; exact hlen)
  rw [lg_entry_eq]
  have hK := hJ res hres p e s m (as.map (rnV G.2.1)).toArray below meth c G (va_A (wsG G Sh σ) s.heap.size) (MQ below (conQ (enc res) G Sh σ s.heap.size) (as.map (rnV G.2.1)).toArray s mc ms (va_A (wsG G Sh σ) s.heap.size)) s.heap [] _
    ⟨B.exec, B.bytes, hml, B.returns, findClass_of_methodNamed B.named, fun w hw => hts w (List.mem_cons_of_mem _ hw), B.notSynchronized, fun hi => (name_of_methodNamed B.named B.method).1.trans (hini hi), hE, trivial, fun q hq => Or.inr hq⟩
    (fun G' H' locs' pc' lsA' hag hW' hS' hr => ?_) (hW.dom (fun k q hk _ => va_A.in hk)) va_S.rf ⟨hlv.1, hlv.2.1, fun i v hi => ?_⟩
  · exact hK
  · have hwd : ∀ t : State, t.heap = H' → s.WarmedH t.vm → Wd G' (enc res).2.2.1 (enc res).2.1 t (va_A (wsG G Sh σ) s.heap.size) t.heap := fun t ht hw => by rw [ht]; exact hW'.moved hw.alike
    rw [e1, e2]
    rcases hr with ⟨hv, hret, hd⟩ | ⟨x, hv, ⟨ty, hret, hn⟩, hd⟩ | ⟨x, hv, hret, hd⟩ | ⟨x, hv, ⟨nm, hret⟩, hd⟩
    · rw [hv]
      exact W.vret B.exec B.bytes (B.returns.trans hret) (fun t ht hw => ⟨⟨G', hag, by rw [hv]; rfl, hwd t ht hw⟩, hS'.F ht⟩) hS'.2.2 hd
    · rw [hv]
      exact W.zret B.exec B.bytes (B.returns.trans hret) hn (fun t ht hw => ⟨⟨G', hag, by rw [hv]; rfl, hwd t ht hw⟩, hS'.F ht⟩) hS'.2.2 hd
    · rw [hv]
      exact W.lret B.exec B.bytes (B.returns.trans hret) (fun t ht hw => ⟨⟨G', hag, by rw [hv]; rfl, hwd t ht hw⟩, hS'.F ht⟩) hS'.2.2 hd
    · rw [hv]
      exact W.aret (v := .ref (G'.2.1 x)) B.exec B.bytes (B.returns.trans hret) (Or.inl ⟨nm, rfl⟩) (Or.inr ⟨_, rfl⟩) (fun t ht hw => ⟨⟨G', hag, by rw [hv]; rfl, hwd t ht hw⟩, hS'.F ht⟩) hS'.2.2 hd
  · refine hlv.2.2 (i, rnV G.2.1 v) ?_
    rw [← hls] at hi
    have h2 : (lvs as)[i]? = some (some v) := by
      by_cases hlt : i < (lvs as).length
      · rwa [List.getElem?_append_left hlt] at hi
      · rw [List.getElem?_append_right (by omega)] at hi
        have h3 := List.eq_of_mem_replicate (List.mem_of_getElem? hi)
        cases h3
    simpa using lvs_args (ad := G.2.1) (o := 0) h2
def Cal (y : MethodName) (b : ByteArray) (mL : Nat) (ret : Option FieldType) (nA : Nat) : Prop := Cond.code y b mL ret ∈ TBW ∧ Cond.initialized y.cls ∈ TBW ∧ y.cls ≠ "java/lang/invoke/MethodHandle" ∧ y.cls ≠ "java/lang/invoke/VarHandle" ∧ (parseMethodDescriptor y.desc).map (fun d => d.parameters.length) = some nA
def Lnk (own : String) (idx : Nat) (y : MethodName) : Prop := Cond.methodLink own idx y ∈ TBW ∨ ∃ host, Cond.methodLinkNest own idx y host ∈ NW
theorem wsU_good {y : MethodName} {b : ByteArray} {mL : Nat} {ret : Option FieldType} (h : Cond.code y b mL ret ∈ TBW) : GoodIn TBW (wsU y b mL ret) := by
  intro w hw
  rcases List.mem_cons.mp hw with rfl | hw
  · exact ⟨h, good_of_word (List.mem_filter.mp h).2⟩
  · exact ⟨hw, good_of_word (List.mem_filter.mp hw).2⟩
theorem conP_blind {as : List Value} {G : jG} {Sh : List jC} {σ : jM} {sz : Nat} : FrameBlind (conP as G Sh σ sz) := by
  intro a U g mk h
  obtain ⟨h1, h2, h3, h4⟩ := h
  have h5 : Env G.2.1 (va_A (wsG G Sh σ) sz) (U.calling g mk a) U.heap := Env.same (s := U) (U := U.calling g mk a) rfl h3
  have h6 : Wd G Sh σ (U.calling g mk a) (fun _ => True) U.heap := Wd.moved (s := U) (t := U.calling g mk a) (Vm.Alike.refl U.vm) h4
  exact ⟨h1, h2, h5, h6⟩
section Calls2
variable {p : Program} {l : Launch} {e : Jvm.Env} {R : Room} {s : State} {m : MethodId} {args : Array Value} {below : List Frame} {meth : Method} {c : Code} {G : jG} {A : Nat → Prop} {H : Heap} {locs : List Loc} {Sh : List jC} {σ : jM}
theorem conA {q : Nat} (hW : Wd G Sh σ s A H) (hS : va_S A s.heap H locs) (hA : ∀ q, s.heap.size ≤ q → A q) (h : va_A (wsG G Sh σ) H.size q) : A q := by
  rcases h with ⟨k, e, h⟩ | h
  · exact hW.2.2.1.2 k _ h
  · exact hA q (Nat.le_trans hS.1 h)
theorem conP_at {as : List Value} {U : State} (hE : Env G.2.1 A s s.heap) (hW : Wd G Sh σ s A H) (hS : va_S A s.heap H locs) (hA : ∀ q, s.heap.size ≤ q → A q) (hU : U.heap = H) (hw : s.WarmedH U.vm) : conP as G Sh σ H.size (as.map (rnV G.2.1)).toArray U := by
  refine ⟨rfl, by rw [hU], ?_, ?_⟩
  · rw [hU]
    exact ((hE.kept hS.2.1).narrow (fun q hq => conA hW hS hA hq)).warm hw
  · rw [hU]
    exact (hW.moved hw.alike).dom (fun _ _ _ _ => trivial)
theorem jv_call {Q : State → Prop} {k n mc ms : Nat} {pc : Nat} {lsA : Array Slot} {st0 rest : List Value} {rs : jR} {a : Array Value}
    (hr : va_Run p l e R s m args below meth c H locs k n mc ms (F0 m pc lsA st0) rest (conQ rs G Sh σ H.size a) (va_A (wsG G Sh σ) H.size)) (hW : Wd G Sh σ s A H) (hS : va_S A s.heap H locs) (hA : ∀ q, s.heap.size ≤ q → A q)
    (kk : ∀ (G' : jG) (H1 : Heap) (locs1 : List Loc), jAg Sh.length rs.2.2.1.length G G' → Wd G' rs.2.2.1 rs.2.1 s A H1 → va_S A s.heap H1 locs1 → W p l e R s m args below meth c H1 locs1 (k + mc) (n + ms) Q (F0 m (pc + 3) lsA ((rs.1.map (rnV G'.2.1)).toList ++ rest))) :
    W p l e R s m args below meth c H locs k n Q (F0 m pc lsA st0) := by
  intro T hT X
  obtain ⟨v, st₀, t, T', L, h0, X', hL, e1, e2, ⟨⟨G', hag, hv, hw⟩, hz, hk⟩, st⟩ := hr T hT X
  rw [h0] at hz hk
  cases hv
  have hal : s.vm.Alike t.vm := by rw [← e2]; exact X'.warmed.alike
  have hS1 : va_S A s.heap T'.heap (locs ++ L) := ⟨Nat.le_trans hS.1 (by rw [e1]; exact hz), fun q h1 h2 => by
      rw [e1, hk q (Nat.lt_of_lt_of_le h1 hS.1) (fun z => h2 (conA hW hS hA z))]
      exact hS.2.1 q h1 h2, fun q hq => by
      rcases List.mem_append.mp hq with h | h
      · exact hS.2.2 q h
      · exact conA hW hS hA (hL q h)⟩
  obtain ⟨t2, a1, b1⟩ := kk G' T'.heap (locs ++ L) hag (by rw [e1]; exact (hw.moved hal.symm).dom (fun k q _ h => conA hW hS hA h)) hS1 T' rfl X'
  exact ⟨t2, st t2 a1, b1⟩
def Rcv (Sh : List jC) (a : Nat) (C : String) : Prop := (∃ (ci : Nat) (sl : List jS) (q : vw_C), Sh[a]? = some (.inr (ci, sl)) ∧ vwCl[ci]? = some q ∧ q.1 = C) ∨ (∃ i, a = 1000 + i ∧ i < 8 ∧ C = "java/lang/String")
theorem Rcv.cell {a : Nat} {C : String} (h : Rcv Sh a C) (hE : Env G.2.1 A s s.heap) (hW : Wd G Sh σ s A H) (hS : va_S A s.heap H locs) : ∃ cell : Cell, H[G.2.1 a]? = some cell ∧ cell.vm.isStatics = false ∧ s.vm.findClass C = some cell.cls := by
  rcases h with ⟨ci, sl, q, h1, h2, rfl⟩ | ⟨i, rfl, hi, rfl⟩
  · exact va_recv hW.2.1 hW.1 h2 (wsG_at h1)
  · have h9 := vk_recv (i := i) hE.2.2.1 hi hS
    exact h9
variable {y : MethodName} {b cc : ByteArray} {mL nL mc ms nA idx d : Nat} {rt ret : Option FieldType} {own : String} {ini : Bool} {Cx : jG → State → (Nat → Prop) → Prop} {as rest : List Value} {pc k n : Nat} {lsA : Array Slot} {Qc : Array Value → State → Outcome → State → Prop} {free : Addr → Prop} {Pc : Array Value → State → Prop}
theorem run_S (C : Ctx own cc nL ret ini Cx p s m args meth c G A) (hM : Met l y (wsU y b mL rt) (rmD d mc ms) Pc Qc mc ms free) (hc : Cal y b mL rt nA) (hl : Lnk own idx y) (hst : Cond.static y ∈ TBW) (hp : PreS s H Pc as)
    (hn : as.length = nA) (hsz : lsA.size = nL) (hR : d + 1 ≤ R.frames ∧ 19 + mL + 64 * d ≤ R.locals) (hcat : (rest.map fun v => v.category).sum ≤ 8) (hf : k + mc ≤ R.cells ∧ n + ms ≤ R.slots) (hdg : decode cc pc = .ok (.invokestatic idx, 3)) :
    va_Run p l e R s m args below meth c H locs k n mc ms (F0 m pc lsA (as.reverse ++ rest)) rest (Qc as.toArray) free := by
  have hts := C.2.2.2.2.2.1
  have S : CallFix p m c cc nL s args TBW own := ⟨C.1, C.2.1, C.2.2.1, C.2.2.2.2.1, hts⟩
  have hpay := pay_in hts (wsU_good hc.1)
  have hlen : ∀ sig, parseMethodDescriptor y.desc = some sig → nA = sig.parameters.length := fun sig h => by
    have h2 := hc.2.2.2.2
    rw [h] at h2
    exact (Option.some.inj h2).symm
  have hlo : 8 + (mL + 11) + (rmD d mc ms).locals ≤ R.locals := by show 8 + (mL + 11) + 64 * d ≤ R.locals; omega
  rcases hl with hl | ⟨host, hl⟩
  · exact va_runS S hM ⟨⟨rfl, rfl, hR.1, hlo, hpay, List.mem_cons_self, hts _ hc.1, hts _ hc.2.1, ⟨hc.2.2.1, hc.2.2.2.1⟩, hlen, hts _ hl⟩, hts _ hst⟩ hp rfl hn hsz rfl (lv_room (pc := pc) (ls := lsA) hcat) hdg hf
  · exact va_runSN S hM ⟨⟨⟨rfl, rfl, hR.1, hlo, hpay, List.mem_cons_self⟩, hts _ hc.1, hts _ hc.2.1, ⟨hc.2.2.1, hc.2.2.2.1⟩, hlen, va_Nw.use rfl (C.2.2.2.2.2.2.2.2.1.1 _ hl)⟩, hts _ hst, trivial⟩ hp rfl hn hsz rfl (lv_room (pc := pc) (ls := lsA) hcat) hdg hf
theorem run_V {a : Nat} (C : Ctx own cc nL ret ini Cx p s m args meth c G A) (hM : Met l y (wsU y b mL rt) (rmD d mc ms) Pc Qc mc ms free) (hc : Cal y b mL rt nA) (hl : Lnk own idx y) (hin : Cond.instanceMethod y ∈ TBW) (hse : Cond.selects y.cls y y ∈ TBW) (hp : PreV s H y.cls a Pc as)
    (hn : as.length = nA) (hsz : lsA.size = nL) (hR : d + 1 ≤ R.frames ∧ 19 + mL + 64 * d ≤ R.locals) (hcat : (rest.map fun v => v.category).sum ≤ 8) (hf : k + mc ≤ R.cells ∧ n + ms ≤ R.slots) (hdg : decode cc pc = .ok (.invokevirtual idx, 3)) :
    va_Run p l e R s m args below meth c H locs k n mc ms (F0 m pc lsA (as.reverse ++ .ref a :: rest)) rest (Qc (Value.ref a :: as).toArray) free := by
  have hts := C.2.2.2.2.2.1
  have S : CallFix p m c cc nL s args TBW own := ⟨C.1, C.2.1, C.2.2.1, C.2.2.2.2.1, hts⟩
  have hpay := pay_in hts (wsU_good hc.1)
  have hlen : ∀ sig, parseMethodDescriptor y.desc = some sig → nA = sig.parameters.length := fun sig h => by
    have h2 := hc.2.2.2.2
    rw [h] at h2
    exact (Option.some.inj h2).symm
  have hlo : 8 + (mL + 11) + (rmD d mc ms).locals ≤ R.locals := by show 8 + (mL + 11) + 64 * d ≤ R.locals; omega
  rcases hl with hl | ⟨host, hl⟩
  · exact va_runV S hM ⟨⟨rfl, rfl, hR.1, hlo, hpay, List.mem_cons_self, hts _ hc.1, hts _ hc.2.1, ⟨hc.2.2.1, hc.2.2.2.1⟩, hlen, hts _ hl⟩, hts _ hin, hts _ hse⟩ hp rfl hn hsz rfl (lv_room (pc := pc) (ls := lsA) hcat) hdg hf
  · exact va_runVN S hM ⟨⟨⟨rfl, rfl, hR.1, hlo, hpay, List.mem_cons_self⟩, hts _ hc.1, hts _ hc.2.1, ⟨hc.2.2.1, hc.2.2.2.1⟩, hlen, va_Nw.use rfl (C.2.2.2.2.2.2.2.2.1.1 _ hl)⟩, hts _ hin, hts _ hse⟩ hp rfl hn hsz rfl (lv_room (pc := pc) (ls := lsA) hcat) hdg hf
theorem run_I {a : Nat} (C : Ctx own cc nL ret ini Cx p s m args meth c G A) (hM : Met l y (wsU y b mL none) (rmD d mc ms) Pc Qc mc ms free) (hc : Cal y b mL none nA) (hl : Lnk own idx y) (hin : Cond.instanceMethod y ∈ TBW) (hy1 : y.name = "<init>") (hp : PreS s H Pc (.ref a :: as))
    (hn : as.length = nA) (hsz : lsA.size = nL) (hR : d + 1 ≤ R.frames ∧ 19 + mL + 64 * d ≤ R.locals) (hcat : (rest.map fun v => v.category).sum ≤ 8) (hf : k + mc ≤ R.cells ∧ n + ms ≤ R.slots) (hdg : decode cc pc = .ok (.invokespecial idx, 3)) :
    va_Run p l e R s m args below meth c H locs k n mc ms (F0 m pc lsA (as.reverse ++ .ref a :: rest)) rest (Qc (Value.ref a :: as).toArray) free := by
  have hts := C.2.2.2.2.2.1
  have S : CallFix p m c cc nL s args TBW own := ⟨C.1, C.2.1, C.2.2.1, C.2.2.2.2.1, hts⟩
  have hpay := pay_in hts (wsU_good hc.1)
  have hlen : ∀ sig, parseMethodDescriptor y.desc = some sig → nA = sig.parameters.length := fun sig h => by
    have h2 := hc.2.2.2.2
    rw [h] at h2
    exact (Option.some.inj h2).symm
  have hlo : 8 + (mL + 11) + (rmD d mc ms).locals ≤ R.locals := by show 8 + (mL + 11) + 64 * d ≤ R.locals; omega
  rcases hl with hl | ⟨host, hl⟩
  · exact va_runI S hM ⟨⟨rfl, rfl, hR.1, hlo, hpay, List.mem_cons_self, hts _ hc.1, hts _ hc.2.1, ⟨hc.2.2.1, hc.2.2.2.1⟩, hlen, hts _ hl⟩, hy1, hts _ hin⟩ hp rfl hn hsz rfl (lv_room (pc := pc) (ls := lsA) hcat) hdg hf
  · exact va_runIN S hM ⟨⟨⟨rfl, rfl, hR.1, hlo, hpay, List.mem_cons_self⟩, hts _ hc.1, hts _ hc.2.1, ⟨hc.2.2.1, hc.2.2.2.1⟩, hlen, va_Nw.use rfl (C.2.2.2.2.2.2.2.2.1.1 _ hl)⟩, hy1, hts _ hin⟩ hp rfl hn hsz rfl (lv_room (pc := pc) (ls := lsA) hcat) hdg hf
end Calls2
theorem map_rev_app (ad : Nat → Nat) (as rest : List Value) : (as.reverse ++ rest).map (rnV ad) = (as.map (rnV ad)).reverse ++ rest.map (rnV ad) := by simp
theorem map_cat (ad : Nat → Nat) (l : List Value) : ((l.map (rnV ad)).map fun v => v.category) = l.map fun v => v.category := by simp [rnV_cat]
/-! encoders of results -/
def eI (Sh : List jC) (σ : jM) : Int32 → jR := fun r => (some (.int r), σ, Sh, 0, 0)
def eIM (Sh : List jC) : Int32 × jM → jR := fun r => (some (.int r.1), r.2, Sh, 0, 0)
def eL (Sh : List jC) (σ : jM) : Int64 → jR := fun r => (some (.long r), σ, Sh, 0, 0)
def eLM (Sh : List jC) : Int64 × jM → jR := fun r => (some (.long r.1), r.2, Sh, 0, 0)
def eV (Sh : List jC) : jM → jR := fun r => (none, r, Sh, 0, 0)
def eR (Sh : List jC) (σ : jM) : Nat → jR := fun r => (some (.ref r), σ, Sh, 0, 0)
section Calls3
variable {l : Launch} {own : String} {cc : ByteArray} {nL : Nat} {ret : Option FieldType} {ini : Bool} {R : Room} {Cx : jG → State → (Nat → Prop) → Prop} {ρ ρ' : Type} {enc : ρ → jR} {enc' : ρ' → jR} {Sh : List jC} {k n : Nat} {σ : jM} {pc : Nat} {ls : List (Option Value)} {rest st : List Value} {o' : Option ρ'} {f : ρ' → Option ρ}
variable {y : MethodName} {b : ByteArray} {mL nA idx d : Nat} {rt : Option FieldType}
theorem J_callS0 (as : List Value) (hd : decode cc pc = .ok (.invokestatic idx, 3)) (hc : Cal y b mL rt nA) (hl : Lnk own idx y) (hst : Cond.static y ∈ TBW) (hst0 : as.reverse ++ rest = st) (hn : as.length = nA) (hR : d + 1 ≤ R.frames ∧ 19 + mL + 64 * d ≤ R.locals) (hcat : (rest.map fun v => v.category).sum ≤ 8) (hkn : k ≤ R.cells ∧ n ≤ R.slots)
    (hcon : Con l d y b mL rt enc' Sh as σ o') (henc : ∀ r, ∃ rv σ', enc' r = (rv, σ', Sh, 0, 0))
    (kk : ∀ r, o' = some r → J l own cc nL ret ini R Cx enc Sh k n (enc' r).2.1 (pc + 3) ls ((enc' r).1.toList ++ rest) (f r)) : J l own cc nL ret ini R Cx enc Sh k n σ pc ls st (o'.bind f) := by
  intro res h p e s m args below meth c G A Q H locs lsA C K hW hS hlv
  cases ho : o' with
  | none => rw [ho] at h; cases h
  | some r =>
    rw [ho] at h
    have hM := hcon r ho G H.size
    obtain ⟨rv, σ', hr⟩ := henc r
    have k1 := kk r ho res h p e s m args below meth c G A Q
    rw [hr] at hM k1
    subst hst0
    rw [map_rev_app]
    refine jv_call (run_S C hM hc hl hst ⟨conP_blind, fun U hU hw => conP_at C.2.2.2.2.2.2.2.2.1 hW hS C.2.2.2.2.2.2.2.2.2.2 hU hw⟩ (by rw [List.length_map]; exact hn) hlv.1 hR (by rw [map_cat]; exact hcat) hkn hd) hW hS C.2.2.2.2.2.2.2.2.2.2 (fun G' H1 locs1 hag hW1 hS1 => ?_)
    have hG : G' = G := hag.2.2.2.2 rfl
    subst hG
    have k2 := k1 H1 locs1 lsA C K hW1 hS1 hlv
    cases rv with
    | none => exact k2
    | some v => exact k2
theorem J_callV0 (a : Nat) (as : List Value) (hd : decode cc pc = .ok (.invokevirtual idx, 3)) (hc : Cal y b mL rt nA) (hl : Lnk own idx y) (hin : Cond.instanceMethod y ∈ TBW ∧ Cond.selects y.cls y y ∈ TBW) (hrc : Rcv Sh a y.cls) (hst0 : as.reverse ++ .ref a :: rest = st) (hn : as.length = nA) (hR : d + 1 ≤ R.frames ∧ 19 + mL + 64 * d ≤ R.locals) (hcat : (rest.map fun v => v.category).sum ≤ 8) (hkn : k ≤ R.cells ∧ n ≤ R.slots)
    (hcon : Con l d y b mL rt enc' Sh (.ref a :: as) σ o') (henc : ∀ r, ∃ rv σ', enc' r = (rv, σ', Sh, 0, 0))
    (kk : ∀ r, o' = some r → J l own cc nL ret ini R Cx enc Sh k n (enc' r).2.1 (pc + 3) ls ((enc' r).1.toList ++ rest) (f r)) : J l own cc nL ret ini R Cx enc Sh k n σ pc ls st (o'.bind f) := by
  intro res h p e s m args below meth c G A Q H locs lsA C K hW hS hlv
  cases ho : o' with
  | none => rw [ho] at h; cases h
  | some r =>
    rw [ho] at h
    have hM := hcon r ho G H.size
    obtain ⟨rv, σ', hr⟩ := henc r
    have k1 := kk r ho res h p e s m args below meth c G A Q
    rw [hr] at hM k1
    subst hst0
    rw [map_rev_app]
    refine jv_call (run_V (a := G.2.1 a) C hM hc hl hin.1 hin.2 ⟨conP_blind, hrc.cell C.2.2.2.2.2.2.2.2.1 hW hS, fun U hU hw => conP_at (as := .ref a :: as) C.2.2.2.2.2.2.2.2.1 hW hS C.2.2.2.2.2.2.2.2.2.2 hU hw⟩ (by rw [List.length_map]; exact hn) hlv.1 hR (by rw [map_cat]; exact hcat) hkn hd) hW hS C.2.2.2.2.2.2.2.2.2.2 (fun G' H1 locs1 hag hW1 hS1 => ?_)
    have hG : G' = G := hag.2.2.2.2 rfl
    subst hG
    have k2 := k1 H1 locs1 lsA C K hW1 hS1 hlv
    cases rv with
    | none => exact k2
    | some v => exact k2
theorem J_callSI {o1 : Option Int32} {g : Int32 → Option ρ} (as : List Value) (hd : decode cc pc = .ok (.invokestatic idx, 3)) (hc : Cal y b mL rt nA) (hl : Lnk own idx y) (hst : Cond.static y ∈ TBW) (hst0 : as.reverse ++ rest = st) (hn : as.length = nA) (hR : d + 1 ≤ R.frames ∧ 19 + mL + 64 * d ≤ R.locals) (hcat : (rest.map fun v => v.category).sum ≤ 8) (hkn : k ≤ R.cells ∧ n ≤ R.slots) (hcon : Con l d y b mL rt (eI Sh σ) Sh as σ o1) (kk : ∀ r, o1 = some r → J l own cc nL ret ini R Cx enc Sh k n (σ) (pc + 3) ls (.int r :: rest) (g r)) : J l own cc nL ret ini R Cx enc Sh k n σ pc ls st (o1.bind g) := J_callS0 as hd hc hl hst hst0 hn hR hcat hkn hcon (fun r => ⟨_, _, rfl⟩) kk
theorem J_callVI {o1 : Option Int32} {g : Int32 → Option ρ} (a : Nat) (as : List Value) (hd : decode cc pc = .ok (.invokevirtual idx, 3)) (hc : Cal y b mL rt nA) (hl : Lnk own idx y) (hin : Cond.instanceMethod y ∈ TBW ∧ Cond.selects y.cls y y ∈ TBW) (hrc : Rcv Sh a y.cls) (hst0 : as.reverse ++ .ref a :: rest = st) (hn : as.length = nA) (hR : d + 1 ≤ R.frames ∧ 19 + mL + 64 * d ≤ R.locals) (hcat : (rest.map fun v => v.category).sum ≤ 8) (hkn : k ≤ R.cells ∧ n ≤ R.slots) (hcon : Con l d y b mL rt (eI Sh σ) Sh (.ref a :: as) σ o1) (kk : ∀ r, o1 = some r → J l own cc nL ret ini R Cx enc Sh k n (σ) (pc + 3) ls (.int r :: rest) (g r)) : J l own cc nL ret ini R Cx enc Sh k n σ pc ls st (o1.bind g) := J_callV0 a as hd hc hl hin hrc hst0 hn hR hcat hkn hcon (fun r => ⟨_, _, rfl⟩) kk
theorem J_callSIM {o1 : Option (Int32 × jM)} {g : (Int32 × jM) → Option ρ} (as : List Value) (hd : decode cc pc = .ok (.invokestatic idx, 3)) (hc : Cal y b mL rt nA) (hl : Lnk own idx y) (hst : Cond.static y ∈ TBW) (hst0 : as.reverse ++ rest = st) (hn : as.length = nA) (hR : d + 1 ≤ R.frames ∧ 19 + mL + 64 * d ≤ R.locals) (hcat : (rest.map fun v => v.category).sum ≤ 8) (hkn : k ≤ R.cells ∧ n ≤ R.slots) (hcon : Con l d y b mL rt (eIM Sh) Sh as σ o1) (kk : ∀ r, o1 = some r → J l own cc nL ret ini R Cx enc Sh k n (r.2) (pc + 3) ls (.int r.1 :: rest) (g r)) : J l own cc nL ret ini R Cx enc Sh k n σ pc ls st (o1.bind g) := J_callS0 as hd hc hl hst hst0 hn hR hcat hkn hcon (fun r => ⟨_, _, rfl⟩) kk
theorem J_callVIM {o1 : Option (Int32 × jM)} {g : (Int32 × jM) → Option ρ} (a : Nat) (as : List Value) (hd : decode cc pc = .ok (.invokevirtual idx, 3)) (hc : Cal y b mL rt nA) (hl : Lnk own idx y) (hin : Cond.instanceMethod y ∈ TBW ∧ Cond.selects y.cls y y ∈ TBW) (hrc : Rcv Sh a y.cls) (hst0 : as.reverse ++ .ref a :: rest = st) (hn : as.length = nA) (hR : d + 1 ≤ R.frames ∧ 19 + mL + 64 * d ≤ R.locals) (hcat : (rest.map fun v => v.category).sum ≤ 8) (hkn : k ≤ R.cells ∧ n ≤ R.slots) (hcon : Con l d y b mL rt (eIM Sh) Sh (.ref a :: as) σ o1) (kk : ∀ r, o1 = some r → J l own cc nL ret ini R Cx enc Sh k n (r.2) (pc + 3) ls (.int r.1 :: rest) (g r)) : J l own cc nL ret ini R Cx enc Sh k n σ pc ls st (o1.bind g) := J_callV0 a as hd hc hl hin hrc hst0 hn hR hcat hkn hcon (fun r => ⟨_, _, rfl⟩) kk
theorem J_callSL {o1 : Option Int64} {g : Int64 → Option ρ} (as : List Value) (hd : decode cc pc = .ok (.invokestatic idx, 3)) (hc : Cal y b mL rt nA) (hl : Lnk own idx y) (hst : Cond.static y ∈ TBW) (hst0 : as.reverse ++ rest = st) (hn : as.length = nA) (hR : d + 1 ≤ R.frames ∧ 19 + mL + 64 * d ≤ R.locals) (hcat : (rest.map fun v => v.category).sum ≤ 8) (hkn : k ≤ R.cells ∧ n ≤ R.slots) (hcon : Con l d y b mL rt (eL Sh σ) Sh as σ o1) (kk : ∀ r, o1 = some r → J l own cc nL ret ini R Cx enc Sh k n (σ) (pc + 3) ls (.long r :: rest) (g r)) : J l own cc nL ret ini R Cx enc Sh k n σ pc ls st (o1.bind g) := J_callS0 as hd hc hl hst hst0 hn hR hcat hkn hcon (fun r => ⟨_, _, rfl⟩) kk
theorem J_callVL {o1 : Option Int64} {g : Int64 → Option ρ} (a : Nat) (as : List Value) (hd : decode cc pc = .ok (.invokevirtual idx, 3)) (hc : Cal y b mL rt nA) (hl : Lnk own idx y) (hin : Cond.instanceMethod y ∈ TBW ∧ Cond.selects y.cls y y ∈ TBW) (hrc : Rcv Sh a y.cls) (hst0 : as.reverse ++ .ref a :: rest = st) (hn : as.length = nA) (hR : d + 1 ≤ R.frames ∧ 19 + mL + 64 * d ≤ R.locals) (hcat : (rest.map fun v => v.category).sum ≤ 8) (hkn : k ≤ R.cells ∧ n ≤ R.slots) (hcon : Con l d y b mL rt (eL Sh σ) Sh (.ref a :: as) σ o1) (kk : ∀ r, o1 = some r → J l own cc nL ret ini R Cx enc Sh k n (σ) (pc + 3) ls (.long r :: rest) (g r)) : J l own cc nL ret ini R Cx enc Sh k n σ pc ls st (o1.bind g) := J_callV0 a as hd hc hl hin hrc hst0 hn hR hcat hkn hcon (fun r => ⟨_, _, rfl⟩) kk
theorem J_callSLM {o1 : Option (Int64 × jM)} {g : (Int64 × jM) → Option ρ} (as : List Value) (hd : decode cc pc = .ok (.invokestatic idx, 3)) (hc : Cal y b mL rt nA) (hl : Lnk own idx y) (hst : Cond.static y ∈ TBW) (hst0 : as.reverse ++ rest = st) (hn : as.length = nA) (hR : d + 1 ≤ R.frames ∧ 19 + mL + 64 * d ≤ R.locals) (hcat : (rest.map fun v => v.category).sum ≤ 8) (hkn : k ≤ R.cells ∧ n ≤ R.slots) (hcon : Con l d y b mL rt (eLM Sh) Sh as σ o1) (kk : ∀ r, o1 = some r → J l own cc nL ret ini R Cx enc Sh k n (r.2) (pc + 3) ls (.long r.1 :: rest) (g r)) : J l own cc nL ret ini R Cx enc Sh k n σ pc ls st (o1.bind g) := J_callS0 as hd hc hl hst hst0 hn hR hcat hkn hcon (fun r => ⟨_, _, rfl⟩) kk
theorem J_callVLM {o1 : Option (Int64 × jM)} {g : (Int64 × jM) → Option ρ} (a : Nat) (as : List Value) (hd : decode cc pc = .ok (.invokevirtual idx, 3)) (hc : Cal y b mL rt nA) (hl : Lnk own idx y) (hin : Cond.instanceMethod y ∈ TBW ∧ Cond.selects y.cls y y ∈ TBW) (hrc : Rcv Sh a y.cls) (hst0 : as.reverse ++ .ref a :: rest = st) (hn : as.length = nA) (hR : d + 1 ≤ R.frames ∧ 19 + mL + 64 * d ≤ R.locals) (hcat : (rest.map fun v => v.category).sum ≤ 8) (hkn : k ≤ R.cells ∧ n ≤ R.slots) (hcon : Con l d y b mL rt (eLM Sh) Sh (.ref a :: as) σ o1) (kk : ∀ r, o1 = some r → J l own cc nL ret ini R Cx enc Sh k n (r.2) (pc + 3) ls (.long r.1 :: rest) (g r)) : J l own cc nL ret ini R Cx enc Sh k n σ pc ls st (o1.bind g) := J_callV0 a as hd hc hl hin hrc hst0 hn hR hcat hkn hcon (fun r => ⟨_, _, rfl⟩) kk
theorem J_callSV {o1 : Option jM} {g : jM → Option ρ} (as : List Value) (hd : decode cc pc = .ok (.invokestatic idx, 3)) (hc : Cal y b mL rt nA) (hl : Lnk own idx y) (hst : Cond.static y ∈ TBW) (hst0 : as.reverse ++ rest = st) (hn : as.length = nA) (hR : d + 1 ≤ R.frames ∧ 19 + mL + 64 * d ≤ R.locals) (hcat : (rest.map fun v => v.category).sum ≤ 8) (hkn : k ≤ R.cells ∧ n ≤ R.slots) (hcon : Con l d y b mL rt (eV Sh) Sh as σ o1) (kk : ∀ r, o1 = some r → J l own cc nL ret ini R Cx enc Sh k n (r) (pc + 3) ls (rest) (g r)) : J l own cc nL ret ini R Cx enc Sh k n σ pc ls st (o1.bind g) := J_callS0 as hd hc hl hst hst0 hn hR hcat hkn hcon (fun r => ⟨_, _, rfl⟩) kk
theorem J_callVV {o1 : Option jM} {g : jM → Option ρ} (a : Nat) (as : List Value) (hd : decode cc pc = .ok (.invokevirtual idx, 3)) (hc : Cal y b mL rt nA) (hl : Lnk own idx y) (hin : Cond.instanceMethod y ∈ TBW ∧ Cond.selects y.cls y y ∈ TBW) (hrc : Rcv Sh a y.cls) (hst0 : as.reverse ++ .ref a :: rest = st) (hn : as.length = nA) (hR : d + 1 ≤ R.frames ∧ 19 + mL + 64 * d ≤ R.locals) (hcat : (rest.map fun v => v.category).sum ≤ 8) (hkn : k ≤ R.cells ∧ n ≤ R.slots) (hcon : Con l d y b mL rt (eV Sh) Sh (.ref a :: as) σ o1) (kk : ∀ r, o1 = some r → J l own cc nL ret ini R Cx enc Sh k n (r) (pc + 3) ls (rest) (g r)) : J l own cc nL ret ini R Cx enc Sh k n σ pc ls st (o1.bind g) := J_callV0 a as hd hc hl hin hrc hst0 hn hR hcat hkn hcon (fun r => ⟨_, _, rfl⟩) kk
theorem J_callSR {o1 : Option Nat} {g : Nat → Option ρ} (as : List Value) (hd : decode cc pc = .ok (.invokestatic idx, 3)) (hc : Cal y b mL rt nA) (hl : Lnk own idx y) (hst : Cond.static y ∈ TBW) (hst0 : as.reverse ++ rest = st) (hn : as.length = nA) (hR : d + 1 ≤ R.frames ∧ 19 + mL + 64 * d ≤ R.locals) (hcat : (rest.map fun v => v.category).sum ≤ 8) (hkn : k ≤ R.cells ∧ n ≤ R.slots) (hcon : Con l d y b mL rt (eR Sh σ) Sh as σ o1) (kk : ∀ r, o1 = some r → J l own cc nL ret ini R Cx enc Sh k n (σ) (pc + 3) ls (.ref r :: rest) (g r)) : J l own cc nL ret ini R Cx enc Sh k n σ pc ls st (o1.bind g) := J_callS0 as hd hc hl hst hst0 hn hR hcat hkn hcon (fun r => ⟨_, _, rfl⟩) kk
theorem J_callVR {o1 : Option Nat} {g : Nat → Option ρ} (a : Nat) (as : List Value) (hd : decode cc pc = .ok (.invokevirtual idx, 3)) (hc : Cal y b mL rt nA) (hl : Lnk own idx y) (hin : Cond.instanceMethod y ∈ TBW ∧ Cond.selects y.cls y y ∈ TBW) (hrc : Rcv Sh a y.cls) (hst0 : as.reverse ++ .ref a :: rest = st) (hn : as.length = nA) (hR : d + 1 ≤ R.frames ∧ 19 + mL + 64 * d ≤ R.locals) (hcat : (rest.map fun v => v.category).sum ≤ 8) (hkn : k ≤ R.cells ∧ n ≤ R.slots) (hcon : Con l d y b mL rt (eR Sh σ) Sh (.ref a :: as) σ o1) (kk : ∀ r, o1 = some r → J l own cc nL ret ini R Cx enc Sh k n (σ) (pc + 3) ls (.ref r :: rest) (g r)) : J l own cc nL ret ini R Cx enc Sh k n σ pc ls st (o1.bind g) := J_callV0 a as hd hc hl hin hrc hst0 hn hR hcat hkn hcon (fun r => ⟨_, _, rfl⟩) kk
end Calls3
end
section
theorem nch_u (x : Int32) : (x.toUInt32.toUInt16.toUInt32) = x.toUInt32 % 65536 := by
  apply UInt32.toNat_inj.mp
  simp
section Rows4
variable {l : Launch} {own : String} {cc : ByteArray} {nL : Nat} {ret : Option FieldType} {ini : Bool} {R : Room} {Cx : jG → State → (Nat → Prop) → Prop} {ρ : Type} {enc : ρ → jR} {Sh : List jC} {k n : Nat} {σ : jM} {pc : Nat} {ls : List (Option Value)} {rest : List Value} {o o2 : Option ρ}
theorem J_join {κ : Type} {kf : κ} {f : κ → Option ρ} {st : List Value} (P : κ → Prop) (hk : P kf) (kk : ∀ j, P j → J l own cc nL ret ini R Cx enc Sh k n σ pc ls st (f j)) : J l own cc nL ret ini R Cx enc Sh k n σ pc ls st (jn_ kf f) := kk kf hk
theorem J_istore_nN {a : Fin 4} {i : Nat} {x : Int32} {LS : Int32 → List (Option Value)} {f : Int32 → Option ρ} (hd : decode cc pc = .ok (.istore_n a, 1)) (hi : (a : Nat) = i) (hs : ∀ y, stI ls i (.int y) = LS y) (hn : i < nL) (kk : ∀ y, J l own cc nL ret ini R Cx enc Sh k n σ (pc + 1) (LS y) rest (f y)) : J l own cc nL ret ini R Cx enc Sh k n σ pc ls (.int x :: rest) (lt_ x f) := J_istore_n hd hi (hs x) hn (kk x)
theorem J_istoreN {i : Nat} {x : Int32} {LS : Int32 → List (Option Value)} {f : Int32 → Option ρ} (hd : decode cc pc = .ok (.istore i, 2)) (hs : ∀ y, stI ls i (.int y) = LS y) (hn : i < nL) (kk : ∀ y, J l own cc nL ret ini R Cx enc Sh k n σ (pc + 2) (LS y) rest (f y)) : J l own cc nL ret ini R Cx enc Sh k n σ pc ls (.int x :: rest) (lt_ x f) := J_istore hd (hs x) hn (kk x)
theorem J_lstore_nN {a : Fin 4} {i : Nat} {x : Int64} {LS : Int64 → List (Option Value)} {f : Int64 → Option ρ} (hd : decode cc pc = .ok (.lstore_n a, 1)) (hi : (a : Nat) = i) (hs : ∀ y, stL ls i (.long y) = LS y) (hn : i + 1 < nL) (kk : ∀ y, J l own cc nL ret ini R Cx enc Sh k n σ (pc + 1) (LS y) rest (f y)) : J l own cc nL ret ini R Cx enc Sh k n σ pc ls (.long x :: rest) (lt_ x f) := J_lstore_n hd hi (hs x) hn (kk x)
theorem J_lstoreN {i : Nat} {x : Int64} {LS : Int64 → List (Option Value)} {f : Int64 → Option ρ} (hd : decode cc pc = .ok (.lstore i, 2)) (hs : ∀ y, stL ls i (.long y) = LS y) (hn : i + 1 < nL) (kk : ∀ y, J l own cc nL ret ini R Cx enc Sh k n σ (pc + 2) (LS y) rest (f y)) : J l own cc nL ret ini R Cx enc Sh k n σ pc ls (.long x :: rest) (lt_ x f) := J_lstore hd (hs x) hn (kk x)
theorem J_iincN {i : Nat} {a : Int} {x v : Int32} {LS : Int32 → List (Option Value)} {f : Int32 → Option ρ} (hd : decode cc pc = .ok (.iinc i a, 3)) (hx : ls[i]? = some (some (.int x))) (hv : x + Int32.ofInt a = v) (hs : ∀ y, stI ls i (.int y) = LS y) (hn : i < nL) (kk : ∀ y, J l own cc nL ret ini R Cx enc Sh k n σ (pc + 3) (LS y) rest (f y)) : J l own cc nL ret ini R Cx enc Sh k n σ pc ls rest (lt_ v f) := J_iinc hd hx hv (hs v) hn (kk v)
theorem J_i2b {x : Int32} (hd : decode cc pc = .ok (.i2b, 1)) (kk : J l own cc nL ret ini R Cx enc Sh k n σ (pc + 1) ls (.int ((Int32.toInt8 x).toInt32) :: rest) o) : J l own cc nL ret ini R Cx enc Sh k n σ pc ls (.int x :: rest) o := fun res h p e s m args below meth c G A Q H locs lsA C K hW hS hl => lv_i2b C.1 C.2.1 hd rfl (kk res h p e s m args below meth c G A Q H locs lsA C K hW hS hl)
theorem zb_fit {x : Int32} (h : zb x = true) : fits .boolean (.int x) = true := by
  simp only [zb, Bool.or_eq_true, decide_eq_true_eq] at h
  rcases h with rfl | rfl <;> rfl
theorem ac_nat : Cond.native arraycopyName ∈ TBW := mTB 848 (by decide +kernel) rfl
theorem ac_sta : Cond.static arraycopyName ∈ TBW := mTB 847 (by decide +kernel) rfl
theorem ac_ini : Cond.initialized "java/lang/System" ∈ TBW := mTB 102 (by decide +kernel) rfl
theorem J_copyI {idx a b na nb : Nat} {sp dp q : Int32} (hd : decode cc pc = .ok (.invokestatic idx, 3)) (hlk : Cond.methodLink own idx arraycopyName ∈ TBW) (ha : shA Sh a = some (.int, na)) (hb : shA Sh b = some (.int, nb)) (h1 : ¬ sp < 0) (h2 : ¬ dp < 0) (h3 : ¬ q < 0) (h45 : sp.toNatClampNeg + q.toNatClampNeg ≤ na ∧ dp.toNatClampNeg + q.toNatClampNeg ≤ nb) (hR : 1 ≤ R.frames ∧ (rest.map fun v => v.category).sum + (nativeFrameWords "java/lang/System" "arraycopy" 5 + 11) ≤ R.locals)
    (kk : J l own cc nL ret ini R Cx enc Sh k n (cpI σ a b sp.toNatClampNeg dp.toNatClampNeg q.toNatClampNeg) (pc + 3) ls rest o) : J l own cc nL ret ini R Cx enc Sh k n σ pc ls (.int q :: .int dp :: .ref b :: .int sp :: .ref a :: rest) o := fun res h p e s m args below meth c G A Q H locs lsA C K hW hS hl => by
  have e0 := shA_of ha
  have e1 := shA_of hb
  have hT0 := hW.2.2.2 a _ _ e0
  have hT1 := hW.2.2.2 b _ _ e1
  have hts := C.2.2.2.2.2.1
  have E : (wsG G Sh σ).set b (G.2.1 b, .inl (G.2.2 b, nb, .inl (va_cpy (σ.1 a) (σ.1 b) sp.toNatClampNeg dp.toNatClampNeg q.toNatClampNeg))) = wsG G Sh (cpI σ a b sp.toNatClampNeg dp.toNatClampNeg q.toNatClampNeg) := wsG_set e1 (fun j hj => by simp [cpI, hj]) (fun j hj => rfl) (by simp [ceE, arA, cpI])
  refine va_copyi (tys := [(G.2.2 a, .int), (G.2.2 b, .int)]) C.1 C.2.1 (C.2.2.1.trans hl.1.symm) C.2.2.2.2.1 (hts _ hlk) (hts _ ac_nat) (hts _ ac_sta) (hts _ ac_ini) ⟨hW.2.1.1, fun j z hj => by match j, hj with | 0, hj => (cases hj; exact hT0) | 1, hj => (cases hj; exact hT1)⟩ hW.1 hW.2.2.1 hS a b 0 1 (wsG_at e0) (wsG_at e1) rfl rfl rfl h1 h2 h3 h45.1 h45.2 (fun _ _ => rfl) hR.1 (by rw [map_cat]; exact hR.2) hd (fun H1 locs1 hP1 hD1 hS1 => ?_)
  exact kk res h p e s m args below meth c G A Q H1 locs1 lsA C K ⟨by rw [← E]; exact hP1, hW.2.1, by rw [← E]; exact hD1, hW.2.2.2⟩ hS1 hl
theorem fit_nch (x : Int32) : fits .char (.int (vp_nar .char x)) = true := by
  have h : vp_nar .char x = (x.toUInt32 % 65536).toInt32 := by rw [vp_nar_char]; rfl
  rw [h]; exact pk_fc x
theorem J_copyC {idx a b na nb : Nat} {sp dp q : Int32} (hd : decode cc pc = .ok (.invokestatic idx, 3)) (hlk : Cond.methodLink own idx arraycopyName ∈ TBW) (ha : shA Sh a = some (.char, na)) (hb : shA Sh b = some (.char, nb)) (h1 : ¬ sp < 0) (h2 : ¬ dp < 0) (h3 : ¬ q < 0) (h45 : sp.toNatClampNeg + q.toNatClampNeg ≤ na ∧ dp.toNatClampNeg + q.toNatClampNeg ≤ nb) (hR : 1 ≤ R.frames ∧ (rest.map fun v => v.category).sum + (nativeFrameWords "java/lang/System" "arraycopy" 5 + 11) ≤ R.locals)
    (kk : J l own cc nL ret ini R Cx enc Sh k n (cpI σ a b sp.toNatClampNeg dp.toNatClampNeg q.toNatClampNeg) (pc + 3) ls rest o) : J l own cc nL ret ini R Cx enc Sh k n σ pc ls (.int q :: .int dp :: .ref b :: .int sp :: .ref a :: rest) o := fun res h p e s m args below meth c G A Q H locs lsA C K hW hS hl => by
  have e0 := shA_of ha
  have e1 := shA_of hb
  have hT0 := hW.2.2.2 a _ _ e0
  have hT1 := hW.2.2.2 b _ _ e1
  have hts := C.2.2.2.2.2.1
  have E : (wsG G Sh σ).set b (G.2.1 b, .inl (G.2.2 b, nb, .inl (va_cpy (fun j => vp_nar .char (σ.1 a j)) (fun j => vp_nar .char (σ.1 b j)) sp.toNatClampNeg dp.toNatClampNeg q.toNatClampNeg))) = wsG G Sh (cpI σ a b sp.toNatClampNeg dp.toNatClampNeg q.toNatClampNeg) := wsG_set e1 (fun j hj => by simp [cpI, hj]) (fun j hj => rfl) (by (simp only [ceE, arA, cpI, if_true]; congr 4; funext j; simp only [va_cpy]; split <;> rfl))
  refine va_copyi (tys := [(G.2.2 a, .char), (G.2.2 b, .char)]) C.1 C.2.1 (C.2.2.1.trans hl.1.symm) C.2.2.2.2.1 (hts _ hlk) (hts _ ac_nat) (hts _ ac_sta) (hts _ ac_ini) ⟨hW.2.1.1, fun j z hj => by match j, hj with | 0, hj => (cases hj; exact hT0) | 1, hj => (cases hj; exact hT1)⟩ hW.1 hW.2.2.1 hS a b 0 1 (wsG_at e0) (wsG_at e1) rfl rfl rfl h1 h2 h3 h45.1 h45.2 (fun j _ => fit_nch _) hR.1 (by rw [map_cat]; exact hR.2) hd (fun H1 locs1 hP1 hD1 hS1 => ?_)
  exact kk res h p e s m args below meth c G A Q H1 locs1 lsA C K ⟨by rw [← E]; exact hP1, hW.2.1, by rw [← E]; exact hD1, hW.2.2.2⟩ hS1 hl
end Rows4
end
section
def SH : List jC := [.inr (7, [some (some (some 1)), some (some (some 10)), some (some (some 19)), some (some (some 28)), some (some (some 29)), some (some (some 33)), some (some (some 37)), some (some (some 41)), some (some (some 49)), some (some (some 50)), some (some (some 51)), some (some (some 52)), none, none, none]), .inr (5, [some (some (some 2)), some (some (some 3)), some (some (some 4)), some (some (some 5)), none, none, none, some (some (some 6)), none, some (some (some 7)), some (some (some 8)), some (some (some 9)), none]), .inl (.int, 8), .inl (.int, 8), .inl (.int, 8), .inl (.int, 8), .inl (.char, 40), .inl (.int, 8), .inl (.int, 8), .inl (.int, 8), .inr (5, [some (some (some 11)), some (some (some 12)), some (some (some 13)), some (some (some 14)), none, none, none, some (some (some 15)), none, some (some (some 16)), some (some (some 17)), some (some (some 18)), none]), .inl (.int, 8), .inl (.int, 8), .inl (.int, 8), .inl (.int, 8), .inl (.char, 40), .inl (.int, 8), .inl (.int, 8), .inl (.int, 8), .inr (5, [some (some (some 20)), some (some (some 21)), some (some (some 22)), some (some (some 23)), none, none, none, some (some (some 24)), none, some (some (some 25)), some (some (some 26)), some (some (some 27)), none]), .inl (.int, 8), .inl (.int, 8), .inl (.int, 8), .inl (.int, 8), .inl (.char, 40), .inl (.int, 8), .inl (.int, 8), .inl (.int, 8), .inl (.boolean, 2), .inr (6, [some (some (some 1)), some (some (some 30)), some (some (some 31)), none, some (some (some 32)), none, none, none, none]), .inl (.char, 40), .inl (.int, 40), .inl (.long, 40), .inr (4, [some (some (some 1)), some (some (some 29)), some (some (some 34)), some (some (some 35)), some (some (some 36)), none]), .inl (.int, 5), .inl (.long, 800), .inl (.long, 800), .inr (1, [some (some (some 1)), some (some (some 33)), some (some (some 38)), some (some (some 39)), some (some (some 40)), none, none, none, none]), .inl (.int, 200), .inl (.int, 8), .inl (.int, 8), .inr (0, [some (some (some 1)), some (some (some 33)), some (some (some 42)), some (some (some 43)), some (some (some 44)), some (some (some 45)), some (some (some 46)), some (some (some 47)), some (some (some 48)), none, none, none, none, none, none]), .inl (.int, 256), .inl (.int, 256), .inl (.int, 256), .inl (.int, 256), .inl (.int, 256), .inl (.int, 256), .inl (.int, 8), .inr (3, [some (some (some 1)), some (some (some 33))]), .inr (2, [some none, some none]), .inl (.long, 9), .inl (.int, 40), .inr (8, [some (some (some 54)), some (some (some 55)), some (some (some 56)), some (some (some 57)), some none, some none, none, none, some (some (some 58)), none, some (some (some 59)), none, some (some (some 60)), some none, some (some (some 61)), some (some (some 62)), some (some (some 63)), none, none, some (some (some 64)), some (some (some 65)), some (some (some 66)), some (some (some 67)), none, some (some (some 68)), some (some (some 69)), some (some (some 70))]), .inl (.int, 101), .inl (.int, 202), .inl (.boolean, 2), .inl (.int, 3), .inl (.long, 64), .inl (.int, 128), .inl (.long, 6), .inl (.int, 8), .inl (.int, 8), .inl (.int, 200), .inl (.int, 256), .inl (.int, 256), .inl (.int, 256), .inl (.int, 256), .inl (.int, 8), .inl (.int, 40), .inl (.int, 40)]
theorem sh_0_0 : shO SH 0 0 = some (7, some (some (some 1))) := rfl
theorem sh_0_1 : shO SH 0 1 = some (7, some (some (some 10))) := rfl
theorem sh_0_2 : shO SH 0 2 = some (7, some (some (some 19))) := rfl
theorem sh_0_3 : shO SH 0 3 = some (7, some (some (some 28))) := rfl
theorem sh_0_4 : shO SH 0 4 = some (7, some (some (some 29))) := rfl
theorem sh_0_5 : shO SH 0 5 = some (7, some (some (some 33))) := rfl
theorem sh_0_6 : shO SH 0 6 = some (7, some (some (some 37))) := rfl
theorem sh_0_7 : shO SH 0 7 = some (7, some (some (some 41))) := rfl
theorem sh_0_8 : shO SH 0 8 = some (7, some (some (some 49))) := rfl
theorem sh_0_9 : shO SH 0 9 = some (7, some (some (some 50))) := rfl
theorem sh_0_10 : shO SH 0 10 = some (7, some (some (some 51))) := rfl
theorem sh_0_11 : shO SH 0 11 = some (7, some (some (some 52))) := rfl
theorem sh_0_12 : shO SH 0 12 = some (7, none) := rfl
theorem sh_0_13 : shO SH 0 13 = some (7, none) := rfl
theorem sh_0_14 : shO SH 0 14 = some (7, none) := rfl
theorem sh_1_0 : shO SH 1 0 = some (5, some (some (some 2))) := rfl
theorem sh_1_1 : shO SH 1 1 = some (5, some (some (some 3))) := rfl
theorem sh_1_2 : shO SH 1 2 = some (5, some (some (some 4))) := rfl
theorem sh_1_3 : shO SH 1 3 = some (5, some (some (some 5))) := rfl
theorem sh_1_4 : shO SH 1 4 = some (5, none) := rfl
theorem sh_1_5 : shO SH 1 5 = some (5, none) := rfl
theorem sh_1_6 : shO SH 1 6 = some (5, none) := rfl
theorem sh_1_7 : shO SH 1 7 = some (5, some (some (some 6))) := rfl
theorem sh_1_8 : shO SH 1 8 = some (5, none) := rfl
theorem sh_1_9 : shO SH 1 9 = some (5, some (some (some 7))) := rfl
theorem sh_1_10 : shO SH 1 10 = some (5, some (some (some 8))) := rfl
theorem sh_1_11 : shO SH 1 11 = some (5, some (some (some 9))) := rfl
theorem sh_1_12 : shO SH 1 12 = some (5, none) := rfl
theorem sa_2 : shA SH 2 = some (.int, 8) := rfl
theorem sa_3 : shA SH 3 = some (.int, 8) := rfl
theorem sa_4 : shA SH 4 = some (.int, 8) := rfl
theorem sa_5 : shA SH 5 = some (.int, 8) := rfl
theorem sa_6 : shA SH 6 = some (.char, 40) := rfl
theorem sa_7 : shA SH 7 = some (.int, 8) := rfl
theorem sa_8 : shA SH 8 = some (.int, 8) := rfl
theorem sa_9 : shA SH 9 = some (.int, 8) := rfl
theorem sh_10_0 : shO SH 10 0 = some (5, some (some (some 11))) := rfl
theorem sh_10_1 : shO SH 10 1 = some (5, some (some (some 12))) := rfl
theorem sh_10_2 : shO SH 10 2 = some (5, some (some (some 13))) := rfl
theorem sh_10_3 : shO SH 10 3 = some (5, some (some (some 14))) := rfl
theorem sh_10_4 : shO SH 10 4 = some (5, none) := rfl
theorem sh_10_5 : shO SH 10 5 = some (5, none) := rfl
theorem sh_10_6 : shO SH 10 6 = some (5, none) := rfl
theorem sh_10_7 : shO SH 10 7 = some (5, some (some (some 15))) := rfl
theorem sh_10_8 : shO SH 10 8 = some (5, none) := rfl
theorem sh_10_9 : shO SH 10 9 = some (5, some (some (some 16))) := rfl
theorem sh_10_10 : shO SH 10 10 = some (5, some (some (some 17))) := rfl
theorem sh_10_11 : shO SH 10 11 = some (5, some (some (some 18))) := rfl
theorem sh_10_12 : shO SH 10 12 = some (5, none) := rfl
theorem sa_11 : shA SH 11 = some (.int, 8) := rfl
theorem sa_12 : shA SH 12 = some (.int, 8) := rfl
theorem sa_13 : shA SH 13 = some (.int, 8) := rfl
theorem sa_14 : shA SH 14 = some (.int, 8) := rfl
theorem sa_15 : shA SH 15 = some (.char, 40) := rfl
theorem sa_16 : shA SH 16 = some (.int, 8) := rfl
theorem sa_17 : shA SH 17 = some (.int, 8) := rfl
theorem sa_18 : shA SH 18 = some (.int, 8) := rfl
theorem sh_19_0 : shO SH 19 0 = some (5, some (some (some 20))) := rfl
theorem sh_19_1 : shO SH 19 1 = some (5, some (some (some 21))) := rfl
theorem sh_19_2 : shO SH 19 2 = some (5, some (some (some 22))) := rfl
theorem sh_19_3 : shO SH 19 3 = some (5, some (some (some 23))) := rfl
theorem sh_19_4 : shO SH 19 4 = some (5, none) := rfl
theorem sh_19_5 : shO SH 19 5 = some (5, none) := rfl
theorem sh_19_6 : shO SH 19 6 = some (5, none) := rfl
theorem sh_19_7 : shO SH 19 7 = some (5, some (some (some 24))) := rfl
theorem sh_19_8 : shO SH 19 8 = some (5, none) := rfl
theorem sh_19_9 : shO SH 19 9 = some (5, some (some (some 25))) := rfl
theorem sh_19_10 : shO SH 19 10 = some (5, some (some (some 26))) := rfl
theorem sh_19_11 : shO SH 19 11 = some (5, some (some (some 27))) := rfl
theorem sh_19_12 : shO SH 19 12 = some (5, none) := rfl
theorem sa_20 : shA SH 20 = some (.int, 8) := rfl
theorem sa_21 : shA SH 21 = some (.int, 8) := rfl
theorem sa_22 : shA SH 22 = some (.int, 8) := rfl
theorem sa_23 : shA SH 23 = some (.int, 8) := rfl
theorem sa_24 : shA SH 24 = some (.char, 40) := rfl
theorem sa_25 : shA SH 25 = some (.int, 8) := rfl
theorem sa_26 : shA SH 26 = some (.int, 8) := rfl
theorem sa_27 : shA SH 27 = some (.int, 8) := rfl
theorem sa_28 : shA SH 28 = some (.boolean, 2) := rfl
theorem sh_29_0 : shO SH 29 0 = some (6, some (some (some 1))) := rfl
theorem sh_29_1 : shO SH 29 1 = some (6, some (some (some 30))) := rfl
theorem sh_29_2 : shO SH 29 2 = some (6, some (some (some 31))) := rfl
theorem sh_29_3 : shO SH 29 3 = some (6, none) := rfl
theorem sh_29_4 : shO SH 29 4 = some (6, some (some (some 32))) := rfl
theorem sh_29_5 : shO SH 29 5 = some (6, none) := rfl
theorem sh_29_6 : shO SH 29 6 = some (6, none) := rfl
theorem sh_29_7 : shO SH 29 7 = some (6, none) := rfl
theorem sh_29_8 : shO SH 29 8 = some (6, none) := rfl
theorem sa_30 : shA SH 30 = some (.char, 40) := rfl
theorem sa_31 : shA SH 31 = some (.int, 40) := rfl
theorem sa_32 : shA SH 32 = some (.long, 40) := rfl
theorem sh_33_0 : shO SH 33 0 = some (4, some (some (some 1))) := rfl
theorem sh_33_1 : shO SH 33 1 = some (4, some (some (some 29))) := rfl
theorem sh_33_2 : shO SH 33 2 = some (4, some (some (some 34))) := rfl
theorem sh_33_3 : shO SH 33 3 = some (4, some (some (some 35))) := rfl
theorem sh_33_4 : shO SH 33 4 = some (4, some (some (some 36))) := rfl
theorem sh_33_5 : shO SH 33 5 = some (4, none) := rfl
theorem sa_34 : shA SH 34 = some (.int, 5) := rfl
theorem sa_35 : shA SH 35 = some (.long, 800) := rfl
theorem sa_36 : shA SH 36 = some (.long, 800) := rfl
theorem sh_37_0 : shO SH 37 0 = some (1, some (some (some 1))) := rfl
theorem sh_37_1 : shO SH 37 1 = some (1, some (some (some 33))) := rfl
theorem sh_37_2 : shO SH 37 2 = some (1, some (some (some 38))) := rfl
theorem sh_37_3 : shO SH 37 3 = some (1, some (some (some 39))) := rfl
theorem sh_37_4 : shO SH 37 4 = some (1, some (some (some 40))) := rfl
theorem sh_37_5 : shO SH 37 5 = some (1, none) := rfl
theorem sh_37_6 : shO SH 37 6 = some (1, none) := rfl
theorem sh_37_7 : shO SH 37 7 = some (1, none) := rfl
theorem sh_37_8 : shO SH 37 8 = some (1, none) := rfl
theorem sa_38 : shA SH 38 = some (.int, 200) := rfl
theorem sa_39 : shA SH 39 = some (.int, 8) := rfl
theorem sa_40 : shA SH 40 = some (.int, 8) := rfl
theorem sh_41_0 : shO SH 41 0 = some (0, some (some (some 1))) := rfl
theorem sh_41_1 : shO SH 41 1 = some (0, some (some (some 33))) := rfl
theorem sh_41_2 : shO SH 41 2 = some (0, some (some (some 42))) := rfl
theorem sh_41_3 : shO SH 41 3 = some (0, some (some (some 43))) := rfl
theorem sh_41_4 : shO SH 41 4 = some (0, some (some (some 44))) := rfl
theorem sh_41_5 : shO SH 41 5 = some (0, some (some (some 45))) := rfl
theorem sh_41_6 : shO SH 41 6 = some (0, some (some (some 46))) := rfl
theorem sh_41_7 : shO SH 41 7 = some (0, some (some (some 47))) := rfl
theorem sh_41_8 : shO SH 41 8 = some (0, some (some (some 48))) := rfl
theorem sh_41_9 : shO SH 41 9 = some (0, none) := rfl
theorem sh_41_10 : shO SH 41 10 = some (0, none) := rfl
theorem sh_41_11 : shO SH 41 11 = some (0, none) := rfl
theorem sh_41_12 : shO SH 41 12 = some (0, none) := rfl
theorem sh_41_13 : shO SH 41 13 = some (0, none) := rfl
theorem sh_41_14 : shO SH 41 14 = some (0, none) := rfl
theorem sa_42 : shA SH 42 = some (.int, 256) := rfl
theorem sa_43 : shA SH 43 = some (.int, 256) := rfl
theorem sa_44 : shA SH 44 = some (.int, 256) := rfl
theorem sa_45 : shA SH 45 = some (.int, 256) := rfl
theorem sa_46 : shA SH 46 = some (.int, 256) := rfl
theorem sa_47 : shA SH 47 = some (.int, 256) := rfl
theorem sa_48 : shA SH 48 = some (.int, 8) := rfl
theorem sh_49_0 : shO SH 49 0 = some (3, some (some (some 1))) := rfl
theorem sh_49_1 : shO SH 49 1 = some (3, some (some (some 33))) := rfl
theorem sh_50_0 : shO SH 50 0 = some (2, some none) := rfl
theorem sh_50_1 : shO SH 50 1 = some (2, some none) := rfl
theorem sa_51 : shA SH 51 = some (.long, 9) := rfl
theorem sa_52 : shA SH 52 = some (.int, 40) := rfl
theorem sh_53_0 : shO SH 53 0 = some (8, some (some (some 54))) := rfl
theorem sh_53_1 : shO SH 53 1 = some (8, some (some (some 55))) := rfl
theorem sh_53_2 : shO SH 53 2 = some (8, some (some (some 56))) := rfl
theorem sh_53_3 : shO SH 53 3 = some (8, some (some (some 57))) := rfl
theorem sh_53_4 : shO SH 53 4 = some (8, some none) := rfl
theorem sh_53_5 : shO SH 53 5 = some (8, some none) := rfl
theorem sh_53_6 : shO SH 53 6 = some (8, none) := rfl
theorem sh_53_7 : shO SH 53 7 = some (8, none) := rfl
theorem sh_53_8 : shO SH 53 8 = some (8, some (some (some 58))) := rfl
theorem sh_53_9 : shO SH 53 9 = some (8, none) := rfl
theorem sh_53_10 : shO SH 53 10 = some (8, some (some (some 59))) := rfl
theorem sh_53_11 : shO SH 53 11 = some (8, none) := rfl
theorem sh_53_12 : shO SH 53 12 = some (8, some (some (some 60))) := rfl
theorem sh_53_13 : shO SH 53 13 = some (8, some none) := rfl
theorem sh_53_14 : shO SH 53 14 = some (8, some (some (some 61))) := rfl
theorem sh_53_15 : shO SH 53 15 = some (8, some (some (some 62))) := rfl
theorem sh_53_16 : shO SH 53 16 = some (8, some (some (some 63))) := rfl
theorem sh_53_17 : shO SH 53 17 = some (8, none) := rfl
theorem sh_53_18 : shO SH 53 18 = some (8, none) := rfl
theorem sh_53_19 : shO SH 53 19 = some (8, some (some (some 64))) := rfl
theorem sh_53_20 : shO SH 53 20 = some (8, some (some (some 65))) := rfl
theorem sh_53_21 : shO SH 53 21 = some (8, some (some (some 66))) := rfl
theorem sh_53_22 : shO SH 53 22 = some (8, some (some (some 67))) := rfl
theorem sh_53_23 : shO SH 53 23 = some (8, none) := rfl
theorem sh_53_24 : shO SH 53 24 = some (8, some (some (some 68))) := rfl
theorem sh_53_25 : shO SH 53 25 = some (8, some (some (some 69))) := rfl
theorem sh_53_26 : shO SH 53 26 = some (8, some (some (some 70))) := rfl
theorem sa_54 : shA SH 54 = some (.int, 101) := rfl
theorem sa_55 : shA SH 55 = some (.int, 202) := rfl
theorem sa_56 : shA SH 56 = some (.boolean, 2) := rfl
theorem sa_57 : shA SH 57 = some (.int, 3) := rfl
theorem sa_58 : shA SH 58 = some (.long, 64) := rfl
theorem sa_59 : shA SH 59 = some (.int, 128) := rfl
theorem sa_60 : shA SH 60 = some (.long, 6) := rfl
theorem sa_61 : shA SH 61 = some (.int, 8) := rfl
theorem sa_62 : shA SH 62 = some (.int, 8) := rfl
theorem sa_63 : shA SH 63 = some (.int, 200) := rfl
theorem sa_64 : shA SH 64 = some (.int, 256) := rfl
theorem sa_65 : shA SH 65 = some (.int, 256) := rfl
theorem sa_66 : shA SH 66 = some (.int, 256) := rfl
theorem sa_67 : shA SH 67 = some (.int, 256) := rfl
theorem sa_68 : shA SH 68 = some (.int, 8) := rfl
theorem sa_69 : shA SH 69 = some (.int, 40) := rfl
theorem sa_70 : shA SH 70 = some (.int, 40) := rfl
theorem uin_0 : ∀ w ∈ u_ws RX0 TX0 15, w ∈ TBW := fun w hw => List.mem_filter.mpr ⟨(by decide +kernel : ∀ w ∈ u_ws RX0 TX0 15, w ∈ lw_tbl) w hw, (by decide +kernel : ∀ w ∈ u_ws RX0 TX0 15, goodWord w = true) w hw⟩
theorem uin_1 : ∀ w ∈ u_ws RX1 TX1 9, w ∈ TBW := fun w hw => List.mem_filter.mpr ⟨(by decide +kernel : ∀ w ∈ u_ws RX1 TX1 9, w ∈ lw_tbl) w hw, (by decide +kernel : ∀ w ∈ u_ws RX1 TX1 9, goodWord w = true) w hw⟩
theorem uin_2 : ∀ w ∈ u_ws RX2 TX2 2, w ∈ TBW := fun w hw => List.mem_filter.mpr ⟨(by decide +kernel : ∀ w ∈ u_ws RX2 TX2 2, w ∈ lw_tbl) w hw, (by decide +kernel : ∀ w ∈ u_ws RX2 TX2 2, goodWord w = true) w hw⟩
theorem uin_3 : ∀ w ∈ u_ws RX3 TX3 2, w ∈ TBW := fun w hw => List.mem_filter.mpr ⟨(by decide +kernel : ∀ w ∈ u_ws RX3 TX3 2, w ∈ lw_tbl) w hw, (by decide +kernel : ∀ w ∈ u_ws RX3 TX3 2, goodWord w = true) w hw⟩
theorem uin_4 : ∀ w ∈ u_ws RX4 TX4 6, w ∈ TBW := fun w hw => List.mem_filter.mpr ⟨(by decide +kernel : ∀ w ∈ u_ws RX4 TX4 6, w ∈ lw_tbl) w hw, (by decide +kernel : ∀ w ∈ u_ws RX4 TX4 6, goodWord w = true) w hw⟩
theorem uin_5 : ∀ w ∈ u_ws RX5 TX5 13, w ∈ TBW := fun w hw => List.mem_filter.mpr ⟨(by decide +kernel : ∀ w ∈ u_ws RX5 TX5 13, w ∈ lw_tbl) w hw, (by decide +kernel : ∀ w ∈ u_ws RX5 TX5 13, goodWord w = true) w hw⟩
theorem uin_6 : ∀ w ∈ u_ws RX6 TX6 9, w ∈ TBW := fun w hw => List.mem_filter.mpr ⟨(by decide +kernel : ∀ w ∈ u_ws RX6 TX6 9, w ∈ lw_tbl) w hw, (by decide +kernel : ∀ w ∈ u_ws RX6 TX6 9, goodWord w = true) w hw⟩
theorem uin_7 : ∀ w ∈ u_ws RX7 TX7 15, w ∈ TBW := fun w hw => List.mem_filter.mpr ⟨(by decide +kernel : ∀ w ∈ u_ws RX7 TX7 15, w ∈ lw_tbl) w hw, (by decide +kernel : ∀ w ∈ u_ws RX7 TX7 15, goodWord w = true) w hw⟩
theorem uin_8 : ∀ w ∈ u_ws RX8 TX8 27, w ∈ TBW := fun w hw => List.mem_filter.mpr ⟨(by decide +kernel : ∀ w ∈ u_ws RX8 TX8 27, w ∈ lw_tbl) w hw, (by decide +kernel : ∀ w ∈ u_ws RX8 TX8 27, goodWord w = true) w hw⟩
end
section
theorem w_0 : lw_tbl[0]? = some (Cond.selects "OddBridge$Vow" ⟨"OddBridge$Vow", "read", "()V"⟩ ⟨"OddBridge$Vow", "read", "()V"⟩) := by decide +kernel
theorem w_1 : lw_tbl[1]? = some (Cond.selects "OddBridge$Vow" ⟨"OddBridge$Vow", "readValue", "(I)V"⟩ ⟨"OddBridge$Vow", "readValue", "(I)V"⟩) := by decide +kernel
theorem w_2 : lw_tbl[2]? = some (Cond.selects "OddBridge$Vow" ⟨"OddBridge$Vow", "readBoth", "(I)V"⟩ ⟨"OddBridge$Vow", "readBoth", "(I)V"⟩) := by decide +kernel
theorem w_3 : lw_tbl[3]? = some (Cond.selects "OddBridge$Vow" ⟨"OddBridge$Vow", "readHeld", "(I)V"⟩ ⟨"OddBridge$Vow", "readHeld", "(I)V"⟩) := by decide +kernel
theorem w_4 : lw_tbl[4]? = some (Cond.selects "OddBridge$Vow" ⟨"OddBridge$Vow", "readSum", "(I)V"⟩ ⟨"OddBridge$Vow", "readSum", "(I)V"⟩) := by decide +kernel
theorem w_5 : lw_tbl[5]? = some (Cond.selects "OddBridge$Vow" ⟨"OddBridge$Vow", "readTerm", "(I)V"⟩ ⟨"OddBridge$Vow", "readTerm", "(I)V"⟩) := by decide +kernel
theorem w_6 : lw_tbl[6]? = some (Cond.selects "OddBridge$Vow" ⟨"OddBridge$Vow", "readUnit", "(I)V"⟩ ⟨"OddBridge$Vow", "readUnit", "(I)V"⟩) := by decide +kernel
theorem w_7 : lw_tbl[7]? = some (Cond.selects "OddBridge$Vow" ⟨"OddBridge$Vow", "take", "(Ljava/lang/String;)I"⟩ ⟨"OddBridge$Vow", "take", "(Ljava/lang/String;)I"⟩) := by decide +kernel
theorem w_8 : lw_tbl[8]? = some (Cond.selects "OddBridge$Vow" ⟨"OddBridge$Vow", "nextSign", "()I"⟩ ⟨"OddBridge$Vow", "nextSign", "()I"⟩) := by decide +kernel
theorem w_9 : lw_tbl[9]? = some (Cond.selects "OddBridge$Vow" ⟨"OddBridge$Vow", "signAt", "(I)I"⟩ ⟨"OddBridge$Vow", "signAt", "(I)I"⟩) := by decide +kernel
theorem w_10 : lw_tbl[10]? = some (Cond.selects "OddBridge$Vow" ⟨"OddBridge$Vow", "readBareUnit", "(I)V"⟩ ⟨"OddBridge$Vow", "readBareUnit", "(I)V"⟩) := by decide +kernel
theorem w_11 : lw_tbl[11]? = some (Cond.selects "OddBridge$Vow" ⟨"OddBridge$Vow", "readDigits", "()V"⟩ ⟨"OddBridge$Vow", "readDigits", "()V"⟩) := by decide +kernel
theorem w_12 : lw_tbl[12]? = some (Cond.selects "OddBridge$Vow" ⟨"OddBridge$Vow", "setFlaw", "(II)V"⟩ ⟨"OddBridge$Vow", "setFlaw", "(II)V"⟩) := by decide +kernel
theorem w_13 : lw_tbl[13]? = some (Cond.selects "OddBridge$Vow" ⟨"OddBridge$Vow", "addSign", "(CI)V"⟩ ⟨"OddBridge$Vow", "addSign", "(CI)V"⟩) := by decide +kernel
theorem w_14 : lw_tbl[14]? = some (Cond.selects "OddBridge$Vow" ⟨"OddBridge$Vow", "readOpened", "(I)V"⟩ ⟨"OddBridge$Vow", "readOpened", "(I)V"⟩) := by decide +kernel
theorem w_15 : lw_tbl[15]? = some (Cond.selects "OddBridge" ⟨"OddBridge", "refuseAsBad", "()I"⟩ ⟨"OddBridge", "refuseAsBad", "()I"⟩) := by decide +kernel
theorem w_16 : lw_tbl[16]? = some (Cond.selects "OddBridge" ⟨"OddBridge", "refuseAsFull", "()I"⟩ ⟨"OddBridge", "refuseAsFull", "()I"⟩) := by decide +kernel
theorem w_17 : lw_tbl[17]? = some (Cond.selects "OddBridge$Scene" ⟨"OddBridge$Scene", "addWalker", "(III)V"⟩ ⟨"OddBridge$Scene", "addWalker", "(III)V"⟩) := by decide +kernel
theorem w_18 : lw_tbl[18]? = some (Cond.selects "OddBridge" ⟨"OddBridge", "forgetWhatFollows", "()V"⟩ ⟨"OddBridge", "forgetWhatFollows", "()V"⟩) := by decide +kernel
theorem w_19 : lw_tbl[19]? = some (Cond.selects "OddBridge$Scene" ⟨"OddBridge$Scene", "addLetter", "(C)V"⟩ ⟨"OddBridge$Scene", "addLetter", "(C)V"⟩) := by decide +kernel
theorem w_20 : lw_tbl[20]? = some (Cond.selects "OddBridge$Scene" ⟨"OddBridge$Scene", "sumBrought", "(II)I"⟩ ⟨"OddBridge$Scene", "sumBrought", "(II)I"⟩) := by decide +kernel
theorem w_21 : lw_tbl[21]? = some (Cond.selects "OddBridge$Judge" ⟨"OddBridge$Judge", "isWell", "(II)Z"⟩ ⟨"OddBridge$Judge", "isWell", "(II)Z"⟩) := by decide +kernel
theorem w_22 : lw_tbl[22]? = some (Cond.selects "OddBridge$Judge" ⟨"OddBridge$Judge", "isOdd", "(III)Z"⟩ ⟨"OddBridge$Judge", "isOdd", "(III)Z"⟩) := by decide +kernel
theorem w_23 : lw_tbl[23]? = some (Cond.selects "OddBridge$Vow" ⟨"OddBridge$Vow", "value", "([II)J"⟩ ⟨"OddBridge$Vow", "value", "([II)J"⟩) := by decide +kernel
theorem w_24 : lw_tbl[24]? = some (Cond.selects "OddBridge$Vow" ⟨"OddBridge$Vow", "push", "(J)V"⟩ ⟨"OddBridge$Vow", "push", "(J)V"⟩) := by decide +kernel
theorem w_25 : lw_tbl[25]? = some (Cond.selects "OddBridge$Vow" ⟨"OddBridge$Vow", "pop", "()J"⟩ ⟨"OddBridge$Vow", "pop", "()J"⟩) := by decide +kernel
theorem w_26 : lw_tbl[26]? = some (Cond.selects "OddBridge$Feast" ⟨"OddBridge$Feast", "goThrough", "()V"⟩ ⟨"OddBridge$Feast", "goThrough", "()V"⟩) := by decide +kernel
theorem w_27 : lw_tbl[27]? = some (Cond.selects "OddBridge$Feast" ⟨"OddBridge$Feast", "bestSteps", "(I)I"⟩ ⟨"OddBridge$Feast", "bestSteps", "(I)I"⟩) := by decide +kernel
theorem w_28 : lw_tbl[28]? = some (Cond.selects "OddBridge$Feast" ⟨"OddBridge$Feast", "mayStep", "(I)I"⟩ ⟨"OddBridge$Feast", "mayStep", "(I)I"⟩) := by decide +kernel
theorem w_29 : lw_tbl[29]? = some (Cond.selects "OddBridge$Feast" ⟨"OddBridge$Feast", "aheadOfWall", "(I)I"⟩ ⟨"OddBridge$Feast", "aheadOfWall", "(I)I"⟩) := by decide +kernel
theorem w_30 : lw_tbl[30]? = some (Cond.selects "OddBridge$Feast" ⟨"OddBridge$Feast", "step", "(II)V"⟩ ⟨"OddBridge$Feast", "step", "(II)V"⟩) := by decide +kernel
theorem w_31 : lw_tbl[31]? = some (Cond.selects "OddBridge" ⟨"OddBridge", "isWalker", "(I)Z"⟩ ⟨"OddBridge", "isWalker", "(I)Z"⟩) := by decide +kernel
theorem w_32 : lw_tbl[32]? = some (Cond.selects "OddBridge$Crossing" ⟨"OddBridge$Crossing", "plan", "()V"⟩ ⟨"OddBridge$Crossing", "plan", "()V"⟩) := by decide +kernel
theorem w_33 : lw_tbl[33]? = some (Cond.selects "OddBridge$Crossing" ⟨"OddBridge$Crossing", "lookAtCompany", "(I)V"⟩ ⟨"OddBridge$Crossing", "lookAtCompany", "(I)V"⟩) := by decide +kernel
theorem w_34 : lw_tbl[34]? = some (Cond.selects "OddBridge$Crossing" ⟨"OddBridge$Crossing", "lookAtLeft", "(I)V"⟩ ⟨"OddBridge$Crossing", "lookAtLeft", "(I)V"⟩) := by decide +kernel
theorem w_35 : lw_tbl[35]? = some (Cond.selects "OddBridge$Crossing" ⟨"OddBridge$Crossing", "tryFirst", "(II)V"⟩ ⟨"OddBridge$Crossing", "tryFirst", "(II)V"⟩) := by decide +kernel
theorem w_36 : lw_tbl[36]? = some (Cond.selects "OddBridge$Crossing" ⟨"OddBridge$Crossing", "lineUp", "(I)V"⟩ ⟨"OddBridge$Crossing", "lineUp", "(I)V"⟩) := by decide +kernel
theorem w_37 : lw_tbl[37]? = some (Cond.selects "OddBridge" ⟨"OddBridge", "refuseAsNo", "()I"⟩ ⟨"OddBridge", "refuseAsNo", "()I"⟩) := by decide +kernel
theorem w_38 : lw_tbl[38]? = some (Cond.selects "OddBridge" ⟨"OddBridge", "spreadStops", "(II)J"⟩ ⟨"OddBridge", "spreadStops", "(II)J"⟩) := by decide +kernel
theorem w_39 : lw_tbl[39]? = some (Cond.selects "OddBridge$Fraction" ⟨"OddBridge$Fraction", "become", "(JJ)V"⟩ ⟨"OddBridge$Fraction", "become", "(JJ)V"⟩) := by decide +kernel
theorem w_40 : lw_tbl[40]? = some (Cond.selects "OddBridge" ⟨"OddBridge", "waysHome", "(II)I"⟩ ⟨"OddBridge", "waysHome", "(II)I"⟩) := by decide +kernel
theorem w_41 : lw_tbl[41]? = some (Cond.selects "OddBridge$Scene" ⟨"OddBridge$Scene", "addSaid", "(III)V"⟩ ⟨"OddBridge$Scene", "addSaid", "(III)V"⟩) := by decide +kernel
theorem w_42 : lw_tbl[42]? = some (Cond.selects "OddBridge$Hearing" ⟨"OddBridge$Hearing", "minutesUnwell", "(I)J"⟩ ⟨"OddBridge$Hearing", "minutesUnwell", "(I)J"⟩) := by decide +kernel
theorem w_43 : lw_tbl[43]? = some (Cond.selects "OddBridge$Hearing" ⟨"OddBridge$Hearing", "onBut", "(II)I"⟩ ⟨"OddBridge$Hearing", "onBut", "(II)I"⟩) := by decide +kernel
theorem w_44 : lw_tbl[44]? = some (Cond.selects "OddBridge$Hearing" ⟨"OddBridge$Hearing", "eachAlone", "()I"⟩ ⟨"OddBridge$Hearing", "eachAlone", "()I"⟩) := by decide +kernel
theorem w_45 : lw_tbl[45]? = some (Cond.selects "OddBridge$Hearing" ⟨"OddBridge$Hearing", "allWellBut", "(I)Z"⟩ ⟨"OddBridge$Hearing", "allWellBut", "(I)Z"⟩) := by decide +kernel
theorem w_46 : lw_tbl[46]? = some (Cond.selects "OddBridge$Hearing" ⟨"OddBridge$Hearing", "fewestLiars", "()I"⟩ ⟨"OddBridge$Hearing", "fewestLiars", "()I"⟩) := by decide +kernel
theorem w_47 : lw_tbl[47]? = some (Cond.selects "OddBridge" ⟨"OddBridge", "imageAt", "(I)LOddBridge$Scene;"⟩ ⟨"OddBridge", "imageAt", "(I)LOddBridge$Scene;"⟩) := by decide +kernel
theorem w_48 : lw_tbl[48]? = some (Cond.selects "OddBridge$Scene" ⟨"OddBridge$Scene", "become", "(LOddBridge$Scene;)V"⟩ ⟨"OddBridge$Scene", "become", "(LOddBridge$Scene;)V"⟩) := by decide +kernel
theorem w_49 : lw_tbl[49]? = some (Cond.selects "OddBridge$Scene" ⟨"OddBridge$Scene", "addedTo", "(J)J"⟩ ⟨"OddBridge$Scene", "addedTo", "(J)J"⟩) := by decide +kernel
theorem w_50 : lw_tbl[50]? = some (Cond.selects "OddBridgeModel" ⟨"OddBridgeModel", "bad", "(I)I"⟩ ⟨"OddBridgeModel", "bad", "(I)I"⟩) := by decide +kernel
theorem w_51 : lw_tbl[51]? = some (Cond.selects "OddBridgeModel" ⟨"OddBridgeModel", "walkers", "()I"⟩ ⟨"OddBridgeModel", "walkers", "()I"⟩) := by decide +kernel
theorem w_52 : lw_tbl[52]? = some (Cond.selects "OddBridgeModel" ⟨"OddBridgeModel", "full", "()I"⟩ ⟨"OddBridgeModel", "full", "()I"⟩) := by decide +kernel
theorem w_53 : lw_tbl[53]? = some (Cond.selects "OddBridgeModel" ⟨"OddBridgeModel", "isSet", "(I)Z"⟩ ⟨"OddBridgeModel", "isSet", "(I)Z"⟩) := by decide +kernel
theorem w_54 : lw_tbl[54]? = some (Cond.selects "OddBridgeModel" ⟨"OddBridgeModel", "all", "()I"⟩ ⟨"OddBridgeModel", "all", "()I"⟩) := by decide +kernel
theorem w_55 : lw_tbl[55]? = some (Cond.selects "OddBridgeModel" ⟨"OddBridgeModel", "broughtBy", "(II)I"⟩ ⟨"OddBridgeModel", "broughtBy", "(II)I"⟩) := by decide +kernel
theorem w_56 : lw_tbl[56]? = some (Cond.selects "OddBridgeModel" ⟨"OddBridgeModel", "of", "(II)I"⟩ ⟨"OddBridgeModel", "of", "(II)I"⟩) := by decide +kernel
theorem w_57 : lw_tbl[57]? = some (Cond.selects "OddBridgeModel" ⟨"OddBridgeModel", "reads", "()Z"⟩ ⟨"OddBridgeModel", "reads", "()Z"⟩) := by decide +kernel
theorem w_58 : lw_tbl[58]? = some (Cond.selects "OddBridgeModel" ⟨"OddBridgeModel", "ahead", "()I"⟩ ⟨"OddBridgeModel", "ahead", "()I"⟩) := by decide +kernel
theorem w_59 : lw_tbl[59]? = some (Cond.selects "OddBridgeModel" ⟨"OddBridgeModel", "textLong", "()I"⟩ ⟨"OddBridgeModel", "textLong", "()I"⟩) := by decide +kernel
theorem w_60 : lw_tbl[60]? = some (Cond.selects "OddBridgeModel" ⟨"OddBridgeModel", "charAt", "(I)I"⟩ ⟨"OddBridgeModel", "charAt", "(I)I"⟩) := by decide +kernel
theorem w_61 : lw_tbl[61]? = some (Cond.selects "OddBridgeModel" ⟨"OddBridgeModel", "digits", "()J"⟩ ⟨"OddBridgeModel", "digits", "()J"⟩) := by decide +kernel
theorem w_62 : lw_tbl[62]? = some (Cond.selects "OddBridgeModel" ⟨"OddBridgeModel", "stands", "(J)V"⟩ ⟨"OddBridgeModel", "stands", "(J)V"⟩) := by decide +kernel
theorem w_63 : lw_tbl[63]? = some (Cond.selects "OddBridgeModel" ⟨"OddBridgeModel", "workDown", "(I)V"⟩ ⟨"OddBridgeModel", "workDown", "(I)V"⟩) := by decide +kernel
theorem w_64 : lw_tbl[64]? = some (Cond.selects "OddBridgeModel" ⟨"OddBridgeModel", "workOut", "()V"⟩ ⟨"OddBridgeModel", "workOut", "()V"⟩) := by decide +kernel
theorem w_65 : lw_tbl[65]? = some (Cond.selects "OddBridgeModel" ⟨"OddBridgeModel", "isWell", "(III)Z"⟩ ⟨"OddBridgeModel", "isWell", "(III)Z"⟩) := by decide +kernel
theorem w_66 : lw_tbl[66]? = some (Cond.selects "OddBridgeModel" ⟨"OddBridgeModel", "celebrate", "()V"⟩ ⟨"OddBridgeModel", "celebrate", "()V"⟩) := by decide +kernel
theorem w_67 : lw_tbl[67]? = some (Cond.selects "OddBridgeModel" ⟨"OddBridgeModel", "onNow", "()I"⟩ ⟨"OddBridgeModel", "onNow", "()I"⟩) := by decide +kernel
theorem w_68 : lw_tbl[68]? = some (Cond.selects "OddBridgeModel" ⟨"OddBridgeModel", "mayStep", "(I)I"⟩ ⟨"OddBridgeModel", "mayStep", "(I)I"⟩) := by decide +kernel
theorem w_69 : lw_tbl[69]? = some (Cond.selects "OddBridgeModel" ⟨"OddBridgeModel", "isWellOn", "(II)Z"⟩ ⟨"OddBridgeModel", "isWellOn", "(II)Z"⟩) := by decide +kernel
theorem w_70 : lw_tbl[70]? = some (Cond.selects "OddBridgeModel" ⟨"OddBridgeModel", "ahead", "(II)I"⟩ ⟨"OddBridgeModel", "ahead", "(II)I"⟩) := by decide +kernel
theorem w_71 : lw_tbl[71]? = some (Cond.selects "OddBridgeModel" ⟨"OddBridgeModel", "isWalker", "(I)Z"⟩ ⟨"OddBridgeModel", "isWalker", "(I)Z"⟩) := by decide +kernel
theorem w_72 : lw_tbl[72]? = some (Cond.selects "OddBridgeModel" ⟨"OddBridgeModel", "layRow", "()Z"⟩ ⟨"OddBridgeModel", "layRow", "()Z"⟩) := by decide +kernel
theorem w_73 : lw_tbl[73]? = some (Cond.selects "OddBridgeModel" ⟨"OddBridgeModel", "findLeast", "()V"⟩ ⟨"OddBridgeModel", "findLeast", "()V"⟩) := by decide +kernel
theorem w_74 : lw_tbl[74]? = some (Cond.selects "OddBridgeModel" ⟨"OddBridgeModel", "findPrices", "()V"⟩ ⟨"OddBridgeModel", "findPrices", "()V"⟩) := by decide +kernel
theorem w_75 : lw_tbl[75]? = some (Cond.selects "OddBridgeModel" ⟨"OddBridgeModel", "mayGo", "(II)Z"⟩ ⟨"OddBridgeModel", "mayGo", "(II)Z"⟩) := by decide +kernel
theorem w_76 : lw_tbl[76]? = some (Cond.selects "OddBridgeModel" ⟨"OddBridgeModel", "timeOf", "(I)I"⟩ ⟨"OddBridgeModel", "timeOf", "(I)I"⟩) := by decide +kernel
theorem w_77 : lw_tbl[77]? = some (Cond.selects "OddBridgeModel" ⟨"OddBridgeModel", "isNext", "(II)Z"⟩ ⟨"OddBridgeModel", "isNext", "(II)Z"⟩) := by decide +kernel
theorem w_78 : lw_tbl[78]? = some (Cond.selects "OddBridgeModel" ⟨"OddBridgeModel", "no", "()I"⟩ ⟨"OddBridgeModel", "no", "()I"⟩) := by decide +kernel
theorem w_79 : lw_tbl[79]? = some (Cond.selects "OddBridgeModel" ⟨"OddBridgeModel", "tells", "(JJ)I"⟩ ⟨"OddBridgeModel", "tells", "(JJ)I"⟩) := by decide +kernel
theorem w_80 : lw_tbl[80]? = some (Cond.selects "OddBridgeModel" ⟨"OddBridgeModel", "said", "()I"⟩ ⟨"OddBridgeModel", "said", "()I"⟩) := by decide +kernel
theorem w_81 : lw_tbl[81]? = some (Cond.selects "OddBridgeModel" ⟨"OddBridgeModel", "disputeOf", "(I)J"⟩ ⟨"OddBridgeModel", "disputeOf", "(I)J"⟩) := by decide +kernel
theorem w_82 : lw_tbl[82]? = some (Cond.selects "OddBridgeModel" ⟨"OddBridgeModel", "onBy", "(II)I"⟩ ⟨"OddBridgeModel", "onBy", "(II)I"⟩) := by decide +kernel
theorem w_83 : lw_tbl[83]? = some (Cond.selects "OddBridgeModel" ⟨"OddBridgeModel", "sums", "(JII)J"⟩ ⟨"OddBridgeModel", "sums", "(JII)J"⟩) := by decide +kernel
theorem w_85 : lw_tbl[85]? = some (Cond.initialized "OddBridge") := by decide +kernel
theorem w_86 : lw_tbl[86]? = some (Cond.initialized "OddBridge$Scene") := by decide +kernel
theorem w_87 : lw_tbl[87]? = some (Cond.initialized "OddBridge$Vow") := by decide +kernel
theorem w_88 : lw_tbl[88]? = some (Cond.initialized "java/lang/String") := by decide +kernel
theorem w_89 : lw_tbl[89]? = some (Cond.initialized "java/lang/StringLatin1") := by decide +kernel
theorem w_90 : lw_tbl[90]? = some (Cond.initialized "java/lang/Math") := by decide +kernel
theorem w_94 : lw_tbl[94]? = some (Cond.initialized "OddBridge$Judge") := by decide +kernel
theorem w_95 : lw_tbl[95]? = some (Cond.initialized "OddBridge$Feast") := by decide +kernel
theorem w_96 : lw_tbl[96]? = some (Cond.initialized "OddBridge$Crossing") := by decide +kernel
theorem w_97 : lw_tbl[97]? = some (Cond.initialized "OddBridge$Hearing") := by decide +kernel
theorem w_98 : lw_tbl[98]? = some (Cond.initialized "OddBridge$Fraction") := by decide +kernel
theorem w_99 : lw_tbl[99]? = some (Cond.initialized "OddBridgeModel") := by decide +kernel
theorem w_100 : lw_tbl[100]? = some (Cond.initialized "java/util/Arrays") := by decide +kernel
theorem w_101 : lw_tbl[101]? = some (Cond.initialized "java/lang/Integer") := by decide +kernel
theorem w_117 : lw_tbl[117]? = some (Cond.fieldLink "OddBridge$Scene" 9 "OddBridge$Scene" "kinds" "[I") := by decide +kernel
theorem w_118 : lw_tbl[118]? = some (Cond.fieldLink "OddBridge$Scene" 15 "OddBridge$Scene" "times" "[I") := by decide +kernel
theorem w_119 : lw_tbl[119]? = some (Cond.fieldLinkNest "OddBridge$Crossing" 89 "OddBridge$Scene" "times" "[I" "OddBridge") := by decide +kernel
theorem w_120 : lw_tbl[120]? = some (Cond.fieldLinkNest "OddBridge$Feast" 82 "OddBridge$Scene" "times" "[I" "OddBridge") := by decide +kernel
theorem w_121 : lw_tbl[121]? = some (Cond.fieldLink "OddBridge$Scene" 18 "OddBridge$Scene" "comings" "[I") := by decide +kernel
theorem w_122 : lw_tbl[122]? = some (Cond.fieldLinkNest "OddBridge$Feast" 85 "OddBridge$Scene" "comings" "[I" "OddBridge") := by decide +kernel
theorem w_123 : lw_tbl[123]? = some (Cond.fieldLink "OddBridge$Scene" 21 "OddBridge$Scene" "doubts" "[I") := by decide +kernel
theorem w_124 : lw_tbl[124]? = some (Cond.fieldLinkNest "OddBridge" 196 "OddBridge$Scene" "doubts" "[I" "OddBridge") := by decide +kernel
theorem w_125 : lw_tbl[125]? = some (Cond.fieldLink "OddBridge$Scene" 24 "OddBridge$Scene" "walkers" "I") := by decide +kernel
theorem w_126 : lw_tbl[126]? = some (Cond.fieldLinkNest "OddBridge$Crossing" 45 "OddBridge$Scene" "walkers" "I" "OddBridge") := by decide +kernel
theorem w_127 : lw_tbl[127]? = some (Cond.fieldLinkNest "OddBridge" 90 "OddBridge$Scene" "walkers" "I" "OddBridge") := by decide +kernel
theorem w_128 : lw_tbl[128]? = some (Cond.fieldLinkNest "OddBridge$Feast" 74 "OddBridge$Scene" "walkers" "I" "OddBridge") := by decide +kernel
theorem w_129 : lw_tbl[129]? = some (Cond.fieldLink "OddBridge$Scene" 28 "OddBridge$Scene" "wall" "I") := by decide +kernel
theorem w_130 : lw_tbl[130]? = some (Cond.fieldLinkNest "OddBridge" 104 "OddBridge$Scene" "wall" "I" "OddBridge") := by decide +kernel
theorem w_131 : lw_tbl[131]? = some (Cond.fieldLinkNest "OddBridge$Feast" 88 "OddBridge$Scene" "wall" "I" "OddBridge") := by decide +kernel
theorem w_132 : lw_tbl[132]? = some (Cond.fieldLink "OddBridge$Scene" 31 "OddBridge$Scene" "price" "I") := by decide +kernel
theorem w_133 : lw_tbl[133]? = some (Cond.fieldLinkNest "OddBridge" 111 "OddBridge$Scene" "price" "I" "OddBridge") := by decide +kernel
theorem w_134 : lw_tbl[134]? = some (Cond.fieldLinkNest "OddBridge$Crossing" 102 "OddBridge$Scene" "price" "I" "OddBridge") := by decide +kernel
theorem w_135 : lw_tbl[135]? = some (Cond.fieldLink "OddBridge$Scene" 34 "OddBridge$Scene" "text" "[C") := by decide +kernel
theorem w_136 : lw_tbl[136]? = some (Cond.fieldLinkNest "OddBridge$Vow" 94 "OddBridge$Scene" "text" "[C" "OddBridge") := by decide +kernel
theorem w_137 : lw_tbl[137]? = some (Cond.fieldLink "OddBridge$Scene" 38 "OddBridge$Scene" "letters" "I") := by decide +kernel
theorem w_138 : lw_tbl[138]? = some (Cond.fieldLinkNest "OddBridge" 115 "OddBridge$Scene" "letters" "I" "OddBridge") := by decide +kernel
theorem w_139 : lw_tbl[139]? = some (Cond.fieldLinkNest "OddBridge$Vow" 122 "OddBridge$Scene" "letters" "I" "OddBridge") := by decide +kernel
theorem w_140 : lw_tbl[140]? = some (Cond.fieldLink "OddBridge$Scene" 41 "OddBridge$Scene" "sayers" "[I") := by decide +kernel
theorem w_141 : lw_tbl[141]? = some (Cond.fieldLinkNest "OddBridge$Hearing" 36 "OddBridge$Scene" "sayers" "[I" "OddBridge") := by decide +kernel
theorem w_142 : lw_tbl[142]? = some (Cond.fieldLink "OddBridge$Scene" 44 "OddBridge$Scene" "begins" "[I") := by decide +kernel
theorem w_143 : lw_tbl[143]? = some (Cond.fieldLinkNest "OddBridge$Hearing" 29 "OddBridge$Scene" "begins" "[I" "OddBridge") := by decide +kernel
theorem w_144 : lw_tbl[144]? = some (Cond.fieldLink "OddBridge$Scene" 47 "OddBridge$Scene" "ends" "[I") := by decide +kernel
theorem w_145 : lw_tbl[145]? = some (Cond.fieldLinkNest "OddBridge$Hearing" 33 "OddBridge$Scene" "ends" "[I" "OddBridge") := by decide +kernel
theorem w_146 : lw_tbl[146]? = some (Cond.fieldLink "OddBridge$Scene" 50 "OddBridge$Scene" "said" "I") := by decide +kernel
theorem w_147 : lw_tbl[147]? = some (Cond.fieldLinkNest "OddBridge$Hearing" 19 "OddBridge$Scene" "said" "I" "OddBridge") := by decide +kernel
theorem w_148 : lw_tbl[148]? = some (Cond.fieldLinkNest "OddBridge" 210 "OddBridge$Scene" "said" "I" "OddBridge") := by decide +kernel
theorem w_186 : lw_tbl[186]? = some (Cond.instanceMethod ⟨"OddBridge$Vow", "read", "()V"⟩) := by decide +kernel
theorem w_187 : lw_tbl[187]? = some (Cond.code ⟨"OddBridge$Vow", "read", "()V"⟩ prog_8_method_2_code 1 none) := by decide +kernel
theorem w_188 : lw_tbl[188]? = some (Cond.methodLink "OddBridge$Vow" 44 ⟨"OddBridge$Vow", "readValue", "(I)V"⟩) := by decide +kernel
theorem w_190 : lw_tbl[190]? = some (Cond.instanceMethod ⟨"OddBridge$Vow", "readValue", "(I)V"⟩) := by decide +kernel
theorem w_191 : lw_tbl[191]? = some (Cond.code ⟨"OddBridge$Vow", "readValue", "(I)V"⟩ prog_8_method_3_code 3 none) := by decide +kernel
theorem w_192 : lw_tbl[192]? = some (Cond.methodLink "OddBridge$Vow" 56 ⟨"OddBridge$Vow", "readBoth", "(I)V"⟩) := by decide +kernel
theorem w_194 : lw_tbl[194]? = some (Cond.instanceMethod ⟨"OddBridge$Vow", "readBoth", "(I)V"⟩) := by decide +kernel
theorem w_195 : lw_tbl[195]? = some (Cond.code ⟨"OddBridge$Vow", "readBoth", "(I)V"⟩ prog_8_method_4_code 3 none) := by decide +kernel
theorem w_196 : lw_tbl[196]? = some (Cond.methodLink "OddBridge$Vow" 69 ⟨"OddBridge$Vow", "readHeld", "(I)V"⟩) := by decide +kernel
theorem w_198 : lw_tbl[198]? = some (Cond.instanceMethod ⟨"OddBridge$Vow", "readHeld", "(I)V"⟩) := by decide +kernel
theorem w_199 : lw_tbl[199]? = some (Cond.code ⟨"OddBridge$Vow", "readHeld", "(I)V"⟩ prog_8_method_5_code 3 none) := by decide +kernel
theorem w_200 : lw_tbl[200]? = some (Cond.methodLink "OddBridge$Vow" 74 ⟨"OddBridge$Vow", "readSum", "(I)V"⟩) := by decide +kernel
theorem w_202 : lw_tbl[202]? = some (Cond.instanceMethod ⟨"OddBridge$Vow", "readSum", "(I)V"⟩) := by decide +kernel
theorem w_203 : lw_tbl[203]? = some (Cond.code ⟨"OddBridge$Vow", "readSum", "(I)V"⟩ prog_8_method_6_code 4 none) := by decide +kernel
theorem w_204 : lw_tbl[204]? = some (Cond.methodLink "OddBridge$Vow" 79 ⟨"OddBridge$Vow", "readTerm", "(I)V"⟩) := by decide +kernel
theorem w_206 : lw_tbl[206]? = some (Cond.instanceMethod ⟨"OddBridge$Vow", "readTerm", "(I)V"⟩) := by decide +kernel
theorem w_207 : lw_tbl[207]? = some (Cond.code ⟨"OddBridge$Vow", "readTerm", "(I)V"⟩ prog_8_method_7_code 4 none) := by decide +kernel
theorem w_208 : lw_tbl[208]? = some (Cond.methodLink "OddBridge$Vow" 84 ⟨"OddBridge$Vow", "readUnit", "(I)V"⟩) := by decide +kernel
theorem w_210 : lw_tbl[210]? = some (Cond.instanceMethod ⟨"OddBridge$Vow", "readUnit", "(I)V"⟩) := by decide +kernel
theorem w_211 : lw_tbl[211]? = some (Cond.code ⟨"OddBridge$Vow", "readUnit", "(I)V"⟩ prog_8_method_8_code 6 none) := by decide +kernel
theorem w_213 : lw_tbl[213]? = some (Cond.methodLink "OddBridge$Vow" 61 ⟨"OddBridge$Vow", "take", "(Ljava/lang/String;)I"⟩) := by decide +kernel
theorem w_215 : lw_tbl[215]? = some (Cond.instanceMethod ⟨"OddBridge$Vow", "take", "(Ljava/lang/String;)I"⟩) := by decide +kernel
theorem w_216 : lw_tbl[216]? = some (Cond.code ⟨"OddBridge$Vow", "take", "(Ljava/lang/String;)I"⟩ prog_8_method_15_code 3 (some .int)) := by decide +kernel
theorem w_217 : lw_tbl[217]? = some (Cond.methodLink "OddBridge$Vow" 48 ⟨"OddBridge$Vow", "nextSign", "()I"⟩) := by decide +kernel
theorem w_219 : lw_tbl[219]? = some (Cond.instanceMethod ⟨"OddBridge$Vow", "nextSign", "()I"⟩) := by decide +kernel
theorem w_220 : lw_tbl[220]? = some (Cond.code ⟨"OddBridge$Vow", "nextSign", "()I"⟩ prog_8_method_14_code 1 (some .int)) := by decide +kernel
theorem w_221 : lw_tbl[221]? = some (Cond.methodLink "OddBridge$Vow" 117 ⟨"OddBridge$Vow", "signAt", "(I)I"⟩) := by decide +kernel
theorem w_223 : lw_tbl[223]? = some (Cond.instanceMethod ⟨"OddBridge$Vow", "signAt", "(I)I"⟩) := by decide +kernel
theorem w_224 : lw_tbl[224]? = some (Cond.code ⟨"OddBridge$Vow", "signAt", "(I)I"⟩ prog_8_method_13_code 2 (some .int)) := by decide +kernel
theorem w_225 : lw_tbl[225]? = some (Cond.methodLink "OddBridge$Vow" 111 ⟨"java/lang/String", "indexOf", "(I)I"⟩) := by decide +kernel
theorem w_226 : lw_tbl[226]? = some (Cond.instanceMethod ⟨"java/lang/String", "indexOf", "(I)I"⟩) := by decide +kernel
theorem w_227 : lw_tbl[227]? = some (Cond.selects "java/lang/String" ⟨"java/lang/String", "indexOf", "(I)I"⟩ ⟨"java/lang/String", "indexOf", "(I)I"⟩) := by decide +kernel
theorem w_228 : lw_tbl[228]? = some (Cond.code ⟨"java/lang/String", "indexOf", "(I)I"⟩ prog_14_method_79_code 2 (some .int)) := by decide +kernel
theorem w_229 : lw_tbl[229]? = some (Cond.methodLink "java/lang/String" 633 ⟨"java/lang/String", "indexOf", "(II)I"⟩) := by decide +kernel
theorem w_230 : lw_tbl[230]? = some (Cond.instanceMethod ⟨"java/lang/String", "indexOf", "(II)I"⟩) := by decide +kernel
theorem w_231 : lw_tbl[231]? = some (Cond.selects "java/lang/String" ⟨"java/lang/String", "indexOf", "(II)I"⟩ ⟨"java/lang/String", "indexOf", "(II)I"⟩) := by decide +kernel
theorem w_232 : lw_tbl[232]? = some (Cond.code ⟨"java/lang/String", "indexOf", "(II)I"⟩ prog_14_method_80_code 3 (some .int)) := by decide +kernel
theorem w_233 : lw_tbl[233]? = some (Cond.methodLink "java/lang/String" 492 ⟨"java/lang/String", "isLatin1", "()Z"⟩) := by decide +kernel
theorem w_234 : lw_tbl[234]? = some (Cond.instanceMethod ⟨"java/lang/String", "isLatin1", "()Z"⟩) := by decide +kernel
theorem w_235 : lw_tbl[235]? = some (Cond.selects "java/lang/String" ⟨"java/lang/String", "isLatin1", "()Z"⟩ ⟨"java/lang/String", "isLatin1", "()Z"⟩) := by decide +kernel
theorem w_236 : lw_tbl[236]? = some (Cond.code ⟨"java/lang/String", "isLatin1", "()Z"⟩ prog_14_method_154_code 1 (some .boolean)) := by decide +kernel
theorem w_239 : lw_tbl[239]? = some (Cond.methodLink "java/lang/String" 505 ⟨"java/lang/String", "length", "()I"⟩) := by decide +kernel
theorem w_240 : lw_tbl[240]? = some (Cond.instanceMethod ⟨"java/lang/String", "length", "()I"⟩) := by decide +kernel
theorem w_241 : lw_tbl[241]? = some (Cond.selects "java/lang/String" ⟨"java/lang/String", "length", "()I"⟩ ⟨"java/lang/String", "length", "()I"⟩) := by decide +kernel
theorem w_242 : lw_tbl[242]? = some (Cond.code ⟨"java/lang/String", "length", "()I"⟩ prog_14_method_54_code 1 (some .int)) := by decide +kernel
theorem w_243 : lw_tbl[243]? = some (Cond.methodLink "java/lang/String" 335 ⟨"java/lang/String", "coder", "()B"⟩) := by decide +kernel
theorem w_244 : lw_tbl[244]? = some (Cond.instanceMethod ⟨"java/lang/String", "coder", "()B"⟩) := by decide +kernel
theorem w_245 : lw_tbl[245]? = some (Cond.selects "java/lang/String" ⟨"java/lang/String", "coder", "()B"⟩ ⟨"java/lang/String", "coder", "()B"⟩) := by decide +kernel
theorem w_246 : lw_tbl[246]? = some (Cond.code ⟨"java/lang/String", "coder", "()B"⟩ prog_14_method_152_code 1 (some .byte)) := by decide +kernel
theorem w_247 : lw_tbl[247]? = some (Cond.methodLink "java/lang/String" 637 ⟨"java/lang/StringLatin1", "indexOf", "([BIII)I"⟩) := by decide +kernel
theorem w_248 : lw_tbl[248]? = some (Cond.static ⟨"java/lang/StringLatin1", "indexOf", "([BIII)I"⟩) := by decide +kernel
theorem w_249 : lw_tbl[249]? = some (Cond.code ⟨"java/lang/StringLatin1", "indexOf", "([BIII)I"⟩ prog_15_method_22_code 4 (some .int)) := by decide +kernel
theorem w_250 : lw_tbl[250]? = some (Cond.methodLink "java/lang/StringLatin1" 88 ⟨"java/lang/StringLatin1", "canEncode", "(I)Z"⟩) := by decide +kernel
theorem w_251 : lw_tbl[251]? = some (Cond.static ⟨"java/lang/StringLatin1", "canEncode", "(I)Z"⟩) := by decide +kernel
theorem w_252 : lw_tbl[252]? = some (Cond.code ⟨"java/lang/StringLatin1", "canEncode", "(I)Z"⟩ prog_15_method_4_code 1 (some .boolean)) := by decide +kernel
theorem w_253 : lw_tbl[253]? = some (Cond.methodLink "java/lang/StringLatin1" 92 ⟨"java/lang/Math", "max", "(II)I"⟩) := by decide +kernel
theorem w_254 : lw_tbl[254]? = some (Cond.static ⟨"java/lang/Math", "max", "(II)I"⟩) := by decide +kernel
theorem w_255 : lw_tbl[255]? = some (Cond.code ⟨"java/lang/Math", "max", "(II)I"⟩ prog_13_method_65_code 2 (some .int)) := by decide +kernel
theorem w_256 : lw_tbl[256]? = some (Cond.methodLink "java/lang/StringLatin1" 38 ⟨"java/lang/Math", "min", "(II)I"⟩) := by decide +kernel
theorem w_257 : lw_tbl[257]? = some (Cond.static ⟨"java/lang/Math", "min", "(II)I"⟩) := by decide +kernel
theorem w_258 : lw_tbl[258]? = some (Cond.code ⟨"java/lang/Math", "min", "(II)I"⟩ prog_13_method_69_code 2 (some .int)) := by decide +kernel
theorem w_259 : lw_tbl[259]? = some (Cond.methodLink "java/lang/StringLatin1" 95 ⟨"java/lang/StringLatin1", "indexOfChar", "([BIII)I"⟩) := by decide +kernel
theorem w_260 : lw_tbl[260]? = some (Cond.static ⟨"java/lang/StringLatin1", "indexOfChar", "([BIII)I"⟩) := by decide +kernel
theorem w_261 : lw_tbl[261]? = some (Cond.code ⟨"java/lang/StringLatin1", "indexOfChar", "([BIII)I"⟩ prog_15_method_23_code 6 (some .int)) := by decide +kernel
theorem w_311 : lw_tbl[311]? = some (Cond.methodLink "OddBridge$Vow" 91 ⟨"OddBridge$Vow", "readBareUnit", "(I)V"⟩) := by decide +kernel
theorem w_313 : lw_tbl[313]? = some (Cond.instanceMethod ⟨"OddBridge$Vow", "readBareUnit", "(I)V"⟩) := by decide +kernel
theorem w_314 : lw_tbl[314]? = some (Cond.code ⟨"OddBridge$Vow", "readBareUnit", "(I)V"⟩ prog_8_method_9_code 3 none) := by decide +kernel
theorem w_315 : lw_tbl[315]? = some (Cond.methodLink "OddBridge$Vow" 99 ⟨"OddBridge$Vow", "isDigit", "(I)Z"⟩) := by decide +kernel
theorem w_316 : lw_tbl[316]? = some (Cond.static ⟨"OddBridge$Vow", "isDigit", "(I)Z"⟩) := by decide +kernel
theorem w_317 : lw_tbl[317]? = some (Cond.code ⟨"OddBridge$Vow", "isDigit", "(I)Z"⟩ prog_8_method_12_code 1 (some .boolean)) := by decide +kernel
theorem w_318 : lw_tbl[318]? = some (Cond.methodLink "OddBridge$Vow" 103 ⟨"OddBridge$Vow", "readDigits", "()V"⟩) := by decide +kernel
theorem w_320 : lw_tbl[320]? = some (Cond.instanceMethod ⟨"OddBridge$Vow", "readDigits", "()V"⟩) := by decide +kernel
theorem w_321 : lw_tbl[321]? = some (Cond.code ⟨"OddBridge$Vow", "readDigits", "()V"⟩ prog_8_method_10_code 3 none) := by decide +kernel
theorem w_322 : lw_tbl[322]? = some (Cond.methodLink "OddBridge$Vow" 52 ⟨"OddBridge$Vow", "setFlaw", "(II)V"⟩) := by decide +kernel
theorem w_324 : lw_tbl[324]? = some (Cond.instanceMethod ⟨"OddBridge$Vow", "setFlaw", "(II)V"⟩) := by decide +kernel
theorem w_325 : lw_tbl[325]? = some (Cond.code ⟨"OddBridge$Vow", "setFlaw", "(II)V"⟩ prog_8_method_16_code 3 none) := by decide +kernel
theorem w_326 : lw_tbl[326]? = some (Cond.methodLink "OddBridge$Vow" 65 ⟨"OddBridge$Vow", "addSign", "(CI)V"⟩) := by decide +kernel
theorem w_328 : lw_tbl[328]? = some (Cond.instanceMethod ⟨"OddBridge$Vow", "addSign", "(CI)V"⟩) := by decide +kernel
theorem w_329 : lw_tbl[329]? = some (Cond.code ⟨"OddBridge$Vow", "addSign", "(CI)V"⟩ prog_8_method_17_code 3 none) := by decide +kernel
theorem w_330 : lw_tbl[330]? = some (Cond.methodLink "OddBridge$Vow" 106 ⟨"OddBridge$Vow", "readOpened", "(I)V"⟩) := by decide +kernel
theorem w_332 : lw_tbl[332]? = some (Cond.instanceMethod ⟨"OddBridge$Vow", "readOpened", "(I)V"⟩) := by decide +kernel
theorem w_333 : lw_tbl[333]? = some (Cond.code ⟨"OddBridge$Vow", "readOpened", "(I)V"⟩ prog_8_method_11_code 2 none) := by decide +kernel
theorem w_341 : lw_tbl[341]? = some (Cond.fieldLink "OddBridge$Vow" 23 "OddBridge$Vow" "scene" "LOddBridge$Scene;") := by decide +kernel
theorem w_342 : lw_tbl[342]? = some (Cond.fieldLink "OddBridge$Vow" 9 "OddBridge$Vow" "signs" "[C") := by decide +kernel
theorem w_343 : lw_tbl[343]? = some (Cond.fieldLink "OddBridge$Vow" 15 "OddBridge$Vow" "numbers" "[I") := by decide +kernel
theorem w_344 : lw_tbl[344]? = some (Cond.fieldLink "OddBridge$Vow" 34 "OddBridge$Vow" "length" "I") := by decide +kernel
theorem w_345 : lw_tbl[345]? = some (Cond.fieldLink "OddBridge$Vow" 19 "OddBridge$Vow" "stack" "[J") := by decide +kernel
theorem w_346 : lw_tbl[346]? = some (Cond.fieldLink "OddBridge$Vow" 125 "OddBridge$Vow" "top" "I") := by decide +kernel
theorem w_347 : lw_tbl[347]? = some (Cond.fieldLink "OddBridge$Vow" 30 "OddBridge$Vow" "place" "I") := by decide +kernel
theorem w_348 : lw_tbl[348]? = some (Cond.fieldLink "OddBridge$Vow" 37 "OddBridge$Vow" "flaw" "I") := by decide +kernel
theorem w_349 : lw_tbl[349]? = some (Cond.fieldLinkNest "OddBridge" 125 "OddBridge$Vow" "flaw" "I" "OddBridge") := by decide +kernel
theorem w_350 : lw_tbl[350]? = some (Cond.fieldLink "OddBridge$Vow" 40 "OddBridge$Vow" "namesMinute" "Z") := by decide +kernel
theorem w_351 : lw_tbl[351]? = some (Cond.fieldLinkNest "OddBridge$Judge" 40 "OddBridge$Vow" "namesMinute" "Z" "OddBridge") := by decide +kernel
theorem w_380 : lw_tbl[380]? = some (Cond.fieldLink "OddBridge$Judge" 26 "OddBridge$Judge" "scene" "LOddBridge$Scene;") := by decide +kernel
theorem w_381 : lw_tbl[381]? = some (Cond.fieldLink "OddBridge$Judge" 30 "OddBridge$Judge" "vow" "LOddBridge$Vow;") := by decide +kernel
theorem w_382 : lw_tbl[382]? = some (Cond.fieldLink "OddBridge$Judge" 9 "OddBridge$Judge" "brought" "[I") := by decide +kernel
theorem w_383 : lw_tbl[383]? = some (Cond.fieldLink "OddBridge$Judge" 15 "OddBridge$Judge" "asked" "[J") := by decide +kernel
theorem w_384 : lw_tbl[384]? = some (Cond.fieldLink "OddBridge$Judge" 19 "OddBridge$Judge" "found" "[J") := by decide +kernel
theorem w_385 : lw_tbl[385]? = some (Cond.fieldLink "OddBridge$Judge" 22 "OddBridge$Judge" "stale" "Z") := by decide +kernel
theorem w_386 : lw_tbl[386]? = some (Cond.fieldLinkNest "OddBridge" 253 "OddBridge$Judge" "stale" "Z" "OddBridge") := by decide +kernel
theorem w_406 : lw_tbl[406]? = some (Cond.fieldLink "OddBridge$Feast" 25 "OddBridge$Feast" "scene" "LOddBridge$Scene;") := by decide +kernel
theorem w_407 : lw_tbl[407]? = some (Cond.fieldLink "OddBridge$Feast" 29 "OddBridge$Feast" "judge" "LOddBridge$Judge;") := by decide +kernel
theorem w_408 : lw_tbl[408]? = some (Cond.fieldLink "OddBridge$Feast" 9 "OddBridge$Feast" "behind" "[I") := by decide +kernel
theorem w_409 : lw_tbl[409]? = some (Cond.fieldLinkNest "OddBridge" 142 "OddBridge$Feast" "behind" "[I" "OddBridge") := by decide +kernel
theorem w_410 : lw_tbl[410]? = some (Cond.fieldLink "OddBridge$Feast" 15 "OddBridge$Feast" "cameOn" "[I") := by decide +kernel
theorem w_411 : lw_tbl[411]? = some (Cond.fieldLinkNest "OddBridge" 149 "OddBridge$Feast" "cameOn" "[I" "OddBridge") := by decide +kernel
theorem w_412 : lw_tbl[412]? = some (Cond.fieldLink "OddBridge$Feast" 18 "OddBridge$Feast" "wentOff" "[I") := by decide +kernel
theorem w_413 : lw_tbl[413]? = some (Cond.fieldLinkNest "OddBridge" 152 "OddBridge$Feast" "wentOff" "[I" "OddBridge") := by decide +kernel
theorem w_414 : lw_tbl[414]? = some (Cond.fieldLink "OddBridge$Feast" 33 "OddBridge$Feast" "present" "I") := by decide +kernel
theorem w_415 : lw_tbl[415]? = some (Cond.fieldLink "OddBridge$Feast" 37 "OddBridge$Feast" "faults" "I") := by decide +kernel
theorem w_416 : lw_tbl[416]? = some (Cond.fieldLinkNest "OddBridge" 155 "OddBridge$Feast" "faults" "I" "OddBridge") := by decide +kernel
theorem w_417 : lw_tbl[417]? = some (Cond.fieldLink "OddBridge$Feast" 40 "OddBridge$Feast" "firstFault" "I") := by decide +kernel
theorem w_418 : lw_tbl[418]? = some (Cond.fieldLinkNest "OddBridge" 158 "OddBridge$Feast" "firstFault" "I" "OddBridge") := by decide +kernel
theorem w_419 : lw_tbl[419]? = some (Cond.fieldLink "OddBridge$Feast" 21 "OddBridge$Feast" "known" "Z") := by decide +kernel
theorem w_420 : lw_tbl[420]? = some (Cond.fieldLinkNest "OddBridge" 107 "OddBridge$Feast" "known" "Z" "OddBridge") := by decide +kernel
theorem w_446 : lw_tbl[446]? = some (Cond.fieldLink "OddBridge$Crossing" 37 "OddBridge$Crossing" "scene" "LOddBridge$Scene;") := by decide +kernel
theorem w_447 : lw_tbl[447]? = some (Cond.fieldLink "OddBridge$Crossing" 41 "OddBridge$Crossing" "judge" "LOddBridge$Judge;") := by decide +kernel
theorem w_448 : lw_tbl[448]? = some (Cond.fieldLink "OddBridge$Crossing" 9 "OddBridge$Crossing" "beggars" "[I") := by decide +kernel
theorem w_449 : lw_tbl[449]? = some (Cond.fieldLink "OddBridge$Crossing" 15 "OddBridge$Crossing" "lasts" "[I") := by decide +kernel
theorem w_450 : lw_tbl[450]? = some (Cond.fieldLink "OddBridge$Crossing" 18 "OddBridge$Crossing" "minutes" "[I") := by decide +kernel
theorem w_451 : lw_tbl[451]? = some (Cond.fieldLink "OddBridge$Crossing" 21 "OddBridge$Crossing" "pays" "[I") := by decide +kernel
theorem w_452 : lw_tbl[452]? = some (Cond.fieldLink "OddBridge$Crossing" 24 "OddBridge$Crossing" "firsts" "[I") := by decide +kernel
theorem w_453 : lw_tbl[453]? = some (Cond.fieldLink "OddBridge$Crossing" 27 "OddBridge$Crossing" "leastPays" "[I") := by decide +kernel
theorem w_454 : lw_tbl[454]? = some (Cond.fieldLink "OddBridge$Crossing" 30 "OddBridge$Crossing" "row" "[I") := by decide +kernel
theorem w_455 : lw_tbl[455]? = some (Cond.fieldLinkNest "OddBridge" 182 "OddBridge$Crossing" "row" "[I" "OddBridge") := by decide +kernel
theorem w_456 : lw_tbl[456]? = some (Cond.fieldLink "OddBridge$Crossing" 70 "OddBridge$Crossing" "companies" "I") := by decide +kernel
theorem w_457 : lw_tbl[457]? = some (Cond.fieldLinkNest "OddBridge" 173 "OddBridge$Crossing" "companies" "I" "OddBridge") := by decide +kernel
theorem w_458 : lw_tbl[458]? = some (Cond.fieldLink "OddBridge$Crossing" 58 "OddBridge$Crossing" "hasRow" "Z") := by decide +kernel
theorem w_459 : lw_tbl[459]? = some (Cond.fieldLinkNest "OddBridge" 170 "OddBridge$Crossing" "hasRow" "Z" "OddBridge") := by decide +kernel
theorem w_460 : lw_tbl[460]? = some (Cond.fieldLink "OddBridge$Crossing" 61 "OddBridge$Crossing" "leastMinutes" "I") := by decide +kernel
theorem w_461 : lw_tbl[461]? = some (Cond.fieldLinkNest "OddBridge" 164 "OddBridge$Crossing" "leastMinutes" "I" "OddBridge") := by decide +kernel
theorem w_462 : lw_tbl[462]? = some (Cond.fieldLink "OddBridge$Crossing" 64 "OddBridge$Crossing" "payOfRow" "I") := by decide +kernel
theorem w_463 : lw_tbl[463]? = some (Cond.fieldLinkNest "OddBridge" 167 "OddBridge$Crossing" "payOfRow" "I" "OddBridge") := by decide +kernel
theorem w_464 : lw_tbl[464]? = some (Cond.fieldLink "OddBridge$Crossing" 67 "OddBridge$Crossing" "leastPay" "I") := by decide +kernel
theorem w_465 : lw_tbl[465]? = some (Cond.fieldLinkNest "OddBridge" 176 "OddBridge$Crossing" "leastPay" "I" "OddBridge") := by decide +kernel
theorem w_466 : lw_tbl[466]? = some (Cond.fieldLink "OddBridge$Crossing" 33 "OddBridge$Crossing" "known" "Z") := by decide +kernel
theorem w_467 : lw_tbl[467]? = some (Cond.fieldLinkNest "OddBridge" 114 "OddBridge$Crossing" "known" "Z" "OddBridge") := by decide +kernel
theorem w_505 : lw_tbl[505]? = some (Cond.fieldLink "OddBridge$Hearing" 9 "OddBridge$Hearing" "scene" "LOddBridge$Scene;") := by decide +kernel
theorem w_506 : lw_tbl[506]? = some (Cond.fieldLink "OddBridge$Hearing" 15 "OddBridge$Hearing" "judge" "LOddBridge$Judge;") := by decide +kernel
theorem w_518 : lw_tbl[518]? = some (Cond.fieldLink "OddBridge$Fraction" 7 "OddBridge$Fraction" "above" "J") := by decide +kernel
theorem w_519 : lw_tbl[519]? = some (Cond.fieldLinkNest "OddBridge" 226 "OddBridge$Fraction" "above" "J" "OddBridge") := by decide +kernel
theorem w_520 : lw_tbl[520]? = some (Cond.fieldLink "OddBridge$Fraction" 13 "OddBridge$Fraction" "below" "J") := by decide +kernel
theorem w_521 : lw_tbl[521]? = some (Cond.fieldLinkNest "OddBridge" 230 "OddBridge$Fraction" "below" "J" "OddBridge") := by decide +kernel
theorem w_527 : lw_tbl[527]? = some (Cond.fieldLink "OddBridge" 10 "OddBridge" "scene" "LOddBridge$Scene;") := by decide +kernel
theorem w_528 : lw_tbl[528]? = some (Cond.fieldLink "OddBridge" 16 "OddBridge" "firstImage" "LOddBridge$Scene;") := by decide +kernel
theorem w_529 : lw_tbl[529]? = some (Cond.fieldLink "OddBridge" 19 "OddBridge" "secondImage" "LOddBridge$Scene;") := by decide +kernel
theorem w_530 : lw_tbl[530]? = some (Cond.fieldLink "OddBridge" 22 "OddBridge" "kept" "[Z") := by decide +kernel
theorem w_531 : lw_tbl[531]? = some (Cond.fieldLink "OddBridge" 31 "OddBridge" "vow" "LOddBridge$Vow;") := by decide +kernel
theorem w_532 : lw_tbl[532]? = some (Cond.fieldLink "OddBridge" 40 "OddBridge" "judge" "LOddBridge$Judge;") := by decide +kernel
theorem w_533 : lw_tbl[533]? = some (Cond.fieldLink "OddBridge" 49 "OddBridge" "feast" "LOddBridge$Feast;") := by decide +kernel
theorem w_534 : lw_tbl[534]? = some (Cond.fieldLink "OddBridge" 56 "OddBridge" "crossing" "LOddBridge$Crossing;") := by decide +kernel
theorem w_535 : lw_tbl[535]? = some (Cond.fieldLink "OddBridge" 63 "OddBridge" "hearing" "LOddBridge$Hearing;") := by decide +kernel
theorem w_536 : lw_tbl[536]? = some (Cond.fieldLink "OddBridge" 70 "OddBridge" "fraction" "LOddBridge$Fraction;") := by decide +kernel
theorem w_537 : lw_tbl[537]? = some (Cond.fieldLink "OddBridge" 74 "OddBridge" "stops" "[J") := by decide +kernel
theorem w_538 : lw_tbl[538]? = some (Cond.fieldLink "OddBridge" 78 "OddBridge" "ways" "[I") := by decide +kernel
theorem w_539 : lw_tbl[539]? = some (Cond.fieldLink "OddBridge" 179 "OddBridge" "refusedBad" "I") := by decide +kernel
theorem w_540 : lw_tbl[540]? = some (Cond.fieldLink "OddBridge" 239 "OddBridge" "refusedNo" "I") := by decide +kernel
theorem w_541 : lw_tbl[541]? = some (Cond.fieldLink "OddBridge" 242 "OddBridge" "refusedFull" "I") := by decide +kernel
theorem w_577 : lw_tbl[577]? = some (Cond.methodLink "OddBridge" 82 ⟨"OddBridge", "isWithin", "(III)Z"⟩) := by decide +kernel
theorem w_578 : lw_tbl[578]? = some (Cond.static ⟨"OddBridge", "isWithin", "(III)Z"⟩) := by decide +kernel
theorem w_579 : lw_tbl[579]? = some (Cond.code ⟨"OddBridge", "isWithin", "(III)Z"⟩ prog_1_method_31_code 3 (some .boolean)) := by decide +kernel
theorem w_580 : lw_tbl[580]? = some (Cond.methodLink "OddBridge" 86 ⟨"OddBridge", "refuseAsBad", "()I"⟩) := by decide +kernel
theorem w_582 : lw_tbl[582]? = some (Cond.instanceMethod ⟨"OddBridge", "refuseAsBad", "()I"⟩) := by decide +kernel
theorem w_583 : lw_tbl[583]? = some (Cond.code ⟨"OddBridge", "refuseAsBad", "()I"⟩ prog_1_method_28_code 1 (some .int)) := by decide +kernel
theorem w_584 : lw_tbl[584]? = some (Cond.methodLink "OddBridge" 94 ⟨"OddBridge", "refuseAsFull", "()I"⟩) := by decide +kernel
theorem w_586 : lw_tbl[586]? = some (Cond.instanceMethod ⟨"OddBridge", "refuseAsFull", "()I"⟩) := by decide +kernel
theorem w_587 : lw_tbl[587]? = some (Cond.code ⟨"OddBridge", "refuseAsFull", "()I"⟩ prog_1_method_30_code 1 (some .int)) := by decide +kernel
theorem w_588 : lw_tbl[588]? = some (Cond.methodLinkNest "OddBridge" 97 ⟨"OddBridge$Scene", "addWalker", "(III)V"⟩ "OddBridge") := by decide +kernel
theorem w_590 : lw_tbl[590]? = some (Cond.instanceMethod ⟨"OddBridge$Scene", "addWalker", "(III)V"⟩) := by decide +kernel
theorem w_591 : lw_tbl[591]? = some (Cond.code ⟨"OddBridge$Scene", "addWalker", "(III)V"⟩ prog_7_method_2_code 4 none) := by decide +kernel
theorem w_592 : lw_tbl[592]? = some (Cond.methodLink "OddBridge" 101 ⟨"OddBridge", "forgetWhatFollows", "()V"⟩) := by decide +kernel
theorem w_594 : lw_tbl[594]? = some (Cond.instanceMethod ⟨"OddBridge", "forgetWhatFollows", "()V"⟩) := by decide +kernel
theorem w_595 : lw_tbl[595]? = some (Cond.code ⟨"OddBridge", "forgetWhatFollows", "()V"⟩ prog_1_method_36_code 1 none) := by decide +kernel
theorem w_604 : lw_tbl[604]? = some (Cond.methodLinkNest "OddBridge" 118 ⟨"OddBridge$Scene", "addLetter", "(C)V"⟩ "OddBridge") := by decide +kernel
theorem w_606 : lw_tbl[606]? = some (Cond.instanceMethod ⟨"OddBridge$Scene", "addLetter", "(C)V"⟩) := by decide +kernel
theorem w_607 : lw_tbl[607]? = some (Cond.code ⟨"OddBridge$Scene", "addLetter", "(C)V"⟩ prog_7_method_3_code 2 none) := by decide +kernel
theorem w_608 : lw_tbl[608]? = some (Cond.methodLinkNest "OddBridge" 122 ⟨"OddBridge$Vow", "read", "()V"⟩ "OddBridge") := by decide +kernel
theorem w_621 : lw_tbl[621]? = some (Cond.methodLink "OddBridge" 128 ⟨"OddBridge", "isSetOf", "(II)Z"⟩) := by decide +kernel
theorem w_622 : lw_tbl[622]? = some (Cond.static ⟨"OddBridge", "isSetOf", "(II)Z"⟩) := by decide +kernel
theorem w_623 : lw_tbl[623]? = some (Cond.code ⟨"OddBridge", "isSetOf", "(II)Z"⟩ prog_1_method_32_code 2 (some .boolean)) := by decide +kernel
theorem w_624 : lw_tbl[624]? = some (Cond.methodLinkNest "OddBridge" 132 ⟨"OddBridge$Scene", "sumBrought", "(II)I"⟩ "OddBridge") := by decide +kernel
theorem w_626 : lw_tbl[626]? = some (Cond.instanceMethod ⟨"OddBridge$Scene", "sumBrought", "(II)I"⟩) := by decide +kernel
theorem w_627 : lw_tbl[627]? = some (Cond.code ⟨"OddBridge$Scene", "sumBrought", "(II)I"⟩ prog_7_method_6_code 6 (some .int)) := by decide +kernel
theorem w_628 : lw_tbl[628]? = some (Cond.methodLinkNest "OddBridge$Scene" 59 ⟨"OddBridge", "holds", "(II)Z"⟩ "OddBridge") := by decide +kernel
theorem w_629 : lw_tbl[629]? = some (Cond.static ⟨"OddBridge", "holds", "(II)Z"⟩) := by decide +kernel
theorem w_630 : lw_tbl[630]? = some (Cond.code ⟨"OddBridge", "holds", "(II)Z"⟩ prog_1_method_33_code 2 (some .boolean)) := by decide +kernel
theorem w_637 : lw_tbl[637]? = some (Cond.methodLinkNest "OddBridge" 136 ⟨"OddBridge$Judge", "isWell", "(II)Z"⟩ "OddBridge") := by decide +kernel
theorem w_639 : lw_tbl[639]? = some (Cond.instanceMethod ⟨"OddBridge$Judge", "isWell", "(II)Z"⟩) := by decide +kernel
theorem w_640 : lw_tbl[640]? = some (Cond.code ⟨"OddBridge$Judge", "isWell", "(II)Z"⟩ prog_6_method_2_code 7 (some .boolean)) := by decide +kernel
theorem w_641 : lw_tbl[641]? = some (Cond.methodLink "OddBridge$Judge" 34 ⟨"java/util/Arrays", "fill", "([JJ)V"⟩) := by decide +kernel
theorem w_642 : lw_tbl[642]? = some (Cond.static ⟨"java/util/Arrays", "fill", "([JJ)V"⟩) := by decide +kernel
theorem w_643 : lw_tbl[643]? = some (Cond.code ⟨"java/util/Arrays", "fill", "([JJ)V"⟩ prog_18_method_101_code 5 none) := by decide +kernel
theorem w_644 : lw_tbl[644]? = some (Cond.methodLink "OddBridge$Judge" 45 ⟨"OddBridge$Judge", "isOdd", "(III)Z"⟩) := by decide +kernel
theorem w_646 : lw_tbl[646]? = some (Cond.instanceMethod ⟨"OddBridge$Judge", "isOdd", "(III)Z"⟩) := by decide +kernel
theorem w_647 : lw_tbl[647]? = some (Cond.code ⟨"OddBridge$Judge", "isOdd", "(III)Z"⟩ prog_6_method_3_code 5 (some .boolean)) := by decide +kernel
theorem w_648 : lw_tbl[648]? = some (Cond.methodLinkNest "OddBridge$Judge" 51 ⟨"OddBridge$Scene", "sumBrought", "(II)I"⟩ "OddBridge") := by decide +kernel
theorem w_649 : lw_tbl[649]? = some (Cond.methodLinkNest "OddBridge$Judge" 57 ⟨"OddBridge$Vow", "value", "([II)J"⟩ "OddBridge") := by decide +kernel
theorem w_651 : lw_tbl[651]? = some (Cond.instanceMethod ⟨"OddBridge$Vow", "value", "([II)J"⟩) := by decide +kernel
theorem w_652 : lw_tbl[652]? = some (Cond.code ⟨"OddBridge$Vow", "value", "([II)J"⟩ prog_8_method_18_code 8 (some .long)) := by decide +kernel
theorem w_653 : lw_tbl[653]? = some (Cond.methodLink "OddBridge$Vow" 128 ⟨"OddBridge$Vow", "push", "(J)V"⟩) := by decide +kernel
theorem w_655 : lw_tbl[655]? = some (Cond.instanceMethod ⟨"OddBridge$Vow", "push", "(J)V"⟩) := by decide +kernel
theorem w_656 : lw_tbl[656]? = some (Cond.code ⟨"OddBridge$Vow", "push", "(J)V"⟩ prog_8_method_19_code 3 none) := by decide +kernel
theorem w_657 : lw_tbl[657]? = some (Cond.methodLink "OddBridge$Vow" 132 ⟨"OddBridge$Vow", "pop", "()J"⟩) := by decide +kernel
theorem w_659 : lw_tbl[659]? = some (Cond.instanceMethod ⟨"OddBridge$Vow", "pop", "()J"⟩) := by decide +kernel
theorem w_660 : lw_tbl[660]? = some (Cond.code ⟨"OddBridge$Vow", "pop", "()J"⟩ prog_8_method_20_code 1 (some .long)) := by decide +kernel
theorem w_661 : lw_tbl[661]? = some (Cond.methodLink "OddBridge$Vow" 136 ⟨"OddBridge$Vow", "work", "(CJJ)J"⟩) := by decide +kernel
theorem w_662 : lw_tbl[662]? = some (Cond.static ⟨"OddBridge$Vow", "work", "(CJJ)J"⟩) := by decide +kernel
theorem w_663 : lw_tbl[663]? = some (Cond.code ⟨"OddBridge$Vow", "work", "(CJJ)J"⟩ prog_8_method_21_code 5 (some .long)) := by decide +kernel
theorem w_664 : lw_tbl[664]? = some (Cond.constantLong "OddBridge$Judge" 49 (-1 : Int64)) := by decide +kernel
theorem w_669 : lw_tbl[669]? = some (Cond.methodLinkNest "OddBridge" 139 ⟨"OddBridge$Feast", "goThrough", "()V"⟩ "OddBridge") := by decide +kernel
theorem w_671 : lw_tbl[671]? = some (Cond.instanceMethod ⟨"OddBridge$Feast", "goThrough", "()V"⟩) := by decide +kernel
theorem w_672 : lw_tbl[672]? = some (Cond.code ⟨"OddBridge$Feast", "goThrough", "()V"⟩ prog_3_method_2_code 3 none) := by decide +kernel
theorem w_673 : lw_tbl[673]? = some (Cond.methodLink "OddBridge$Feast" 43 ⟨"java/util/Arrays", "fill", "([II)V"⟩) := by decide +kernel
theorem w_674 : lw_tbl[674]? = some (Cond.static ⟨"java/util/Arrays", "fill", "([II)V"⟩) := by decide +kernel
theorem w_675 : lw_tbl[675]? = some (Cond.code ⟨"java/util/Arrays", "fill", "([II)V"⟩ prog_18_method_103_code 4 none) := by decide +kernel
theorem w_676 : lw_tbl[676]? = some (Cond.methodLink "OddBridge$Feast" 49 ⟨"OddBridge$Feast", "bestSteps", "(I)I"⟩) := by decide +kernel
theorem w_678 : lw_tbl[678]? = some (Cond.instanceMethod ⟨"OddBridge$Feast", "bestSteps", "(I)I"⟩) := by decide +kernel
theorem w_679 : lw_tbl[679]? = some (Cond.code ⟨"OddBridge$Feast", "bestSteps", "(I)I"⟩ prog_3_method_3_code 9 (some .int)) := by decide +kernel
theorem w_680 : lw_tbl[680]? = some (Cond.methodLink "OddBridge$Feast" 57 ⟨"OddBridge$Feast", "mayStep", "(I)I"⟩) := by decide +kernel
theorem w_682 : lw_tbl[682]? = some (Cond.instanceMethod ⟨"OddBridge$Feast", "mayStep", "(I)I"⟩) := by decide +kernel
theorem w_683 : lw_tbl[683]? = some (Cond.code ⟨"OddBridge$Feast", "mayStep", "(I)I"⟩ prog_3_method_4_code 6 (some .int)) := by decide +kernel
theorem w_684 : lw_tbl[684]? = some (Cond.methodLinkNest "OddBridge$Feast" 79 ⟨"OddBridge", "holds", "(II)Z"⟩ "OddBridge") := by decide +kernel
theorem w_685 : lw_tbl[685]? = some (Cond.methodLink "OddBridge$Feast" 60 ⟨"OddBridge$Feast", "aheadOfWall", "(I)I"⟩) := by decide +kernel
theorem w_687 : lw_tbl[687]? = some (Cond.instanceMethod ⟨"OddBridge$Feast", "aheadOfWall", "(I)I"⟩) := by decide +kernel
theorem w_688 : lw_tbl[688]? = some (Cond.code ⟨"OddBridge$Feast", "aheadOfWall", "(I)I"⟩ prog_3_method_5_code 4 (some .int)) := by decide +kernel
theorem w_689 : lw_tbl[689]? = some (Cond.methodLink "OddBridge$Feast" 63 ⟨"java/lang/Integer", "bitCount", "(I)I"⟩) := by decide +kernel
theorem w_690 : lw_tbl[690]? = some (Cond.static ⟨"java/lang/Integer", "bitCount", "(I)I"⟩) := by decide +kernel
theorem w_691 : lw_tbl[691]? = some (Cond.code ⟨"java/lang/Integer", "bitCount", "(I)I"⟩ prog_12_method_49_code 1 (some .int)) := by decide +kernel
theorem w_692 : lw_tbl[692]? = some (Cond.constant "java/lang/Integer" 265 (1431655765 : Int32)) := by decide +kernel
theorem w_693 : lw_tbl[693]? = some (Cond.constant "java/lang/Integer" 266 (858993459 : Int32)) := by decide +kernel
theorem w_694 : lw_tbl[694]? = some (Cond.constant "java/lang/Integer" 267 (252645135 : Int32)) := by decide +kernel
theorem w_695 : lw_tbl[695]? = some (Cond.methodLinkNest "OddBridge$Feast" 68 ⟨"OddBridge$Judge", "isWell", "(II)Z"⟩ "OddBridge") := by decide +kernel
theorem w_696 : lw_tbl[696]? = some (Cond.methodLink "OddBridge$Feast" 53 ⟨"OddBridge$Feast", "step", "(II)V"⟩) := by decide +kernel
theorem w_698 : lw_tbl[698]? = some (Cond.instanceMethod ⟨"OddBridge$Feast", "step", "(II)V"⟩) := by decide +kernel
theorem w_699 : lw_tbl[699]? = some (Cond.code ⟨"OddBridge$Feast", "step", "(II)V"⟩ prog_3_method_6_code 4 none) := by decide +kernel
theorem w_704 : lw_tbl[704]? = some (Cond.methodLink "OddBridge" 145 ⟨"OddBridge", "isWalker", "(I)Z"⟩) := by decide +kernel
theorem w_706 : lw_tbl[706]? = some (Cond.instanceMethod ⟨"OddBridge", "isWalker", "(I)Z"⟩) := by decide +kernel
theorem w_707 : lw_tbl[707]? = some (Cond.code ⟨"OddBridge", "isWalker", "(I)Z"⟩ prog_1_method_34_code 2 (some .boolean)) := by decide +kernel
theorem w_716 : lw_tbl[716]? = some (Cond.methodLinkNest "OddBridge" 161 ⟨"OddBridge$Crossing", "plan", "()V"⟩ "OddBridge") := by decide +kernel
theorem w_718 : lw_tbl[718]? = some (Cond.instanceMethod ⟨"OddBridge$Crossing", "plan", "()V"⟩) := by decide +kernel
theorem w_719 : lw_tbl[719]? = some (Cond.code ⟨"OddBridge$Crossing", "plan", "()V"⟩ prog_2_method_2_code 3 none) := by decide +kernel
theorem w_720 : lw_tbl[720]? = some (Cond.methodLink "OddBridge$Crossing" 51 ⟨"OddBridge$Crossing", "lookAtCompany", "(I)V"⟩) := by decide +kernel
theorem w_722 : lw_tbl[722]? = some (Cond.instanceMethod ⟨"OddBridge$Crossing", "lookAtCompany", "(I)V"⟩) := by decide +kernel
theorem w_723 : lw_tbl[723]? = some (Cond.code ⟨"OddBridge$Crossing", "lookAtCompany", "(I)V"⟩ prog_2_method_3_code 3 none) := by decide +kernel
theorem w_724 : lw_tbl[724]? = some (Cond.methodLinkNest "OddBridge$Crossing" 76 ⟨"OddBridge$Judge", "isWell", "(II)Z"⟩ "OddBridge") := by decide +kernel
theorem w_725 : lw_tbl[725]? = some (Cond.methodLinkNest "OddBridge$Crossing" 82 ⟨"OddBridge$Judge", "isOdd", "(III)Z"⟩ "OddBridge") := by decide +kernel
theorem w_726 : lw_tbl[726]? = some (Cond.methodLinkNest "OddBridge$Crossing" 86 ⟨"OddBridge", "holds", "(II)Z"⟩ "OddBridge") := by decide +kernel
theorem w_727 : lw_tbl[727]? = some (Cond.methodLink "OddBridge$Crossing" 92 ⟨"java/lang/Math", "max", "(II)I"⟩) := by decide +kernel
theorem w_728 : lw_tbl[728]? = some (Cond.methodLink "OddBridge$Crossing" 55 ⟨"OddBridge$Crossing", "lookAtLeft", "(I)V"⟩) := by decide +kernel
theorem w_730 : lw_tbl[730]? = some (Cond.instanceMethod ⟨"OddBridge$Crossing", "lookAtLeft", "(I)V"⟩) := by decide +kernel
theorem w_731 : lw_tbl[731]? = some (Cond.code ⟨"OddBridge$Crossing", "lookAtLeft", "(I)V"⟩ prog_2_method_4_code 5 none) := by decide +kernel
theorem w_732 : lw_tbl[732]? = some (Cond.methodLink "OddBridge$Crossing" 98 ⟨"OddBridge$Crossing", "tryFirst", "(II)V"⟩) := by decide +kernel
theorem w_734 : lw_tbl[734]? = some (Cond.instanceMethod ⟨"OddBridge$Crossing", "tryFirst", "(II)V"⟩) := by decide +kernel
theorem w_735 : lw_tbl[735]? = some (Cond.code ⟨"OddBridge$Crossing", "tryFirst", "(II)V"⟩ prog_2_method_5_code 8 none) := by decide +kernel
theorem w_736 : lw_tbl[736]? = some (Cond.methodLink "OddBridge$Crossing" 73 ⟨"OddBridge$Crossing", "lineUp", "(I)V"⟩) := by decide +kernel
theorem w_738 : lw_tbl[738]? = some (Cond.instanceMethod ⟨"OddBridge$Crossing", "lineUp", "(I)V"⟩) := by decide +kernel
theorem w_739 : lw_tbl[739]? = some (Cond.code ⟨"OddBridge$Crossing", "lineUp", "(I)V"⟩ prog_2_method_6_code 5 none) := by decide +kernel
theorem w_748 : lw_tbl[748]? = some (Cond.methodLink "OddBridge" 185 ⟨"OddBridge", "refuseAsNo", "()I"⟩) := by decide +kernel
theorem w_750 : lw_tbl[750]? = some (Cond.instanceMethod ⟨"OddBridge", "refuseAsNo", "()I"⟩) := by decide +kernel
theorem w_751 : lw_tbl[751]? = some (Cond.code ⟨"OddBridge", "refuseAsNo", "()I"⟩ prog_1_method_29_code 1 (some .int)) := by decide +kernel
theorem w_752 : lw_tbl[752]? = some (Cond.methodLink "OddBridge" 188 ⟨"OddBridge", "spreadStops", "(II)J"⟩) := by decide +kernel
theorem w_754 : lw_tbl[754]? = some (Cond.instanceMethod ⟨"OddBridge", "spreadStops", "(II)J"⟩) := by decide +kernel
theorem w_755 : lw_tbl[755]? = some (Cond.code ⟨"OddBridge", "spreadStops", "(II)J"⟩ prog_1_method_37_code 7 (some .long)) := by decide +kernel
theorem w_756 : lw_tbl[756]? = some (Cond.methodLink "OddBridge" 256 ⟨"java/util/Arrays", "fill", "([JJ)V"⟩) := by decide +kernel
theorem w_757 : lw_tbl[757]? = some (Cond.constantLong "OddBridge" 262 (20 : Int64)) := by decide +kernel
theorem w_758 : lw_tbl[758]? = some (Cond.methodLinkNest "OddBridge" 192 ⟨"OddBridge$Fraction", "become", "(JJ)V"⟩ "OddBridge") := by decide +kernel
theorem w_760 : lw_tbl[760]? = some (Cond.instanceMethod ⟨"OddBridge$Fraction", "become", "(JJ)V"⟩) := by decide +kernel
theorem w_761 : lw_tbl[761]? = some (Cond.code ⟨"OddBridge$Fraction", "become", "(JJ)V"⟩ prog_4_method_2_code 7 none) := by decide +kernel
theorem w_762 : lw_tbl[762]? = some (Cond.methodLink "OddBridge$Fraction" 16 ⟨"OddBridge$Fraction", "commonDivisor", "(JJ)J"⟩) := by decide +kernel
theorem w_763 : lw_tbl[763]? = some (Cond.static ⟨"OddBridge$Fraction", "commonDivisor", "(JJ)J"⟩) := by decide +kernel
theorem w_764 : lw_tbl[764]? = some (Cond.code ⟨"OddBridge$Fraction", "commonDivisor", "(JJ)J"⟩ prog_4_method_3_code 11 (some .long)) := by decide +kernel
theorem w_773 : lw_tbl[773]? = some (Cond.methodLink "OddBridge" 199 ⟨"OddBridge", "holds", "(II)Z"⟩) := by decide +kernel
theorem w_774 : lw_tbl[774]? = some (Cond.constantLong "OddBridge" 202 (10 : Int64)) := by decide +kernel
theorem w_779 : lw_tbl[779]? = some (Cond.methodLink "OddBridge" 204 ⟨"OddBridge", "waysHome", "(II)I"⟩) := by decide +kernel
theorem w_781 : lw_tbl[781]? = some (Cond.instanceMethod ⟨"OddBridge", "waysHome", "(II)I"⟩) := by decide +kernel
theorem w_782 : lw_tbl[782]? = some (Cond.code ⟨"OddBridge", "waysHome", "(II)I"⟩ prog_1_method_38_code 5 (some .int)) := by decide +kernel
theorem w_783 : lw_tbl[783]? = some (Cond.methodLink "OddBridge" 264 ⟨"java/util/Arrays", "fill", "([II)V"⟩) := by decide +kernel
theorem w_784 : lw_tbl[784]? = some (Cond.methodLink "OddBridge" 207 ⟨"OddBridge", "fewestHome", "(II)I"⟩) := by decide +kernel
theorem w_785 : lw_tbl[785]? = some (Cond.static ⟨"OddBridge", "fewestHome", "(II)I"⟩) := by decide +kernel
theorem w_786 : lw_tbl[786]? = some (Cond.code ⟨"OddBridge", "fewestHome", "(II)I"⟩ prog_1_method_39_code 4 (some .int)) := by decide +kernel
theorem w_791 : lw_tbl[791]? = some (Cond.methodLinkNest "OddBridge" 213 ⟨"OddBridge$Scene", "addSaid", "(III)V"⟩ "OddBridge") := by decide +kernel
theorem w_793 : lw_tbl[793]? = some (Cond.instanceMethod ⟨"OddBridge$Scene", "addSaid", "(III)V"⟩) := by decide +kernel
theorem w_794 : lw_tbl[794]? = some (Cond.code ⟨"OddBridge$Scene", "addSaid", "(III)V"⟩ prog_7_method_4_code 4 none) := by decide +kernel
theorem w_803 : lw_tbl[803]? = some (Cond.methodLinkNest "OddBridge" 216 ⟨"OddBridge$Hearing", "minutesUnwell", "(I)J"⟩ "OddBridge") := by decide +kernel
theorem w_805 : lw_tbl[805]? = some (Cond.instanceMethod ⟨"OddBridge$Hearing", "minutesUnwell", "(I)J"⟩) := by decide +kernel
theorem w_806 : lw_tbl[806]? = some (Cond.code ⟨"OddBridge$Hearing", "minutesUnwell", "(I)J"⟩ prog_5_method_3_code 5 (some .long)) := by decide +kernel
theorem w_807 : lw_tbl[807]? = some (Cond.methodLink "OddBridge$Hearing" 39 ⟨"OddBridge$Hearing", "onBut", "(II)I"⟩) := by decide +kernel
theorem w_809 : lw_tbl[809]? = some (Cond.instanceMethod ⟨"OddBridge$Hearing", "onBut", "(II)I"⟩) := by decide +kernel
theorem w_810 : lw_tbl[810]? = some (Cond.code ⟨"OddBridge$Hearing", "onBut", "(II)I"⟩ prog_5_method_2_code 5 (some .int)) := by decide +kernel
theorem w_811 : lw_tbl[811]? = some (Cond.methodLinkNest "OddBridge$Hearing" 25 ⟨"OddBridge", "holds", "(II)Z"⟩ "OddBridge") := by decide +kernel
theorem w_812 : lw_tbl[812]? = some (Cond.methodLinkNest "OddBridge$Hearing" 43 ⟨"OddBridge$Judge", "isWell", "(II)Z"⟩ "OddBridge") := by decide +kernel
theorem w_817 : lw_tbl[817]? = some (Cond.methodLinkNest "OddBridge" 220 ⟨"OddBridge$Hearing", "eachAlone", "()I"⟩ "OddBridge") := by decide +kernel
theorem w_819 : lw_tbl[819]? = some (Cond.instanceMethod ⟨"OddBridge$Hearing", "eachAlone", "()I"⟩) := by decide +kernel
theorem w_820 : lw_tbl[820]? = some (Cond.code ⟨"OddBridge$Hearing", "eachAlone", "()I"⟩ prog_5_method_5_code 3 (some .int)) := by decide +kernel
theorem w_821 : lw_tbl[821]? = some (Cond.methodLink "OddBridge$Hearing" 48 ⟨"OddBridge$Hearing", "allWellBut", "(I)Z"⟩) := by decide +kernel
theorem w_823 : lw_tbl[823]? = some (Cond.instanceMethod ⟨"OddBridge$Hearing", "allWellBut", "(I)Z"⟩) := by decide +kernel
theorem w_824 : lw_tbl[824]? = some (Cond.code ⟨"OddBridge$Hearing", "allWellBut", "(I)Z"⟩ prog_5_method_4_code 3 (some .boolean)) := by decide +kernel
theorem w_825 : lw_tbl[825]? = some (Cond.methodLinkNest "OddBridge" 223 ⟨"OddBridge$Hearing", "fewestLiars", "()I"⟩ "OddBridge") := by decide +kernel
theorem w_827 : lw_tbl[827]? = some (Cond.instanceMethod ⟨"OddBridge$Hearing", "fewestLiars", "()I"⟩) := by decide +kernel
theorem w_828 : lw_tbl[828]? = some (Cond.code ⟨"OddBridge$Hearing", "fewestLiars", "()I"⟩ prog_5_method_6_code 3 (some .int)) := by decide +kernel
theorem w_829 : lw_tbl[829]? = some (Cond.methodLink "OddBridge$Hearing" 52 ⟨"java/lang/Integer", "bitCount", "(I)I"⟩) := by decide +kernel
theorem w_838 : lw_tbl[838]? = some (Cond.methodLink "OddBridge" 233 ⟨"OddBridge", "imageAt", "(I)LOddBridge$Scene;"⟩) := by decide +kernel
theorem w_840 : lw_tbl[840]? = some (Cond.instanceMethod ⟨"OddBridge", "imageAt", "(I)LOddBridge$Scene;"⟩) := by decide +kernel
theorem w_841 : lw_tbl[841]? = some (Cond.code ⟨"OddBridge", "imageAt", "(I)LOddBridge$Scene;"⟩ prog_1_method_35_code 2 (Option.some (Jvm.ClassFile.FieldType.object "OddBridge$Scene"))) := by decide +kernel
theorem w_842 : lw_tbl[842]? = some (Cond.methodLinkNest "OddBridge" 237 ⟨"OddBridge$Scene", "become", "(LOddBridge$Scene;)V"⟩ "OddBridge") := by decide +kernel
theorem w_844 : lw_tbl[844]? = some (Cond.instanceMethod ⟨"OddBridge$Scene", "become", "(LOddBridge$Scene;)V"⟩) := by decide +kernel
theorem w_845 : lw_tbl[845]? = some (Cond.code ⟨"OddBridge$Scene", "become", "(LOddBridge$Scene;)V"⟩ prog_7_method_5_code 2 none) := by decide +kernel
theorem w_865 : lw_tbl[865]? = some (Cond.constantLong "OddBridge" 245 (643 : Int64)) := by decide +kernel
theorem w_866 : lw_tbl[866]? = some (Cond.methodLinkNest "OddBridge" 247 ⟨"OddBridge$Scene", "addedTo", "(J)J"⟩ "OddBridge") := by decide +kernel
theorem w_868 : lw_tbl[868]? = some (Cond.instanceMethod ⟨"OddBridge$Scene", "addedTo", "(J)J"⟩) := by decide +kernel
theorem w_869 : lw_tbl[869]? = some (Cond.code ⟨"OddBridge$Scene", "addedTo", "(J)J"⟩ prog_7_method_7_code 6 (some .long)) := by decide +kernel
theorem w_870 : lw_tbl[870]? = some (Cond.constantLong "OddBridge$Scene" 66 (31 : Int64)) := by decide +kernel
theorem w_871 : lw_tbl[871]? = some (Cond.constantLong "OddBridge" 251 (31 : Int64)) := by decide +kernel
theorem w_878 : lw_tbl[878]? = some (Cond.fieldLink "OddBridgeModel" 7 "OddBridgeModel" "now" "[I") := by decide +kernel
theorem w_879 : lw_tbl[879]? = some (Cond.fieldLink "OddBridgeModel" 13 "OddBridgeModel" "kept" "[I") := by decide +kernel
theorem w_880 : lw_tbl[880]? = some (Cond.fieldLink "OddBridgeModel" 16 "OddBridgeModel" "isKept" "[Z") := by decide +kernel
theorem w_881 : lw_tbl[881]? = some (Cond.fieldLink "OddBridgeModel" 20 "OddBridgeModel" "refused" "[I") := by decide +kernel
theorem w_882 : lw_tbl[882]? = some (Cond.fieldLink "OddBridgeModel" 67 "OddBridgeModel" "above" "J") := by decide +kernel
theorem w_883 : lw_tbl[883]? = some (Cond.fieldLink "OddBridgeModel" 23 "OddBridgeModel" "below" "J") := by decide +kernel
theorem w_884 : lw_tbl[884]? = some (Cond.fieldLink "OddBridgeModel" 114 "OddBridgeModel" "place" "I") := by decide +kernel
theorem w_885 : lw_tbl[885]? = some (Cond.fieldLink "OddBridgeModel" 143 "OddBridgeModel" "fault" "I") := by decide +kernel
theorem w_886 : lw_tbl[886]? = some (Cond.fieldLink "OddBridgeModel" 27 "OddBridgeModel" "values" "[J") := by decide +kernel
theorem w_887 : lw_tbl[887]? = some (Cond.fieldLink "OddBridgeModel" 127 "OddBridgeModel" "valueMany" "I") := by decide +kernel
theorem w_888 : lw_tbl[888]? = some (Cond.fieldLink "OddBridgeModel" 31 "OddBridgeModel" "signs" "[I") := by decide +kernel
theorem w_889 : lw_tbl[889]? = some (Cond.fieldLink "OddBridgeModel" 124 "OddBridgeModel" "signMany" "I") := by decide +kernel
theorem w_890 : lw_tbl[890]? = some (Cond.fieldLink "OddBridgeModel" 34 "OddBridgeModel" "letters" "[J") := by decide +kernel
theorem w_891 : lw_tbl[891]? = some (Cond.fieldLink "OddBridgeModel" 166 "OddBridgeModel" "told" "J") := by decide +kernel
theorem w_892 : lw_tbl[892]? = some (Cond.fieldLink "OddBridgeModel" 37 "OddBridgeModel" "stepOn" "[I") := by decide +kernel
theorem w_893 : lw_tbl[893]? = some (Cond.fieldLink "OddBridgeModel" 40 "OddBridgeModel" "stepOff" "[I") := by decide +kernel
theorem w_894 : lw_tbl[894]? = some (Cond.fieldLink "OddBridgeModel" 43 "OddBridgeModel" "onIn" "[I") := by decide +kernel
theorem w_895 : lw_tbl[895]? = some (Cond.fieldLink "OddBridgeModel" 181 "OddBridgeModel" "faults" "I") := by decide +kernel
theorem w_896 : lw_tbl[896]? = some (Cond.fieldLink "OddBridgeModel" 184 "OddBridgeModel" "firstFault" "I") := by decide +kernel
theorem w_897 : lw_tbl[897]? = some (Cond.fieldLink "OddBridgeModel" 46 "OddBridgeModel" "minutesOf" "[I") := by decide +kernel
theorem w_898 : lw_tbl[898]? = some (Cond.fieldLink "OddBridgeModel" 49 "OddBridgeModel" "payOf" "[I") := by decide +kernel
theorem w_899 : lw_tbl[899]? = some (Cond.fieldLink "OddBridgeModel" 52 "OddBridgeModel" "leastPay" "[I") := by decide +kernel
theorem w_900 : lw_tbl[900]? = some (Cond.fieldLink "OddBridgeModel" 55 "OddBridgeModel" "priceOf" "[I") := by decide +kernel
theorem w_901 : lw_tbl[901]? = some (Cond.fieldLink "OddBridgeModel" 219 "OddBridgeModel" "companies" "I") := by decide +kernel
theorem w_902 : lw_tbl[902]? = some (Cond.fieldLink "OddBridgeModel" 58 "OddBridgeModel" "row" "[I") := by decide +kernel
theorem w_903 : lw_tbl[903]? = some (Cond.fieldLink "OddBridgeModel" 61 "OddBridgeModel" "waysOf" "[I") := by decide +kernel
theorem w_904 : lw_tbl[904]? = some (Cond.fieldLink "OddBridgeModel" 64 "OddBridgeModel" "fewestOf" "[I") := by decide +kernel
theorem w_964 : lw_tbl[964]? = some (Cond.constantLong "OddBridgeModel" 81 (7 : Int64)) := by decide +kernel
theorem w_965 : lw_tbl[965]? = some (Cond.methodLink "OddBridgeModel" 74 ⟨"OddBridgeModel", "in", "(JJJ)Z"⟩) := by decide +kernel
theorem w_966 : lw_tbl[966]? = some (Cond.static ⟨"OddBridgeModel", "in", "(JJJ)Z"⟩) := by decide +kernel
theorem w_967 : lw_tbl[967]? = some (Cond.code ⟨"OddBridgeModel", "in", "(JJJ)Z"⟩ prog_10_method_3_code 6 (some .boolean)) := by decide +kernel
theorem w_968 : lw_tbl[968]? = some (Cond.constantLong "OddBridgeModel" 83 (20 : Int64)) := by decide +kernel
theorem w_969 : lw_tbl[969]? = some (Cond.constantLong "OddBridgeModel" 85 (99 : Int64)) := by decide +kernel
theorem w_970 : lw_tbl[970]? = some (Cond.methodLink "OddBridgeModel" 87 ⟨"OddBridgeModel", "bad", "(I)I"⟩) := by decide +kernel
theorem w_972 : lw_tbl[972]? = some (Cond.instanceMethod ⟨"OddBridgeModel", "bad", "(I)I"⟩) := by decide +kernel
theorem w_973 : lw_tbl[973]? = some (Cond.code ⟨"OddBridgeModel", "bad", "(I)I"⟩ prog_10_method_4_code 2 (some .int)) := by decide +kernel
theorem w_974 : lw_tbl[974]? = some (Cond.methodLink "OddBridgeModel" 70 ⟨"OddBridgeModel", "walkers", "()I"⟩) := by decide +kernel
theorem w_976 : lw_tbl[976]? = some (Cond.instanceMethod ⟨"OddBridgeModel", "walkers", "()I"⟩) := by decide +kernel
theorem w_977 : lw_tbl[977]? = some (Cond.code ⟨"OddBridgeModel", "walkers", "()I"⟩ prog_10_method_8_code 1 (some .int)) := by decide +kernel
theorem w_978 : lw_tbl[978]? = some (Cond.methodLink "OddBridgeModel" 91 ⟨"OddBridgeModel", "full", "()I"⟩) := by decide +kernel
theorem w_980 : lw_tbl[980]? = some (Cond.instanceMethod ⟨"OddBridgeModel", "full", "()I"⟩) := by decide +kernel
theorem w_981 : lw_tbl[981]? = some (Cond.code ⟨"OddBridgeModel", "full", "()I"⟩ prog_10_method_6_code 1 (some .int)) := by decide +kernel
theorem w_986 : lw_tbl[986]? = some (Cond.constantLong "OddBridgeModel" 94 (19 : Int64)) := by decide +kernel
theorem w_991 : lw_tbl[991]? = some (Cond.methodLink "OddBridgeModel" 103 ⟨"OddBridgeModel", "isSet", "(I)Z"⟩) := by decide +kernel
theorem w_993 : lw_tbl[993]? = some (Cond.instanceMethod ⟨"OddBridgeModel", "isSet", "(I)Z"⟩) := by decide +kernel
theorem w_994 : lw_tbl[994]? = some (Cond.code ⟨"OddBridgeModel", "isSet", "(I)Z"⟩ prog_10_method_11_code 2 (some .boolean)) := by decide +kernel
theorem w_995 : lw_tbl[995]? = some (Cond.methodLink "OddBridgeModel" 78 ⟨"OddBridgeModel", "all", "()I"⟩) := by decide +kernel
theorem w_997 : lw_tbl[997]? = some (Cond.instanceMethod ⟨"OddBridgeModel", "all", "()I"⟩) := by decide +kernel
theorem w_998 : lw_tbl[998]? = some (Cond.code ⟨"OddBridgeModel", "all", "()I"⟩ prog_10_method_9_code 1 (some .int)) := by decide +kernel
theorem w_999 : lw_tbl[999]? = some (Cond.constantLong "OddBridgeModel" 107 (4 : Int64)) := by decide +kernel
theorem w_1000 : lw_tbl[1000]? = some (Cond.methodLink "OddBridgeModel" 109 ⟨"OddBridgeModel", "broughtBy", "(II)I"⟩) := by decide +kernel
theorem w_1002 : lw_tbl[1002]? = some (Cond.instanceMethod ⟨"OddBridgeModel", "broughtBy", "(II)I"⟩) := by decide +kernel
theorem w_1003 : lw_tbl[1003]? = some (Cond.code ⟨"OddBridgeModel", "broughtBy", "(II)I"⟩ prog_10_method_16_code 5 (some .int)) := by decide +kernel
theorem w_1004 : lw_tbl[1004]? = some (Cond.methodLink "OddBridgeModel" 96 ⟨"OddBridgeModel", "of", "(II)I"⟩) := by decide +kernel
theorem w_1006 : lw_tbl[1006]? = some (Cond.instanceMethod ⟨"OddBridgeModel", "of", "(II)I"⟩) := by decide +kernel
theorem w_1007 : lw_tbl[1007]? = some (Cond.code ⟨"OddBridgeModel", "of", "(II)I"⟩ prog_10_method_12_code 3 (some .int)) := by decide +kernel
theorem w_1008 : lw_tbl[1008]? = some (Cond.methodLink "OddBridgeModel" 100 ⟨"OddBridgeModel", "bringsOf", "(II)I"⟩) := by decide +kernel
theorem w_1009 : lw_tbl[1009]? = some (Cond.static ⟨"OddBridgeModel", "bringsOf", "(II)I"⟩) := by decide +kernel
theorem w_1010 : lw_tbl[1010]? = some (Cond.code ⟨"OddBridgeModel", "bringsOf", "(II)I"⟩ prog_10_method_15_code 2 (some .int)) := by decide +kernel
theorem w_1015 : lw_tbl[1015]? = some (Cond.constantLong "OddBridgeModel" 112 (127 : Int64)) := by decide +kernel
theorem w_1024 : lw_tbl[1024]? = some (Cond.methodLink "OddBridgeModel" 169 ⟨"OddBridgeModel", "reads", "()Z"⟩) := by decide +kernel
theorem w_1026 : lw_tbl[1026]? = some (Cond.instanceMethod ⟨"OddBridgeModel", "reads", "()Z"⟩) := by decide +kernel
theorem w_1027 : lw_tbl[1027]? = some (Cond.code ⟨"OddBridgeModel", "reads", "()Z"⟩ prog_10_method_30_code 5 (some .boolean)) := by decide +kernel
theorem w_1028 : lw_tbl[1028]? = some (Cond.methodLink "OddBridgeModel" 148 ⟨"OddBridgeModel", "ahead", "()I"⟩) := by decide +kernel
theorem w_1030 : lw_tbl[1030]? = some (Cond.instanceMethod ⟨"OddBridgeModel", "ahead", "()I"⟩) := by decide +kernel
theorem w_1031 : lw_tbl[1031]? = some (Cond.code ⟨"OddBridgeModel", "ahead", "()I"⟩ prog_10_method_22_code 1 (some .int)) := by decide +kernel
theorem w_1032 : lw_tbl[1032]? = some (Cond.methodLink "OddBridgeModel" 118 ⟨"OddBridgeModel", "textLong", "()I"⟩) := by decide +kernel
theorem w_1034 : lw_tbl[1034]? = some (Cond.instanceMethod ⟨"OddBridgeModel", "textLong", "()I"⟩) := by decide +kernel
theorem w_1035 : lw_tbl[1035]? = some (Cond.code ⟨"OddBridgeModel", "textLong", "()I"⟩ prog_10_method_20_code 1 (some .int)) := by decide +kernel
theorem w_1036 : lw_tbl[1036]? = some (Cond.methodLink "OddBridgeModel" 121 ⟨"OddBridgeModel", "charAt", "(I)I"⟩) := by decide +kernel
theorem w_1038 : lw_tbl[1038]? = some (Cond.instanceMethod ⟨"OddBridgeModel", "charAt", "(I)I"⟩) := by decide +kernel
theorem w_1039 : lw_tbl[1039]? = some (Cond.code ⟨"OddBridgeModel", "charAt", "(I)I"⟩ prog_10_method_21_code 2 (some .int)) := by decide +kernel
theorem w_1040 : lw_tbl[1040]? = some (Cond.methodLink "OddBridgeModel" 140 ⟨"OddBridgeModel", "isFigure", "(I)Z"⟩) := by decide +kernel
theorem w_1041 : lw_tbl[1041]? = some (Cond.static ⟨"OddBridgeModel", "isFigure", "(I)Z"⟩) := by decide +kernel
theorem w_1042 : lw_tbl[1042]? = some (Cond.code ⟨"OddBridgeModel", "isFigure", "(I)Z"⟩ prog_10_method_28_code 1 (some .boolean)) := by decide +kernel
theorem w_1043 : lw_tbl[1043]? = some (Cond.constantLong "OddBridgeModel" 136 (48 : Int64)) := by decide +kernel
theorem w_1044 : lw_tbl[1044]? = some (Cond.constantLong "OddBridgeModel" 138 (57 : Int64)) := by decide +kernel
theorem w_1045 : lw_tbl[1045]? = some (Cond.methodLink "OddBridgeModel" 151 ⟨"OddBridgeModel", "digits", "()J"⟩) := by decide +kernel
theorem w_1047 : lw_tbl[1047]? = some (Cond.instanceMethod ⟨"OddBridgeModel", "digits", "()J"⟩) := by decide +kernel
theorem w_1048 : lw_tbl[1048]? = some (Cond.code ⟨"OddBridgeModel", "digits", "()J"⟩ prog_10_method_29_code 4 (some .long)) := by decide +kernel
theorem w_1049 : lw_tbl[1049]? = some (Cond.constantLong "OddBridgeModel" 146 (10 : Int64)) := by decide +kernel
theorem w_1050 : lw_tbl[1050]? = some (Cond.methodLink "OddBridgeModel" 155 ⟨"OddBridgeModel", "stands", "(J)V"⟩) := by decide +kernel
theorem w_1052 : lw_tbl[1052]? = some (Cond.instanceMethod ⟨"OddBridgeModel", "stands", "(J)V"⟩) := by decide +kernel
theorem w_1053 : lw_tbl[1053]? = some (Cond.code ⟨"OddBridgeModel", "stands", "(J)V"⟩ prog_10_method_26_code 5 none) := by decide +kernel
theorem w_1054 : lw_tbl[1054]? = some (Cond.methodLink "OddBridgeModel" 159 ⟨"OddBridgeModel", "letterOf", "(I)I"⟩) := by decide +kernel
theorem w_1055 : lw_tbl[1055]? = some (Cond.static ⟨"OddBridgeModel", "letterOf", "(I)I"⟩) := by decide +kernel
theorem w_1056 : lw_tbl[1056]? = some (Cond.code ⟨"OddBridgeModel", "letterOf", "(I)I"⟩ prog_10_method_27_code 1 (some .int)) := by decide +kernel
theorem w_1057 : lw_tbl[1057]? = some (Cond.methodLink "OddBridgeModel" 162 ⟨"OddBridgeModel", "workDown", "(I)V"⟩) := by decide +kernel
theorem w_1059 : lw_tbl[1059]? = some (Cond.instanceMethod ⟨"OddBridgeModel", "workDown", "(I)V"⟩) := by decide +kernel
theorem w_1060 : lw_tbl[1060]? = some (Cond.code ⟨"OddBridgeModel", "workDown", "(I)V"⟩ prog_10_method_25_code 2 none) := by decide +kernel
theorem w_1061 : lw_tbl[1061]? = some (Cond.methodLink "OddBridgeModel" 130 ⟨"OddBridgeModel", "rank", "(I)I"⟩) := by decide +kernel
theorem w_1062 : lw_tbl[1062]? = some (Cond.static ⟨"OddBridgeModel", "rank", "(I)I"⟩) := by decide +kernel
theorem w_1063 : lw_tbl[1063]? = some (Cond.code ⟨"OddBridgeModel", "rank", "(I)I"⟩ prog_10_method_23_code 1 (some .int)) := by decide +kernel
theorem w_1064 : lw_tbl[1064]? = some (Cond.methodLink "OddBridgeModel" 133 ⟨"OddBridgeModel", "workOut", "()V"⟩) := by decide +kernel
theorem w_1066 : lw_tbl[1066]? = some (Cond.instanceMethod ⟨"OddBridgeModel", "workOut", "()V"⟩) := by decide +kernel
theorem w_1067 : lw_tbl[1067]? = some (Cond.code ⟨"OddBridgeModel", "workOut", "()V"⟩ prog_10_method_24_code 7 none) := by decide +kernel
theorem w_1072 : lw_tbl[1072]? = some (Cond.constantLong "OddBridgeModel" 173 (199 : Int64)) := by decide +kernel
theorem w_1073 : lw_tbl[1073]? = some (Cond.methodLink "OddBridgeModel" 175 ⟨"OddBridgeModel", "isWell", "(III)Z"⟩) := by decide +kernel
theorem w_1075 : lw_tbl[1075]? = some (Cond.instanceMethod ⟨"OddBridgeModel", "isWell", "(III)Z"⟩) := by decide +kernel
theorem w_1076 : lw_tbl[1076]? = some (Cond.code ⟨"OddBridgeModel", "isWell", "(III)Z"⟩ prog_10_method_32_code 6 (some .boolean)) := by decide +kernel
theorem w_1081 : lw_tbl[1081]? = some (Cond.methodLink "OddBridgeModel" 200 ⟨"OddBridgeModel", "celebrate", "()V"⟩) := by decide +kernel
theorem w_1083 : lw_tbl[1083]? = some (Cond.instanceMethod ⟨"OddBridgeModel", "celebrate", "()V"⟩) := by decide +kernel
theorem w_1084 : lw_tbl[1084]? = some (Cond.code ⟨"OddBridgeModel", "celebrate", "()V"⟩ prog_10_method_39_code 7 none) := by decide +kernel
theorem w_1085 : lw_tbl[1085]? = some (Cond.methodLink "OddBridgeModel" 187 ⟨"OddBridgeModel", "onNow", "()I"⟩) := by decide +kernel
theorem w_1087 : lw_tbl[1087]? = some (Cond.instanceMethod ⟨"OddBridgeModel", "onNow", "()I"⟩) := by decide +kernel
theorem w_1088 : lw_tbl[1088]? = some (Cond.code ⟨"OddBridgeModel", "onNow", "()I"⟩ prog_10_method_35_code 3 (some .int)) := by decide +kernel
theorem w_1089 : lw_tbl[1089]? = some (Cond.methodLink "OddBridgeModel" 190 ⟨"OddBridgeModel", "mayStep", "(I)I"⟩) := by decide +kernel
theorem w_1091 : lw_tbl[1091]? = some (Cond.instanceMethod ⟨"OddBridgeModel", "mayStep", "(I)I"⟩) := by decide +kernel
theorem w_1092 : lw_tbl[1092]? = some (Cond.code ⟨"OddBridgeModel", "mayStep", "(I)I"⟩ prog_10_method_36_code 5 (some .int)) := by decide +kernel
theorem w_1093 : lw_tbl[1093]? = some (Cond.methodLink "OddBridgeModel" 193 ⟨"OddBridgeModel", "manyIn", "(I)I"⟩) := by decide +kernel
theorem w_1094 : lw_tbl[1094]? = some (Cond.static ⟨"OddBridgeModel", "manyIn", "(I)I"⟩) := by decide +kernel
theorem w_1095 : lw_tbl[1095]? = some (Cond.code ⟨"OddBridgeModel", "manyIn", "(I)I"⟩ prog_10_method_34_code 3 (some .int)) := by decide +kernel
theorem w_1096 : lw_tbl[1096]? = some (Cond.methodLink "OddBridgeModel" 196 ⟨"OddBridgeModel", "isWellOn", "(II)Z"⟩) := by decide +kernel
theorem w_1098 : lw_tbl[1098]? = some (Cond.instanceMethod ⟨"OddBridgeModel", "isWellOn", "(II)Z"⟩) := by decide +kernel
theorem w_1099 : lw_tbl[1099]? = some (Cond.code ⟨"OddBridgeModel", "isWellOn", "(II)Z"⟩ prog_10_method_38_code 4 (some .boolean)) := by decide +kernel
theorem w_1100 : lw_tbl[1100]? = some (Cond.methodLink "OddBridgeModel" 179 ⟨"OddBridgeModel", "ahead", "(II)I"⟩) := by decide +kernel
theorem w_1102 : lw_tbl[1102]? = some (Cond.instanceMethod ⟨"OddBridgeModel", "ahead", "(II)I"⟩) := by decide +kernel
theorem w_1103 : lw_tbl[1103]? = some (Cond.code ⟨"OddBridgeModel", "ahead", "(II)I"⟩ prog_10_method_37_code 6 (some .int)) := by decide +kernel
theorem w_1108 : lw_tbl[1108]? = some (Cond.methodLink "OddBridgeModel" 203 ⟨"OddBridgeModel", "isWalker", "(I)Z"⟩) := by decide +kernel
theorem w_1110 : lw_tbl[1110]? = some (Cond.instanceMethod ⟨"OddBridgeModel", "isWalker", "(I)Z"⟩) := by decide +kernel
theorem w_1111 : lw_tbl[1111]? = some (Cond.code ⟨"OddBridgeModel", "isWalker", "(I)Z"⟩ prog_10_method_10_code 2 (some .boolean)) := by decide +kernel
theorem w_1120 : lw_tbl[1120]? = some (Cond.constantLong "OddBridgeModel" 225 (3 : Int64)) := by decide +kernel
theorem w_1121 : lw_tbl[1121]? = some (Cond.methodLink "OddBridgeModel" 227 ⟨"OddBridgeModel", "layRow", "()Z"⟩) := by decide +kernel
theorem w_1123 : lw_tbl[1123]? = some (Cond.instanceMethod ⟨"OddBridgeModel", "layRow", "()Z"⟩) := by decide +kernel
theorem w_1124 : lw_tbl[1124]? = some (Cond.code ⟨"OddBridgeModel", "layRow", "()Z"⟩ prog_10_method_47_code 3 (some .boolean)) := by decide +kernel
theorem w_1125 : lw_tbl[1125]? = some (Cond.methodLink "OddBridgeModel" 216 ⟨"OddBridgeModel", "findLeast", "()V"⟩) := by decide +kernel
theorem w_1127 : lw_tbl[1127]? = some (Cond.instanceMethod ⟨"OddBridgeModel", "findLeast", "()V"⟩) := by decide +kernel
theorem w_1128 : lw_tbl[1128]? = some (Cond.code ⟨"OddBridgeModel", "findLeast", "()V"⟩ prog_10_method_46_code 8 none) := by decide +kernel
theorem w_1129 : lw_tbl[1129]? = some (Cond.methodLink "OddBridgeModel" 207 ⟨"OddBridgeModel", "findPrices", "()V"⟩) := by decide +kernel
theorem w_1131 : lw_tbl[1131]? = some (Cond.instanceMethod ⟨"OddBridgeModel", "findPrices", "()V"⟩) := by decide +kernel
theorem w_1132 : lw_tbl[1132]? = some (Cond.code ⟨"OddBridgeModel", "findPrices", "()V"⟩ prog_10_method_44_code 2 none) := by decide +kernel
theorem w_1133 : lw_tbl[1133]? = some (Cond.constant "OddBridgeModel" 206 (1000000 : Int32)) := by decide +kernel
theorem w_1134 : lw_tbl[1134]? = some (Cond.methodLink "OddBridgeModel" 210 ⟨"OddBridgeModel", "mayGo", "(II)Z"⟩) := by decide +kernel
theorem w_1136 : lw_tbl[1136]? = some (Cond.instanceMethod ⟨"OddBridgeModel", "mayGo", "(II)Z"⟩) := by decide +kernel
theorem w_1137 : lw_tbl[1137]? = some (Cond.code ⟨"OddBridgeModel", "mayGo", "(II)Z"⟩ prog_10_method_45_code 3 (some .boolean)) := by decide +kernel
theorem w_1138 : lw_tbl[1138]? = some (Cond.methodLink "OddBridgeModel" 213 ⟨"OddBridgeModel", "timeOf", "(I)I"⟩) := by decide +kernel
theorem w_1140 : lw_tbl[1140]? = some (Cond.instanceMethod ⟨"OddBridgeModel", "timeOf", "(I)I"⟩) := by decide +kernel
theorem w_1141 : lw_tbl[1141]? = some (Cond.code ⟨"OddBridgeModel", "timeOf", "(I)I"⟩ prog_10_method_43_code 4 (some .int)) := by decide +kernel
theorem w_1142 : lw_tbl[1142]? = some (Cond.methodLink "OddBridgeModel" 222 ⟨"OddBridgeModel", "isNext", "(II)Z"⟩) := by decide +kernel
theorem w_1144 : lw_tbl[1144]? = some (Cond.instanceMethod ⟨"OddBridgeModel", "isNext", "(II)Z"⟩) := by decide +kernel
theorem w_1145 : lw_tbl[1145]? = some (Cond.code ⟨"OddBridgeModel", "isNext", "(II)Z"⟩ prog_10_method_48_code 4 (some .boolean)) := by decide +kernel
theorem w_1154 : lw_tbl[1154]? = some (Cond.constantLong "OddBridgeModel" 230 (8 : Int64)) := by decide +kernel
theorem w_1155 : lw_tbl[1155]? = some (Cond.methodLink "OddBridgeModel" 232 ⟨"OddBridgeModel", "no", "()I"⟩) := by decide +kernel
theorem w_1157 : lw_tbl[1157]? = some (Cond.instanceMethod ⟨"OddBridgeModel", "no", "()I"⟩) := by decide +kernel
theorem w_1158 : lw_tbl[1158]? = some (Cond.code ⟨"OddBridgeModel", "no", "()I"⟩ prog_10_method_5_code 1 (some .int)) := by decide +kernel
theorem w_1159 : lw_tbl[1159]? = some (Cond.methodLink "OddBridgeModel" 235 ⟨"OddBridgeModel", "tells", "(JJ)I"⟩) := by decide +kernel
theorem w_1161 : lw_tbl[1161]? = some (Cond.instanceMethod ⟨"OddBridgeModel", "tells", "(JJ)I"⟩) := by decide +kernel
theorem w_1162 : lw_tbl[1162]? = some (Cond.code ⟨"OddBridgeModel", "tells", "(JJ)I"⟩ prog_10_method_7_code 11 (some .int)) := by decide +kernel
theorem w_1175 : lw_tbl[1175]? = some (Cond.constantLong "OddBridgeModel" 239 (40 : Int64)) := by decide +kernel
theorem w_1180 : lw_tbl[1180]? = some (Cond.constantLong "OddBridgeModel" 241 (62 : Int64)) := by decide +kernel
theorem w_1181 : lw_tbl[1181]? = some (Cond.methodLink "OddBridgeModel" 243 ⟨"OddBridgeModel", "said", "()I"⟩) := by decide +kernel
theorem w_1183 : lw_tbl[1183]? = some (Cond.instanceMethod ⟨"OddBridgeModel", "said", "()I"⟩) := by decide +kernel
theorem w_1184 : lw_tbl[1184]? = some (Cond.code ⟨"OddBridgeModel", "said", "()I"⟩ prog_10_method_55_code 1 (some .int)) := by decide +kernel
theorem w_1193 : lw_tbl[1193]? = some (Cond.methodLink "OddBridgeModel" 249 ⟨"OddBridgeModel", "disputeOf", "(I)J"⟩) := by decide +kernel
theorem w_1195 : lw_tbl[1195]? = some (Cond.instanceMethod ⟨"OddBridgeModel", "disputeOf", "(I)J"⟩) := by decide +kernel
theorem w_1196 : lw_tbl[1196]? = some (Cond.code ⟨"OddBridgeModel", "disputeOf", "(I)J"⟩ prog_10_method_59_code 5 (some .long)) := by decide +kernel
theorem w_1197 : lw_tbl[1197]? = some (Cond.methodLink "OddBridgeModel" 246 ⟨"OddBridgeModel", "onBy", "(II)I"⟩) := by decide +kernel
theorem w_1199 : lw_tbl[1199]? = some (Cond.instanceMethod ⟨"OddBridgeModel", "onBy", "(II)I"⟩) := by decide +kernel
theorem w_1200 : lw_tbl[1200]? = some (Cond.code ⟨"OddBridgeModel", "onBy", "(II)I"⟩ prog_10_method_58_code 6 (some .int)) := by decide +kernel
theorem w_1221 : lw_tbl[1221]? = some (Cond.constantLong "OddBridgeModel" 253 (2 : Int64)) := by decide +kernel
theorem w_1230 : lw_tbl[1230]? = some (Cond.constantLong "OddBridgeModel" 255 (31 : Int64)) := by decide +kernel
theorem w_1231 : lw_tbl[1231]? = some (Cond.constantLong "OddBridgeModel" 257 (19933 : Int64)) := by decide +kernel
theorem w_1232 : lw_tbl[1232]? = some (Cond.methodLink "OddBridgeModel" 259 ⟨"OddBridgeModel", "sums", "(JII)J"⟩) := by decide +kernel
theorem w_1234 : lw_tbl[1234]? = some (Cond.instanceMethod ⟨"OddBridgeModel", "sums", "(JII)J"⟩) := by decide +kernel
theorem w_1235 : lw_tbl[1235]? = some (Cond.code ⟨"OddBridgeModel", "sums", "(JII)J"⟩ prog_10_method_67_code 8 (some .long)) := by decide +kernel
end
section
theorem fl_RX0_102 : FL RX0 102 5 6 := ⟨RX5, TX5, 13, rfl, uin_5, by decide, Or.inr ⟨_, mNW 134 w_134 rfl⟩⟩
theorem fl_RX0_15 : FL RX0 15 0 3 := ⟨RX0, TX0, 15, rfl, uin_0, by decide, Or.inl (mTB 449 w_449 rfl)⟩
theorem fl_RX0_18 : FL RX0 18 0 4 := ⟨RX0, TX0, 15, rfl, uin_0, by decide, Or.inl (mTB 450 w_450 rfl)⟩
theorem fl_RX0_21 : FL RX0 21 0 5 := ⟨RX0, TX0, 15, rfl, uin_0, by decide, Or.inl (mTB 451 w_451 rfl)⟩
theorem fl_RX0_24 : FL RX0 24 0 6 := ⟨RX0, TX0, 15, rfl, uin_0, by decide, Or.inl (mTB 452 w_452 rfl)⟩
theorem fl_RX0_27 : FL RX0 27 0 7 := ⟨RX0, TX0, 15, rfl, uin_0, by decide, Or.inl (mTB 453 w_453 rfl)⟩
theorem fl_RX0_30 : FL RX0 30 0 8 := ⟨RX0, TX0, 15, rfl, uin_0, by decide, Or.inl (mTB 454 w_454 rfl)⟩
theorem fl_RX0_33 : FL RX0 33 0 14 := ⟨RX0, TX0, 15, rfl, uin_0, by decide, Or.inl (mTB 466 w_466 rfl)⟩
theorem fl_RX0_37 : FL RX0 37 0 0 := ⟨RX0, TX0, 15, rfl, uin_0, by decide, Or.inl (mTB 446 w_446 rfl)⟩
theorem fl_RX0_41 : FL RX0 41 0 1 := ⟨RX0, TX0, 15, rfl, uin_0, by decide, Or.inl (mTB 447 w_447 rfl)⟩
theorem fl_RX0_45 : FL RX0 45 5 4 := ⟨RX5, TX5, 13, rfl, uin_5, by decide, Or.inr ⟨_, mNW 126 w_126 rfl⟩⟩
theorem fl_RX0_58 : FL RX0 58 0 10 := ⟨RX0, TX0, 15, rfl, uin_0, by decide, Or.inl (mTB 458 w_458 rfl)⟩
theorem fl_RX0_70 : FL RX0 70 0 9 := ⟨RX0, TX0, 15, rfl, uin_0, by decide, Or.inl (mTB 456 w_456 rfl)⟩
theorem fl_RX0_89 : FL RX0 89 5 1 := ⟨RX5, TX5, 13, rfl, uin_5, by decide, Or.inr ⟨_, mNW 119 w_119 rfl⟩⟩
theorem fl_RX0_9 : FL RX0 9 0 2 := ⟨RX0, TX0, 15, rfl, uin_0, by decide, Or.inl (mTB 448 w_448 rfl)⟩
theorem fl_RX1_15 : FL RX1 15 1 3 := ⟨RX1, TX1, 9, rfl, uin_1, by decide, Or.inl (mTB 410 w_410 rfl)⟩
theorem fl_RX1_18 : FL RX1 18 1 4 := ⟨RX1, TX1, 9, rfl, uin_1, by decide, Or.inl (mTB 412 w_412 rfl)⟩
theorem fl_RX1_21 : FL RX1 21 1 8 := ⟨RX1, TX1, 9, rfl, uin_1, by decide, Or.inl (mTB 419 w_419 rfl)⟩
theorem fl_RX1_25 : FL RX1 25 1 0 := ⟨RX1, TX1, 9, rfl, uin_1, by decide, Or.inl (mTB 406 w_406 rfl)⟩
theorem fl_RX1_29 : FL RX1 29 1 1 := ⟨RX1, TX1, 9, rfl, uin_1, by decide, Or.inl (mTB 407 w_407 rfl)⟩
theorem fl_RX1_33 : FL RX1 33 1 5 := ⟨RX1, TX1, 9, rfl, uin_1, by decide, Or.inl (mTB 414 w_414 rfl)⟩
theorem fl_RX1_37 : FL RX1 37 1 6 := ⟨RX1, TX1, 9, rfl, uin_1, by decide, Or.inl (mTB 415 w_415 rfl)⟩
theorem fl_RX1_40 : FL RX1 40 1 7 := ⟨RX1, TX1, 9, rfl, uin_1, by decide, Or.inl (mTB 417 w_417 rfl)⟩
theorem fl_RX1_74 : FL RX1 74 5 4 := ⟨RX5, TX5, 13, rfl, uin_5, by decide, Or.inr ⟨_, mNW 128 w_128 rfl⟩⟩
theorem fl_RX1_82 : FL RX1 82 5 1 := ⟨RX5, TX5, 13, rfl, uin_5, by decide, Or.inr ⟨_, mNW 120 w_120 rfl⟩⟩
theorem fl_RX1_85 : FL RX1 85 5 2 := ⟨RX5, TX5, 13, rfl, uin_5, by decide, Or.inr ⟨_, mNW 122 w_122 rfl⟩⟩
theorem fl_RX1_88 : FL RX1 88 5 5 := ⟨RX5, TX5, 13, rfl, uin_5, by decide, Or.inr ⟨_, mNW 131 w_131 rfl⟩⟩
theorem fl_RX1_9 : FL RX1 9 1 2 := ⟨RX1, TX1, 9, rfl, uin_1, by decide, Or.inl (mTB 408 w_408 rfl)⟩
theorem fl_RX3_15 : FL RX3 15 3 1 := ⟨RX3, TX3, 2, rfl, uin_3, by decide, Or.inl (mTB 506 w_506 rfl)⟩
theorem fl_RX3_19 : FL RX3 19 5 12 := ⟨RX5, TX5, 13, rfl, uin_5, by decide, Or.inr ⟨_, mNW 147 w_147 rfl⟩⟩
theorem fl_RX3_29 : FL RX3 29 5 10 := ⟨RX5, TX5, 13, rfl, uin_5, by decide, Or.inr ⟨_, mNW 143 w_143 rfl⟩⟩
theorem fl_RX3_33 : FL RX3 33 5 11 := ⟨RX5, TX5, 13, rfl, uin_5, by decide, Or.inr ⟨_, mNW 145 w_145 rfl⟩⟩
theorem fl_RX3_36 : FL RX3 36 5 9 := ⟨RX5, TX5, 13, rfl, uin_5, by decide, Or.inr ⟨_, mNW 141 w_141 rfl⟩⟩
theorem fl_RX3_9 : FL RX3 9 3 0 := ⟨RX3, TX3, 2, rfl, uin_3, by decide, Or.inl (mTB 505 w_505 rfl)⟩
theorem fl_RX4_15 : FL RX4 15 4 3 := ⟨RX4, TX4, 6, rfl, uin_4, by decide, Or.inl (mTB 383 w_383 rfl)⟩
theorem fl_RX4_19 : FL RX4 19 4 4 := ⟨RX4, TX4, 6, rfl, uin_4, by decide, Or.inl (mTB 384 w_384 rfl)⟩
theorem fl_RX4_22 : FL RX4 22 4 5 := ⟨RX4, TX4, 6, rfl, uin_4, by decide, Or.inl (mTB 385 w_385 rfl)⟩
theorem fl_RX4_26 : FL RX4 26 4 0 := ⟨RX4, TX4, 6, rfl, uin_4, by decide, Or.inl (mTB 380 w_380 rfl)⟩
theorem fl_RX4_30 : FL RX4 30 4 1 := ⟨RX4, TX4, 6, rfl, uin_4, by decide, Or.inl (mTB 381 w_381 rfl)⟩
theorem fl_RX4_40 : FL RX4 40 6 8 := ⟨RX6, TX6, 9, rfl, uin_6, by decide, Or.inr ⟨_, mNW 351 w_351 rfl⟩⟩
theorem fl_RX4_9 : FL RX4 9 4 2 := ⟨RX4, TX4, 6, rfl, uin_4, by decide, Or.inl (mTB 382 w_382 rfl)⟩
theorem fl_RX5_15 : FL RX5 15 5 1 := ⟨RX5, TX5, 13, rfl, uin_5, by decide, Or.inl (mTB 118 w_118 rfl)⟩
theorem fl_RX5_18 : FL RX5 18 5 2 := ⟨RX5, TX5, 13, rfl, uin_5, by decide, Or.inl (mTB 121 w_121 rfl)⟩
theorem fl_RX5_21 : FL RX5 21 5 3 := ⟨RX5, TX5, 13, rfl, uin_5, by decide, Or.inl (mTB 123 w_123 rfl)⟩
theorem fl_RX5_24 : FL RX5 24 5 4 := ⟨RX5, TX5, 13, rfl, uin_5, by decide, Or.inl (mTB 125 w_125 rfl)⟩
theorem fl_RX5_28 : FL RX5 28 5 5 := ⟨RX5, TX5, 13, rfl, uin_5, by decide, Or.inl (mTB 129 w_129 rfl)⟩
theorem fl_RX5_31 : FL RX5 31 5 6 := ⟨RX5, TX5, 13, rfl, uin_5, by decide, Or.inl (mTB 132 w_132 rfl)⟩
theorem fl_RX5_34 : FL RX5 34 5 7 := ⟨RX5, TX5, 13, rfl, uin_5, by decide, Or.inl (mTB 135 w_135 rfl)⟩
theorem fl_RX5_38 : FL RX5 38 5 8 := ⟨RX5, TX5, 13, rfl, uin_5, by decide, Or.inl (mTB 137 w_137 rfl)⟩
theorem fl_RX5_41 : FL RX5 41 5 9 := ⟨RX5, TX5, 13, rfl, uin_5, by decide, Or.inl (mTB 140 w_140 rfl)⟩
theorem fl_RX5_44 : FL RX5 44 5 10 := ⟨RX5, TX5, 13, rfl, uin_5, by decide, Or.inl (mTB 142 w_142 rfl)⟩
theorem fl_RX5_47 : FL RX5 47 5 11 := ⟨RX5, TX5, 13, rfl, uin_5, by decide, Or.inl (mTB 144 w_144 rfl)⟩
theorem fl_RX5_50 : FL RX5 50 5 12 := ⟨RX5, TX5, 13, rfl, uin_5, by decide, Or.inl (mTB 146 w_146 rfl)⟩
theorem fl_RX5_9 : FL RX5 9 5 0 := ⟨RX5, TX5, 13, rfl, uin_5, by decide, Or.inl (mTB 117 w_117 rfl)⟩
theorem fl_RX6_122 : FL RX6 122 5 8 := ⟨RX5, TX5, 13, rfl, uin_5, by decide, Or.inr ⟨_, mNW 139 w_139 rfl⟩⟩
theorem fl_RX6_125 : FL RX6 125 6 5 := ⟨RX6, TX6, 9, rfl, uin_6, by decide, Or.inl (mTB 346 w_346 rfl)⟩
theorem fl_RX6_15 : FL RX6 15 6 2 := ⟨RX6, TX6, 9, rfl, uin_6, by decide, Or.inl (mTB 343 w_343 rfl)⟩
theorem fl_RX6_19 : FL RX6 19 6 4 := ⟨RX6, TX6, 9, rfl, uin_6, by decide, Or.inl (mTB 345 w_345 rfl)⟩
theorem fl_RX6_23 : FL RX6 23 6 0 := ⟨RX6, TX6, 9, rfl, uin_6, by decide, Or.inl (mTB 341 w_341 rfl)⟩
theorem fl_RX6_30 : FL RX6 30 6 6 := ⟨RX6, TX6, 9, rfl, uin_6, by decide, Or.inl (mTB 347 w_347 rfl)⟩
theorem fl_RX6_34 : FL RX6 34 6 3 := ⟨RX6, TX6, 9, rfl, uin_6, by decide, Or.inl (mTB 344 w_344 rfl)⟩
theorem fl_RX6_37 : FL RX6 37 6 7 := ⟨RX6, TX6, 9, rfl, uin_6, by decide, Or.inl (mTB 348 w_348 rfl)⟩
theorem fl_RX6_9 : FL RX6 9 6 1 := ⟨RX6, TX6, 9, rfl, uin_6, by decide, Or.inl (mTB 342 w_342 rfl)⟩
theorem fl_RX6_94 : FL RX6 94 5 7 := ⟨RX5, TX5, 13, rfl, uin_5, by decide, Or.inr ⟨_, mNW 136 w_136 rfl⟩⟩
theorem fl_RX7_10 : FL RX7 10 7 0 := ⟨RX7, TX7, 15, rfl, uin_7, by decide, Or.inl (mTB 527 w_527 rfl)⟩
theorem fl_RX7_104 : FL RX7 104 5 5 := ⟨RX5, TX5, 13, rfl, uin_5, by decide, Or.inr ⟨_, mNW 130 w_130 rfl⟩⟩
theorem fl_RX7_111 : FL RX7 111 5 6 := ⟨RX5, TX5, 13, rfl, uin_5, by decide, Or.inr ⟨_, mNW 133 w_133 rfl⟩⟩
theorem fl_RX7_115 : FL RX7 115 5 8 := ⟨RX5, TX5, 13, rfl, uin_5, by decide, Or.inr ⟨_, mNW 138 w_138 rfl⟩⟩
theorem fl_RX7_125 : FL RX7 125 6 7 := ⟨RX6, TX6, 9, rfl, uin_6, by decide, Or.inr ⟨_, mNW 349 w_349 rfl⟩⟩
theorem fl_RX7_142 : FL RX7 142 1 2 := ⟨RX1, TX1, 9, rfl, uin_1, by decide, Or.inr ⟨_, mNW 409 w_409 rfl⟩⟩
theorem fl_RX7_149 : FL RX7 149 1 3 := ⟨RX1, TX1, 9, rfl, uin_1, by decide, Or.inr ⟨_, mNW 411 w_411 rfl⟩⟩
theorem fl_RX7_152 : FL RX7 152 1 4 := ⟨RX1, TX1, 9, rfl, uin_1, by decide, Or.inr ⟨_, mNW 413 w_413 rfl⟩⟩
theorem fl_RX7_155 : FL RX7 155 1 6 := ⟨RX1, TX1, 9, rfl, uin_1, by decide, Or.inr ⟨_, mNW 416 w_416 rfl⟩⟩
theorem fl_RX7_158 : FL RX7 158 1 7 := ⟨RX1, TX1, 9, rfl, uin_1, by decide, Or.inr ⟨_, mNW 418 w_418 rfl⟩⟩
theorem fl_RX7_16 : FL RX7 16 7 1 := ⟨RX7, TX7, 15, rfl, uin_7, by decide, Or.inl (mTB 528 w_528 rfl)⟩
theorem fl_RX7_164 : FL RX7 164 0 11 := ⟨RX0, TX0, 15, rfl, uin_0, by decide, Or.inr ⟨_, mNW 461 w_461 rfl⟩⟩
theorem fl_RX7_167 : FL RX7 167 0 12 := ⟨RX0, TX0, 15, rfl, uin_0, by decide, Or.inr ⟨_, mNW 463 w_463 rfl⟩⟩
theorem fl_RX7_170 : FL RX7 170 0 10 := ⟨RX0, TX0, 15, rfl, uin_0, by decide, Or.inr ⟨_, mNW 459 w_459 rfl⟩⟩
theorem fl_RX7_173 : FL RX7 173 0 9 := ⟨RX0, TX0, 15, rfl, uin_0, by decide, Or.inr ⟨_, mNW 457 w_457 rfl⟩⟩
theorem fl_RX7_176 : FL RX7 176 0 13 := ⟨RX0, TX0, 15, rfl, uin_0, by decide, Or.inr ⟨_, mNW 465 w_465 rfl⟩⟩
theorem fl_RX7_179 : FL RX7 179 7 12 := ⟨RX7, TX7, 15, rfl, uin_7, by decide, Or.inl (mTB 539 w_539 rfl)⟩
theorem fl_RX7_182 : FL RX7 182 0 8 := ⟨RX0, TX0, 15, rfl, uin_0, by decide, Or.inr ⟨_, mNW 455 w_455 rfl⟩⟩
theorem fl_RX7_19 : FL RX7 19 7 2 := ⟨RX7, TX7, 15, rfl, uin_7, by decide, Or.inl (mTB 529 w_529 rfl)⟩
theorem fl_RX7_196 : FL RX7 196 5 3 := ⟨RX5, TX5, 13, rfl, uin_5, by decide, Or.inr ⟨_, mNW 124 w_124 rfl⟩⟩
theorem fl_RX7_210 : FL RX7 210 5 12 := ⟨RX5, TX5, 13, rfl, uin_5, by decide, Or.inr ⟨_, mNW 148 w_148 rfl⟩⟩
theorem fl_RX7_22 : FL RX7 22 7 3 := ⟨RX7, TX7, 15, rfl, uin_7, by decide, Or.inl (mTB 530 w_530 rfl)⟩
theorem fl_RX7_226 : FL RX7 226 2 0 := ⟨RX2, TX2, 2, rfl, uin_2, by decide, Or.inr ⟨_, mNW 519 w_519 rfl⟩⟩
theorem fl_RX7_230 : FL RX7 230 2 1 := ⟨RX2, TX2, 2, rfl, uin_2, by decide, Or.inr ⟨_, mNW 521 w_521 rfl⟩⟩
theorem fl_RX7_239 : FL RX7 239 7 13 := ⟨RX7, TX7, 15, rfl, uin_7, by decide, Or.inl (mTB 540 w_540 rfl)⟩
theorem fl_RX7_242 : FL RX7 242 7 14 := ⟨RX7, TX7, 15, rfl, uin_7, by decide, Or.inl (mTB 541 w_541 rfl)⟩
theorem fl_RX7_31 : FL RX7 31 7 4 := ⟨RX7, TX7, 15, rfl, uin_7, by decide, Or.inl (mTB 531 w_531 rfl)⟩
theorem fl_RX7_40 : FL RX7 40 7 5 := ⟨RX7, TX7, 15, rfl, uin_7, by decide, Or.inl (mTB 532 w_532 rfl)⟩
theorem fl_RX7_49 : FL RX7 49 7 6 := ⟨RX7, TX7, 15, rfl, uin_7, by decide, Or.inl (mTB 533 w_533 rfl)⟩
theorem fl_RX7_56 : FL RX7 56 7 7 := ⟨RX7, TX7, 15, rfl, uin_7, by decide, Or.inl (mTB 534 w_534 rfl)⟩
theorem fl_RX7_63 : FL RX7 63 7 8 := ⟨RX7, TX7, 15, rfl, uin_7, by decide, Or.inl (mTB 535 w_535 rfl)⟩
theorem fl_RX7_70 : FL RX7 70 7 9 := ⟨RX7, TX7, 15, rfl, uin_7, by decide, Or.inl (mTB 536 w_536 rfl)⟩
theorem fl_RX7_74 : FL RX7 74 7 10 := ⟨RX7, TX7, 15, rfl, uin_7, by decide, Or.inl (mTB 537 w_537 rfl)⟩
theorem fl_RX7_78 : FL RX7 78 7 11 := ⟨RX7, TX7, 15, rfl, uin_7, by decide, Or.inl (mTB 538 w_538 rfl)⟩
theorem fl_RX7_90 : FL RX7 90 5 4 := ⟨RX5, TX5, 13, rfl, uin_5, by decide, Or.inr ⟨_, mNW 127 w_127 rfl⟩⟩
theorem fl_RX8_114 : FL RX8 114 8 6 := ⟨RX8, TX8, 27, rfl, uin_8, by decide, Or.inl (mTB 884 w_884 rfl)⟩
theorem fl_RX8_124 : FL RX8 124 8 11 := ⟨RX8, TX8, 27, rfl, uin_8, by decide, Or.inl (mTB 889 w_889 rfl)⟩
theorem fl_RX8_127 : FL RX8 127 8 9 := ⟨RX8, TX8, 27, rfl, uin_8, by decide, Or.inl (mTB 887 w_887 rfl)⟩
theorem fl_RX8_13 : FL RX8 13 8 1 := ⟨RX8, TX8, 27, rfl, uin_8, by decide, Or.inl (mTB 879 w_879 rfl)⟩
theorem fl_RX8_143 : FL RX8 143 8 7 := ⟨RX8, TX8, 27, rfl, uin_8, by decide, Or.inl (mTB 885 w_885 rfl)⟩
theorem fl_RX8_16 : FL RX8 16 8 2 := ⟨RX8, TX8, 27, rfl, uin_8, by decide, Or.inl (mTB 880 w_880 rfl)⟩
theorem fl_RX8_166 : FL RX8 166 8 13 := ⟨RX8, TX8, 27, rfl, uin_8, by decide, Or.inl (mTB 891 w_891 rfl)⟩
theorem fl_RX8_181 : FL RX8 181 8 17 := ⟨RX8, TX8, 27, rfl, uin_8, by decide, Or.inl (mTB 895 w_895 rfl)⟩
theorem fl_RX8_184 : FL RX8 184 8 18 := ⟨RX8, TX8, 27, rfl, uin_8, by decide, Or.inl (mTB 896 w_896 rfl)⟩
theorem fl_RX8_20 : FL RX8 20 8 3 := ⟨RX8, TX8, 27, rfl, uin_8, by decide, Or.inl (mTB 881 w_881 rfl)⟩
theorem fl_RX8_219 : FL RX8 219 8 23 := ⟨RX8, TX8, 27, rfl, uin_8, by decide, Or.inl (mTB 901 w_901 rfl)⟩
theorem fl_RX8_23 : FL RX8 23 8 5 := ⟨RX8, TX8, 27, rfl, uin_8, by decide, Or.inl (mTB 883 w_883 rfl)⟩
theorem fl_RX8_27 : FL RX8 27 8 8 := ⟨RX8, TX8, 27, rfl, uin_8, by decide, Or.inl (mTB 886 w_886 rfl)⟩
theorem fl_RX8_31 : FL RX8 31 8 10 := ⟨RX8, TX8, 27, rfl, uin_8, by decide, Or.inl (mTB 888 w_888 rfl)⟩
theorem fl_RX8_34 : FL RX8 34 8 12 := ⟨RX8, TX8, 27, rfl, uin_8, by decide, Or.inl (mTB 890 w_890 rfl)⟩
theorem fl_RX8_37 : FL RX8 37 8 14 := ⟨RX8, TX8, 27, rfl, uin_8, by decide, Or.inl (mTB 892 w_892 rfl)⟩
theorem fl_RX8_40 : FL RX8 40 8 15 := ⟨RX8, TX8, 27, rfl, uin_8, by decide, Or.inl (mTB 893 w_893 rfl)⟩
theorem fl_RX8_43 : FL RX8 43 8 16 := ⟨RX8, TX8, 27, rfl, uin_8, by decide, Or.inl (mTB 894 w_894 rfl)⟩
theorem fl_RX8_46 : FL RX8 46 8 19 := ⟨RX8, TX8, 27, rfl, uin_8, by decide, Or.inl (mTB 897 w_897 rfl)⟩
theorem fl_RX8_49 : FL RX8 49 8 20 := ⟨RX8, TX8, 27, rfl, uin_8, by decide, Or.inl (mTB 898 w_898 rfl)⟩
theorem fl_RX8_52 : FL RX8 52 8 21 := ⟨RX8, TX8, 27, rfl, uin_8, by decide, Or.inl (mTB 899 w_899 rfl)⟩
theorem fl_RX8_55 : FL RX8 55 8 22 := ⟨RX8, TX8, 27, rfl, uin_8, by decide, Or.inl (mTB 900 w_900 rfl)⟩
theorem fl_RX8_58 : FL RX8 58 8 24 := ⟨RX8, TX8, 27, rfl, uin_8, by decide, Or.inl (mTB 902 w_902 rfl)⟩
theorem fl_RX8_61 : FL RX8 61 8 25 := ⟨RX8, TX8, 27, rfl, uin_8, by decide, Or.inl (mTB 903 w_903 rfl)⟩
theorem fl_RX8_64 : FL RX8 64 8 26 := ⟨RX8, TX8, 27, rfl, uin_8, by decide, Or.inl (mTB 904 w_904 rfl)⟩
theorem fl_RX8_67 : FL RX8 67 8 4 := ⟨RX8, TX8, 27, rfl, uin_8, by decide, Or.inl (mTB 882 w_882 rfl)⟩
theorem fl_RX8_7 : FL RX8 7 8 0 := ⟨RX8, TX8, 27, rfl, uin_8, by decide, Or.inl (mTB 878 w_878 rfl)⟩
theorem fp_RX0_33 : FP RX0 33 0 14 false .boolean := ⟨RX0, TX0, 15, rfl, uin_0, by decide, Or.inl (mTB 466 w_466 rfl), ⟨tyX0, tyX0_ok⟩, nmX0, rfl, by decide +kernel, fun h => by first | cases h | rfl⟩
theorem fp_RX0_58 : FP RX0 58 0 10 false .boolean := ⟨RX0, TX0, 15, rfl, uin_0, by decide, Or.inl (mTB 458 w_458 rfl), ⟨tyX0, tyX0_ok⟩, nmX0, rfl, by decide +kernel, fun h => by first | cases h | rfl⟩
theorem fp_RX0_61 : FP RX0 61 0 11 false .int := ⟨RX0, TX0, 15, rfl, uin_0, by decide, Or.inl (mTB 460 w_460 rfl), ⟨tyX0, tyX0_ok⟩, nmX0, rfl, by decide +kernel, fun h => by first | cases h | rfl⟩
theorem fp_RX0_64 : FP RX0 64 0 12 false .int := ⟨RX0, TX0, 15, rfl, uin_0, by decide, Or.inl (mTB 462 w_462 rfl), ⟨tyX0, tyX0_ok⟩, nmX0, rfl, by decide +kernel, fun h => by first | cases h | rfl⟩
theorem fp_RX0_67 : FP RX0 67 0 13 false .int := ⟨RX0, TX0, 15, rfl, uin_0, by decide, Or.inl (mTB 464 w_464 rfl), ⟨tyX0, tyX0_ok⟩, nmX0, rfl, by decide +kernel, fun h => by first | cases h | rfl⟩
theorem fp_RX0_70 : FP RX0 70 0 9 false .int := ⟨RX0, TX0, 15, rfl, uin_0, by decide, Or.inl (mTB 456 w_456 rfl), ⟨tyX0, tyX0_ok⟩, nmX0, rfl, by decide +kernel, fun h => by first | cases h | rfl⟩
theorem fp_RX1_21 : FP RX1 21 1 8 false .boolean := ⟨RX1, TX1, 9, rfl, uin_1, by decide, Or.inl (mTB 419 w_419 rfl), ⟨tyX1, tyX1_ok⟩, nmX1, rfl, by decide +kernel, fun h => by first | cases h | rfl⟩
theorem fp_RX1_33 : FP RX1 33 1 5 false .int := ⟨RX1, TX1, 9, rfl, uin_1, by decide, Or.inl (mTB 414 w_414 rfl), ⟨tyX1, tyX1_ok⟩, nmX1, rfl, by decide +kernel, fun h => by first | cases h | rfl⟩
theorem fp_RX1_37 : FP RX1 37 1 6 false .int := ⟨RX1, TX1, 9, rfl, uin_1, by decide, Or.inl (mTB 415 w_415 rfl), ⟨tyX1, tyX1_ok⟩, nmX1, rfl, by decide +kernel, fun h => by first | cases h | rfl⟩
theorem fp_RX1_40 : FP RX1 40 1 7 false .int := ⟨RX1, TX1, 9, rfl, uin_1, by decide, Or.inl (mTB 417 w_417 rfl), ⟨tyX1, tyX1_ok⟩, nmX1, rfl, by decide +kernel, fun h => by first | cases h | rfl⟩
theorem fp_RX2_13 : FP RX2 13 2 1 false .long := ⟨RX2, TX2, 2, rfl, uin_2, by decide, Or.inl (mTB 520 w_520 rfl), ⟨tyX2, tyX2_ok⟩, nmX2, rfl, by decide +kernel, fun h => by first | cases h | rfl⟩
theorem fp_RX2_7 : FP RX2 7 2 0 false .long := ⟨RX2, TX2, 2, rfl, uin_2, by decide, Or.inl (mTB 518 w_518 rfl), ⟨tyX2, tyX2_ok⟩, nmX2, rfl, by decide +kernel, fun h => by first | cases h | rfl⟩
theorem fp_RX4_22 : FP RX4 22 4 5 false .boolean := ⟨RX4, TX4, 6, rfl, uin_4, by decide, Or.inl (mTB 385 w_385 rfl), ⟨tyX4, tyX4_ok⟩, nmX4, rfl, by decide +kernel, fun h => by first | cases h | rfl⟩
theorem fp_RX5_24 : FP RX5 24 5 4 false .int := ⟨RX5, TX5, 13, rfl, uin_5, by decide, Or.inl (mTB 125 w_125 rfl), ⟨tyX5, tyX5_ok⟩, nmX5, rfl, by decide +kernel, fun h => by first | cases h | rfl⟩
theorem fp_RX5_28 : FP RX5 28 5 5 false .int := ⟨RX5, TX5, 13, rfl, uin_5, by decide, Or.inl (mTB 129 w_129 rfl), ⟨tyX5, tyX5_ok⟩, nmX5, rfl, by decide +kernel, fun h => by first | cases h | rfl⟩
theorem fp_RX5_31 : FP RX5 31 5 6 false .int := ⟨RX5, TX5, 13, rfl, uin_5, by decide, Or.inl (mTB 132 w_132 rfl), ⟨tyX5, tyX5_ok⟩, nmX5, rfl, by decide +kernel, fun h => by first | cases h | rfl⟩
theorem fp_RX5_38 : FP RX5 38 5 8 false .int := ⟨RX5, TX5, 13, rfl, uin_5, by decide, Or.inl (mTB 137 w_137 rfl), ⟨tyX5, tyX5_ok⟩, nmX5, rfl, by decide +kernel, fun h => by first | cases h | rfl⟩
theorem fp_RX5_50 : FP RX5 50 5 12 false .int := ⟨RX5, TX5, 13, rfl, uin_5, by decide, Or.inl (mTB 146 w_146 rfl), ⟨tyX5, tyX5_ok⟩, nmX5, rfl, by decide +kernel, fun h => by first | cases h | rfl⟩
theorem fp_RX6_125 : FP RX6 125 6 5 false .int := ⟨RX6, TX6, 9, rfl, uin_6, by decide, Or.inl (mTB 346 w_346 rfl), ⟨tyX6, tyX6_ok⟩, nmX6, rfl, by decide +kernel, fun h => by first | cases h | rfl⟩
theorem fp_RX6_30 : FP RX6 30 6 6 false .int := ⟨RX6, TX6, 9, rfl, uin_6, by decide, Or.inl (mTB 347 w_347 rfl), ⟨tyX6, tyX6_ok⟩, nmX6, rfl, by decide +kernel, fun h => by first | cases h | rfl⟩
theorem fp_RX6_34 : FP RX6 34 6 3 false .int := ⟨RX6, TX6, 9, rfl, uin_6, by decide, Or.inl (mTB 344 w_344 rfl), ⟨tyX6, tyX6_ok⟩, nmX6, rfl, by decide +kernel, fun h => by first | cases h | rfl⟩
theorem fp_RX6_37 : FP RX6 37 6 7 false .int := ⟨RX6, TX6, 9, rfl, uin_6, by decide, Or.inl (mTB 348 w_348 rfl), ⟨tyX6, tyX6_ok⟩, nmX6, rfl, by decide +kernel, fun h => by first | cases h | rfl⟩
theorem fp_RX6_40 : FP RX6 40 6 8 false .boolean := ⟨RX6, TX6, 9, rfl, uin_6, by decide, Or.inl (mTB 350 w_350 rfl), ⟨tyX6, tyX6_ok⟩, nmX6, rfl, by decide +kernel, fun h => by first | cases h | rfl⟩
theorem fp_RX7_104 : FP RX7 104 5 5 false .int := ⟨RX5, TX5, 13, rfl, uin_5, by decide, Or.inr ⟨rfl, _, mNW 130 w_130 rfl⟩, ⟨tyX5, tyX5_ok⟩, nmX5, rfl, by decide +kernel, fun h => by first | cases h | rfl⟩
theorem fp_RX7_107 : FP RX7 107 1 8 false .boolean := ⟨RX1, TX1, 9, rfl, uin_1, by decide, Or.inr ⟨rfl, _, mNW 420 w_420 rfl⟩, ⟨tyX1, tyX1_ok⟩, nmX1, rfl, by decide +kernel, fun h => by first | cases h | rfl⟩
theorem fp_RX7_111 : FP RX7 111 5 6 false .int := ⟨RX5, TX5, 13, rfl, uin_5, by decide, Or.inr ⟨rfl, _, mNW 133 w_133 rfl⟩, ⟨tyX5, tyX5_ok⟩, nmX5, rfl, by decide +kernel, fun h => by first | cases h | rfl⟩
theorem fp_RX7_114 : FP RX7 114 0 14 false .boolean := ⟨RX0, TX0, 15, rfl, uin_0, by decide, Or.inr ⟨rfl, _, mNW 467 w_467 rfl⟩, ⟨tyX0, tyX0_ok⟩, nmX0, rfl, by decide +kernel, fun h => by first | cases h | rfl⟩
theorem fp_RX7_115 : FP RX7 115 5 8 false .int := ⟨RX5, TX5, 13, rfl, uin_5, by decide, Or.inr ⟨rfl, _, mNW 138 w_138 rfl⟩, ⟨tyX5, tyX5_ok⟩, nmX5, rfl, by decide +kernel, fun h => by first | cases h | rfl⟩
theorem fp_RX7_179 : FP RX7 179 7 12 false .int := ⟨RX7, TX7, 15, rfl, uin_7, by decide, Or.inl (mTB 539 w_539 rfl), ⟨tyX7, tyX7_ok⟩, nmX7, rfl, by decide +kernel, fun h => by first | cases h | rfl⟩
theorem fp_RX7_210 : FP RX7 210 5 12 false .int := ⟨RX5, TX5, 13, rfl, uin_5, by decide, Or.inr ⟨rfl, _, mNW 148 w_148 rfl⟩, ⟨tyX5, tyX5_ok⟩, nmX5, rfl, by decide +kernel, fun h => by first | cases h | rfl⟩
theorem fp_RX7_239 : FP RX7 239 7 13 false .int := ⟨RX7, TX7, 15, rfl, uin_7, by decide, Or.inl (mTB 540 w_540 rfl), ⟨tyX7, tyX7_ok⟩, nmX7, rfl, by decide +kernel, fun h => by first | cases h | rfl⟩
theorem fp_RX7_242 : FP RX7 242 7 14 false .int := ⟨RX7, TX7, 15, rfl, uin_7, by decide, Or.inl (mTB 541 w_541 rfl), ⟨tyX7, tyX7_ok⟩, nmX7, rfl, by decide +kernel, fun h => by first | cases h | rfl⟩
theorem fp_RX7_253 : FP RX7 253 4 5 false .boolean := ⟨RX4, TX4, 6, rfl, uin_4, by decide, Or.inr ⟨rfl, _, mNW 386 w_386 rfl⟩, ⟨tyX4, tyX4_ok⟩, nmX4, rfl, by decide +kernel, fun h => by first | cases h | rfl⟩
theorem fp_RX8_114 : FP RX8 114 8 6 false .int := ⟨RX8, TX8, 27, rfl, uin_8, by decide, Or.inl (mTB 884 w_884 rfl), ⟨tyX8, tyX8_ok⟩, nmX8, rfl, by decide +kernel, fun h => by first | cases h | rfl⟩
theorem fp_RX8_124 : FP RX8 124 8 11 false .int := ⟨RX8, TX8, 27, rfl, uin_8, by decide, Or.inl (mTB 889 w_889 rfl), ⟨tyX8, tyX8_ok⟩, nmX8, rfl, by decide +kernel, fun h => by first | cases h | rfl⟩
theorem fp_RX8_127 : FP RX8 127 8 9 false .int := ⟨RX8, TX8, 27, rfl, uin_8, by decide, Or.inl (mTB 887 w_887 rfl), ⟨tyX8, tyX8_ok⟩, nmX8, rfl, by decide +kernel, fun h => by first | cases h | rfl⟩
theorem fp_RX8_143 : FP RX8 143 8 7 false .int := ⟨RX8, TX8, 27, rfl, uin_8, by decide, Or.inl (mTB 885 w_885 rfl), ⟨tyX8, tyX8_ok⟩, nmX8, rfl, by decide +kernel, fun h => by first | cases h | rfl⟩
theorem fp_RX8_166 : FP RX8 166 8 13 false .long := ⟨RX8, TX8, 27, rfl, uin_8, by decide, Or.inl (mTB 891 w_891 rfl), ⟨tyX8, tyX8_ok⟩, nmX8, rfl, by decide +kernel, fun h => by first | cases h | rfl⟩
theorem fp_RX8_181 : FP RX8 181 8 17 false .int := ⟨RX8, TX8, 27, rfl, uin_8, by decide, Or.inl (mTB 895 w_895 rfl), ⟨tyX8, tyX8_ok⟩, nmX8, rfl, by decide +kernel, fun h => by first | cases h | rfl⟩
theorem fp_RX8_184 : FP RX8 184 8 18 false .int := ⟨RX8, TX8, 27, rfl, uin_8, by decide, Or.inl (mTB 896 w_896 rfl), ⟨tyX8, tyX8_ok⟩, nmX8, rfl, by decide +kernel, fun h => by first | cases h | rfl⟩
theorem fp_RX8_219 : FP RX8 219 8 23 false .int := ⟨RX8, TX8, 27, rfl, uin_8, by decide, Or.inl (mTB 901 w_901 rfl), ⟨tyX8, tyX8_ok⟩, nmX8, rfl, by decide +kernel, fun h => by first | cases h | rfl⟩
theorem fp_RX8_23 : FP RX8 23 8 5 false .long := ⟨RX8, TX8, 27, rfl, uin_8, by decide, Or.inl (mTB 883 w_883 rfl), ⟨tyX8, tyX8_ok⟩, nmX8, rfl, by decide +kernel, fun h => by first | cases h | rfl⟩
theorem fp_RX8_67 : FP RX8 67 8 4 false .long := ⟨RX8, TX8, 27, rfl, uin_8, by decide, Or.inl (mTB 882 w_882 rfl), ⟨tyX8, tyX8_ok⟩, nmX8, rfl, by decide +kernel, fun h => by first | cases h | rfl⟩
theorem lk_RJ0_335 : Lnk RJ0 335 yJ0_coder_7d493 := Or.inl (mTB 243 w_243 rfl)
theorem lk_RJ0_492 : Lnk RJ0 492 yJ0_isLatin1_aae02 := Or.inl (mTB 233 w_233 rfl)
theorem lk_RJ0_505 : Lnk RJ0 505 yJ0_length_8abf5 := Or.inl (mTB 239 w_239 rfl)
theorem lk_RJ0_633 : Lnk RJ0 633 yJ0_indexOf_7cf53 := Or.inl (mTB 229 w_229 rfl)
theorem lk_RJ0_637 : Lnk RJ0 637 yJ1_indexOf_4cfef := Or.inl (mTB 247 w_247 rfl)
theorem lk_RJ1_38 : Lnk RJ1 38 yJ9_min_7cf53 := Or.inl (mTB 256 w_256 rfl)
theorem lk_RJ1_88 : Lnk RJ1 88 yJ1_canEncode_9a6ad := Or.inl (mTB 250 w_250 rfl)
theorem lk_RJ1_92 : Lnk RJ1 92 yJ9_max_7cf53 := Or.inl (mTB 253 w_253 rfl)
theorem lk_RJ1_95 : Lnk RJ1 95 yJ1_indexOfChar_4cfef := Or.inl (mTB 259 w_259 rfl)
theorem lk_RX0_51 : Lnk RX0 51 yX0_lookAtCompany := Or.inl (mTB 720 w_720 rfl)
theorem lk_RX0_55 : Lnk RX0 55 yX0_lookAtLeft := Or.inl (mTB 728 w_728 rfl)
theorem lk_RX0_73 : Lnk RX0 73 yX0_lineUp := Or.inl (mTB 736 w_736 rfl)
theorem lk_RX0_76 : Lnk RX0 76 yX4_isWell := Or.inr ⟨_, mNW 724 w_724 rfl⟩
theorem lk_RX0_82 : Lnk RX0 82 yX4_isOdd := Or.inr ⟨_, mNW 725 w_725 rfl⟩
theorem lk_RX0_86 : Lnk RX0 86 yX7_holds := Or.inr ⟨_, mNW 726 w_726 rfl⟩
theorem lk_RX0_92 : Lnk RX0 92 yJ9_max_7cf53 := Or.inl (mTB 727 w_727 rfl)
theorem lk_RX0_98 : Lnk RX0 98 yX0_tryFirst := Or.inl (mTB 732 w_732 rfl)
theorem lk_RX1_43 : Lnk RX1 43 yJ7_fill_53178 := Or.inl (mTB 673 w_673 rfl)
theorem lk_RX1_49 : Lnk RX1 49 yX1_bestSteps := Or.inl (mTB 676 w_676 rfl)
theorem lk_RX1_53 : Lnk RX1 53 yX1_step := Or.inl (mTB 696 w_696 rfl)
theorem lk_RX1_57 : Lnk RX1 57 yX1_mayStep := Or.inl (mTB 680 w_680 rfl)
theorem lk_RX1_60 : Lnk RX1 60 yX1_aheadOfWall := Or.inl (mTB 685 w_685 rfl)
theorem lk_RX1_63 : Lnk RX1 63 yJ6_bitCount_0f7a4 := Or.inl (mTB 689 w_689 rfl)
theorem lk_RX1_68 : Lnk RX1 68 yX4_isWell := Or.inr ⟨_, mNW 695 w_695 rfl⟩
theorem lk_RX1_79 : Lnk RX1 79 yX7_holds := Or.inr ⟨_, mNW 684 w_684 rfl⟩
theorem lk_RX2_16 : Lnk RX2 16 yX2_commonDivisor := Or.inl (mTB 762 w_762 rfl)
theorem lk_RX3_25 : Lnk RX3 25 yX7_holds := Or.inr ⟨_, mNW 811 w_811 rfl⟩
theorem lk_RX3_39 : Lnk RX3 39 yX3_onBut := Or.inl (mTB 807 w_807 rfl)
theorem lk_RX3_43 : Lnk RX3 43 yX4_isWell := Or.inr ⟨_, mNW 812 w_812 rfl⟩
theorem lk_RX3_48 : Lnk RX3 48 yX3_allWellBut := Or.inl (mTB 821 w_821 rfl)
theorem lk_RX3_52 : Lnk RX3 52 yJ6_bitCount_0f7a4 := Or.inl (mTB 829 w_829 rfl)
theorem lk_RX4_34 : Lnk RX4 34 yJ7_fill_d0a16 := Or.inl (mTB 641 w_641 rfl)
theorem lk_RX4_45 : Lnk RX4 45 yX4_isOdd := Or.inl (mTB 644 w_644 rfl)
theorem lk_RX4_51 : Lnk RX4 51 yX5_sumBrought := Or.inr ⟨_, mNW 648 w_648 rfl⟩
theorem lk_RX4_57 : Lnk RX4 57 yX6_value := Or.inr ⟨_, mNW 649 w_649 rfl⟩
theorem lk_RX5_59 : Lnk RX5 59 yX7_holds := Or.inr ⟨_, mNW 628 w_628 rfl⟩
theorem lk_RX6_103 : Lnk RX6 103 yX6_readDigits := Or.inl (mTB 318 w_318 rfl)
theorem lk_RX6_106 : Lnk RX6 106 yX6_readOpened := Or.inl (mTB 330 w_330 rfl)
theorem lk_RX6_111 : Lnk RX6 111 yJ0_indexOf_0f7a4 := Or.inl (mTB 225 w_225 rfl)
theorem lk_RX6_117 : Lnk RX6 117 yX6_signAt := Or.inl (mTB 221 w_221 rfl)
theorem lk_RX6_128 : Lnk RX6 128 yX6_push := Or.inl (mTB 653 w_653 rfl)
theorem lk_RX6_132 : Lnk RX6 132 yX6_pop := Or.inl (mTB 657 w_657 rfl)
theorem lk_RX6_136 : Lnk RX6 136 yX6_work := Or.inl (mTB 661 w_661 rfl)
theorem lk_RX6_44 : Lnk RX6 44 yX6_readValue := Or.inl (mTB 188 w_188 rfl)
theorem lk_RX6_48 : Lnk RX6 48 yX6_nextSign := Or.inl (mTB 217 w_217 rfl)
theorem lk_RX6_52 : Lnk RX6 52 yX6_setFlaw := Or.inl (mTB 322 w_322 rfl)
theorem lk_RX6_56 : Lnk RX6 56 yX6_readBoth := Or.inl (mTB 192 w_192 rfl)
theorem lk_RX6_61 : Lnk RX6 61 yX6_take := Or.inl (mTB 213 w_213 rfl)
theorem lk_RX6_65 : Lnk RX6 65 yX6_addSign := Or.inl (mTB 326 w_326 rfl)
theorem lk_RX6_69 : Lnk RX6 69 yX6_readHeld := Or.inl (mTB 196 w_196 rfl)
theorem lk_RX6_74 : Lnk RX6 74 yX6_readSum := Or.inl (mTB 200 w_200 rfl)
theorem lk_RX6_79 : Lnk RX6 79 yX6_readTerm := Or.inl (mTB 204 w_204 rfl)
theorem lk_RX6_84 : Lnk RX6 84 yX6_readUnit := Or.inl (mTB 208 w_208 rfl)
theorem lk_RX6_91 : Lnk RX6 91 yX6_readBareUnit := Or.inl (mTB 311 w_311 rfl)
theorem lk_RX6_99 : Lnk RX6 99 yX6_isDigit := Or.inl (mTB 315 w_315 rfl)
theorem lk_RX7_101 : Lnk RX7 101 yX7_forgetWhatFollows := Or.inl (mTB 592 w_592 rfl)
theorem lk_RX7_118 : Lnk RX7 118 yX5_addLetter := Or.inr ⟨_, mNW 604 w_604 rfl⟩
theorem lk_RX7_122 : Lnk RX7 122 yX6_read := Or.inr ⟨_, mNW 608 w_608 rfl⟩
theorem lk_RX7_128 : Lnk RX7 128 yX7_isSetOf := Or.inl (mTB 621 w_621 rfl)
theorem lk_RX7_132 : Lnk RX7 132 yX5_sumBrought := Or.inr ⟨_, mNW 624 w_624 rfl⟩
theorem lk_RX7_136 : Lnk RX7 136 yX4_isWell := Or.inr ⟨_, mNW 637 w_637 rfl⟩
theorem lk_RX7_139 : Lnk RX7 139 yX1_goThrough := Or.inr ⟨_, mNW 669 w_669 rfl⟩
theorem lk_RX7_145 : Lnk RX7 145 yX7_isWalker := Or.inl (mTB 704 w_704 rfl)
theorem lk_RX7_161 : Lnk RX7 161 yX0_plan := Or.inr ⟨_, mNW 716 w_716 rfl⟩
theorem lk_RX7_185 : Lnk RX7 185 yX7_refuseAsNo := Or.inl (mTB 748 w_748 rfl)
theorem lk_RX7_188 : Lnk RX7 188 yX7_spreadStops := Or.inl (mTB 752 w_752 rfl)
theorem lk_RX7_192 : Lnk RX7 192 yX2_become := Or.inr ⟨_, mNW 758 w_758 rfl⟩
theorem lk_RX7_199 : Lnk RX7 199 yX7_holds := Or.inl (mTB 773 w_773 rfl)
theorem lk_RX7_204 : Lnk RX7 204 yX7_waysHome := Or.inl (mTB 779 w_779 rfl)
theorem lk_RX7_207 : Lnk RX7 207 yX7_fewestHome := Or.inl (mTB 784 w_784 rfl)
theorem lk_RX7_213 : Lnk RX7 213 yX5_addSaid := Or.inr ⟨_, mNW 791 w_791 rfl⟩
theorem lk_RX7_216 : Lnk RX7 216 yX3_minutesUnwell := Or.inr ⟨_, mNW 803 w_803 rfl⟩
theorem lk_RX7_220 : Lnk RX7 220 yX3_eachAlone := Or.inr ⟨_, mNW 817 w_817 rfl⟩
theorem lk_RX7_223 : Lnk RX7 223 yX3_fewestLiars := Or.inr ⟨_, mNW 825 w_825 rfl⟩
theorem lk_RX7_233 : Lnk RX7 233 yX7_imageAt := Or.inl (mTB 838 w_838 rfl)
theorem lk_RX7_237 : Lnk RX7 237 yX5_become := Or.inr ⟨_, mNW 842 w_842 rfl⟩
theorem lk_RX7_247 : Lnk RX7 247 yX5_addedTo := Or.inr ⟨_, mNW 866 w_866 rfl⟩
theorem lk_RX7_256 : Lnk RX7 256 yJ7_fill_d0a16 := Or.inl (mTB 756 w_756 rfl)
theorem lk_RX7_264 : Lnk RX7 264 yJ7_fill_53178 := Or.inl (mTB 783 w_783 rfl)
theorem lk_RX7_82 : Lnk RX7 82 yX7_isWithin := Or.inl (mTB 577 w_577 rfl)
theorem lk_RX7_86 : Lnk RX7 86 yX7_refuseAsBad := Or.inl (mTB 580 w_580 rfl)
theorem lk_RX7_94 : Lnk RX7 94 yX7_refuseAsFull := Or.inl (mTB 584 w_584 rfl)
theorem lk_RX7_97 : Lnk RX7 97 yX5_addWalker := Or.inr ⟨_, mNW 588 w_588 rfl⟩
theorem lk_RX8_100 : Lnk RX8 100 yX8_bringsOf := Or.inl (mTB 1008 w_1008 rfl)
theorem lk_RX8_103 : Lnk RX8 103 yX8_isSet := Or.inl (mTB 991 w_991 rfl)
theorem lk_RX8_109 : Lnk RX8 109 yX8_broughtBy := Or.inl (mTB 1000 w_1000 rfl)
theorem lk_RX8_118 : Lnk RX8 118 yX8_textLong := Or.inl (mTB 1032 w_1032 rfl)
theorem lk_RX8_121 : Lnk RX8 121 yX8_charAt := Or.inl (mTB 1036 w_1036 rfl)
theorem lk_RX8_130 : Lnk RX8 130 yX8_rank := Or.inl (mTB 1061 w_1061 rfl)
theorem lk_RX8_133 : Lnk RX8 133 yX8_workOut := Or.inl (mTB 1064 w_1064 rfl)
theorem lk_RX8_140 : Lnk RX8 140 yX8_isFigure := Or.inl (mTB 1040 w_1040 rfl)
theorem lk_RX8_148 : Lnk RX8 148 yX8_ahead := Or.inl (mTB 1028 w_1028 rfl)
theorem lk_RX8_151 : Lnk RX8 151 yX8_digits := Or.inl (mTB 1045 w_1045 rfl)
theorem lk_RX8_155 : Lnk RX8 155 yX8_stands := Or.inl (mTB 1050 w_1050 rfl)
theorem lk_RX8_159 : Lnk RX8 159 yX8_letterOf := Or.inl (mTB 1054 w_1054 rfl)
theorem lk_RX8_162 : Lnk RX8 162 yX8_workDown := Or.inl (mTB 1057 w_1057 rfl)
theorem lk_RX8_169 : Lnk RX8 169 yX8_reads := Or.inl (mTB 1024 w_1024 rfl)
theorem lk_RX8_175 : Lnk RX8 175 yX8_isWell := Or.inl (mTB 1073 w_1073 rfl)
theorem lk_RX8_179 : Lnk RX8 179 yX8_ahead_ := Or.inl (mTB 1100 w_1100 rfl)
theorem lk_RX8_187 : Lnk RX8 187 yX8_onNow := Or.inl (mTB 1085 w_1085 rfl)
theorem lk_RX8_190 : Lnk RX8 190 yX8_mayStep := Or.inl (mTB 1089 w_1089 rfl)
theorem lk_RX8_193 : Lnk RX8 193 yX8_manyIn := Or.inl (mTB 1093 w_1093 rfl)
theorem lk_RX8_196 : Lnk RX8 196 yX8_isWellOn := Or.inl (mTB 1096 w_1096 rfl)
theorem lk_RX8_200 : Lnk RX8 200 yX8_celebrate := Or.inl (mTB 1081 w_1081 rfl)
theorem lk_RX8_203 : Lnk RX8 203 yX8_isWalker := Or.inl (mTB 1108 w_1108 rfl)
theorem lk_RX8_207 : Lnk RX8 207 yX8_findPrices := Or.inl (mTB 1129 w_1129 rfl)
theorem lk_RX8_210 : Lnk RX8 210 yX8_mayGo := Or.inl (mTB 1134 w_1134 rfl)
theorem lk_RX8_213 : Lnk RX8 213 yX8_timeOf := Or.inl (mTB 1138 w_1138 rfl)
theorem lk_RX8_216 : Lnk RX8 216 yX8_findLeast := Or.inl (mTB 1125 w_1125 rfl)
theorem lk_RX8_222 : Lnk RX8 222 yX8_isNext := Or.inl (mTB 1142 w_1142 rfl)
theorem lk_RX8_227 : Lnk RX8 227 yX8_layRow := Or.inl (mTB 1121 w_1121 rfl)
theorem lk_RX8_232 : Lnk RX8 232 yX8_no := Or.inl (mTB 1155 w_1155 rfl)
theorem lk_RX8_235 : Lnk RX8 235 yX8_tells := Or.inl (mTB 1159 w_1159 rfl)
theorem lk_RX8_243 : Lnk RX8 243 yX8_said := Or.inl (mTB 1181 w_1181 rfl)
theorem lk_RX8_246 : Lnk RX8 246 yX8_onBy := Or.inl (mTB 1197 w_1197 rfl)
theorem lk_RX8_249 : Lnk RX8 249 yX8_disputeOf := Or.inl (mTB 1193 w_1193 rfl)
theorem lk_RX8_259 : Lnk RX8 259 yX8_sums := Or.inl (mTB 1232 w_1232 rfl)
theorem lk_RX8_70 : Lnk RX8 70 yX8_walkers := Or.inl (mTB 974 w_974 rfl)
theorem lk_RX8_74 : Lnk RX8 74 yX8_in := Or.inl (mTB 965 w_965 rfl)
theorem lk_RX8_78 : Lnk RX8 78 yX8_all := Or.inl (mTB 995 w_995 rfl)
theorem lk_RX8_87 : Lnk RX8 87 yX8_bad := Or.inl (mTB 970 w_970 rfl)
theorem lk_RX8_91 : Lnk RX8 91 yX8_full := Or.inl (mTB 978 w_978 rfl)
theorem lk_RX8_96 : Lnk RX8 96 yX8_of := Or.inl (mTB 1004 w_1004 rfl)
theorem ca_J0_coder_7d493 : Cal yJ0_coder_7d493 cJ0_coder_7d493 1 (Option.some Jvm.ClassFile.FieldType.byte) 0 := ⟨mTB 246 w_246 rfl, mTB 88 w_88 rfl, by decide +kernel, by decide +kernel, by decide +kernel⟩
theorem ca_J0_indexOf_0f7a4 : Cal yJ0_indexOf_0f7a4 cJ0_indexOf_0f7a4 2 (Option.some Jvm.ClassFile.FieldType.int) 1 := ⟨mTB 228 w_228 rfl, mTB 88 w_88 rfl, by decide +kernel, by decide +kernel, by decide +kernel⟩
theorem ca_J0_indexOf_7cf53 : Cal yJ0_indexOf_7cf53 cJ0_indexOf_7cf53 3 (Option.some Jvm.ClassFile.FieldType.int) 2 := ⟨mTB 232 w_232 rfl, mTB 88 w_88 rfl, by decide +kernel, by decide +kernel, by decide +kernel⟩
theorem ca_J0_isLatin1_aae02 : Cal yJ0_isLatin1_aae02 cJ0_isLatin1_aae02 1 (Option.some Jvm.ClassFile.FieldType.boolean) 0 := ⟨mTB 236 w_236 rfl, mTB 88 w_88 rfl, by decide +kernel, by decide +kernel, by decide +kernel⟩
theorem ca_J0_length_8abf5 : Cal yJ0_length_8abf5 cJ0_length_8abf5 1 (Option.some Jvm.ClassFile.FieldType.int) 0 := ⟨mTB 242 w_242 rfl, mTB 88 w_88 rfl, by decide +kernel, by decide +kernel, by decide +kernel⟩
theorem ca_J1_canEncode_9a6ad : Cal yJ1_canEncode_9a6ad cJ1_canEncode_9a6ad 1 (Option.some Jvm.ClassFile.FieldType.boolean) 1 := ⟨mTB 252 w_252 rfl, mTB 89 w_89 rfl, by decide +kernel, by decide +kernel, by decide +kernel⟩
theorem ca_J1_indexOfChar_4cfef : Cal yJ1_indexOfChar_4cfef cJ1_indexOfChar_4cfef 6 (Option.some Jvm.ClassFile.FieldType.int) 4 := ⟨mTB 261 w_261 rfl, mTB 89 w_89 rfl, by decide +kernel, by decide +kernel, by decide +kernel⟩
theorem ca_J1_indexOf_4cfef : Cal yJ1_indexOf_4cfef cJ1_indexOf_4cfef 4 (Option.some Jvm.ClassFile.FieldType.int) 4 := ⟨mTB 249 w_249 rfl, mTB 89 w_89 rfl, by decide +kernel, by decide +kernel, by decide +kernel⟩
theorem ca_J6_bitCount_0f7a4 : Cal yJ6_bitCount_0f7a4 cJ6_bitCount_0f7a4 1 (Option.some Jvm.ClassFile.FieldType.int) 1 := ⟨mTB 691 w_691 rfl, mTB 101 w_101 rfl, by decide +kernel, by decide +kernel, by decide +kernel⟩
theorem ca_J7_fill_53178 : Cal yJ7_fill_53178 cJ7_fill_53178 4 (Option.none : Option Jvm.ClassFile.FieldType) 2 := ⟨mTB 675 w_675 rfl, mTB 100 w_100 rfl, by decide +kernel, by decide +kernel, by decide +kernel⟩
theorem ca_J7_fill_d0a16 : Cal yJ7_fill_d0a16 cJ7_fill_d0a16 5 (Option.none : Option Jvm.ClassFile.FieldType) 2 := ⟨mTB 643 w_643 rfl, mTB 100 w_100 rfl, by decide +kernel, by decide +kernel, by decide +kernel⟩
theorem ca_J9_max_7cf53 : Cal yJ9_max_7cf53 cJ9_max_7cf53 2 (Option.some Jvm.ClassFile.FieldType.int) 2 := ⟨mTB 255 w_255 rfl, mTB 90 w_90 rfl, by decide +kernel, by decide +kernel, by decide +kernel⟩
theorem ca_J9_min_7cf53 : Cal yJ9_min_7cf53 cJ9_min_7cf53 2 (Option.some Jvm.ClassFile.FieldType.int) 2 := ⟨mTB 258 w_258 rfl, mTB 90 w_90 rfl, by decide +kernel, by decide +kernel, by decide +kernel⟩
theorem ca_X0_lineUp : Cal yX0_lineUp cX0_lineUp 5 (Option.none : Option Jvm.ClassFile.FieldType) 1 := ⟨mTB 739 w_739 rfl, mTB 96 w_96 rfl, by decide +kernel, by decide +kernel, by decide +kernel⟩
theorem ca_X0_lookAtCompany : Cal yX0_lookAtCompany cX0_lookAtCompany 3 (Option.none : Option Jvm.ClassFile.FieldType) 1 := ⟨mTB 723 w_723 rfl, mTB 96 w_96 rfl, by decide +kernel, by decide +kernel, by decide +kernel⟩
theorem ca_X0_lookAtLeft : Cal yX0_lookAtLeft cX0_lookAtLeft 5 (Option.none : Option Jvm.ClassFile.FieldType) 1 := ⟨mTB 731 w_731 rfl, mTB 96 w_96 rfl, by decide +kernel, by decide +kernel, by decide +kernel⟩
theorem ca_X0_plan : Cal yX0_plan cX0_plan 3 (Option.none : Option Jvm.ClassFile.FieldType) 0 := ⟨mTB 719 w_719 rfl, mTB 96 w_96 rfl, by decide +kernel, by decide +kernel, by decide +kernel⟩
theorem ca_X0_tryFirst : Cal yX0_tryFirst cX0_tryFirst 8 (Option.none : Option Jvm.ClassFile.FieldType) 2 := ⟨mTB 735 w_735 rfl, mTB 96 w_96 rfl, by decide +kernel, by decide +kernel, by decide +kernel⟩
theorem ca_X1_aheadOfWall : Cal yX1_aheadOfWall cX1_aheadOfWall 4 (Option.some Jvm.ClassFile.FieldType.int) 1 := ⟨mTB 688 w_688 rfl, mTB 95 w_95 rfl, by decide +kernel, by decide +kernel, by decide +kernel⟩
theorem ca_X1_bestSteps : Cal yX1_bestSteps cX1_bestSteps 9 (Option.some Jvm.ClassFile.FieldType.int) 1 := ⟨mTB 679 w_679 rfl, mTB 95 w_95 rfl, by decide +kernel, by decide +kernel, by decide +kernel⟩
theorem ca_X1_goThrough : Cal yX1_goThrough cX1_goThrough 3 (Option.none : Option Jvm.ClassFile.FieldType) 0 := ⟨mTB 672 w_672 rfl, mTB 95 w_95 rfl, by decide +kernel, by decide +kernel, by decide +kernel⟩
theorem ca_X1_mayStep : Cal yX1_mayStep cX1_mayStep 6 (Option.some Jvm.ClassFile.FieldType.int) 1 := ⟨mTB 683 w_683 rfl, mTB 95 w_95 rfl, by decide +kernel, by decide +kernel, by decide +kernel⟩
theorem ca_X1_step : Cal yX1_step cX1_step 4 (Option.none : Option Jvm.ClassFile.FieldType) 2 := ⟨mTB 699 w_699 rfl, mTB 95 w_95 rfl, by decide +kernel, by decide +kernel, by decide +kernel⟩
theorem ca_X2_become : Cal yX2_become cX2_become 7 (Option.none : Option Jvm.ClassFile.FieldType) 2 := ⟨mTB 761 w_761 rfl, mTB 98 w_98 rfl, by decide +kernel, by decide +kernel, by decide +kernel⟩
theorem ca_X2_commonDivisor : Cal yX2_commonDivisor cX2_commonDivisor 11 (Option.some Jvm.ClassFile.FieldType.long) 2 := ⟨mTB 764 w_764 rfl, mTB 98 w_98 rfl, by decide +kernel, by decide +kernel, by decide +kernel⟩
theorem ca_X3_allWellBut : Cal yX3_allWellBut cX3_allWellBut 3 (Option.some Jvm.ClassFile.FieldType.boolean) 1 := ⟨mTB 824 w_824 rfl, mTB 97 w_97 rfl, by decide +kernel, by decide +kernel, by decide +kernel⟩
theorem ca_X3_eachAlone : Cal yX3_eachAlone cX3_eachAlone 3 (Option.some Jvm.ClassFile.FieldType.int) 0 := ⟨mTB 820 w_820 rfl, mTB 97 w_97 rfl, by decide +kernel, by decide +kernel, by decide +kernel⟩
theorem ca_X3_fewestLiars : Cal yX3_fewestLiars cX3_fewestLiars 3 (Option.some Jvm.ClassFile.FieldType.int) 0 := ⟨mTB 828 w_828 rfl, mTB 97 w_97 rfl, by decide +kernel, by decide +kernel, by decide +kernel⟩
theorem ca_X3_minutesUnwell : Cal yX3_minutesUnwell cX3_minutesUnwell 5 (Option.some Jvm.ClassFile.FieldType.long) 1 := ⟨mTB 806 w_806 rfl, mTB 97 w_97 rfl, by decide +kernel, by decide +kernel, by decide +kernel⟩
theorem ca_X3_onBut : Cal yX3_onBut cX3_onBut 5 (Option.some Jvm.ClassFile.FieldType.int) 2 := ⟨mTB 810 w_810 rfl, mTB 97 w_97 rfl, by decide +kernel, by decide +kernel, by decide +kernel⟩
theorem ca_X4_isOdd : Cal yX4_isOdd cX4_isOdd 5 (Option.some Jvm.ClassFile.FieldType.boolean) 3 := ⟨mTB 647 w_647 rfl, mTB 94 w_94 rfl, by decide +kernel, by decide +kernel, by decide +kernel⟩
theorem ca_X4_isWell : Cal yX4_isWell cX4_isWell 7 (Option.some Jvm.ClassFile.FieldType.boolean) 2 := ⟨mTB 640 w_640 rfl, mTB 94 w_94 rfl, by decide +kernel, by decide +kernel, by decide +kernel⟩
theorem ca_X5_addLetter : Cal yX5_addLetter cX5_addLetter 2 (Option.none : Option Jvm.ClassFile.FieldType) 1 := ⟨mTB 607 w_607 rfl, mTB 86 w_86 rfl, by decide +kernel, by decide +kernel, by decide +kernel⟩
theorem ca_X5_addSaid : Cal yX5_addSaid cX5_addSaid 4 (Option.none : Option Jvm.ClassFile.FieldType) 3 := ⟨mTB 794 w_794 rfl, mTB 86 w_86 rfl, by decide +kernel, by decide +kernel, by decide +kernel⟩
theorem ca_X5_addWalker : Cal yX5_addWalker cX5_addWalker 4 (Option.none : Option Jvm.ClassFile.FieldType) 3 := ⟨mTB 591 w_591 rfl, mTB 86 w_86 rfl, by decide +kernel, by decide +kernel, by decide +kernel⟩
theorem ca_X5_addedTo : Cal yX5_addedTo cX5_addedTo 6 (Option.some Jvm.ClassFile.FieldType.long) 1 := ⟨mTB 869 w_869 rfl, mTB 86 w_86 rfl, by decide +kernel, by decide +kernel, by decide +kernel⟩
theorem ca_X5_become : Cal yX5_become cX5_become 2 (Option.none : Option Jvm.ClassFile.FieldType) 1 := ⟨mTB 845 w_845 rfl, mTB 86 w_86 rfl, by decide +kernel, by decide +kernel, by decide +kernel⟩
theorem ca_X5_sumBrought : Cal yX5_sumBrought cX5_sumBrought 6 (Option.some Jvm.ClassFile.FieldType.int) 2 := ⟨mTB 627 w_627 rfl, mTB 86 w_86 rfl, by decide +kernel, by decide +kernel, by decide +kernel⟩
theorem ca_X6_addSign : Cal yX6_addSign cX6_addSign 3 (Option.none : Option Jvm.ClassFile.FieldType) 2 := ⟨mTB 329 w_329 rfl, mTB 87 w_87 rfl, by decide +kernel, by decide +kernel, by decide +kernel⟩
theorem ca_X6_isDigit : Cal yX6_isDigit cX6_isDigit 1 (Option.some Jvm.ClassFile.FieldType.boolean) 1 := ⟨mTB 317 w_317 rfl, mTB 87 w_87 rfl, by decide +kernel, by decide +kernel, by decide +kernel⟩
theorem ca_X6_nextSign : Cal yX6_nextSign cX6_nextSign 1 (Option.some Jvm.ClassFile.FieldType.int) 0 := ⟨mTB 220 w_220 rfl, mTB 87 w_87 rfl, by decide +kernel, by decide +kernel, by decide +kernel⟩
theorem ca_X6_pop : Cal yX6_pop cX6_pop 1 (Option.some Jvm.ClassFile.FieldType.long) 0 := ⟨mTB 660 w_660 rfl, mTB 87 w_87 rfl, by decide +kernel, by decide +kernel, by decide +kernel⟩
theorem ca_X6_push : Cal yX6_push cX6_push 3 (Option.none : Option Jvm.ClassFile.FieldType) 1 := ⟨mTB 656 w_656 rfl, mTB 87 w_87 rfl, by decide +kernel, by decide +kernel, by decide +kernel⟩
theorem ca_X6_read : Cal yX6_read cX6_read 1 (Option.none : Option Jvm.ClassFile.FieldType) 0 := ⟨mTB 187 w_187 rfl, mTB 87 w_87 rfl, by decide +kernel, by decide +kernel, by decide +kernel⟩
theorem ca_X6_readBareUnit : Cal yX6_readBareUnit cX6_readBareUnit 3 (Option.none : Option Jvm.ClassFile.FieldType) 1 := ⟨mTB 314 w_314 rfl, mTB 87 w_87 rfl, by decide +kernel, by decide +kernel, by decide +kernel⟩
theorem ca_X6_readBoth : Cal yX6_readBoth cX6_readBoth 3 (Option.none : Option Jvm.ClassFile.FieldType) 1 := ⟨mTB 195 w_195 rfl, mTB 87 w_87 rfl, by decide +kernel, by decide +kernel, by decide +kernel⟩
theorem ca_X6_readDigits : Cal yX6_readDigits cX6_readDigits 3 (Option.none : Option Jvm.ClassFile.FieldType) 0 := ⟨mTB 321 w_321 rfl, mTB 87 w_87 rfl, by decide +kernel, by decide +kernel, by decide +kernel⟩
theorem ca_X6_readHeld : Cal yX6_readHeld cX6_readHeld 3 (Option.none : Option Jvm.ClassFile.FieldType) 1 := ⟨mTB 199 w_199 rfl, mTB 87 w_87 rfl, by decide +kernel, by decide +kernel, by decide +kernel⟩
theorem ca_X6_readOpened : Cal yX6_readOpened cX6_readOpened 2 (Option.none : Option Jvm.ClassFile.FieldType) 1 := ⟨mTB 333 w_333 rfl, mTB 87 w_87 rfl, by decide +kernel, by decide +kernel, by decide +kernel⟩
theorem ca_X6_readSum : Cal yX6_readSum cX6_readSum 4 (Option.none : Option Jvm.ClassFile.FieldType) 1 := ⟨mTB 203 w_203 rfl, mTB 87 w_87 rfl, by decide +kernel, by decide +kernel, by decide +kernel⟩
theorem ca_X6_readTerm : Cal yX6_readTerm cX6_readTerm 4 (Option.none : Option Jvm.ClassFile.FieldType) 1 := ⟨mTB 207 w_207 rfl, mTB 87 w_87 rfl, by decide +kernel, by decide +kernel, by decide +kernel⟩
theorem ca_X6_readUnit : Cal yX6_readUnit cX6_readUnit 6 (Option.none : Option Jvm.ClassFile.FieldType) 1 := ⟨mTB 211 w_211 rfl, mTB 87 w_87 rfl, by decide +kernel, by decide +kernel, by decide +kernel⟩
theorem ca_X6_readValue : Cal yX6_readValue cX6_readValue 3 (Option.none : Option Jvm.ClassFile.FieldType) 1 := ⟨mTB 191 w_191 rfl, mTB 87 w_87 rfl, by decide +kernel, by decide +kernel, by decide +kernel⟩
theorem ca_X6_setFlaw : Cal yX6_setFlaw cX6_setFlaw 3 (Option.none : Option Jvm.ClassFile.FieldType) 2 := ⟨mTB 325 w_325 rfl, mTB 87 w_87 rfl, by decide +kernel, by decide +kernel, by decide +kernel⟩
theorem ca_X6_signAt : Cal yX6_signAt cX6_signAt 2 (Option.some Jvm.ClassFile.FieldType.int) 1 := ⟨mTB 224 w_224 rfl, mTB 87 w_87 rfl, by decide +kernel, by decide +kernel, by decide +kernel⟩
theorem ca_X6_take : Cal yX6_take cX6_take 3 (Option.some Jvm.ClassFile.FieldType.int) 1 := ⟨mTB 216 w_216 rfl, mTB 87 w_87 rfl, by decide +kernel, by decide +kernel, by decide +kernel⟩
theorem ca_X6_value : Cal yX6_value cX6_value 8 (Option.some Jvm.ClassFile.FieldType.long) 2 := ⟨mTB 652 w_652 rfl, mTB 87 w_87 rfl, by decide +kernel, by decide +kernel, by decide +kernel⟩
theorem ca_X6_work : Cal yX6_work cX6_work 5 (Option.some Jvm.ClassFile.FieldType.long) 3 := ⟨mTB 663 w_663 rfl, mTB 87 w_87 rfl, by decide +kernel, by decide +kernel, by decide +kernel⟩
theorem ca_X7_fewestHome : Cal yX7_fewestHome cX7_fewestHome 4 (Option.some Jvm.ClassFile.FieldType.int) 2 := ⟨mTB 786 w_786 rfl, mTB 85 w_85 rfl, by decide +kernel, by decide +kernel, by decide +kernel⟩
theorem ca_X7_forgetWhatFollows : Cal yX7_forgetWhatFollows cX7_forgetWhatFollows 1 (Option.none : Option Jvm.ClassFile.FieldType) 0 := ⟨mTB 595 w_595 rfl, mTB 85 w_85 rfl, by decide +kernel, by decide +kernel, by decide +kernel⟩
theorem ca_X7_holds : Cal yX7_holds cX7_holds 2 (Option.some Jvm.ClassFile.FieldType.boolean) 2 := ⟨mTB 630 w_630 rfl, mTB 85 w_85 rfl, by decide +kernel, by decide +kernel, by decide +kernel⟩
theorem ca_X7_imageAt : Cal yX7_imageAt cX7_imageAt 2 (Option.some (Jvm.ClassFile.FieldType.object "OddBridge$Scene")) 1 := ⟨mTB 841 w_841 rfl, mTB 85 w_85 rfl, by decide +kernel, by decide +kernel, by decide +kernel⟩
theorem ca_X7_isSetOf : Cal yX7_isSetOf cX7_isSetOf 2 (Option.some Jvm.ClassFile.FieldType.boolean) 2 := ⟨mTB 623 w_623 rfl, mTB 85 w_85 rfl, by decide +kernel, by decide +kernel, by decide +kernel⟩
theorem ca_X7_isWalker : Cal yX7_isWalker cX7_isWalker 2 (Option.some Jvm.ClassFile.FieldType.boolean) 1 := ⟨mTB 707 w_707 rfl, mTB 85 w_85 rfl, by decide +kernel, by decide +kernel, by decide +kernel⟩
theorem ca_X7_isWithin : Cal yX7_isWithin cX7_isWithin 3 (Option.some Jvm.ClassFile.FieldType.boolean) 3 := ⟨mTB 579 w_579 rfl, mTB 85 w_85 rfl, by decide +kernel, by decide +kernel, by decide +kernel⟩
theorem ca_X7_refuseAsBad : Cal yX7_refuseAsBad cX7_refuseAsBad 1 (Option.some Jvm.ClassFile.FieldType.int) 0 := ⟨mTB 583 w_583 rfl, mTB 85 w_85 rfl, by decide +kernel, by decide +kernel, by decide +kernel⟩
theorem ca_X7_refuseAsFull : Cal yX7_refuseAsFull cX7_refuseAsFull 1 (Option.some Jvm.ClassFile.FieldType.int) 0 := ⟨mTB 587 w_587 rfl, mTB 85 w_85 rfl, by decide +kernel, by decide +kernel, by decide +kernel⟩
theorem ca_X7_refuseAsNo : Cal yX7_refuseAsNo cX7_refuseAsNo 1 (Option.some Jvm.ClassFile.FieldType.int) 0 := ⟨mTB 751 w_751 rfl, mTB 85 w_85 rfl, by decide +kernel, by decide +kernel, by decide +kernel⟩
theorem ca_X7_spreadStops : Cal yX7_spreadStops cX7_spreadStops 7 (Option.some Jvm.ClassFile.FieldType.long) 2 := ⟨mTB 755 w_755 rfl, mTB 85 w_85 rfl, by decide +kernel, by decide +kernel, by decide +kernel⟩
theorem ca_X7_waysHome : Cal yX7_waysHome cX7_waysHome 5 (Option.some Jvm.ClassFile.FieldType.int) 2 := ⟨mTB 782 w_782 rfl, mTB 85 w_85 rfl, by decide +kernel, by decide +kernel, by decide +kernel⟩
theorem ca_X8_ahead : Cal yX8_ahead cX8_ahead 1 (Option.some Jvm.ClassFile.FieldType.int) 0 := ⟨mTB 1031 w_1031 rfl, mTB 99 w_99 rfl, by decide +kernel, by decide +kernel, by decide +kernel⟩
theorem ca_X8_ahead_ : Cal yX8_ahead_ cX8_ahead_ 6 (Option.some Jvm.ClassFile.FieldType.int) 2 := ⟨mTB 1103 w_1103 rfl, mTB 99 w_99 rfl, by decide +kernel, by decide +kernel, by decide +kernel⟩
theorem ca_X8_all : Cal yX8_all cX8_all 1 (Option.some Jvm.ClassFile.FieldType.int) 0 := ⟨mTB 998 w_998 rfl, mTB 99 w_99 rfl, by decide +kernel, by decide +kernel, by decide +kernel⟩
theorem ca_X8_bad : Cal yX8_bad cX8_bad 2 (Option.some Jvm.ClassFile.FieldType.int) 1 := ⟨mTB 973 w_973 rfl, mTB 99 w_99 rfl, by decide +kernel, by decide +kernel, by decide +kernel⟩
theorem ca_X8_bringsOf : Cal yX8_bringsOf cX8_bringsOf 2 (Option.some Jvm.ClassFile.FieldType.int) 2 := ⟨mTB 1010 w_1010 rfl, mTB 99 w_99 rfl, by decide +kernel, by decide +kernel, by decide +kernel⟩
theorem ca_X8_broughtBy : Cal yX8_broughtBy cX8_broughtBy 5 (Option.some Jvm.ClassFile.FieldType.int) 2 := ⟨mTB 1003 w_1003 rfl, mTB 99 w_99 rfl, by decide +kernel, by decide +kernel, by decide +kernel⟩
theorem ca_X8_celebrate : Cal yX8_celebrate cX8_celebrate 7 (Option.none : Option Jvm.ClassFile.FieldType) 0 := ⟨mTB 1084 w_1084 rfl, mTB 99 w_99 rfl, by decide +kernel, by decide +kernel, by decide +kernel⟩
theorem ca_X8_charAt : Cal yX8_charAt cX8_charAt 2 (Option.some Jvm.ClassFile.FieldType.int) 1 := ⟨mTB 1039 w_1039 rfl, mTB 99 w_99 rfl, by decide +kernel, by decide +kernel, by decide +kernel⟩
theorem ca_X8_digits : Cal yX8_digits cX8_digits 4 (Option.some Jvm.ClassFile.FieldType.long) 0 := ⟨mTB 1048 w_1048 rfl, mTB 99 w_99 rfl, by decide +kernel, by decide +kernel, by decide +kernel⟩
theorem ca_X8_disputeOf : Cal yX8_disputeOf cX8_disputeOf 5 (Option.some Jvm.ClassFile.FieldType.long) 1 := ⟨mTB 1196 w_1196 rfl, mTB 99 w_99 rfl, by decide +kernel, by decide +kernel, by decide +kernel⟩
theorem ca_X8_findLeast : Cal yX8_findLeast cX8_findLeast 8 (Option.none : Option Jvm.ClassFile.FieldType) 0 := ⟨mTB 1128 w_1128 rfl, mTB 99 w_99 rfl, by decide +kernel, by decide +kernel, by decide +kernel⟩
theorem ca_X8_findPrices : Cal yX8_findPrices cX8_findPrices 2 (Option.none : Option Jvm.ClassFile.FieldType) 0 := ⟨mTB 1132 w_1132 rfl, mTB 99 w_99 rfl, by decide +kernel, by decide +kernel, by decide +kernel⟩
theorem ca_X8_full : Cal yX8_full cX8_full 1 (Option.some Jvm.ClassFile.FieldType.int) 0 := ⟨mTB 981 w_981 rfl, mTB 99 w_99 rfl, by decide +kernel, by decide +kernel, by decide +kernel⟩
theorem ca_X8_in : Cal yX8_in cX8_in 6 (Option.some Jvm.ClassFile.FieldType.boolean) 3 := ⟨mTB 967 w_967 rfl, mTB 99 w_99 rfl, by decide +kernel, by decide +kernel, by decide +kernel⟩
theorem ca_X8_isFigure : Cal yX8_isFigure cX8_isFigure 1 (Option.some Jvm.ClassFile.FieldType.boolean) 1 := ⟨mTB 1042 w_1042 rfl, mTB 99 w_99 rfl, by decide +kernel, by decide +kernel, by decide +kernel⟩
theorem ca_X8_isNext : Cal yX8_isNext cX8_isNext 4 (Option.some Jvm.ClassFile.FieldType.boolean) 2 := ⟨mTB 1145 w_1145 rfl, mTB 99 w_99 rfl, by decide +kernel, by decide +kernel, by decide +kernel⟩
theorem ca_X8_isSet : Cal yX8_isSet cX8_isSet 2 (Option.some Jvm.ClassFile.FieldType.boolean) 1 := ⟨mTB 994 w_994 rfl, mTB 99 w_99 rfl, by decide +kernel, by decide +kernel, by decide +kernel⟩
theorem ca_X8_isWalker : Cal yX8_isWalker cX8_isWalker 2 (Option.some Jvm.ClassFile.FieldType.boolean) 1 := ⟨mTB 1111 w_1111 rfl, mTB 99 w_99 rfl, by decide +kernel, by decide +kernel, by decide +kernel⟩
theorem ca_X8_isWell : Cal yX8_isWell cX8_isWell 6 (Option.some Jvm.ClassFile.FieldType.boolean) 3 := ⟨mTB 1076 w_1076 rfl, mTB 99 w_99 rfl, by decide +kernel, by decide +kernel, by decide +kernel⟩
theorem ca_X8_isWellOn : Cal yX8_isWellOn cX8_isWellOn 4 (Option.some Jvm.ClassFile.FieldType.boolean) 2 := ⟨mTB 1099 w_1099 rfl, mTB 99 w_99 rfl, by decide +kernel, by decide +kernel, by decide +kernel⟩
theorem ca_X8_layRow : Cal yX8_layRow cX8_layRow 3 (Option.some Jvm.ClassFile.FieldType.boolean) 0 := ⟨mTB 1124 w_1124 rfl, mTB 99 w_99 rfl, by decide +kernel, by decide +kernel, by decide +kernel⟩
theorem ca_X8_letterOf : Cal yX8_letterOf cX8_letterOf 1 (Option.some Jvm.ClassFile.FieldType.int) 1 := ⟨mTB 1056 w_1056 rfl, mTB 99 w_99 rfl, by decide +kernel, by decide +kernel, by decide +kernel⟩
theorem ca_X8_manyIn : Cal yX8_manyIn cX8_manyIn 3 (Option.some Jvm.ClassFile.FieldType.int) 1 := ⟨mTB 1095 w_1095 rfl, mTB 99 w_99 rfl, by decide +kernel, by decide +kernel, by decide +kernel⟩
theorem ca_X8_mayGo : Cal yX8_mayGo cX8_mayGo 3 (Option.some Jvm.ClassFile.FieldType.boolean) 2 := ⟨mTB 1137 w_1137 rfl, mTB 99 w_99 rfl, by decide +kernel, by decide +kernel, by decide +kernel⟩
theorem ca_X8_mayStep : Cal yX8_mayStep cX8_mayStep 5 (Option.some Jvm.ClassFile.FieldType.int) 1 := ⟨mTB 1092 w_1092 rfl, mTB 99 w_99 rfl, by decide +kernel, by decide +kernel, by decide +kernel⟩
theorem ca_X8_no : Cal yX8_no cX8_no 1 (Option.some Jvm.ClassFile.FieldType.int) 0 := ⟨mTB 1158 w_1158 rfl, mTB 99 w_99 rfl, by decide +kernel, by decide +kernel, by decide +kernel⟩
theorem ca_X8_of : Cal yX8_of cX8_of 3 (Option.some Jvm.ClassFile.FieldType.int) 2 := ⟨mTB 1007 w_1007 rfl, mTB 99 w_99 rfl, by decide +kernel, by decide +kernel, by decide +kernel⟩
theorem ca_X8_onBy : Cal yX8_onBy cX8_onBy 6 (Option.some Jvm.ClassFile.FieldType.int) 2 := ⟨mTB 1200 w_1200 rfl, mTB 99 w_99 rfl, by decide +kernel, by decide +kernel, by decide +kernel⟩
theorem ca_X8_onNow : Cal yX8_onNow cX8_onNow 3 (Option.some Jvm.ClassFile.FieldType.int) 0 := ⟨mTB 1088 w_1088 rfl, mTB 99 w_99 rfl, by decide +kernel, by decide +kernel, by decide +kernel⟩
theorem ca_X8_rank : Cal yX8_rank cX8_rank 1 (Option.some Jvm.ClassFile.FieldType.int) 1 := ⟨mTB 1063 w_1063 rfl, mTB 99 w_99 rfl, by decide +kernel, by decide +kernel, by decide +kernel⟩
theorem ca_X8_reads : Cal yX8_reads cX8_reads 5 (Option.some Jvm.ClassFile.FieldType.boolean) 0 := ⟨mTB 1027 w_1027 rfl, mTB 99 w_99 rfl, by decide +kernel, by decide +kernel, by decide +kernel⟩
theorem ca_X8_said : Cal yX8_said cX8_said 1 (Option.some Jvm.ClassFile.FieldType.int) 0 := ⟨mTB 1184 w_1184 rfl, mTB 99 w_99 rfl, by decide +kernel, by decide +kernel, by decide +kernel⟩
theorem ca_X8_stands : Cal yX8_stands cX8_stands 5 (Option.none : Option Jvm.ClassFile.FieldType) 1 := ⟨mTB 1053 w_1053 rfl, mTB 99 w_99 rfl, by decide +kernel, by decide +kernel, by decide +kernel⟩
theorem ca_X8_sums : Cal yX8_sums cX8_sums 8 (Option.some Jvm.ClassFile.FieldType.long) 3 := ⟨mTB 1235 w_1235 rfl, mTB 99 w_99 rfl, by decide +kernel, by decide +kernel, by decide +kernel⟩
theorem ca_X8_tells : Cal yX8_tells cX8_tells 11 (Option.some Jvm.ClassFile.FieldType.int) 2 := ⟨mTB 1162 w_1162 rfl, mTB 99 w_99 rfl, by decide +kernel, by decide +kernel, by decide +kernel⟩
theorem ca_X8_textLong : Cal yX8_textLong cX8_textLong 1 (Option.some Jvm.ClassFile.FieldType.int) 0 := ⟨mTB 1035 w_1035 rfl, mTB 99 w_99 rfl, by decide +kernel, by decide +kernel, by decide +kernel⟩
theorem ca_X8_timeOf : Cal yX8_timeOf cX8_timeOf 4 (Option.some Jvm.ClassFile.FieldType.int) 1 := ⟨mTB 1141 w_1141 rfl, mTB 99 w_99 rfl, by decide +kernel, by decide +kernel, by decide +kernel⟩
theorem ca_X8_walkers : Cal yX8_walkers cX8_walkers 1 (Option.some Jvm.ClassFile.FieldType.int) 0 := ⟨mTB 977 w_977 rfl, mTB 99 w_99 rfl, by decide +kernel, by decide +kernel, by decide +kernel⟩
theorem ca_X8_workDown : Cal yX8_workDown cX8_workDown 2 (Option.none : Option Jvm.ClassFile.FieldType) 1 := ⟨mTB 1060 w_1060 rfl, mTB 99 w_99 rfl, by decide +kernel, by decide +kernel, by decide +kernel⟩
theorem ca_X8_workOut : Cal yX8_workOut cX8_workOut 7 (Option.none : Option Jvm.ClassFile.FieldType) 0 := ⟨mTB 1067 w_1067 rfl, mTB 99 w_99 rfl, by decide +kernel, by decide +kernel, by decide +kernel⟩
theorem st_X7_fewestHome : Cond.static yX7_fewestHome ∈ TBW := mTB 785 w_785 rfl
theorem st_X7_holds : Cond.static yX7_holds ∈ TBW := mTB 629 w_629 rfl
theorem st_X7_isSetOf : Cond.static yX7_isSetOf ∈ TBW := mTB 622 w_622 rfl
theorem st_X7_isWithin : Cond.static yX7_isWithin ∈ TBW := mTB 578 w_578 rfl
theorem st_X2_commonDivisor : Cond.static yX2_commonDivisor ∈ TBW := mTB 763 w_763 rfl
theorem st_X6_isDigit : Cond.static yX6_isDigit ∈ TBW := mTB 316 w_316 rfl
theorem st_X6_work : Cond.static yX6_work ∈ TBW := mTB 662 w_662 rfl
theorem st_X8_bringsOf : Cond.static yX8_bringsOf ∈ TBW := mTB 1009 w_1009 rfl
theorem st_X8_in : Cond.static yX8_in ∈ TBW := mTB 966 w_966 rfl
theorem st_X8_isFigure : Cond.static yX8_isFigure ∈ TBW := mTB 1041 w_1041 rfl
theorem st_X8_letterOf : Cond.static yX8_letterOf ∈ TBW := mTB 1055 w_1055 rfl
theorem st_X8_manyIn : Cond.static yX8_manyIn ∈ TBW := mTB 1094 w_1094 rfl
theorem st_X8_rank : Cond.static yX8_rank ∈ TBW := mTB 1062 w_1062 rfl
theorem st_J6_bitCount_0f7a4 : Cond.static yJ6_bitCount_0f7a4 ∈ TBW := mTB 690 w_690 rfl
theorem st_J9_max_7cf53 : Cond.static yJ9_max_7cf53 ∈ TBW := mTB 254 w_254 rfl
theorem st_J9_min_7cf53 : Cond.static yJ9_min_7cf53 ∈ TBW := mTB 257 w_257 rfl
theorem st_J1_canEncode_9a6ad : Cond.static yJ1_canEncode_9a6ad ∈ TBW := mTB 251 w_251 rfl
theorem st_J1_indexOf_4cfef : Cond.static yJ1_indexOf_4cfef ∈ TBW := mTB 248 w_248 rfl
theorem st_J1_indexOfChar_4cfef : Cond.static yJ1_indexOfChar_4cfef ∈ TBW := mTB 260 w_260 rfl
theorem st_J7_fill_53178 : Cond.static yJ7_fill_53178 ∈ TBW := mTB 674 w_674 rfl
theorem st_J7_fill_d0a16 : Cond.static yJ7_fill_d0a16 ∈ TBW := mTB 642 w_642 rfl
theorem vi_X7_forgetWhatFollows : Cond.instanceMethod yX7_forgetWhatFollows ∈ TBW ∧ Cond.selects yX7_forgetWhatFollows.cls yX7_forgetWhatFollows yX7_forgetWhatFollows ∈ TBW := ⟨mTB 594 w_594 rfl, mTB 18 w_18 rfl⟩
theorem vi_X7_imageAt : Cond.instanceMethod yX7_imageAt ∈ TBW ∧ Cond.selects yX7_imageAt.cls yX7_imageAt yX7_imageAt ∈ TBW := ⟨mTB 840 w_840 rfl, mTB 47 w_47 rfl⟩
theorem vi_X7_isWalker : Cond.instanceMethod yX7_isWalker ∈ TBW ∧ Cond.selects yX7_isWalker.cls yX7_isWalker yX7_isWalker ∈ TBW := ⟨mTB 706 w_706 rfl, mTB 31 w_31 rfl⟩
theorem vi_X7_refuseAsBad : Cond.instanceMethod yX7_refuseAsBad ∈ TBW ∧ Cond.selects yX7_refuseAsBad.cls yX7_refuseAsBad yX7_refuseAsBad ∈ TBW := ⟨mTB 582 w_582 rfl, mTB 15 w_15 rfl⟩
theorem vi_X7_refuseAsFull : Cond.instanceMethod yX7_refuseAsFull ∈ TBW ∧ Cond.selects yX7_refuseAsFull.cls yX7_refuseAsFull yX7_refuseAsFull ∈ TBW := ⟨mTB 586 w_586 rfl, mTB 16 w_16 rfl⟩
theorem vi_X7_refuseAsNo : Cond.instanceMethod yX7_refuseAsNo ∈ TBW ∧ Cond.selects yX7_refuseAsNo.cls yX7_refuseAsNo yX7_refuseAsNo ∈ TBW := ⟨mTB 750 w_750 rfl, mTB 37 w_37 rfl⟩
theorem vi_X7_spreadStops : Cond.instanceMethod yX7_spreadStops ∈ TBW ∧ Cond.selects yX7_spreadStops.cls yX7_spreadStops yX7_spreadStops ∈ TBW := ⟨mTB 754 w_754 rfl, mTB 38 w_38 rfl⟩
theorem vi_X7_waysHome : Cond.instanceMethod yX7_waysHome ∈ TBW ∧ Cond.selects yX7_waysHome.cls yX7_waysHome yX7_waysHome ∈ TBW := ⟨mTB 781 w_781 rfl, mTB 40 w_40 rfl⟩
theorem vi_X0_lineUp : Cond.instanceMethod yX0_lineUp ∈ TBW ∧ Cond.selects yX0_lineUp.cls yX0_lineUp yX0_lineUp ∈ TBW := ⟨mTB 738 w_738 rfl, mTB 36 w_36 rfl⟩
theorem vi_X0_lookAtCompany : Cond.instanceMethod yX0_lookAtCompany ∈ TBW ∧ Cond.selects yX0_lookAtCompany.cls yX0_lookAtCompany yX0_lookAtCompany ∈ TBW := ⟨mTB 722 w_722 rfl, mTB 33 w_33 rfl⟩
theorem vi_X0_lookAtLeft : Cond.instanceMethod yX0_lookAtLeft ∈ TBW ∧ Cond.selects yX0_lookAtLeft.cls yX0_lookAtLeft yX0_lookAtLeft ∈ TBW := ⟨mTB 730 w_730 rfl, mTB 34 w_34 rfl⟩
theorem vi_X0_plan : Cond.instanceMethod yX0_plan ∈ TBW ∧ Cond.selects yX0_plan.cls yX0_plan yX0_plan ∈ TBW := ⟨mTB 718 w_718 rfl, mTB 32 w_32 rfl⟩
theorem vi_X0_tryFirst : Cond.instanceMethod yX0_tryFirst ∈ TBW ∧ Cond.selects yX0_tryFirst.cls yX0_tryFirst yX0_tryFirst ∈ TBW := ⟨mTB 734 w_734 rfl, mTB 35 w_35 rfl⟩
theorem vi_X1_aheadOfWall : Cond.instanceMethod yX1_aheadOfWall ∈ TBW ∧ Cond.selects yX1_aheadOfWall.cls yX1_aheadOfWall yX1_aheadOfWall ∈ TBW := ⟨mTB 687 w_687 rfl, mTB 29 w_29 rfl⟩
theorem vi_X1_bestSteps : Cond.instanceMethod yX1_bestSteps ∈ TBW ∧ Cond.selects yX1_bestSteps.cls yX1_bestSteps yX1_bestSteps ∈ TBW := ⟨mTB 678 w_678 rfl, mTB 27 w_27 rfl⟩
theorem vi_X1_goThrough : Cond.instanceMethod yX1_goThrough ∈ TBW ∧ Cond.selects yX1_goThrough.cls yX1_goThrough yX1_goThrough ∈ TBW := ⟨mTB 671 w_671 rfl, mTB 26 w_26 rfl⟩
theorem vi_X1_mayStep : Cond.instanceMethod yX1_mayStep ∈ TBW ∧ Cond.selects yX1_mayStep.cls yX1_mayStep yX1_mayStep ∈ TBW := ⟨mTB 682 w_682 rfl, mTB 28 w_28 rfl⟩
theorem vi_X1_step : Cond.instanceMethod yX1_step ∈ TBW ∧ Cond.selects yX1_step.cls yX1_step yX1_step ∈ TBW := ⟨mTB 698 w_698 rfl, mTB 30 w_30 rfl⟩
theorem vi_X2_become : Cond.instanceMethod yX2_become ∈ TBW ∧ Cond.selects yX2_become.cls yX2_become yX2_become ∈ TBW := ⟨mTB 760 w_760 rfl, mTB 39 w_39 rfl⟩
theorem vi_X3_allWellBut : Cond.instanceMethod yX3_allWellBut ∈ TBW ∧ Cond.selects yX3_allWellBut.cls yX3_allWellBut yX3_allWellBut ∈ TBW := ⟨mTB 823 w_823 rfl, mTB 45 w_45 rfl⟩
theorem vi_X3_eachAlone : Cond.instanceMethod yX3_eachAlone ∈ TBW ∧ Cond.selects yX3_eachAlone.cls yX3_eachAlone yX3_eachAlone ∈ TBW := ⟨mTB 819 w_819 rfl, mTB 44 w_44 rfl⟩
theorem vi_X3_fewestLiars : Cond.instanceMethod yX3_fewestLiars ∈ TBW ∧ Cond.selects yX3_fewestLiars.cls yX3_fewestLiars yX3_fewestLiars ∈ TBW := ⟨mTB 827 w_827 rfl, mTB 46 w_46 rfl⟩
theorem vi_X3_minutesUnwell : Cond.instanceMethod yX3_minutesUnwell ∈ TBW ∧ Cond.selects yX3_minutesUnwell.cls yX3_minutesUnwell yX3_minutesUnwell ∈ TBW := ⟨mTB 805 w_805 rfl, mTB 42 w_42 rfl⟩
theorem vi_X3_onBut : Cond.instanceMethod yX3_onBut ∈ TBW ∧ Cond.selects yX3_onBut.cls yX3_onBut yX3_onBut ∈ TBW := ⟨mTB 809 w_809 rfl, mTB 43 w_43 rfl⟩
theorem vi_X4_isOdd : Cond.instanceMethod yX4_isOdd ∈ TBW ∧ Cond.selects yX4_isOdd.cls yX4_isOdd yX4_isOdd ∈ TBW := ⟨mTB 646 w_646 rfl, mTB 22 w_22 rfl⟩
theorem vi_X4_isWell : Cond.instanceMethod yX4_isWell ∈ TBW ∧ Cond.selects yX4_isWell.cls yX4_isWell yX4_isWell ∈ TBW := ⟨mTB 639 w_639 rfl, mTB 21 w_21 rfl⟩
theorem vi_X5_addLetter : Cond.instanceMethod yX5_addLetter ∈ TBW ∧ Cond.selects yX5_addLetter.cls yX5_addLetter yX5_addLetter ∈ TBW := ⟨mTB 606 w_606 rfl, mTB 19 w_19 rfl⟩
theorem vi_X5_addSaid : Cond.instanceMethod yX5_addSaid ∈ TBW ∧ Cond.selects yX5_addSaid.cls yX5_addSaid yX5_addSaid ∈ TBW := ⟨mTB 793 w_793 rfl, mTB 41 w_41 rfl⟩
theorem vi_X5_addWalker : Cond.instanceMethod yX5_addWalker ∈ TBW ∧ Cond.selects yX5_addWalker.cls yX5_addWalker yX5_addWalker ∈ TBW := ⟨mTB 590 w_590 rfl, mTB 17 w_17 rfl⟩
theorem vi_X5_addedTo : Cond.instanceMethod yX5_addedTo ∈ TBW ∧ Cond.selects yX5_addedTo.cls yX5_addedTo yX5_addedTo ∈ TBW := ⟨mTB 868 w_868 rfl, mTB 49 w_49 rfl⟩
theorem vi_X5_become : Cond.instanceMethod yX5_become ∈ TBW ∧ Cond.selects yX5_become.cls yX5_become yX5_become ∈ TBW := ⟨mTB 844 w_844 rfl, mTB 48 w_48 rfl⟩
theorem vi_X5_sumBrought : Cond.instanceMethod yX5_sumBrought ∈ TBW ∧ Cond.selects yX5_sumBrought.cls yX5_sumBrought yX5_sumBrought ∈ TBW := ⟨mTB 626 w_626 rfl, mTB 20 w_20 rfl⟩
theorem vi_X6_addSign : Cond.instanceMethod yX6_addSign ∈ TBW ∧ Cond.selects yX6_addSign.cls yX6_addSign yX6_addSign ∈ TBW := ⟨mTB 328 w_328 rfl, mTB 13 w_13 rfl⟩
theorem vi_X6_nextSign : Cond.instanceMethod yX6_nextSign ∈ TBW ∧ Cond.selects yX6_nextSign.cls yX6_nextSign yX6_nextSign ∈ TBW := ⟨mTB 219 w_219 rfl, mTB 8 w_8 rfl⟩
theorem vi_X6_pop : Cond.instanceMethod yX6_pop ∈ TBW ∧ Cond.selects yX6_pop.cls yX6_pop yX6_pop ∈ TBW := ⟨mTB 659 w_659 rfl, mTB 25 w_25 rfl⟩
theorem vi_X6_push : Cond.instanceMethod yX6_push ∈ TBW ∧ Cond.selects yX6_push.cls yX6_push yX6_push ∈ TBW := ⟨mTB 655 w_655 rfl, mTB 24 w_24 rfl⟩
theorem vi_X6_read : Cond.instanceMethod yX6_read ∈ TBW ∧ Cond.selects yX6_read.cls yX6_read yX6_read ∈ TBW := ⟨mTB 186 w_186 rfl, mTB 0 w_0 rfl⟩
theorem vi_X6_readBareUnit : Cond.instanceMethod yX6_readBareUnit ∈ TBW ∧ Cond.selects yX6_readBareUnit.cls yX6_readBareUnit yX6_readBareUnit ∈ TBW := ⟨mTB 313 w_313 rfl, mTB 10 w_10 rfl⟩
theorem vi_X6_readBoth : Cond.instanceMethod yX6_readBoth ∈ TBW ∧ Cond.selects yX6_readBoth.cls yX6_readBoth yX6_readBoth ∈ TBW := ⟨mTB 194 w_194 rfl, mTB 2 w_2 rfl⟩
theorem vi_X6_readDigits : Cond.instanceMethod yX6_readDigits ∈ TBW ∧ Cond.selects yX6_readDigits.cls yX6_readDigits yX6_readDigits ∈ TBW := ⟨mTB 320 w_320 rfl, mTB 11 w_11 rfl⟩
theorem vi_X6_readHeld : Cond.instanceMethod yX6_readHeld ∈ TBW ∧ Cond.selects yX6_readHeld.cls yX6_readHeld yX6_readHeld ∈ TBW := ⟨mTB 198 w_198 rfl, mTB 3 w_3 rfl⟩
theorem vi_X6_readOpened : Cond.instanceMethod yX6_readOpened ∈ TBW ∧ Cond.selects yX6_readOpened.cls yX6_readOpened yX6_readOpened ∈ TBW := ⟨mTB 332 w_332 rfl, mTB 14 w_14 rfl⟩
theorem vi_X6_readSum : Cond.instanceMethod yX6_readSum ∈ TBW ∧ Cond.selects yX6_readSum.cls yX6_readSum yX6_readSum ∈ TBW := ⟨mTB 202 w_202 rfl, mTB 4 w_4 rfl⟩
theorem vi_X6_readTerm : Cond.instanceMethod yX6_readTerm ∈ TBW ∧ Cond.selects yX6_readTerm.cls yX6_readTerm yX6_readTerm ∈ TBW := ⟨mTB 206 w_206 rfl, mTB 5 w_5 rfl⟩
theorem vi_X6_readUnit : Cond.instanceMethod yX6_readUnit ∈ TBW ∧ Cond.selects yX6_readUnit.cls yX6_readUnit yX6_readUnit ∈ TBW := ⟨mTB 210 w_210 rfl, mTB 6 w_6 rfl⟩
theorem vi_X6_readValue : Cond.instanceMethod yX6_readValue ∈ TBW ∧ Cond.selects yX6_readValue.cls yX6_readValue yX6_readValue ∈ TBW := ⟨mTB 190 w_190 rfl, mTB 1 w_1 rfl⟩
theorem vi_X6_setFlaw : Cond.instanceMethod yX6_setFlaw ∈ TBW ∧ Cond.selects yX6_setFlaw.cls yX6_setFlaw yX6_setFlaw ∈ TBW := ⟨mTB 324 w_324 rfl, mTB 12 w_12 rfl⟩
theorem vi_X6_signAt : Cond.instanceMethod yX6_signAt ∈ TBW ∧ Cond.selects yX6_signAt.cls yX6_signAt yX6_signAt ∈ TBW := ⟨mTB 223 w_223 rfl, mTB 9 w_9 rfl⟩
theorem vi_X6_take : Cond.instanceMethod yX6_take ∈ TBW ∧ Cond.selects yX6_take.cls yX6_take yX6_take ∈ TBW := ⟨mTB 215 w_215 rfl, mTB 7 w_7 rfl⟩
theorem vi_X6_value : Cond.instanceMethod yX6_value ∈ TBW ∧ Cond.selects yX6_value.cls yX6_value yX6_value ∈ TBW := ⟨mTB 651 w_651 rfl, mTB 23 w_23 rfl⟩
theorem vi_X8_ahead : Cond.instanceMethod yX8_ahead ∈ TBW ∧ Cond.selects yX8_ahead.cls yX8_ahead yX8_ahead ∈ TBW := ⟨mTB 1030 w_1030 rfl, mTB 58 w_58 rfl⟩
theorem vi_X8_ahead_ : Cond.instanceMethod yX8_ahead_ ∈ TBW ∧ Cond.selects yX8_ahead_.cls yX8_ahead_ yX8_ahead_ ∈ TBW := ⟨mTB 1102 w_1102 rfl, mTB 70 w_70 rfl⟩
theorem vi_X8_all : Cond.instanceMethod yX8_all ∈ TBW ∧ Cond.selects yX8_all.cls yX8_all yX8_all ∈ TBW := ⟨mTB 997 w_997 rfl, mTB 54 w_54 rfl⟩
theorem vi_X8_bad : Cond.instanceMethod yX8_bad ∈ TBW ∧ Cond.selects yX8_bad.cls yX8_bad yX8_bad ∈ TBW := ⟨mTB 972 w_972 rfl, mTB 50 w_50 rfl⟩
theorem vi_X8_broughtBy : Cond.instanceMethod yX8_broughtBy ∈ TBW ∧ Cond.selects yX8_broughtBy.cls yX8_broughtBy yX8_broughtBy ∈ TBW := ⟨mTB 1002 w_1002 rfl, mTB 55 w_55 rfl⟩
theorem vi_X8_celebrate : Cond.instanceMethod yX8_celebrate ∈ TBW ∧ Cond.selects yX8_celebrate.cls yX8_celebrate yX8_celebrate ∈ TBW := ⟨mTB 1083 w_1083 rfl, mTB 66 w_66 rfl⟩
theorem vi_X8_charAt : Cond.instanceMethod yX8_charAt ∈ TBW ∧ Cond.selects yX8_charAt.cls yX8_charAt yX8_charAt ∈ TBW := ⟨mTB 1038 w_1038 rfl, mTB 60 w_60 rfl⟩
theorem vi_X8_digits : Cond.instanceMethod yX8_digits ∈ TBW ∧ Cond.selects yX8_digits.cls yX8_digits yX8_digits ∈ TBW := ⟨mTB 1047 w_1047 rfl, mTB 61 w_61 rfl⟩
theorem vi_X8_disputeOf : Cond.instanceMethod yX8_disputeOf ∈ TBW ∧ Cond.selects yX8_disputeOf.cls yX8_disputeOf yX8_disputeOf ∈ TBW := ⟨mTB 1195 w_1195 rfl, mTB 81 w_81 rfl⟩
theorem vi_X8_findLeast : Cond.instanceMethod yX8_findLeast ∈ TBW ∧ Cond.selects yX8_findLeast.cls yX8_findLeast yX8_findLeast ∈ TBW := ⟨mTB 1127 w_1127 rfl, mTB 73 w_73 rfl⟩
theorem vi_X8_findPrices : Cond.instanceMethod yX8_findPrices ∈ TBW ∧ Cond.selects yX8_findPrices.cls yX8_findPrices yX8_findPrices ∈ TBW := ⟨mTB 1131 w_1131 rfl, mTB 74 w_74 rfl⟩
theorem vi_X8_full : Cond.instanceMethod yX8_full ∈ TBW ∧ Cond.selects yX8_full.cls yX8_full yX8_full ∈ TBW := ⟨mTB 980 w_980 rfl, mTB 52 w_52 rfl⟩
theorem vi_X8_isNext : Cond.instanceMethod yX8_isNext ∈ TBW ∧ Cond.selects yX8_isNext.cls yX8_isNext yX8_isNext ∈ TBW := ⟨mTB 1144 w_1144 rfl, mTB 77 w_77 rfl⟩
theorem vi_X8_isSet : Cond.instanceMethod yX8_isSet ∈ TBW ∧ Cond.selects yX8_isSet.cls yX8_isSet yX8_isSet ∈ TBW := ⟨mTB 993 w_993 rfl, mTB 53 w_53 rfl⟩
theorem vi_X8_isWalker : Cond.instanceMethod yX8_isWalker ∈ TBW ∧ Cond.selects yX8_isWalker.cls yX8_isWalker yX8_isWalker ∈ TBW := ⟨mTB 1110 w_1110 rfl, mTB 71 w_71 rfl⟩
theorem vi_X8_isWell : Cond.instanceMethod yX8_isWell ∈ TBW ∧ Cond.selects yX8_isWell.cls yX8_isWell yX8_isWell ∈ TBW := ⟨mTB 1075 w_1075 rfl, mTB 65 w_65 rfl⟩
theorem vi_X8_isWellOn : Cond.instanceMethod yX8_isWellOn ∈ TBW ∧ Cond.selects yX8_isWellOn.cls yX8_isWellOn yX8_isWellOn ∈ TBW := ⟨mTB 1098 w_1098 rfl, mTB 69 w_69 rfl⟩
theorem vi_X8_layRow : Cond.instanceMethod yX8_layRow ∈ TBW ∧ Cond.selects yX8_layRow.cls yX8_layRow yX8_layRow ∈ TBW := ⟨mTB 1123 w_1123 rfl, mTB 72 w_72 rfl⟩
theorem vi_X8_mayGo : Cond.instanceMethod yX8_mayGo ∈ TBW ∧ Cond.selects yX8_mayGo.cls yX8_mayGo yX8_mayGo ∈ TBW := ⟨mTB 1136 w_1136 rfl, mTB 75 w_75 rfl⟩
theorem vi_X8_mayStep : Cond.instanceMethod yX8_mayStep ∈ TBW ∧ Cond.selects yX8_mayStep.cls yX8_mayStep yX8_mayStep ∈ TBW := ⟨mTB 1091 w_1091 rfl, mTB 68 w_68 rfl⟩
theorem vi_X8_no : Cond.instanceMethod yX8_no ∈ TBW ∧ Cond.selects yX8_no.cls yX8_no yX8_no ∈ TBW := ⟨mTB 1157 w_1157 rfl, mTB 78 w_78 rfl⟩
theorem vi_X8_of : Cond.instanceMethod yX8_of ∈ TBW ∧ Cond.selects yX8_of.cls yX8_of yX8_of ∈ TBW := ⟨mTB 1006 w_1006 rfl, mTB 56 w_56 rfl⟩
theorem vi_X8_onBy : Cond.instanceMethod yX8_onBy ∈ TBW ∧ Cond.selects yX8_onBy.cls yX8_onBy yX8_onBy ∈ TBW := ⟨mTB 1199 w_1199 rfl, mTB 82 w_82 rfl⟩
theorem vi_X8_onNow : Cond.instanceMethod yX8_onNow ∈ TBW ∧ Cond.selects yX8_onNow.cls yX8_onNow yX8_onNow ∈ TBW := ⟨mTB 1087 w_1087 rfl, mTB 67 w_67 rfl⟩
theorem vi_X8_reads : Cond.instanceMethod yX8_reads ∈ TBW ∧ Cond.selects yX8_reads.cls yX8_reads yX8_reads ∈ TBW := ⟨mTB 1026 w_1026 rfl, mTB 57 w_57 rfl⟩
theorem vi_X8_said : Cond.instanceMethod yX8_said ∈ TBW ∧ Cond.selects yX8_said.cls yX8_said yX8_said ∈ TBW := ⟨mTB 1183 w_1183 rfl, mTB 80 w_80 rfl⟩
theorem vi_X8_stands : Cond.instanceMethod yX8_stands ∈ TBW ∧ Cond.selects yX8_stands.cls yX8_stands yX8_stands ∈ TBW := ⟨mTB 1052 w_1052 rfl, mTB 62 w_62 rfl⟩
theorem vi_X8_sums : Cond.instanceMethod yX8_sums ∈ TBW ∧ Cond.selects yX8_sums.cls yX8_sums yX8_sums ∈ TBW := ⟨mTB 1234 w_1234 rfl, mTB 83 w_83 rfl⟩
theorem vi_X8_tells : Cond.instanceMethod yX8_tells ∈ TBW ∧ Cond.selects yX8_tells.cls yX8_tells yX8_tells ∈ TBW := ⟨mTB 1161 w_1161 rfl, mTB 79 w_79 rfl⟩
theorem vi_X8_textLong : Cond.instanceMethod yX8_textLong ∈ TBW ∧ Cond.selects yX8_textLong.cls yX8_textLong yX8_textLong ∈ TBW := ⟨mTB 1034 w_1034 rfl, mTB 59 w_59 rfl⟩
theorem vi_X8_timeOf : Cond.instanceMethod yX8_timeOf ∈ TBW ∧ Cond.selects yX8_timeOf.cls yX8_timeOf yX8_timeOf ∈ TBW := ⟨mTB 1140 w_1140 rfl, mTB 76 w_76 rfl⟩
theorem vi_X8_walkers : Cond.instanceMethod yX8_walkers ∈ TBW ∧ Cond.selects yX8_walkers.cls yX8_walkers yX8_walkers ∈ TBW := ⟨mTB 976 w_976 rfl, mTB 51 w_51 rfl⟩
theorem vi_X8_workDown : Cond.instanceMethod yX8_workDown ∈ TBW ∧ Cond.selects yX8_workDown.cls yX8_workDown yX8_workDown ∈ TBW := ⟨mTB 1059 w_1059 rfl, mTB 63 w_63 rfl⟩
theorem vi_X8_workOut : Cond.instanceMethod yX8_workOut ∈ TBW ∧ Cond.selects yX8_workOut.cls yX8_workOut yX8_workOut ∈ TBW := ⟨mTB 1066 w_1066 rfl, mTB 64 w_64 rfl⟩
theorem vi_J0_coder_7d493 : Cond.instanceMethod yJ0_coder_7d493 ∈ TBW ∧ Cond.selects yJ0_coder_7d493.cls yJ0_coder_7d493 yJ0_coder_7d493 ∈ TBW := ⟨mTB 244 w_244 rfl, mTB 245 w_245 rfl⟩
theorem vi_J0_indexOf_0f7a4 : Cond.instanceMethod yJ0_indexOf_0f7a4 ∈ TBW ∧ Cond.selects yJ0_indexOf_0f7a4.cls yJ0_indexOf_0f7a4 yJ0_indexOf_0f7a4 ∈ TBW := ⟨mTB 226 w_226 rfl, mTB 227 w_227 rfl⟩
theorem vi_J0_indexOf_7cf53 : Cond.instanceMethod yJ0_indexOf_7cf53 ∈ TBW ∧ Cond.selects yJ0_indexOf_7cf53.cls yJ0_indexOf_7cf53 yJ0_indexOf_7cf53 ∈ TBW := ⟨mTB 230 w_230 rfl, mTB 231 w_231 rfl⟩
theorem vi_J0_isLatin1_aae02 : Cond.instanceMethod yJ0_isLatin1_aae02 ∈ TBW ∧ Cond.selects yJ0_isLatin1_aae02.cls yJ0_isLatin1_aae02 yJ0_isLatin1_aae02 ∈ TBW := ⟨mTB 234 w_234 rfl, mTB 235 w_235 rfl⟩
theorem vi_J0_length_8abf5 : Cond.instanceMethod yJ0_length_8abf5 ∈ TBW ∧ Cond.selects yJ0_length_8abf5.cls yJ0_length_8abf5 yJ0_length_8abf5 ∈ TBW := ⟨mTB 240 w_240 rfl, mTB 241 w_241 rfl⟩
theorem rc_0 : Rcv SH 0 "OddBridge" := Or.inl ⟨7, _, _, rfl, rfl, rfl⟩
theorem rc_1 : Rcv SH 1 "OddBridge$Scene" := Or.inl ⟨5, _, _, rfl, rfl, rfl⟩
theorem rc_10 : Rcv SH 10 "OddBridge$Scene" := Or.inl ⟨5, _, _, rfl, rfl, rfl⟩
theorem rc_19 : Rcv SH 19 "OddBridge$Scene" := Or.inl ⟨5, _, _, rfl, rfl, rfl⟩
theorem rc_29 : Rcv SH 29 "OddBridge$Vow" := Or.inl ⟨6, _, _, rfl, rfl, rfl⟩
theorem rc_33 : Rcv SH 33 "OddBridge$Judge" := Or.inl ⟨4, _, _, rfl, rfl, rfl⟩
theorem rc_37 : Rcv SH 37 "OddBridge$Feast" := Or.inl ⟨1, _, _, rfl, rfl, rfl⟩
theorem rc_41 : Rcv SH 41 "OddBridge$Crossing" := Or.inl ⟨0, _, _, rfl, rfl, rfl⟩
theorem rc_49 : Rcv SH 49 "OddBridge$Hearing" := Or.inl ⟨3, _, _, rfl, rfl, rfl⟩
theorem rc_50 : Rcv SH 50 "OddBridge$Fraction" := Or.inl ⟨2, _, _, rfl, rfl, rfl⟩
theorem rc_53 : Rcv SH 53 "OddBridgeModel" := Or.inl ⟨8, _, _, rfl, rfl, rfl⟩
theorem kw_RX7_202 : Cond.constantLong RX7 202 (10) ∈ TBW := mTB 774 w_774 rfl
theorem kw_RX7_245 : Cond.constantLong RX7 245 (643) ∈ TBW := mTB 865 w_865 rfl
theorem kw_RX7_251 : Cond.constantLong RX7 251 (31) ∈ TBW := mTB 871 w_871 rfl
theorem kw_RX7_262 : Cond.constantLong RX7 262 (20) ∈ TBW := mTB 757 w_757 rfl
theorem kw_RX4_49 : Cond.constantLong RX4 49 (-1) ∈ TBW := mTB 664 w_664 rfl
theorem kw_RX5_66 : Cond.constantLong RX5 66 (31) ∈ TBW := mTB 870 w_870 rfl
theorem kw_RX8_81 : Cond.constantLong RX8 81 (7) ∈ TBW := mTB 964 w_964 rfl
theorem kw_RX8_83 : Cond.constantLong RX8 83 (20) ∈ TBW := mTB 968 w_968 rfl
theorem kw_RX8_85 : Cond.constantLong RX8 85 (99) ∈ TBW := mTB 969 w_969 rfl
theorem kw_RX8_94 : Cond.constantLong RX8 94 (19) ∈ TBW := mTB 986 w_986 rfl
theorem kw_RX8_107 : Cond.constantLong RX8 107 (4) ∈ TBW := mTB 999 w_999 rfl
theorem kw_RX8_112 : Cond.constantLong RX8 112 (127) ∈ TBW := mTB 1015 w_1015 rfl
theorem kw_RX8_136 : Cond.constantLong RX8 136 (48) ∈ TBW := mTB 1043 w_1043 rfl
theorem kw_RX8_138 : Cond.constantLong RX8 138 (57) ∈ TBW := mTB 1044 w_1044 rfl
theorem kw_RX8_146 : Cond.constantLong RX8 146 (10) ∈ TBW := mTB 1049 w_1049 rfl
theorem kw_RX8_173 : Cond.constantLong RX8 173 (199) ∈ TBW := mTB 1072 w_1072 rfl
theorem kw_RX8_206 : Cond.constant RX8 206 (1000000) ∈ TBW := mTB 1133 w_1133 rfl
theorem kw_RX8_225 : Cond.constantLong RX8 225 (3) ∈ TBW := mTB 1120 w_1120 rfl
theorem kw_RX8_230 : Cond.constantLong RX8 230 (8) ∈ TBW := mTB 1154 w_1154 rfl
theorem kw_RX8_239 : Cond.constantLong RX8 239 (40) ∈ TBW := mTB 1175 w_1175 rfl
theorem kw_RX8_241 : Cond.constantLong RX8 241 (62) ∈ TBW := mTB 1180 w_1180 rfl
theorem kw_RX8_253 : Cond.constantLong RX8 253 (2) ∈ TBW := mTB 1221 w_1221 rfl
theorem kw_RX8_255 : Cond.constantLong RX8 255 (31) ∈ TBW := mTB 1230 w_1230 rfl
theorem kw_RX8_257 : Cond.constantLong RX8 257 (19933) ∈ TBW := mTB 1231 w_1231 rfl
theorem kw_RJ6_265 : Cond.constant RJ6 265 (1431655765) ∈ TBW := mTB 692 w_692 rfl
theorem kw_RJ6_266 : Cond.constant RJ6 266 (858993459) ∈ TBW := mTB 693 w_693 rfl
theorem kw_RJ6_267 : Cond.constant RJ6 267 (252645135) ∈ TBW := mTB 694 w_694 rfl
theorem sr_0 : (RX6, 89, "!-", 0) ∈ srS := by decide +kernel
theorem sr_1 : (RX6, 120, ")", 1) ∈ srS := by decide +kernel
theorem sr_2 : (RX6, 109, "pbudl", 2) ∈ srS := by decide +kernel
theorem sr_3 : (RX6, 87, "*/", 3) ∈ srS := by decide +kernel
theorem sr_4 : (RX6, 82, "+-", 4) ∈ srS := by decide +kernel
theorem sr_5 : (RX6, 77, "<>=", 5) ∈ srS := by decide +kernel
theorem sr_6 : (RX6, 72, "&", 6) ∈ srS := by decide +kernel
theorem sr_7 : (RX6, 59, "|", 7) ∈ srS := by decide +kernel
end
