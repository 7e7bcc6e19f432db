theorem w_0 : lw_tbl[0]? = some (Cond.selects "OddBridge$Vow" ⟨"OddBridge$Vow", "read", "()V"⟩ ⟨"OddBridge$Vow", "read", "()V"⟩) := by decide +kernel
theorem w_1 : lw_tbl[1]? = some (Cond.selects "OddBridge$Vow" ⟨"OddBridge$Vow", "readValue", "(I)V"⟩ ⟨"OddBridge$Vow", "readValue", "(I)V"⟩) := by decide +kernel
theorem w_2 : lw_tbl[2]? = some (Cond.selects "OddBridge$Vow" ⟨"OddBridge$Vow", "readBoth", "(I)V"⟩ ⟨"OddBridge$Vow", "readBoth", "(I)V"⟩) := by decide +kernel
theorem w_3 : lw_tbl[3]? = some (Cond.selects "OddBridge$Vow" ⟨"OddBridge$Vow", "readHeld", "(I)V"⟩ ⟨"OddBridge$Vow", "readHeld", "(I)V"⟩) := by decide +kernel
theorem w_4 : lw_tbl[4]? = some (Cond.selects "OddBridge$Vow" ⟨"OddBridge$Vow", "readSum", "(I)V"⟩ ⟨"OddBridge$Vow", "readSum", "(I)V"⟩) := by decide +kernel
theorem w_5 : lw_tbl[5]? = some (Cond.selects "OddBridge$Vow" ⟨"OddBridge$Vow", "readTerm", "(I)V"⟩ ⟨"OddBridge$Vow", "readTerm", "(I)V"⟩) := by decide +kernel
theorem w_6 : lw_tbl[6]? = some (Cond.selects "OddBridge$Vow" ⟨"OddBridge$Vow", "readUnit", "(I)V"⟩ ⟨"OddBridge$Vow", "readUnit", "(I)V"⟩) := by decide +kernel
theorem w_7 : lw_tbl[7]? = some (Cond.selects "OddBridge$Vow" ⟨"OddBridge$Vow", "take", "(Ljava/lang/String;)I"⟩ ⟨"OddBridge$Vow", "take", "(Ljava/lang/String;)I"⟩) := by decide +kernel
theorem w_8 : lw_tbl[8]? = some (Cond.selects "OddBridge$Vow" ⟨"OddBridge$Vow", "nextSign", "()I"⟩ ⟨"OddBridge$Vow", "nextSign", "()I"⟩) := by decide +kernel
theorem w_9 : lw_tbl[9]? = some (Cond.selects "OddBridge$Vow" ⟨"OddBridge$Vow", "signAt", "(I)I"⟩ ⟨"OddBridge$Vow", "signAt", "(I)I"⟩) := by decide +kernel
theorem w_10 : lw_tbl[10]? = some (Cond.selects "OddBridge$Vow" ⟨"OddBridge$Vow", "readBareUnit", "(I)V"⟩ ⟨"OddBridge$Vow", "readBareUnit", "(I)V"⟩) := by decide +kernel
theorem w_11 : lw_tbl[11]? = some (Cond.selects "OddBridge$Vow" ⟨"OddBridge$Vow", "readDigits", "()V"⟩ ⟨"OddBridge$Vow", "readDigits", "()V"⟩) := by decide +kernel
theorem w_12 : lw_tbl[12]? = some (Cond.selects "OddBridge$Vow" ⟨"OddBridge$Vow", "setFlaw", "(II)V"⟩ ⟨"OddBridge$Vow", "setFlaw", "(II)V"⟩) := by decide +kernel
theorem w_13 : lw_tbl[13]? = some (Cond.selects "OddBridge$Vow" ⟨"OddBridge$Vow", "addSign", "(CI)V"⟩ ⟨"OddBridge$Vow", "addSign", "(CI)V"⟩) := by decide +kernel
theorem w_14 : lw_tbl[14]? = some (Cond.selects "OddBridge$Vow" ⟨"OddBridge$Vow", "readOpened", "(I)V"⟩ ⟨"OddBridge$Vow", "readOpened", "(I)V"⟩) := by decide +kernel
theorem w_15 : lw_tbl[15]? = some (Cond.selects "OddBridge" ⟨"OddBridge", "refuseAsBad", "()I"⟩ ⟨"OddBridge", "refuseAsBad", "()I"⟩) := by decide +kernel
theorem w_16 : lw_tbl[16]? = some (Cond.selects "OddBridge" ⟨"OddBridge", "refuseAsFull", "()I"⟩ ⟨"OddBridge", "refuseAsFull", "()I"⟩) := by decide +kernel
theorem w_17 : lw_tbl[17]? = some (Cond.selects "OddBridge$Scene" ⟨"OddBridge$Scene", "addWalker", "(III)V"⟩ ⟨"OddBridge$Scene", "addWalker", "(III)V"⟩) := by decide +kernel
theorem w_18 : lw_tbl[18]? = some (Cond.selects "OddBridge" ⟨"OddBridge", "forgetWhatFollows", "()V"⟩ ⟨"OddBridge", "forgetWhatFollows", "()V"⟩) := by decide +kernel
theorem w_19 : lw_tbl[19]? = some (Cond.selects "OddBridge$Scene" ⟨"OddBridge$Scene", "addLetter", "(C)V"⟩ ⟨"OddBridge$Scene", "addLetter", "(C)V"⟩) := by decide +kernel
theorem w_20 : lw_tbl[20]? = some (Cond.selects "OddBridge$Scene" ⟨"OddBridge$Scene", "sumBrought", "(II)I"⟩ ⟨"OddBridge$Scene", "sumBrought", "(II)I"⟩) := by decide +kernel
theorem w_21 : lw_tbl[21]? = some (Cond.selects "OddBridge$Judge" ⟨"OddBridge$Judge", "isWell", "(II)Z"⟩ ⟨"OddBridge$Judge", "isWell", "(II)Z"⟩) := by decide +kernel
theorem w_22 : lw_tbl[22]? = some (Cond.selects "OddBridge$Judge" ⟨"OddBridge$Judge", "isOdd", "(III)Z"⟩ ⟨"OddBridge$Judge", "isOdd", "(III)Z"⟩) := by decide +kernel
theorem w_23 : lw_tbl[23]? = some (Cond.selects "OddBridge$Vow" ⟨"OddBridge$Vow", "value", "([II)J"⟩ ⟨"OddBridge$Vow", "value", "([II)J"⟩) := by decide +kernel
theorem w_24 : lw_tbl[24]? = some (Cond.selects "OddBridge$Vow" ⟨"OddBridge$Vow", "push", "(J)V"⟩ ⟨"OddBridge$Vow", "push", "(J)V"⟩) := by decide +kernel
theorem w_25 : lw_tbl[25]? = some (Cond.selects "OddBridge$Vow" ⟨"OddBridge$Vow", "pop", "()J"⟩ ⟨"OddBridge$Vow", "pop", "()J"⟩) := by decide +kernel
theorem w_26 : lw_tbl[26]? = some (Cond.selects "OddBridge$Feast" ⟨"OddBridge$Feast", "goThrough", "()V"⟩ ⟨"OddBridge$Feast", "goThrough", "()V"⟩) := by decide +kernel
theorem w_27 : lw_tbl[27]? = some (Cond.selects "OddBridge$Feast" ⟨"OddBridge$Feast", "bestSteps", "(I)I"⟩ ⟨"OddBridge$Feast", "bestSteps", "(I)I"⟩) := by decide +kernel
theorem w_28 : lw_tbl[28]? = some (Cond.selects "OddBridge$Feast" ⟨"OddBridge$Feast", "mayStep", "(I)I"⟩ ⟨"OddBridge$Feast", "mayStep", "(I)I"⟩) := by decide +kernel
theorem w_29 : lw_tbl[29]? = some (Cond.selects "OddBridge$Feast" ⟨"OddBridge$Feast", "aheadOfWall", "(I)I"⟩ ⟨"OddBridge$Feast", "aheadOfWall", "(I)I"⟩) := by decide +kernel
theorem w_30 : lw_tbl[30]? = some (Cond.selects "OddBridge$Feast" ⟨"OddBridge$Feast", "step", "(II)V"⟩ ⟨"OddBridge$Feast", "step", "(II)V"⟩) := by decide +kernel
theorem w_31 : lw_tbl[31]? = some (Cond.selects "OddBridge" ⟨"OddBridge", "isWalker", "(I)Z"⟩ ⟨"OddBridge", "isWalker", "(I)Z"⟩) := by decide +kernel
theorem w_32 : lw_tbl[32]? = some (Cond.selects "OddBridge$Crossing" ⟨"OddBridge$Crossing", "plan", "()V"⟩ ⟨"OddBridge$Crossing", "plan", "()V"⟩) := by decide +kernel
theorem w_33 : lw_tbl[33]? = some (Cond.selects "OddBridge$Crossing" ⟨"OddBridge$Crossing", "lookAtCompany", "(I)V"⟩ ⟨"OddBridge$Crossing", "lookAtCompany", "(I)V"⟩) := by decide +kernel
theorem w_34 : lw_tbl[34]? = some (Cond.selects "OddBridge$Crossing" ⟨"OddBridge$Crossing", "lookAtLeft", "(I)V"⟩ ⟨"OddBridge$Crossing", "lookAtLeft", "(I)V"⟩) := by decide +kernel
theorem w_35 : lw_tbl[35]? = some (Cond.selects "OddBridge$Crossing" ⟨"OddBridge$Crossing", "tryFirst", "(II)V"⟩ ⟨"OddBridge$Crossing", "tryFirst", "(II)V"⟩) := by decide +kernel
theorem w_36 : lw_tbl[36]? = some (Cond.selects "OddBridge$Crossing" ⟨"OddBridge$Crossing", "lineUp", "(I)V"⟩ ⟨"OddBridge$Crossing", "lineUp", "(I)V"⟩) := by decide +kernel
theorem w_37 : lw_tbl[37]? = some (Cond.selects "OddBridge" ⟨"OddBridge", "refuseAsNo", "()I"⟩ ⟨"OddBridge", "refuseAsNo", "()I"⟩) := by decide +kernel
theorem w_38 : lw_tbl[38]? = some (Cond.selects "OddBridge" ⟨"OddBridge", "spreadStops", "(II)J"⟩ ⟨"OddBridge", "spreadStops", "(II)J"⟩) := by decide +kernel
theorem w_39 : lw_tbl[39]? = some (Cond.selects "OddBridge$Fraction" ⟨"OddBridge$Fraction", "become", "(JJ)V"⟩ ⟨"OddBridge$Fraction", "become", "(JJ)V"⟩) := by decide +kernel
theorem w_40 : lw_tbl[40]? = some (Cond.selects "OddBridge" ⟨"OddBridge", "waysHome", "(II)I"⟩ ⟨"OddBridge", "waysHome", "(II)I"⟩) := by decide +kernel
theorem w_41 : lw_tbl[41]? = some (Cond.selects "OddBridge$Scene" ⟨"OddBridge$Scene", "addSaid", "(III)V"⟩ ⟨"OddBridge$Scene", "addSaid", "(III)V"⟩) := by decide +kernel
theorem w_42 : lw_tbl[42]? = some (Cond.selects "OddBridge$Hearing" ⟨"OddBridge$Hearing", "minutesUnwell", "(I)J"⟩ ⟨"OddBridge$Hearing", "minutesUnwell", "(I)J"⟩) := by decide +kernel
theorem w_43 : lw_tbl[43]? = some (Cond.selects "OddBridge$Hearing" ⟨"OddBridge$Hearing", "onBut", "(II)I"⟩ ⟨"OddBridge$Hearing", "onBut", "(II)I"⟩) := by decide +kernel
theorem w_44 : lw_tbl[44]? = some (Cond.selects "OddBridge$Hearing" ⟨"OddBridge$Hearing", "eachAlone", "()I"⟩ ⟨"OddBridge$Hearing", "eachAlone", "()I"⟩) := by decide +kernel
theorem w_45 : lw_tbl[45]? = some (Cond.selects "OddBridge$Hearing" ⟨"OddBridge$Hearing", "allWellBut", "(I)Z"⟩ ⟨"OddBridge$Hearing", "allWellBut", "(I)Z"⟩) := by decide +kernel
theorem w_46 : lw_tbl[46]? = some (Cond.selects "OddBridge$Hearing" ⟨"OddBridge$Hearing", "fewestLiars", "()I"⟩ ⟨"OddBridge$Hearing", "fewestLiars", "()I"⟩) := by decide +kernel
theorem w_47 : lw_tbl[47]? = some (Cond.selects "OddBridge" ⟨"OddBridge", "imageAt", "(I)LOddBridge$Scene;"⟩ ⟨"OddBridge", "imageAt", "(I)LOddBridge$Scene;"⟩) := by decide +kernel
theorem w_48 : lw_tbl[48]? = some (Cond.selects "OddBridge$Scene" ⟨"OddBridge$Scene", "become", "(LOddBridge$Scene;)V"⟩ ⟨"OddBridge$Scene", "become", "(LOddBridge$Scene;)V"⟩) := by decide +kernel
theorem w_49 : lw_tbl[49]? = some (Cond.selects "OddBridge$Scene" ⟨"OddBridge$Scene", "addedTo", "(J)J"⟩ ⟨"OddBridge$Scene", "addedTo", "(J)J"⟩) := by decide +kernel
theorem w_50 : lw_tbl[50]? = some (Cond.selects "OddBridgeModel" ⟨"OddBridgeModel", "bad", "(I)I"⟩ ⟨"OddBridgeModel", "bad", "(I)I"⟩) := by decide +kernel
theorem w_51 : lw_tbl[51]? = some (Cond.selects "OddBridgeModel" ⟨"OddBridgeModel", "walkers", "()I"⟩ ⟨"OddBridgeModel", "walkers", "()I"⟩) := by decide +kernel
theorem w_52 : lw_tbl[52]? = some (Cond.selects "OddBridgeModel" ⟨"OddBridgeModel", "full", "()I"⟩ ⟨"OddBridgeModel", "full", "()I"⟩) := by decide +kernel
theorem w_53 : lw_tbl[53]? = some (Cond.selects "OddBridgeModel" ⟨"OddBridgeModel", "isSet", "(I)Z"⟩ ⟨"OddBridgeModel", "isSet", "(I)Z"⟩) := by decide +kernel
theorem w_54 : lw_tbl[54]? = some (Cond.selects "OddBridgeModel" ⟨"OddBridgeModel", "all", "()I"⟩ ⟨"OddBridgeModel", "all", "()I"⟩) := by decide +kernel
theorem w_55 : lw_tbl[55]? = some (Cond.selects "OddBridgeModel" ⟨"OddBridgeModel", "broughtBy", "(II)I"⟩ ⟨"OddBridgeModel", "broughtBy", "(II)I"⟩) := by decide +kernel
theorem w_56 : lw_tbl[56]? = some (Cond.selects "OddBridgeModel" ⟨"OddBridgeModel", "of", "(II)I"⟩ ⟨"OddBridgeModel", "of", "(II)I"⟩) := by decide +kernel
theorem w_57 : lw_tbl[57]? = some (Cond.selects "OddBridgeModel" ⟨"OddBridgeModel", "reads", "()Z"⟩ ⟨"OddBridgeModel", "reads", "()Z"⟩) := by decide +kernel
theorem w_58 : lw_tbl[58]? = some (Cond.selects "OddBridgeModel" ⟨"OddBridgeModel", "ahead", "()I"⟩ ⟨"OddBridgeModel", "ahead", "()I"⟩) := by decide +kernel
theorem w_59 : lw_tbl[59]? = some (Cond.selects "OddBridgeModel" ⟨"OddBridgeModel", "textLong", "()I"⟩ ⟨"OddBridgeModel", "textLong", "()I"⟩) := by decide +kernel
theorem w_60 : lw_tbl[60]? = some (Cond.selects "OddBridgeModel" ⟨"OddBridgeModel", "charAt", "(I)I"⟩ ⟨"OddBridgeModel", "charAt", "(I)I"⟩) := by decide +kernel
theorem w_61 : lw_tbl[61]? = some (Cond.selects "OddBridgeModel" ⟨"OddBridgeModel", "digits", "()J"⟩ ⟨"OddBridgeModel", "digits", "()J"⟩) := by decide +kernel
theorem w_62 : lw_tbl[62]? = some (Cond.selects "OddBridgeModel" ⟨"OddBridgeModel", "stands", "(J)V"⟩ ⟨"OddBridgeModel", "stands", "(J)V"⟩) := by decide +kernel
theorem w_63 : lw_tbl[63]? = some (Cond.selects "OddBridgeModel" ⟨"OddBridgeModel", "workDown", "(I)V"⟩ ⟨"OddBridgeModel", "workDown", "(I)V"⟩) := by decide +kernel
theorem w_64 : lw_tbl[64]? = some (Cond.selects "OddBridgeModel" ⟨"OddBridgeModel", "workOut", "()V"⟩ ⟨"OddBridgeModel", "workOut", "()V"⟩) := by decide +kernel
theorem w_65 : lw_tbl[65]? = some (Cond.selects "OddBridgeModel" ⟨"OddBridgeModel", "isWell", "(III)Z"⟩ ⟨"OddBridgeModel", "isWell", "(III)Z"⟩) := by decide +kernel
theorem w_66 : lw_tbl[66]? = some (Cond.selects "OddBridgeModel" ⟨"OddBridgeModel", "celebrate", "()V"⟩ ⟨"OddBridgeModel", "celebrate", "()V"⟩) := by decide +kernel
theorem w_67 : lw_tbl[67]? = some (Cond.selects "OddBridgeModel" ⟨"OddBridgeModel", "onNow", "()I"⟩ ⟨"OddBridgeModel", "onNow", "()I"⟩) := by decide +kernel
theorem w_68 : lw_tbl[68]? = some (Cond.selects "OddBridgeModel" ⟨"OddBridgeModel", "mayStep", "(I)I"⟩ ⟨"OddBridgeModel", "mayStep", "(I)I"⟩) := by decide +kernel
theorem w_69 : lw_tbl[69]? = some (Cond.selects "OddBridgeModel" ⟨"OddBridgeModel", "isWellOn", "(II)Z"⟩ ⟨"OddBridgeModel", "isWellOn", "(II)Z"⟩) := by decide +kernel
theorem w_70 : lw_tbl[70]? = some (Cond.selects "OddBridgeModel" ⟨"OddBridgeModel", "ahead", "(II)I"⟩ ⟨"OddBridgeModel", "ahead", "(II)I"⟩) := by decide +kernel
theorem w_71 : lw_tbl[71]? = some (Cond.selects "OddBridgeModel" ⟨"OddBridgeModel", "isWalker", "(I)Z"⟩ ⟨"OddBridgeModel", "isWalker", "(I)Z"⟩) := by decide +kernel
theorem w_72 : lw_tbl[72]? = some (Cond.selects "OddBridgeModel" ⟨"OddBridgeModel", "layRow", "()Z"⟩ ⟨"OddBridgeModel", "layRow", "()Z"⟩) := by decide +kernel
theorem w_73 : lw_tbl[73]? = some (Cond.selects "OddBridgeModel" ⟨"OddBridgeModel", "findLeast", "()V"⟩ ⟨"OddBridgeModel", "findLeast", "()V"⟩) := by decide +kernel
theorem w_74 : lw_tbl[74]? = some (Cond.selects "OddBridgeModel" ⟨"OddBridgeModel", "findPrices", "()V"⟩ ⟨"OddBridgeModel", "findPrices", "()V"⟩) := by decide +kernel
theorem w_75 : lw_tbl[75]? = some (Cond.selects "OddBridgeModel" ⟨"OddBridgeModel", "mayGo", "(II)Z"⟩ ⟨"OddBridgeModel", "mayGo", "(II)Z"⟩) := by decide +kernel
theorem w_76 : lw_tbl[76]? = some (Cond.selects "OddBridgeModel" ⟨"OddBridgeModel", "timeOf", "(I)I"⟩ ⟨"OddBridgeModel", "timeOf", "(I)I"⟩) := by decide +kernel
theorem w_77 : lw_tbl[77]? = some (Cond.selects "OddBridgeModel" ⟨"OddBridgeModel", "isNext", "(II)Z"⟩ ⟨"OddBridgeModel", "isNext", "(II)Z"⟩) := by decide +kernel
theorem w_78 : lw_tbl[78]? = some (Cond.selects "OddBridgeModel" ⟨"OddBridgeModel", "no", "()I"⟩ ⟨"OddBridgeModel", "no", "()I"⟩) := by decide +kernel
theorem w_79 : lw_tbl[79]? = some (Cond.selects "OddBridgeModel" ⟨"OddBridgeModel", "tells", "(JJ)I"⟩ ⟨"OddBridgeModel", "tells", "(JJ)I"⟩) := by decide +kernel
theorem w_80 : lw_tbl[80]? = some (Cond.selects "OddBridgeModel" ⟨"OddBridgeModel", "said", "()I"⟩ ⟨"OddBridgeModel", "said", "()I"⟩) := by decide +kernel
theorem w_81 : lw_tbl[81]? = some (Cond.selects "OddBridgeModel" ⟨"OddBridgeModel", "disputeOf", "(I)J"⟩ ⟨"OddBridgeModel", "disputeOf", "(I)J"⟩) := by decide +kernel
theorem w_82 : lw_tbl[82]? = some (Cond.selects "OddBridgeModel" ⟨"OddBridgeModel", "onBy", "(II)I"⟩ ⟨"OddBridgeModel", "onBy", "(II)I"⟩) := by decide +kernel
theorem w_83 : lw_tbl[83]? = some (Cond.selects "OddBridgeModel" ⟨"OddBridgeModel", "sums", "(JII)J"⟩ ⟨"OddBridgeModel", "sums", "(JII)J"⟩) := by decide +kernel
theorem w_85 : lw_tbl[85]? = some (Cond.initialized "OddBridge") := by decide +kernel
theorem w_86 : lw_tbl[86]? = some (Cond.initialized "OddBridge$Scene") := by decide +kernel
theorem w_87 : lw_tbl[87]? = some (Cond.initialized "OddBridge$Vow") := by decide +kernel
theorem w_88 : lw_tbl[88]? = some (Cond.initialized "java/lang/String") := by decide +kernel
theorem w_89 : lw_tbl[89]? = some (Cond.initialized "java/lang/StringLatin1") := by decide +kernel
theorem w_94 : lw_tbl[94]? = some (Cond.initialized "OddBridge$Judge") := by decide +kernel
theorem w_95 : lw_tbl[95]? = some (Cond.initialized "OddBridge$Feast") := by decide +kernel
theorem w_96 : lw_tbl[96]? = some (Cond.initialized "OddBridge$Crossing") := by decide +kernel
theorem w_97 : lw_tbl[97]? = some (Cond.initialized "OddBridge$Hearing") := by decide +kernel
theorem w_98 : lw_tbl[98]? = some (Cond.initialized "OddBridge$Fraction") := by decide +kernel
theorem w_99 : lw_tbl[99]? = some (Cond.initialized "OddBridgeModel") := by decide +kernel
theorem w_100 : lw_tbl[100]? = some (Cond.initialized "java/util/Arrays") := by decide +kernel
theorem w_101 : lw_tbl[101]? = some (Cond.initialized "java/lang/Integer") := by decide +kernel
theorem w_103 : lw_tbl[103]? = some (Cond.classLink "OddBridgeLaw" 7 "OddBridge") := by decide +kernel
theorem w_104 : lw_tbl[104]? = some (Cond.instantiable "OddBridge" 15) := by decide +kernel
theorem w_105 : lw_tbl[105]? = some (Cond.methodLink "OddBridgeLaw" 9 ⟨"OddBridge", "<init>", "()V"⟩) := by decide +kernel
theorem w_106 : lw_tbl[106]? = some (Cond.instanceMethod ⟨"OddBridge", "<init>", "()V"⟩) := by decide +kernel
theorem w_107 : lw_tbl[107]? = some (Cond.code ⟨"OddBridge", "<init>", "()V"⟩ prog_1_method_1_code 1 none) := by decide +kernel
theorem w_108 : lw_tbl[108]? = some (Cond.methodLink "OddBridge" 1 ⟨"java/lang/Object", "<init>", "()V"⟩) := by decide +kernel
theorem w_111 : lw_tbl[111]? = some (Cond.classLink "OddBridge" 7 "OddBridge$Scene") := by decide +kernel
theorem w_112 : lw_tbl[112]? = some (Cond.instantiable "OddBridge$Scene" 13) := by decide +kernel
theorem w_113 : lw_tbl[113]? = some (Cond.methodLinkNest "OddBridge" 9 ⟨"OddBridge$Scene", "<init>", "()V"⟩ "OddBridge") := by decide +kernel
theorem w_114 : lw_tbl[114]? = some (Cond.instanceMethod ⟨"OddBridge$Scene", "<init>", "()V"⟩) := by decide +kernel
theorem w_115 : lw_tbl[115]? = some (Cond.code ⟨"OddBridge$Scene", "<init>", "()V"⟩ prog_7_method_1_code 1 none) := by decide +kernel
theorem w_116 : lw_tbl[116]? = some (Cond.methodLink "OddBridge$Scene" 3 ⟨"java/lang/Object", "<init>", "()V"⟩) := by decide +kernel
theorem w_117 : lw_tbl[117]? = some (Cond.fieldLink "OddBridge$Scene" 9 "OddBridge$Scene" "kinds" "[I") := by decide +kernel
theorem w_118 : lw_tbl[118]? = some (Cond.fieldLink "OddBridge$Scene" 15 "OddBridge$Scene" "times" "[I") := by decide +kernel
theorem w_119 : lw_tbl[119]? = some (Cond.fieldLinkNest "OddBridge$Crossing" 89 "OddBridge$Scene" "times" "[I" "OddBridge") := by decide +kernel
theorem w_120 : lw_tbl[120]? = some (Cond.fieldLinkNest "OddBridge$Feast" 82 "OddBridge$Scene" "times" "[I" "OddBridge") := by decide +kernel
theorem w_121 : lw_tbl[121]? = some (Cond.fieldLink "OddBridge$Scene" 18 "OddBridge$Scene" "comings" "[I") := by decide +kernel
theorem w_122 : lw_tbl[122]? = some (Cond.fieldLinkNest "OddBridge$Feast" 85 "OddBridge$Scene" "comings" "[I" "OddBridge") := by decide +kernel
theorem w_123 : lw_tbl[123]? = some (Cond.fieldLink "OddBridge$Scene" 21 "OddBridge$Scene" "doubts" "[I") := by decide +kernel
theorem w_124 : lw_tbl[124]? = some (Cond.fieldLinkNest "OddBridge" 196 "OddBridge$Scene" "doubts" "[I" "OddBridge") := by decide +kernel
theorem w_125 : lw_tbl[125]? = some (Cond.fieldLink "OddBridge$Scene" 24 "OddBridge$Scene" "walkers" "I") := by decide +kernel
theorem w_126 : lw_tbl[126]? = some (Cond.fieldLinkNest "OddBridge$Crossing" 45 "OddBridge$Scene" "walkers" "I" "OddBridge") := by decide +kernel
theorem w_127 : lw_tbl[127]? = some (Cond.fieldLinkNest "OddBridge" 90 "OddBridge$Scene" "walkers" "I" "OddBridge") := by decide +kernel
theorem w_128 : lw_tbl[128]? = some (Cond.fieldLinkNest "OddBridge$Feast" 74 "OddBridge$Scene" "walkers" "I" "OddBridge") := by decide +kernel
theorem w_129 : lw_tbl[129]? = some (Cond.fieldLink "OddBridge$Scene" 28 "OddBridge$Scene" "wall" "I") := by decide +kernel
theorem w_130 : lw_tbl[130]? = some (Cond.fieldLinkNest "OddBridge" 104 "OddBridge$Scene" "wall" "I" "OddBridge") := by decide +kernel
theorem w_131 : lw_tbl[131]? = some (Cond.fieldLinkNest "OddBridge$Feast" 88 "OddBridge$Scene" "wall" "I" "OddBridge") := by decide +kernel
theorem w_132 : lw_tbl[132]? = some (Cond.fieldLink "OddBridge$Scene" 31 "OddBridge$Scene" "price" "I") := by decide +kernel
theorem w_133 : lw_tbl[133]? = some (Cond.fieldLinkNest "OddBridge" 111 "OddBridge$Scene" "price" "I" "OddBridge") := by decide +kernel
theorem w_134 : lw_tbl[134]? = some (Cond.fieldLinkNest "OddBridge$Crossing" 102 "OddBridge$Scene" "price" "I" "OddBridge") := by decide +kernel
theorem w_135 : lw_tbl[135]? = some (Cond.fieldLink "OddBridge$Scene" 34 "OddBridge$Scene" "text" "[C") := by decide +kernel
theorem w_136 : lw_tbl[136]? = some (Cond.fieldLinkNest "OddBridge$Vow" 94 "OddBridge$Scene" "text" "[C" "OddBridge") := by decide +kernel
theorem w_137 : lw_tbl[137]? = some (Cond.fieldLink "OddBridge$Scene" 38 "OddBridge$Scene" "letters" "I") := by decide +kernel
theorem w_138 : lw_tbl[138]? = some (Cond.fieldLinkNest "OddBridge" 115 "OddBridge$Scene" "letters" "I" "OddBridge") := by decide +kernel
theorem w_139 : lw_tbl[139]? = some (Cond.fieldLinkNest "OddBridge$Vow" 122 "OddBridge$Scene" "letters" "I" "OddBridge") := by decide +kernel
theorem w_140 : lw_tbl[140]? = some (Cond.fieldLink "OddBridge$Scene" 41 "OddBridge$Scene" "sayers" "[I") := by decide +kernel
theorem w_141 : lw_tbl[141]? = some (Cond.fieldLinkNest "OddBridge$Hearing" 36 "OddBridge$Scene" "sayers" "[I" "OddBridge") := by decide +kernel
theorem w_142 : lw_tbl[142]? = some (Cond.fieldLink "OddBridge$Scene" 44 "OddBridge$Scene" "begins" "[I") := by decide +kernel
theorem w_143 : lw_tbl[143]? = some (Cond.fieldLinkNest "OddBridge$Hearing" 29 "OddBridge$Scene" "begins" "[I" "OddBridge") := by decide +kernel
theorem w_144 : lw_tbl[144]? = some (Cond.fieldLink "OddBridge$Scene" 47 "OddBridge$Scene" "ends" "[I") := by decide +kernel
theorem w_145 : lw_tbl[145]? = some (Cond.fieldLinkNest "OddBridge$Hearing" 33 "OddBridge$Scene" "ends" "[I" "OddBridge") := by decide +kernel
theorem w_146 : lw_tbl[146]? = some (Cond.fieldLink "OddBridge$Scene" 50 "OddBridge$Scene" "said" "I") := by decide +kernel
theorem w_147 : lw_tbl[147]? = some (Cond.fieldLinkNest "OddBridge$Hearing" 19 "OddBridge$Scene" "said" "I" "OddBridge") := by decide +kernel
theorem w_148 : lw_tbl[148]? = some (Cond.fieldLinkNest "OddBridge" 210 "OddBridge$Scene" "said" "I" "OddBridge") := by decide +kernel
theorem w_176 : lw_tbl[176]? = some (Cond.arrayClass Jvm.ClassFile.FieldType.int) := by decide +kernel
theorem w_177 : lw_tbl[177]? = some (Cond.arrayClass Jvm.ClassFile.FieldType.char) := by decide +kernel
theorem w_178 : lw_tbl[178]? = some (Cond.classLink "OddBridge" 26 "OddBridge$Vow") := by decide +kernel
theorem w_179 : lw_tbl[179]? = some (Cond.instantiable "OddBridge$Vow" 9) := by decide +kernel
theorem w_180 : lw_tbl[180]? = some (Cond.methodLinkNest "OddBridge" 28 ⟨"OddBridge$Vow", "<init>", "(LOddBridge$Scene;)V"⟩ "OddBridge") := by decide +kernel
theorem w_181 : lw_tbl[181]? = some (Cond.instanceMethod ⟨"OddBridge$Vow", "<init>", "(LOddBridge$Scene;)V"⟩) := by decide +kernel
theorem w_182 : lw_tbl[182]? = some (Cond.code ⟨"OddBridge$Vow", "<init>", "(LOddBridge$Scene;)V"⟩ prog_8_method_1_code 2 none) := by decide +kernel
theorem w_183 : lw_tbl[183]? = some (Cond.methodLink "OddBridge$Vow" 3 ⟨"java/lang/Object", "<init>", "()V"⟩) := by decide +kernel
theorem w_184 : lw_tbl[184]? = some (Cond.methodLink "OddBridge$Vow" 27 ⟨"OddBridge$Vow", "read", "()V"⟩) := by decide +kernel
theorem w_186 : lw_tbl[186]? = some (Cond.instanceMethod ⟨"OddBridge$Vow", "read", "()V"⟩) := by decide +kernel
theorem w_187 : lw_tbl[187]? = some (Cond.code ⟨"OddBridge$Vow", "read", "()V"⟩ prog_8_method_2_code 1 none) := by decide +kernel
theorem w_188 : lw_tbl[188]? = some (Cond.methodLink "OddBridge$Vow" 44 ⟨"OddBridge$Vow", "readValue", "(I)V"⟩) := by decide +kernel
theorem w_190 : lw_tbl[190]? = some (Cond.instanceMethod ⟨"OddBridge$Vow", "readValue", "(I)V"⟩) := by decide +kernel
theorem w_191 : lw_tbl[191]? = some (Cond.code ⟨"OddBridge$Vow", "readValue", "(I)V"⟩ prog_8_method_3_code 3 none) := by decide +kernel
theorem w_192 : lw_tbl[192]? = some (Cond.methodLink "OddBridge$Vow" 56 ⟨"OddBridge$Vow", "readBoth", "(I)V"⟩) := by decide +kernel
theorem w_194 : lw_tbl[194]? = some (Cond.instanceMethod ⟨"OddBridge$Vow", "readBoth", "(I)V"⟩) := by decide +kernel
theorem w_195 : lw_tbl[195]? = some (Cond.code ⟨"OddBridge$Vow", "readBoth", "(I)V"⟩ prog_8_method_4_code 3 none) := by decide +kernel
theorem w_196 : lw_tbl[196]? = some (Cond.methodLink "OddBridge$Vow" 69 ⟨"OddBridge$Vow", "readHeld", "(I)V"⟩) := by decide +kernel
theorem w_198 : lw_tbl[198]? = some (Cond.instanceMethod ⟨"OddBridge$Vow", "readHeld", "(I)V"⟩) := by decide +kernel
theorem w_199 : lw_tbl[199]? = some (Cond.code ⟨"OddBridge$Vow", "readHeld", "(I)V"⟩ prog_8_method_5_code 3 none) := by decide +kernel
theorem w_200 : lw_tbl[200]? = some (Cond.methodLink "OddBridge$Vow" 74 ⟨"OddBridge$Vow", "readSum", "(I)V"⟩) := by decide +kernel
theorem w_202 : lw_tbl[202]? = some (Cond.instanceMethod ⟨"OddBridge$Vow", "readSum", "(I)V"⟩) := by decide +kernel
theorem w_203 : lw_tbl[203]? = some (Cond.code ⟨"OddBridge$Vow", "readSum", "(I)V"⟩ prog_8_method_6_code 4 none) := by decide +kernel
theorem w_204 : lw_tbl[204]? = some (Cond.methodLink "OddBridge$Vow" 79 ⟨"OddBridge$Vow", "readTerm", "(I)V"⟩) := by decide +kernel
theorem w_206 : lw_tbl[206]? = some (Cond.instanceMethod ⟨"OddBridge$Vow", "readTerm", "(I)V"⟩) := by decide +kernel
theorem w_207 : lw_tbl[207]? = some (Cond.code ⟨"OddBridge$Vow", "readTerm", "(I)V"⟩ prog_8_method_7_code 4 none) := by decide +kernel
theorem w_208 : lw_tbl[208]? = some (Cond.methodLink "OddBridge$Vow" 84 ⟨"OddBridge$Vow", "readUnit", "(I)V"⟩) := by decide +kernel
theorem w_210 : lw_tbl[210]? = some (Cond.instanceMethod ⟨"OddBridge$Vow", "readUnit", "(I)V"⟩) := by decide +kernel
theorem w_211 : lw_tbl[211]? = some (Cond.code ⟨"OddBridge$Vow", "readUnit", "(I)V"⟩ prog_8_method_8_code 6 none) := by decide +kernel
theorem w_213 : lw_tbl[213]? = some (Cond.methodLink "OddBridge$Vow" 61 ⟨"OddBridge$Vow", "take", "(Ljava/lang/String;)I"⟩) := by decide +kernel
theorem w_215 : lw_tbl[215]? = some (Cond.instanceMethod ⟨"OddBridge$Vow", "take", "(Ljava/lang/String;)I"⟩) := by decide +kernel
theorem w_216 : lw_tbl[216]? = some (Cond.code ⟨"OddBridge$Vow", "take", "(Ljava/lang/String;)I"⟩ prog_8_method_15_code 3 (some .int)) := by decide +kernel
theorem w_217 : lw_tbl[217]? = some (Cond.methodLink "OddBridge$Vow" 48 ⟨"OddBridge$Vow", "nextSign", "()I"⟩) := by decide +kernel
theorem w_219 : lw_tbl[219]? = some (Cond.instanceMethod ⟨"OddBridge$Vow", "nextSign", "()I"⟩) := by decide +kernel
theorem w_220 : lw_tbl[220]? = some (Cond.code ⟨"OddBridge$Vow", "nextSign", "()I"⟩ prog_8_method_14_code 1 (some .int)) := by decide +kernel
theorem w_221 : lw_tbl[221]? = some (Cond.methodLink "OddBridge$Vow" 117 ⟨"OddBridge$Vow", "signAt", "(I)I"⟩) := by decide +kernel
theorem w_223 : lw_tbl[223]? = some (Cond.instanceMethod ⟨"OddBridge$Vow", "signAt", "(I)I"⟩) := by decide +kernel
theorem w_224 : lw_tbl[224]? = some (Cond.code ⟨"OddBridge$Vow", "signAt", "(I)I"⟩ prog_8_method_13_code 2 (some .int)) := by decide +kernel
theorem w_225 : lw_tbl[225]? = some (Cond.methodLink "OddBridge$Vow" 111 ⟨"java/lang/String", "indexOf", "(I)I"⟩) := by decide +kernel
theorem w_226 : lw_tbl[226]? = some (Cond.instanceMethod ⟨"java/lang/String", "indexOf", "(I)I"⟩) := by decide +kernel
theorem w_227 : lw_tbl[227]? = some (Cond.selects "java/lang/String" ⟨"java/lang/String", "indexOf", "(I)I"⟩ ⟨"java/lang/String", "indexOf", "(I)I"⟩) := by decide +kernel
theorem w_228 : lw_tbl[228]? = some (Cond.code ⟨"java/lang/String", "indexOf", "(I)I"⟩ prog_14_method_79_code 2 (some .int)) := by decide +kernel
theorem w_229 : lw_tbl[229]? = some (Cond.methodLink "java/lang/String" 633 ⟨"java/lang/String", "indexOf", "(II)I"⟩) := by decide +kernel
theorem w_230 : lw_tbl[230]? = some (Cond.instanceMethod ⟨"java/lang/String", "indexOf", "(II)I"⟩) := by decide +kernel
theorem w_231 : lw_tbl[231]? = some (Cond.selects "java/lang/String" ⟨"java/lang/String", "indexOf", "(II)I"⟩ ⟨"java/lang/String", "indexOf", "(II)I"⟩) := by decide +kernel
theorem w_232 : lw_tbl[232]? = some (Cond.code ⟨"java/lang/String", "indexOf", "(II)I"⟩ prog_14_method_80_code 3 (some .int)) := by decide +kernel
theorem w_233 : lw_tbl[233]? = some (Cond.methodLink "java/lang/String" 492 ⟨"java/lang/String", "isLatin1", "()Z"⟩) := by decide +kernel
theorem w_234 : lw_tbl[234]? = some (Cond.instanceMethod ⟨"java/lang/String", "isLatin1", "()Z"⟩) := by decide +kernel
theorem w_235 : lw_tbl[235]? = some (Cond.selects "java/lang/String" ⟨"java/lang/String", "isLatin1", "()Z"⟩ ⟨"java/lang/String", "isLatin1", "()Z"⟩) := by decide +kernel
theorem w_236 : lw_tbl[236]? = some (Cond.code ⟨"java/lang/String", "isLatin1", "()Z"⟩ prog_14_method_154_code 1 (some .boolean)) := by decide +kernel
theorem w_239 : lw_tbl[239]? = some (Cond.methodLink "java/lang/String" 505 ⟨"java/lang/String", "length", "()I"⟩) := by decide +kernel
theorem w_240 : lw_tbl[240]? = some (Cond.instanceMethod ⟨"java/lang/String", "length", "()I"⟩) := by decide +kernel
theorem w_241 : lw_tbl[241]? = some (Cond.selects "java/lang/String" ⟨"java/lang/String", "length", "()I"⟩ ⟨"java/lang/String", "length", "()I"⟩) := by decide +kernel
theorem w_242 : lw_tbl[242]? = some (Cond.code ⟨"java/lang/String", "length", "()I"⟩ prog_14_method_54_code 1 (some .int)) := by decide +kernel
theorem w_243 : lw_tbl[243]? = some (Cond.methodLink "java/lang/String" 335 ⟨"java/lang/String", "coder", "()B"⟩) := by decide +kernel
theorem w_244 : lw_tbl[244]? = some (Cond.instanceMethod ⟨"java/lang/String", "coder", "()B"⟩) := by decide +kernel
theorem w_245 : lw_tbl[245]? = some (Cond.selects "java/lang/String" ⟨"java/lang/String", "coder", "()B"⟩ ⟨"java/lang/String", "coder", "()B"⟩) := by decide +kernel
theorem w_246 : lw_tbl[246]? = some (Cond.code ⟨"java/lang/String", "coder", "()B"⟩ prog_14_method_152_code 1 (some .byte)) := by decide +kernel
theorem w_247 : lw_tbl[247]? = some (Cond.methodLink "java/lang/String" 637 ⟨"java/lang/StringLatin1", "indexOf", "([BIII)I"⟩) := by decide +kernel
theorem w_248 : lw_tbl[248]? = some (Cond.static ⟨"java/lang/StringLatin1", "indexOf", "([BIII)I"⟩) := by decide +kernel
theorem w_249 : lw_tbl[249]? = some (Cond.code ⟨"java/lang/StringLatin1", "indexOf", "([BIII)I"⟩ prog_15_method_22_code 4 (some .int)) := by decide +kernel
theorem w_250 : lw_tbl[250]? = some (Cond.methodLink "java/lang/StringLatin1" 88 ⟨"java/lang/StringLatin1", "canEncode", "(I)Z"⟩) := by decide +kernel
theorem w_251 : lw_tbl[251]? = some (Cond.static ⟨"java/lang/StringLatin1", "canEncode", "(I)Z"⟩) := by decide +kernel
theorem w_252 : lw_tbl[252]? = some (Cond.code ⟨"java/lang/StringLatin1", "canEncode", "(I)Z"⟩ prog_15_method_4_code 1 (some .boolean)) := by decide +kernel
theorem w_259 : lw_tbl[259]? = some (Cond.methodLink "java/lang/StringLatin1" 95 ⟨"java/lang/StringLatin1", "indexOfChar", "([BIII)I"⟩) := by decide +kernel
theorem w_260 : lw_tbl[260]? = some (Cond.static ⟨"java/lang/StringLatin1", "indexOfChar", "([BIII)I"⟩) := by decide +kernel
theorem w_261 : lw_tbl[261]? = some (Cond.code ⟨"java/lang/StringLatin1", "indexOfChar", "([BIII)I"⟩ prog_15_method_23_code 6 (some .int)) := by decide +kernel
theorem w_311 : lw_tbl[311]? = some (Cond.methodLink "OddBridge$Vow" 91 ⟨"OddBridge$Vow", "readBareUnit", "(I)V"⟩) := by decide +kernel
theorem w_313 : lw_tbl[313]? = some (Cond.instanceMethod ⟨"OddBridge$Vow", "readBareUnit", "(I)V"⟩) := by decide +kernel
theorem w_314 : lw_tbl[314]? = some (Cond.code ⟨"OddBridge$Vow", "readBareUnit", "(I)V"⟩ prog_8_method_9_code 3 none) := by decide +kernel
theorem w_315 : lw_tbl[315]? = some (Cond.methodLink "OddBridge$Vow" 99 ⟨"OddBridge$Vow", "isDigit", "(I)Z"⟩) := by decide +kernel
theorem w_316 : lw_tbl[316]? = some (Cond.static ⟨"OddBridge$Vow", "isDigit", "(I)Z"⟩) := by decide +kernel
theorem w_317 : lw_tbl[317]? = some (Cond.code ⟨"OddBridge$Vow", "isDigit", "(I)Z"⟩ prog_8_method_12_code 1 (some .boolean)) := by decide +kernel
theorem w_318 : lw_tbl[318]? = some (Cond.methodLink "OddBridge$Vow" 103 ⟨"OddBridge$Vow", "readDigits", "()V"⟩) := by decide +kernel
theorem w_320 : lw_tbl[320]? = some (Cond.instanceMethod ⟨"OddBridge$Vow", "readDigits", "()V"⟩) := by decide +kernel
theorem w_321 : lw_tbl[321]? = some (Cond.code ⟨"OddBridge$Vow", "readDigits", "()V"⟩ prog_8_method_10_code 3 none) := by decide +kernel
theorem w_322 : lw_tbl[322]? = some (Cond.methodLink "OddBridge$Vow" 52 ⟨"OddBridge$Vow", "setFlaw", "(II)V"⟩) := by decide +kernel
theorem w_324 : lw_tbl[324]? = some (Cond.instanceMethod ⟨"OddBridge$Vow", "setFlaw", "(II)V"⟩) := by decide +kernel
theorem w_325 : lw_tbl[325]? = some (Cond.code ⟨"OddBridge$Vow", "setFlaw", "(II)V"⟩ prog_8_method_16_code 3 none) := by decide +kernel
theorem w_326 : lw_tbl[326]? = some (Cond.methodLink "OddBridge$Vow" 65 ⟨"OddBridge$Vow", "addSign", "(CI)V"⟩) := by decide +kernel
theorem w_328 : lw_tbl[328]? = some (Cond.instanceMethod ⟨"OddBridge$Vow", "addSign", "(CI)V"⟩) := by decide +kernel
theorem w_329 : lw_tbl[329]? = some (Cond.code ⟨"OddBridge$Vow", "addSign", "(CI)V"⟩ prog_8_method_17_code 3 none) := by decide +kernel
theorem w_330 : lw_tbl[330]? = some (Cond.methodLink "OddBridge$Vow" 106 ⟨"OddBridge$Vow", "readOpened", "(I)V"⟩) := by decide +kernel
theorem w_332 : lw_tbl[332]? = some (Cond.instanceMethod ⟨"OddBridge$Vow", "readOpened", "(I)V"⟩) := by decide +kernel
theorem w_333 : lw_tbl[333]? = some (Cond.code ⟨"OddBridge$Vow", "readOpened", "(I)V"⟩ prog_8_method_11_code 2 none) := by decide +kernel
theorem w_341 : lw_tbl[341]? = some (Cond.fieldLink "OddBridge$Vow" 23 "OddBridge$Vow" "scene" "LOddBridge$Scene;") := by decide +kernel
theorem w_342 : lw_tbl[342]? = some (Cond.fieldLink "OddBridge$Vow" 9 "OddBridge$Vow" "signs" "[C") := by decide +kernel
theorem w_343 : lw_tbl[343]? = some (Cond.fieldLink "OddBridge$Vow" 15 "OddBridge$Vow" "numbers" "[I") := by decide +kernel
theorem w_344 : lw_tbl[344]? = some (Cond.fieldLink "OddBridge$Vow" 34 "OddBridge$Vow" "length" "I") := by decide +kernel
theorem w_345 : lw_tbl[345]? = some (Cond.fieldLink "OddBridge$Vow" 19 "OddBridge$Vow" "stack" "[J") := by decide +kernel
theorem w_346 : lw_tbl[346]? = some (Cond.fieldLink "OddBridge$Vow" 125 "OddBridge$Vow" "top" "I") := by decide +kernel
theorem w_347 : lw_tbl[347]? = some (Cond.fieldLink "OddBridge$Vow" 30 "OddBridge$Vow" "place" "I") := by decide +kernel
theorem w_348 : lw_tbl[348]? = some (Cond.fieldLink "OddBridge$Vow" 37 "OddBridge$Vow" "flaw" "I") := by decide +kernel
theorem w_349 : lw_tbl[349]? = some (Cond.fieldLinkNest "OddBridge" 125 "OddBridge$Vow" "flaw" "I" "OddBridge") := by decide +kernel
theorem w_350 : lw_tbl[350]? = some (Cond.fieldLink "OddBridge$Vow" 40 "OddBridge$Vow" "namesMinute" "Z") := by decide +kernel
theorem w_351 : lw_tbl[351]? = some (Cond.fieldLinkNest "OddBridge$Judge" 40 "OddBridge$Vow" "namesMinute" "Z" "OddBridge") := by decide +kernel
theorem w_371 : lw_tbl[371]? = some (Cond.arrayClass Jvm.ClassFile.FieldType.boolean) := by decide +kernel
theorem w_372 : lw_tbl[372]? = some (Cond.arrayClass Jvm.ClassFile.FieldType.long) := by decide +kernel
theorem w_374 : lw_tbl[374]? = some (Cond.classLink "OddBridge" 35 "OddBridge$Judge") := by decide +kernel
theorem w_375 : lw_tbl[375]? = some (Cond.instantiable "OddBridge$Judge" 6) := by decide +kernel
theorem w_376 : lw_tbl[376]? = some (Cond.methodLinkNest "OddBridge" 37 ⟨"OddBridge$Judge", "<init>", "(LOddBridge$Scene;LOddBridge$Vow;)V"⟩ "OddBridge") := by decide +kernel
theorem w_377 : lw_tbl[377]? = some (Cond.instanceMethod ⟨"OddBridge$Judge", "<init>", "(LOddBridge$Scene;LOddBridge$Vow;)V"⟩) := by decide +kernel
theorem w_378 : lw_tbl[378]? = some (Cond.code ⟨"OddBridge$Judge", "<init>", "(LOddBridge$Scene;LOddBridge$Vow;)V"⟩ prog_6_method_1_code 3 none) := by decide +kernel
theorem w_379 : lw_tbl[379]? = some (Cond.methodLink "OddBridge$Judge" 3 ⟨"java/lang/Object", "<init>", "()V"⟩) := by decide +kernel
theorem w_380 : lw_tbl[380]? = some (Cond.fieldLink "OddBridge$Judge" 26 "OddBridge$Judge" "scene" "LOddBridge$Scene;") := by decide +kernel
theorem w_381 : lw_tbl[381]? = some (Cond.fieldLink "OddBridge$Judge" 30 "OddBridge$Judge" "vow" "LOddBridge$Vow;") := by decide +kernel
theorem w_382 : lw_tbl[382]? = some (Cond.fieldLink "OddBridge$Judge" 9 "OddBridge$Judge" "brought" "[I") := by decide +kernel
theorem w_383 : lw_tbl[383]? = some (Cond.fieldLink "OddBridge$Judge" 15 "OddBridge$Judge" "asked" "[J") := by decide +kernel
theorem w_384 : lw_tbl[384]? = some (Cond.fieldLink "OddBridge$Judge" 19 "OddBridge$Judge" "found" "[J") := by decide +kernel
theorem w_385 : lw_tbl[385]? = some (Cond.fieldLink "OddBridge$Judge" 22 "OddBridge$Judge" "stale" "Z") := by decide +kernel
theorem w_386 : lw_tbl[386]? = some (Cond.fieldLinkNest "OddBridge" 253 "OddBridge$Judge" "stale" "Z" "OddBridge") := by decide +kernel
theorem w_400 : lw_tbl[400]? = some (Cond.classLink "OddBridge" 44 "OddBridge$Feast") := by decide +kernel
theorem w_401 : lw_tbl[401]? = some (Cond.instantiable "OddBridge$Feast" 9) := by decide +kernel
theorem w_402 : lw_tbl[402]? = some (Cond.methodLinkNest "OddBridge" 46 ⟨"OddBridge$Feast", "<init>", "(LOddBridge$Scene;LOddBridge$Judge;)V"⟩ "OddBridge") := by decide +kernel
theorem w_403 : lw_tbl[403]? = some (Cond.instanceMethod ⟨"OddBridge$Feast", "<init>", "(LOddBridge$Scene;LOddBridge$Judge;)V"⟩) := by decide +kernel
theorem w_404 : lw_tbl[404]? = some (Cond.code ⟨"OddBridge$Feast", "<init>", "(LOddBridge$Scene;LOddBridge$Judge;)V"⟩ prog_3_method_1_code 3 none) := by decide +kernel
theorem w_405 : lw_tbl[405]? = some (Cond.methodLink "OddBridge$Feast" 3 ⟨"java/lang/Object", "<init>", "()V"⟩) := by decide +kernel
theorem w_406 : lw_tbl[406]? = some (Cond.fieldLink "OddBridge$Feast" 25 "OddBridge$Feast" "scene" "LOddBridge$Scene;") := by decide +kernel
theorem w_407 : lw_tbl[407]? = some (Cond.fieldLink "OddBridge$Feast" 29 "OddBridge$Feast" "judge" "LOddBridge$Judge;") := by decide +kernel
theorem w_408 : lw_tbl[408]? = some (Cond.fieldLink "OddBridge$Feast" 9 "OddBridge$Feast" "behind" "[I") := by decide +kernel
theorem w_409 : lw_tbl[409]? = some (Cond.fieldLinkNest "OddBridge" 142 "OddBridge$Feast" "behind" "[I" "OddBridge") := by decide +kernel
theorem w_410 : lw_tbl[410]? = some (Cond.fieldLink "OddBridge$Feast" 15 "OddBridge$Feast" "cameOn" "[I") := by decide +kernel
theorem w_411 : lw_tbl[411]? = some (Cond.fieldLinkNest "OddBridge" 149 "OddBridge$Feast" "cameOn" "[I" "OddBridge") := by decide +kernel
theorem w_412 : lw_tbl[412]? = some (Cond.fieldLink "OddBridge$Feast" 18 "OddBridge$Feast" "wentOff" "[I") := by decide +kernel
theorem w_413 : lw_tbl[413]? = some (Cond.fieldLinkNest "OddBridge" 152 "OddBridge$Feast" "wentOff" "[I" "OddBridge") := by decide +kernel
theorem w_414 : lw_tbl[414]? = some (Cond.fieldLink "OddBridge$Feast" 33 "OddBridge$Feast" "present" "I") := by decide +kernel
theorem w_415 : lw_tbl[415]? = some (Cond.fieldLink "OddBridge$Feast" 37 "OddBridge$Feast" "faults" "I") := by decide +kernel
theorem w_416 : lw_tbl[416]? = some (Cond.fieldLinkNest "OddBridge" 155 "OddBridge$Feast" "faults" "I" "OddBridge") := by decide +kernel
theorem w_417 : lw_tbl[417]? = some (Cond.fieldLink "OddBridge$Feast" 40 "OddBridge$Feast" "firstFault" "I") := by decide +kernel
theorem w_418 : lw_tbl[418]? = some (Cond.fieldLinkNest "OddBridge" 158 "OddBridge$Feast" "firstFault" "I" "OddBridge") := by decide +kernel
theorem w_419 : lw_tbl[419]? = some (Cond.fieldLink "OddBridge$Feast" 21 "OddBridge$Feast" "known" "Z") := by decide +kernel
theorem w_420 : lw_tbl[420]? = some (Cond.fieldLinkNest "OddBridge" 107 "OddBridge$Feast" "known" "Z" "OddBridge") := by decide +kernel
theorem w_440 : lw_tbl[440]? = some (Cond.classLink "OddBridge" 53 "OddBridge$Crossing") := by decide +kernel
theorem w_441 : lw_tbl[441]? = some (Cond.instantiable "OddBridge$Crossing" 15) := by decide +kernel
theorem w_442 : lw_tbl[442]? = some (Cond.methodLinkNest "OddBridge" 55 ⟨"OddBridge$Crossing", "<init>", "(LOddBridge$Scene;LOddBridge$Judge;)V"⟩ "OddBridge") := by decide +kernel
theorem w_443 : lw_tbl[443]? = some (Cond.instanceMethod ⟨"OddBridge$Crossing", "<init>", "(LOddBridge$Scene;LOddBridge$Judge;)V"⟩) := by decide +kernel
theorem w_444 : lw_tbl[444]? = some (Cond.code ⟨"OddBridge$Crossing", "<init>", "(LOddBridge$Scene;LOddBridge$Judge;)V"⟩ prog_2_method_1_code 3 none) := by decide +kernel
theorem w_445 : lw_tbl[445]? = some (Cond.methodLink "OddBridge$Crossing" 3 ⟨"java/lang/Object", "<init>", "()V"⟩) := by decide +kernel
theorem w_446 : lw_tbl[446]? = some (Cond.fieldLink "OddBridge$Crossing" 37 "OddBridge$Crossing" "scene" "LOddBridge$Scene;") := by decide +kernel
theorem w_447 : lw_tbl[447]? = some (Cond.fieldLink "OddBridge$Crossing" 41 "OddBridge$Crossing" "judge" "LOddBridge$Judge;") := by decide +kernel
theorem w_448 : lw_tbl[448]? = some (Cond.fieldLink "OddBridge$Crossing" 9 "OddBridge$Crossing" "beggars" "[I") := by decide +kernel
theorem w_449 : lw_tbl[449]? = some (Cond.fieldLink "OddBridge$Crossing" 15 "OddBridge$Crossing" "lasts" "[I") := by decide +kernel
theorem w_450 : lw_tbl[450]? = some (Cond.fieldLink "OddBridge$Crossing" 18 "OddBridge$Crossing" "minutes" "[I") := by decide +kernel
theorem w_451 : lw_tbl[451]? = some (Cond.fieldLink "OddBridge$Crossing" 21 "OddBridge$Crossing" "pays" "[I") := by decide +kernel
theorem w_452 : lw_tbl[452]? = some (Cond.fieldLink "OddBridge$Crossing" 24 "OddBridge$Crossing" "firsts" "[I") := by decide +kernel
theorem w_453 : lw_tbl[453]? = some (Cond.fieldLink "OddBridge$Crossing" 27 "OddBridge$Crossing" "leastPays" "[I") := by decide +kernel
theorem w_454 : lw_tbl[454]? = some (Cond.fieldLink "OddBridge$Crossing" 30 "OddBridge$Crossing" "row" "[I") := by decide +kernel
theorem w_455 : lw_tbl[455]? = some (Cond.fieldLinkNest "OddBridge" 182 "OddBridge$Crossing" "row" "[I" "OddBridge") := by decide +kernel
theorem w_456 : lw_tbl[456]? = some (Cond.fieldLink "OddBridge$Crossing" 70 "OddBridge$Crossing" "companies" "I") := by decide +kernel
theorem w_457 : lw_tbl[457]? = some (Cond.fieldLinkNest "OddBridge" 173 "OddBridge$Crossing" "companies" "I" "OddBridge") := by decide +kernel
theorem w_458 : lw_tbl[458]? = some (Cond.fieldLink "OddBridge$Crossing" 58 "OddBridge$Crossing" "hasRow" "Z") := by decide +kernel
theorem w_459 : lw_tbl[459]? = some (Cond.fieldLinkNest "OddBridge" 170 "OddBridge$Crossing" "hasRow" "Z" "OddBridge") := by decide +kernel
theorem w_460 : lw_tbl[460]? = some (Cond.fieldLink "OddBridge$Crossing" 61 "OddBridge$Crossing" "leastMinutes" "I") := by decide +kernel
theorem w_461 : lw_tbl[461]? = some (Cond.fieldLinkNest "OddBridge" 164 "OddBridge$Crossing" "leastMinutes" "I" "OddBridge") := by decide +kernel
theorem w_462 : lw_tbl[462]? = some (Cond.fieldLink "OddBridge$Crossing" 64 "OddBridge$Crossing" "payOfRow" "I") := by decide +kernel
theorem w_463 : lw_tbl[463]? = some (Cond.fieldLinkNest "OddBridge" 167 "OddBridge$Crossing" "payOfRow" "I" "OddBridge") := by decide +kernel
theorem w_464 : lw_tbl[464]? = some (Cond.fieldLink "OddBridge$Crossing" 67 "OddBridge$Crossing" "leastPay" "I") := by decide +kernel
theorem w_465 : lw_tbl[465]? = some (Cond.fieldLinkNest "OddBridge" 176 "OddBridge$Crossing" "leastPay" "I" "OddBridge") := by decide +kernel
theorem w_466 : lw_tbl[466]? = some (Cond.fieldLink "OddBridge$Crossing" 33 "OddBridge$Crossing" "known" "Z") := by decide +kernel
theorem w_467 : lw_tbl[467]? = some (Cond.fieldLinkNest "OddBridge" 114 "OddBridge$Crossing" "known" "Z" "OddBridge") := by decide +kernel
theorem w_499 : lw_tbl[499]? = some (Cond.classLink "OddBridge" 60 "OddBridge$Hearing") := by decide +kernel
theorem w_500 : lw_tbl[500]? = some (Cond.instantiable "OddBridge$Hearing" 2) := by decide +kernel
theorem w_501 : lw_tbl[501]? = some (Cond.methodLinkNest "OddBridge" 62 ⟨"OddBridge$Hearing", "<init>", "(LOddBridge$Scene;LOddBridge$Judge;)V"⟩ "OddBridge") := by decide +kernel
theorem w_502 : lw_tbl[502]? = some (Cond.instanceMethod ⟨"OddBridge$Hearing", "<init>", "(LOddBridge$Scene;LOddBridge$Judge;)V"⟩) := by decide +kernel
theorem w_503 : lw_tbl[503]? = some (Cond.code ⟨"OddBridge$Hearing", "<init>", "(LOddBridge$Scene;LOddBridge$Judge;)V"⟩ prog_5_method_1_code 3 none) := by decide +kernel
theorem w_504 : lw_tbl[504]? = some (Cond.methodLink "OddBridge$Hearing" 3 ⟨"java/lang/Object", "<init>", "()V"⟩) := by decide +kernel
theorem w_505 : lw_tbl[505]? = some (Cond.fieldLink "OddBridge$Hearing" 9 "OddBridge$Hearing" "scene" "LOddBridge$Scene;") := by decide +kernel
theorem w_506 : lw_tbl[506]? = some (Cond.fieldLink "OddBridge$Hearing" 15 "OddBridge$Hearing" "judge" "LOddBridge$Judge;") := by decide +kernel
theorem w_512 : lw_tbl[512]? = some (Cond.classLink "OddBridge" 67 "OddBridge$Fraction") := by decide +kernel
theorem w_513 : lw_tbl[513]? = some (Cond.instantiable "OddBridge$Fraction" 2) := by decide +kernel
theorem w_514 : lw_tbl[514]? = some (Cond.methodLinkNest "OddBridge" 69 ⟨"OddBridge$Fraction", "<init>", "()V"⟩ "OddBridge") := by decide +kernel
theorem w_515 : lw_tbl[515]? = some (Cond.instanceMethod ⟨"OddBridge$Fraction", "<init>", "()V"⟩) := by decide +kernel
theorem w_516 : lw_tbl[516]? = some (Cond.code ⟨"OddBridge$Fraction", "<init>", "()V"⟩ prog_4_method_1_code 1 none) := by decide +kernel
theorem w_517 : lw_tbl[517]? = some (Cond.methodLink "OddBridge$Fraction" 1 ⟨"java/lang/Object", "<init>", "()V"⟩) := by decide +kernel
theorem w_518 : lw_tbl[518]? = some (Cond.fieldLink "OddBridge$Fraction" 7 "OddBridge$Fraction" "above" "J") := by decide +kernel
theorem w_519 : lw_tbl[519]? = some (Cond.fieldLinkNest "OddBridge" 226 "OddBridge$Fraction" "above" "J" "OddBridge") := by decide +kernel
theorem w_520 : lw_tbl[520]? = some (Cond.fieldLink "OddBridge$Fraction" 13 "OddBridge$Fraction" "below" "J") := by decide +kernel
theorem w_521 : lw_tbl[521]? = some (Cond.fieldLinkNest "OddBridge" 230 "OddBridge$Fraction" "below" "J" "OddBridge") := by decide +kernel
theorem w_527 : lw_tbl[527]? = some (Cond.fieldLink "OddBridge" 10 "OddBridge" "scene" "LOddBridge$Scene;") := by decide +kernel
theorem w_528 : lw_tbl[528]? = some (Cond.fieldLink "OddBridge" 16 "OddBridge" "firstImage" "LOddBridge$Scene;") := by decide +kernel
theorem w_529 : lw_tbl[529]? = some (Cond.fieldLink "OddBridge" 19 "OddBridge" "secondImage" "LOddBridge$Scene;") := by decide +kernel
theorem w_530 : lw_tbl[530]? = some (Cond.fieldLink "OddBridge" 22 "OddBridge" "kept" "[Z") := by decide +kernel
theorem w_531 : lw_tbl[531]? = some (Cond.fieldLink "OddBridge" 31 "OddBridge" "vow" "LOddBridge$Vow;") := by decide +kernel
theorem w_532 : lw_tbl[532]? = some (Cond.fieldLink "OddBridge" 40 "OddBridge" "judge" "LOddBridge$Judge;") := by decide +kernel
theorem w_533 : lw_tbl[533]? = some (Cond.fieldLink "OddBridge" 49 "OddBridge" "feast" "LOddBridge$Feast;") := by decide +kernel
theorem w_534 : lw_tbl[534]? = some (Cond.fieldLink "OddBridge" 56 "OddBridge" "crossing" "LOddBridge$Crossing;") := by decide +kernel
theorem w_535 : lw_tbl[535]? = some (Cond.fieldLink "OddBridge" 63 "OddBridge" "hearing" "LOddBridge$Hearing;") := by decide +kernel
theorem w_536 : lw_tbl[536]? = some (Cond.fieldLink "OddBridge" 70 "OddBridge" "fraction" "LOddBridge$Fraction;") := by decide +kernel
theorem w_537 : lw_tbl[537]? = some (Cond.fieldLink "OddBridge" 74 "OddBridge" "stops" "[J") := by decide +kernel
theorem w_538 : lw_tbl[538]? = some (Cond.fieldLink "OddBridge" 78 "OddBridge" "ways" "[I") := by decide +kernel
theorem w_539 : lw_tbl[539]? = some (Cond.fieldLink "OddBridge" 179 "OddBridge" "refusedBad" "I") := by decide +kernel
theorem w_540 : lw_tbl[540]? = some (Cond.fieldLink "OddBridge" 239 "OddBridge" "refusedNo" "I") := by decide +kernel
theorem w_541 : lw_tbl[541]? = some (Cond.fieldLink "OddBridge" 242 "OddBridge" "refusedFull" "I") := by decide +kernel
theorem w_573 : lw_tbl[573]? = some (Cond.methodLink "OddBridgeLaw" 13 ⟨"OddBridge", "walker", "(III)I"⟩) := by decide +kernel
theorem w_574 : lw_tbl[574]? = some (Cond.instanceMethod ⟨"OddBridge", "walker", "(III)I"⟩) := by decide +kernel
theorem w_575 : lw_tbl[575]? = some (Cond.selects "OddBridge" ⟨"OddBridge", "walker", "(III)I"⟩ ⟨"OddBridge", "walker", "(III)I"⟩) := by decide +kernel
theorem w_576 : lw_tbl[576]? = some (Cond.code ⟨"OddBridge", "walker", "(III)I"⟩ prog_1_method_2_code 5 (some .int)) := by decide +kernel
theorem w_577 : lw_tbl[577]? = some (Cond.methodLink "OddBridge" 82 ⟨"OddBridge", "isWithin", "(III)Z"⟩) := by decide +kernel
theorem w_578 : lw_tbl[578]? = some (Cond.static ⟨"OddBridge", "isWithin", "(III)Z"⟩) := by decide +kernel
theorem w_579 : lw_tbl[579]? = some (Cond.code ⟨"OddBridge", "isWithin", "(III)Z"⟩ prog_1_method_31_code 3 (some .boolean)) := by decide +kernel
theorem w_580 : lw_tbl[580]? = some (Cond.methodLink "OddBridge" 86 ⟨"OddBridge", "refuseAsBad", "()I"⟩) := by decide +kernel
theorem w_582 : lw_tbl[582]? = some (Cond.instanceMethod ⟨"OddBridge", "refuseAsBad", "()I"⟩) := by decide +kernel
theorem w_583 : lw_tbl[583]? = some (Cond.code ⟨"OddBridge", "refuseAsBad", "()I"⟩ prog_1_method_28_code 1 (some .int)) := by decide +kernel
theorem w_584 : lw_tbl[584]? = some (Cond.methodLink "OddBridge" 94 ⟨"OddBridge", "refuseAsFull", "()I"⟩) := by decide +kernel
theorem w_586 : lw_tbl[586]? = some (Cond.instanceMethod ⟨"OddBridge", "refuseAsFull", "()I"⟩) := by decide +kernel
theorem w_587 : lw_tbl[587]? = some (Cond.code ⟨"OddBridge", "refuseAsFull", "()I"⟩ prog_1_method_30_code 1 (some .int)) := by decide +kernel
theorem w_588 : lw_tbl[588]? = some (Cond.methodLinkNest "OddBridge" 97 ⟨"OddBridge$Scene", "addWalker", "(III)V"⟩ "OddBridge") := by decide +kernel
theorem w_590 : lw_tbl[590]? = some (Cond.instanceMethod ⟨"OddBridge$Scene", "addWalker", "(III)V"⟩) := by decide +kernel
theorem w_591 : lw_tbl[591]? = some (Cond.code ⟨"OddBridge$Scene", "addWalker", "(III)V"⟩ prog_7_method_2_code 4 none) := by decide +kernel
theorem w_592 : lw_tbl[592]? = some (Cond.methodLink "OddBridge" 101 ⟨"OddBridge", "forgetWhatFollows", "()V"⟩) := by decide +kernel
theorem w_594 : lw_tbl[594]? = some (Cond.instanceMethod ⟨"OddBridge", "forgetWhatFollows", "()V"⟩) := by decide +kernel
theorem w_595 : lw_tbl[595]? = some (Cond.code ⟨"OddBridge", "forgetWhatFollows", "()V"⟩ prog_1_method_36_code 1 none) := by decide +kernel
theorem w_596 : lw_tbl[596]? = some (Cond.methodLink "OddBridgeLaw" 18 ⟨"OddBridge", "put", "(II)I"⟩) := by decide +kernel
theorem w_597 : lw_tbl[597]? = some (Cond.instanceMethod ⟨"OddBridge", "put", "(II)I"⟩) := by decide +kernel
theorem w_598 : lw_tbl[598]? = some (Cond.selects "OddBridge" ⟨"OddBridge", "put", "(II)I"⟩ ⟨"OddBridge", "put", "(II)I"⟩) := by decide +kernel
theorem w_599 : lw_tbl[599]? = some (Cond.code ⟨"OddBridge", "put", "(II)I"⟩ prog_1_method_3_code 4 (some .int)) := by decide +kernel
theorem w_600 : lw_tbl[600]? = some (Cond.methodLink "OddBridgeLaw" 23 ⟨"OddBridge", "write", "(I)I"⟩) := by decide +kernel
theorem w_601 : lw_tbl[601]? = some (Cond.instanceMethod ⟨"OddBridge", "write", "(I)I"⟩) := by decide +kernel
theorem w_602 : lw_tbl[602]? = some (Cond.selects "OddBridge" ⟨"OddBridge", "write", "(I)I"⟩ ⟨"OddBridge", "write", "(I)I"⟩) := by decide +kernel
theorem w_603 : lw_tbl[603]? = some (Cond.code ⟨"OddBridge", "write", "(I)I"⟩ prog_1_method_4_code 2 (some .int)) := by decide +kernel
theorem w_604 : lw_tbl[604]? = some (Cond.methodLinkNest "OddBridge" 118 ⟨"OddBridge$Scene", "addLetter", "(C)V"⟩ "OddBridge") := by decide +kernel
theorem w_606 : lw_tbl[606]? = some (Cond.instanceMethod ⟨"OddBridge$Scene", "addLetter", "(C)V"⟩) := by decide +kernel
theorem w_607 : lw_tbl[607]? = some (Cond.code ⟨"OddBridge$Scene", "addLetter", "(C)V"⟩ prog_7_method_3_code 2 none) := by decide +kernel
theorem w_608 : lw_tbl[608]? = some (Cond.methodLinkNest "OddBridge" 122 ⟨"OddBridge$Vow", "read", "()V"⟩ "OddBridge") := by decide +kernel
theorem w_609 : lw_tbl[609]? = some (Cond.methodLink "OddBridgeLaw" 28 ⟨"OddBridge", "erase", "()I"⟩) := by decide +kernel
theorem w_610 : lw_tbl[610]? = some (Cond.instanceMethod ⟨"OddBridge", "erase", "()I"⟩) := by decide +kernel
theorem w_611 : lw_tbl[611]? = some (Cond.selects "OddBridge" ⟨"OddBridge", "erase", "()I"⟩ ⟨"OddBridge", "erase", "()I"⟩) := by decide +kernel
theorem w_612 : lw_tbl[612]? = some (Cond.code ⟨"OddBridge", "erase", "()I"⟩ prog_1_method_5_code 2 (some .int)) := by decide +kernel
theorem w_613 : lw_tbl[613]? = some (Cond.methodLink "OddBridgeLaw" 33 ⟨"OddBridge", "fault", "()I"⟩) := by decide +kernel
theorem w_614 : lw_tbl[614]? = some (Cond.instanceMethod ⟨"OddBridge", "fault", "()I"⟩) := by decide +kernel
theorem w_615 : lw_tbl[615]? = some (Cond.selects "OddBridge" ⟨"OddBridge", "fault", "()I"⟩ ⟨"OddBridge", "fault", "()I"⟩) := by decide +kernel
theorem w_616 : lw_tbl[616]? = some (Cond.code ⟨"OddBridge", "fault", "()I"⟩ prog_1_method_6_code 1 (some .int)) := by decide +kernel
theorem w_617 : lw_tbl[617]? = some (Cond.methodLink "OddBridgeLaw" 37 ⟨"OddBridge", "brings", "(II)I"⟩) := by decide +kernel
theorem w_618 : lw_tbl[618]? = some (Cond.instanceMethod ⟨"OddBridge", "brings", "(II)I"⟩) := by decide +kernel
theorem w_619 : lw_tbl[619]? = some (Cond.selects "OddBridge" ⟨"OddBridge", "brings", "(II)I"⟩ ⟨"OddBridge", "brings", "(II)I"⟩) := by decide +kernel
theorem w_620 : lw_tbl[620]? = some (Cond.code ⟨"OddBridge", "brings", "(II)I"⟩ prog_1_method_7_code 3 (some .int)) := by decide +kernel
theorem w_621 : lw_tbl[621]? = some (Cond.methodLink "OddBridge" 128 ⟨"OddBridge", "isSetOf", "(II)Z"⟩) := by decide +kernel
theorem w_622 : lw_tbl[622]? = some (Cond.static ⟨"OddBridge", "isSetOf", "(II)Z"⟩) := by decide +kernel
theorem w_623 : lw_tbl[623]? = some (Cond.code ⟨"OddBridge", "isSetOf", "(II)Z"⟩ prog_1_method_32_code 2 (some .boolean)) := by decide +kernel
theorem w_624 : lw_tbl[624]? = some (Cond.methodLinkNest "OddBridge" 132 ⟨"OddBridge$Scene", "sumBrought", "(II)I"⟩ "OddBridge") := by decide +kernel
theorem w_626 : lw_tbl[626]? = some (Cond.instanceMethod ⟨"OddBridge$Scene", "sumBrought", "(II)I"⟩) := by decide +kernel
theorem w_627 : lw_tbl[627]? = some (Cond.code ⟨"OddBridge$Scene", "sumBrought", "(II)I"⟩ prog_7_method_6_code 6 (some .int)) := by decide +kernel
theorem w_628 : lw_tbl[628]? = some (Cond.methodLinkNest "OddBridge$Scene" 59 ⟨"OddBridge", "holds", "(II)Z"⟩ "OddBridge") := by decide +kernel
theorem w_629 : lw_tbl[629]? = some (Cond.static ⟨"OddBridge", "holds", "(II)Z"⟩) := by decide +kernel
theorem w_630 : lw_tbl[630]? = some (Cond.code ⟨"OddBridge", "holds", "(II)Z"⟩ prog_1_method_33_code 2 (some .boolean)) := by decide +kernel
theorem w_631 : lw_tbl[631]? = some (Cond.fieldLinkNest "OddBridge$Scene" 63 "OddBridge" "BROUGHT" "[I" "OddBridge") := by decide +kernel
theorem w_633 : lw_tbl[633]? = some (Cond.methodLink "OddBridgeLaw" 41 ⟨"OddBridge", "well", "(II)I"⟩) := by decide +kernel
theorem w_634 : lw_tbl[634]? = some (Cond.instanceMethod ⟨"OddBridge", "well", "(II)I"⟩) := by decide +kernel
theorem w_635 : lw_tbl[635]? = some (Cond.selects "OddBridge" ⟨"OddBridge", "well", "(II)I"⟩ ⟨"OddBridge", "well", "(II)I"⟩) := by decide +kernel
theorem w_636 : lw_tbl[636]? = some (Cond.code ⟨"OddBridge", "well", "(II)I"⟩ prog_1_method_8_code 3 (some .int)) := by decide +kernel
theorem w_637 : lw_tbl[637]? = some (Cond.methodLinkNest "OddBridge" 136 ⟨"OddBridge$Judge", "isWell", "(II)Z"⟩ "OddBridge") := by decide +kernel
theorem w_639 : lw_tbl[639]? = some (Cond.instanceMethod ⟨"OddBridge$Judge", "isWell", "(II)Z"⟩) := by decide +kernel
theorem w_640 : lw_tbl[640]? = some (Cond.code ⟨"OddBridge$Judge", "isWell", "(II)Z"⟩ prog_6_method_2_code 7 (some .boolean)) := by decide +kernel
theorem w_641 : lw_tbl[641]? = some (Cond.methodLink "OddBridge$Judge" 34 ⟨"java/util/Arrays", "fill", "([JJ)V"⟩) := by decide +kernel
theorem w_642 : lw_tbl[642]? = some (Cond.static ⟨"java/util/Arrays", "fill", "([JJ)V"⟩) := by decide +kernel
theorem w_643 : lw_tbl[643]? = some (Cond.code ⟨"java/util/Arrays", "fill", "([JJ)V"⟩ prog_18_method_101_code 5 none) := by decide +kernel
theorem w_644 : lw_tbl[644]? = some (Cond.methodLink "OddBridge$Judge" 45 ⟨"OddBridge$Judge", "isOdd", "(III)Z"⟩) := by decide +kernel
theorem w_646 : lw_tbl[646]? = some (Cond.instanceMethod ⟨"OddBridge$Judge", "isOdd", "(III)Z"⟩) := by decide +kernel
theorem w_647 : lw_tbl[647]? = some (Cond.code ⟨"OddBridge$Judge", "isOdd", "(III)Z"⟩ prog_6_method_3_code 5 (some .boolean)) := by decide +kernel
theorem w_648 : lw_tbl[648]? = some (Cond.methodLinkNest "OddBridge$Judge" 51 ⟨"OddBridge$Scene", "sumBrought", "(II)I"⟩ "OddBridge") := by decide +kernel
theorem w_649 : lw_tbl[649]? = some (Cond.methodLinkNest "OddBridge$Judge" 57 ⟨"OddBridge$Vow", "value", "([II)J"⟩ "OddBridge") := by decide +kernel
theorem w_651 : lw_tbl[651]? = some (Cond.instanceMethod ⟨"OddBridge$Vow", "value", "([II)J"⟩) := by decide +kernel
theorem w_652 : lw_tbl[652]? = some (Cond.code ⟨"OddBridge$Vow", "value", "([II)J"⟩ prog_8_method_18_code 8 (some .long)) := by decide +kernel
theorem w_653 : lw_tbl[653]? = some (Cond.methodLink "OddBridge$Vow" 128 ⟨"OddBridge$Vow", "push", "(J)V"⟩) := by decide +kernel
theorem w_655 : lw_tbl[655]? = some (Cond.instanceMethod ⟨"OddBridge$Vow", "push", "(J)V"⟩) := by decide +kernel
theorem w_656 : lw_tbl[656]? = some (Cond.code ⟨"OddBridge$Vow", "push", "(J)V"⟩ prog_8_method_19_code 3 none) := by decide +kernel
theorem w_657 : lw_tbl[657]? = some (Cond.methodLink "OddBridge$Vow" 132 ⟨"OddBridge$Vow", "pop", "()J"⟩) := by decide +kernel
theorem w_659 : lw_tbl[659]? = some (Cond.instanceMethod ⟨"OddBridge$Vow", "pop", "()J"⟩) := by decide +kernel
theorem w_660 : lw_tbl[660]? = some (Cond.code ⟨"OddBridge$Vow", "pop", "()J"⟩ prog_8_method_20_code 1 (some .long)) := by decide +kernel
theorem w_661 : lw_tbl[661]? = some (Cond.methodLink "OddBridge$Vow" 136 ⟨"OddBridge$Vow", "work", "(CJJ)J"⟩) := by decide +kernel
theorem w_662 : lw_tbl[662]? = some (Cond.static ⟨"OddBridge$Vow", "work", "(CJJ)J"⟩) := by decide +kernel
theorem w_663 : lw_tbl[663]? = some (Cond.code ⟨"OddBridge$Vow", "work", "(CJJ)J"⟩ prog_8_method_21_code 5 (some .long)) := by decide +kernel
theorem w_664 : lw_tbl[664]? = some (Cond.constantLong "OddBridge$Judge" 49 (-1 : Int64)) := by decide +kernel
theorem w_665 : lw_tbl[665]? = some (Cond.methodLink "OddBridgeLaw" 45 ⟨"OddBridge", "on", "(I)I"⟩) := by decide +kernel
theorem w_666 : lw_tbl[666]? = some (Cond.instanceMethod ⟨"OddBridge", "on", "(I)I"⟩) := by decide +kernel
theorem w_667 : lw_tbl[667]? = some (Cond.selects "OddBridge" ⟨"OddBridge", "on", "(I)I"⟩ ⟨"OddBridge", "on", "(I)I"⟩) := by decide +kernel
theorem w_668 : lw_tbl[668]? = some (Cond.code ⟨"OddBridge", "on", "(I)I"⟩ prog_1_method_9_code 2 (some .int)) := by decide +kernel
theorem w_669 : lw_tbl[669]? = some (Cond.methodLinkNest "OddBridge" 139 ⟨"OddBridge$Feast", "goThrough", "()V"⟩ "OddBridge") := by decide +kernel
theorem w_671 : lw_tbl[671]? = some (Cond.instanceMethod ⟨"OddBridge$Feast", "goThrough", "()V"⟩) := by decide +kernel
theorem w_672 : lw_tbl[672]? = some (Cond.code ⟨"OddBridge$Feast", "goThrough", "()V"⟩ prog_3_method_2_code 3 none) := by decide +kernel
theorem w_673 : lw_tbl[673]? = some (Cond.methodLink "OddBridge$Feast" 43 ⟨"java/util/Arrays", "fill", "([II)V"⟩) := by decide +kernel
theorem w_674 : lw_tbl[674]? = some (Cond.static ⟨"java/util/Arrays", "fill", "([II)V"⟩) := by decide +kernel
theorem w_675 : lw_tbl[675]? = some (Cond.code ⟨"java/util/Arrays", "fill", "([II)V"⟩ prog_18_method_103_code 4 none) := by decide +kernel
theorem w_676 : lw_tbl[676]? = some (Cond.methodLink "OddBridge$Feast" 49 ⟨"OddBridge$Feast", "bestSteps", "(I)I"⟩) := by decide +kernel
theorem w_678 : lw_tbl[678]? = some (Cond.instanceMethod ⟨"OddBridge$Feast", "bestSteps", "(I)I"⟩) := by decide +kernel
theorem w_679 : lw_tbl[679]? = some (Cond.code ⟨"OddBridge$Feast", "bestSteps", "(I)I"⟩ prog_3_method_3_code 9 (some .int)) := by decide +kernel
theorem w_680 : lw_tbl[680]? = some (Cond.methodLink "OddBridge$Feast" 57 ⟨"OddBridge$Feast", "mayStep", "(I)I"⟩) := by decide +kernel
theorem w_682 : lw_tbl[682]? = some (Cond.instanceMethod ⟨"OddBridge$Feast", "mayStep", "(I)I"⟩) := by decide +kernel
theorem w_683 : lw_tbl[683]? = some (Cond.code ⟨"OddBridge$Feast", "mayStep", "(I)I"⟩ prog_3_method_4_code 6 (some .int)) := by decide +kernel
theorem w_684 : lw_tbl[684]? = some (Cond.methodLinkNest "OddBridge$Feast" 79 ⟨"OddBridge", "holds", "(II)Z"⟩ "OddBridge") := by decide +kernel
theorem w_685 : lw_tbl[685]? = some (Cond.methodLink "OddBridge$Feast" 60 ⟨"OddBridge$Feast", "aheadOfWall", "(I)I"⟩) := by decide +kernel
theorem w_687 : lw_tbl[687]? = some (Cond.instanceMethod ⟨"OddBridge$Feast", "aheadOfWall", "(I)I"⟩) := by decide +kernel
theorem w_688 : lw_tbl[688]? = some (Cond.code ⟨"OddBridge$Feast", "aheadOfWall", "(I)I"⟩ prog_3_method_5_code 4 (some .int)) := by decide +kernel
theorem w_689 : lw_tbl[689]? = some (Cond.methodLink "OddBridge$Feast" 63 ⟨"java/lang/Integer", "bitCount", "(I)I"⟩) := by decide +kernel
theorem w_690 : lw_tbl[690]? = some (Cond.static ⟨"java/lang/Integer", "bitCount", "(I)I"⟩) := by decide +kernel
theorem w_691 : lw_tbl[691]? = some (Cond.code ⟨"java/lang/Integer", "bitCount", "(I)I"⟩ prog_12_method_49_code 1 (some .int)) := by decide +kernel
theorem w_692 : lw_tbl[692]? = some (Cond.constant "java/lang/Integer" 265 (1431655765 : Int32)) := by decide +kernel
theorem w_693 : lw_tbl[693]? = some (Cond.constant "java/lang/Integer" 266 (858993459 : Int32)) := by decide +kernel
theorem w_694 : lw_tbl[694]? = some (Cond.constant "java/lang/Integer" 267 (252645135 : Int32)) := by decide +kernel
theorem w_695 : lw_tbl[695]? = some (Cond.methodLinkNest "OddBridge$Feast" 68 ⟨"OddBridge$Judge", "isWell", "(II)Z"⟩ "OddBridge") := by decide +kernel
theorem w_696 : lw_tbl[696]? = some (Cond.methodLink "OddBridge$Feast" 53 ⟨"OddBridge$Feast", "step", "(II)V"⟩) := by decide +kernel
theorem w_698 : lw_tbl[698]? = some (Cond.instanceMethod ⟨"OddBridge$Feast", "step", "(II)V"⟩) := by decide +kernel
theorem w_699 : lw_tbl[699]? = some (Cond.code ⟨"OddBridge$Feast", "step", "(II)V"⟩ prog_3_method_6_code 4 none) := by decide +kernel
theorem w_700 : lw_tbl[700]? = some (Cond.methodLink "OddBridgeLaw" 49 ⟨"OddBridge", "stepped", "(II)I"⟩) := by decide +kernel
theorem w_701 : lw_tbl[701]? = some (Cond.instanceMethod ⟨"OddBridge", "stepped", "(II)I"⟩) := by decide +kernel
theorem w_702 : lw_tbl[702]? = some (Cond.selects "OddBridge" ⟨"OddBridge", "stepped", "(II)I"⟩ ⟨"OddBridge", "stepped", "(II)I"⟩) := by decide +kernel
theorem w_703 : lw_tbl[703]? = some (Cond.code ⟨"OddBridge", "stepped", "(II)I"⟩ prog_1_method_10_code 3 (some .int)) := by decide +kernel
theorem w_704 : lw_tbl[704]? = some (Cond.methodLink "OddBridge" 145 ⟨"OddBridge", "isWalker", "(I)Z"⟩) := by decide +kernel
theorem w_706 : lw_tbl[706]? = some (Cond.instanceMethod ⟨"OddBridge", "isWalker", "(I)Z"⟩) := by decide +kernel
theorem w_707 : lw_tbl[707]? = some (Cond.code ⟨"OddBridge", "isWalker", "(I)Z"⟩ prog_1_method_34_code 2 (some .boolean)) := by decide +kernel
theorem w_708 : lw_tbl[708]? = some (Cond.methodLink "OddBridgeLaw" 53 ⟨"OddBridge", "faulty", "(I)I"⟩) := by decide +kernel
theorem w_709 : lw_tbl[709]? = some (Cond.instanceMethod ⟨"OddBridge", "faulty", "(I)I"⟩) := by decide +kernel
theorem w_710 : lw_tbl[710]? = some (Cond.selects "OddBridge" ⟨"OddBridge", "faulty", "(I)I"⟩ ⟨"OddBridge", "faulty", "(I)I"⟩) := by decide +kernel
theorem w_711 : lw_tbl[711]? = some (Cond.code ⟨"OddBridge", "faulty", "(I)I"⟩ prog_1_method_11_code 2 (some .int)) := by decide +kernel
theorem w_712 : lw_tbl[712]? = some (Cond.methodLink "OddBridgeLaw" 57 ⟨"OddBridge", "least", "(I)I"⟩) := by decide +kernel
theorem w_713 : lw_tbl[713]? = some (Cond.instanceMethod ⟨"OddBridge", "least", "(I)I"⟩) := by decide +kernel
theorem w_714 : lw_tbl[714]? = some (Cond.selects "OddBridge" ⟨"OddBridge", "least", "(I)I"⟩ ⟨"OddBridge", "least", "(I)I"⟩) := by decide +kernel
theorem w_715 : lw_tbl[715]? = some (Cond.code ⟨"OddBridge", "least", "(I)I"⟩ prog_1_method_12_code 2 (some .int)) := by decide +kernel
theorem w_716 : lw_tbl[716]? = some (Cond.methodLinkNest "OddBridge" 161 ⟨"OddBridge$Crossing", "plan", "()V"⟩ "OddBridge") := by decide +kernel
theorem w_718 : lw_tbl[718]? = some (Cond.instanceMethod ⟨"OddBridge$Crossing", "plan", "()V"⟩) := by decide +kernel
theorem w_719 : lw_tbl[719]? = some (Cond.code ⟨"OddBridge$Crossing", "plan", "()V"⟩ prog_2_method_2_code 3 none) := by decide +kernel
theorem w_720 : lw_tbl[720]? = some (Cond.methodLink "OddBridge$Crossing" 51 ⟨"OddBridge$Crossing", "lookAtCompany", "(I)V"⟩) := by decide +kernel
theorem w_722 : lw_tbl[722]? = some (Cond.instanceMethod ⟨"OddBridge$Crossing", "lookAtCompany", "(I)V"⟩) := by decide +kernel
theorem w_723 : lw_tbl[723]? = some (Cond.code ⟨"OddBridge$Crossing", "lookAtCompany", "(I)V"⟩ prog_2_method_3_code 3 none) := by decide +kernel
theorem w_724 : lw_tbl[724]? = some (Cond.methodLinkNest "OddBridge$Crossing" 76 ⟨"OddBridge$Judge", "isWell", "(II)Z"⟩ "OddBridge") := by decide +kernel
theorem w_725 : lw_tbl[725]? = some (Cond.methodLinkNest "OddBridge$Crossing" 82 ⟨"OddBridge$Judge", "isOdd", "(III)Z"⟩ "OddBridge") := by decide +kernel
theorem w_726 : lw_tbl[726]? = some (Cond.methodLinkNest "OddBridge$Crossing" 86 ⟨"OddBridge", "holds", "(II)Z"⟩ "OddBridge") := by decide +kernel
theorem w_728 : lw_tbl[728]? = some (Cond.methodLink "OddBridge$Crossing" 55 ⟨"OddBridge$Crossing", "lookAtLeft", "(I)V"⟩) := by decide +kernel
theorem w_730 : lw_tbl[730]? = some (Cond.instanceMethod ⟨"OddBridge$Crossing", "lookAtLeft", "(I)V"⟩) := by decide +kernel
theorem w_731 : lw_tbl[731]? = some (Cond.code ⟨"OddBridge$Crossing", "lookAtLeft", "(I)V"⟩ prog_2_method_4_code 5 none) := by decide +kernel
theorem w_732 : lw_tbl[732]? = some (Cond.methodLink "OddBridge$Crossing" 98 ⟨"OddBridge$Crossing", "tryFirst", "(II)V"⟩) := by decide +kernel
theorem w_734 : lw_tbl[734]? = some (Cond.instanceMethod ⟨"OddBridge$Crossing", "tryFirst", "(II)V"⟩) := by decide +kernel
theorem w_735 : lw_tbl[735]? = some (Cond.code ⟨"OddBridge$Crossing", "tryFirst", "(II)V"⟩ prog_2_method_5_code 8 none) := by decide +kernel
theorem w_736 : lw_tbl[736]? = some (Cond.methodLink "OddBridge$Crossing" 73 ⟨"OddBridge$Crossing", "lineUp", "(I)V"⟩) := by decide +kernel
theorem w_738 : lw_tbl[738]? = some (Cond.instanceMethod ⟨"OddBridge$Crossing", "lineUp", "(I)V"⟩) := by decide +kernel
theorem w_739 : lw_tbl[739]? = some (Cond.code ⟨"OddBridge$Crossing", "lineUp", "(I)V"⟩ prog_2_method_6_code 5 none) := by decide +kernel
theorem w_740 : lw_tbl[740]? = some (Cond.methodLink "OddBridgeLaw" 61 ⟨"OddBridge", "row", "(I)I"⟩) := by decide +kernel
theorem w_741 : lw_tbl[741]? = some (Cond.instanceMethod ⟨"OddBridge", "row", "(I)I"⟩) := by decide +kernel
theorem w_742 : lw_tbl[742]? = some (Cond.selects "OddBridge" ⟨"OddBridge", "row", "(I)I"⟩ ⟨"OddBridge", "row", "(I)I"⟩) := by decide +kernel
theorem w_743 : lw_tbl[743]? = some (Cond.code ⟨"OddBridge", "row", "(I)I"⟩ prog_1_method_13_code 2 (some .int)) := by decide +kernel
theorem w_744 : lw_tbl[744]? = some (Cond.methodLink "OddBridgeLaw" 65 ⟨"OddBridge", "toll", "(II)I"⟩) := by decide +kernel
theorem w_745 : lw_tbl[745]? = some (Cond.instanceMethod ⟨"OddBridge", "toll", "(II)I"⟩) := by decide +kernel
theorem w_746 : lw_tbl[746]? = some (Cond.selects "OddBridge" ⟨"OddBridge", "toll", "(II)I"⟩ ⟨"OddBridge", "toll", "(II)I"⟩) := by decide +kernel
theorem w_747 : lw_tbl[747]? = some (Cond.code ⟨"OddBridge", "toll", "(II)I"⟩ prog_1_method_14_code 8 (some .int)) := by decide +kernel
theorem w_748 : lw_tbl[748]? = some (Cond.methodLink "OddBridge" 185 ⟨"OddBridge", "refuseAsNo", "()I"⟩) := by decide +kernel
theorem w_750 : lw_tbl[750]? = some (Cond.instanceMethod ⟨"OddBridge", "refuseAsNo", "()I"⟩) := by decide +kernel
theorem w_751 : lw_tbl[751]? = some (Cond.code ⟨"OddBridge", "refuseAsNo", "()I"⟩ prog_1_method_29_code 1 (some .int)) := by decide +kernel
theorem w_752 : lw_tbl[752]? = some (Cond.methodLink "OddBridge" 188 ⟨"OddBridge", "spreadStops", "(II)J"⟩) := by decide +kernel
theorem w_754 : lw_tbl[754]? = some (Cond.instanceMethod ⟨"OddBridge", "spreadStops", "(II)J"⟩) := by decide +kernel
theorem w_755 : lw_tbl[755]? = some (Cond.code ⟨"OddBridge", "spreadStops", "(II)J"⟩ prog_1_method_37_code 7 (some .long)) := by decide +kernel
theorem w_756 : lw_tbl[756]? = some (Cond.methodLink "OddBridge" 256 ⟨"java/util/Arrays", "fill", "([JJ)V"⟩) := by decide +kernel
theorem w_757 : lw_tbl[757]? = some (Cond.constantLong "OddBridge" 262 (20 : Int64)) := by decide +kernel
theorem w_758 : lw_tbl[758]? = some (Cond.methodLinkNest "OddBridge" 192 ⟨"OddBridge$Fraction", "become", "(JJ)V"⟩ "OddBridge") := by decide +kernel
theorem w_760 : lw_tbl[760]? = some (Cond.instanceMethod ⟨"OddBridge$Fraction", "become", "(JJ)V"⟩) := by decide +kernel
theorem w_761 : lw_tbl[761]? = some (Cond.code ⟨"OddBridge$Fraction", "become", "(JJ)V"⟩ prog_4_method_2_code 7 none) := by decide +kernel
theorem w_762 : lw_tbl[762]? = some (Cond.methodLink "OddBridge$Fraction" 16 ⟨"OddBridge$Fraction", "commonDivisor", "(JJ)J"⟩) := by decide +kernel
theorem w_763 : lw_tbl[763]? = some (Cond.static ⟨"OddBridge$Fraction", "commonDivisor", "(JJ)J"⟩) := by decide +kernel
theorem w_764 : lw_tbl[764]? = some (Cond.code ⟨"OddBridge$Fraction", "commonDivisor", "(JJ)J"⟩ prog_4_method_3_code 11 (some .long)) := by decide +kernel
theorem w_765 : lw_tbl[765]? = some (Cond.methodLink "OddBridgeLaw" 69 ⟨"OddBridge", "doubt", "(II)I"⟩) := by decide +kernel
theorem w_766 : lw_tbl[766]? = some (Cond.instanceMethod ⟨"OddBridge", "doubt", "(II)I"⟩) := by decide +kernel
theorem w_767 : lw_tbl[767]? = some (Cond.selects "OddBridge" ⟨"OddBridge", "doubt", "(II)I"⟩ ⟨"OddBridge", "doubt", "(II)I"⟩) := by decide +kernel
theorem w_768 : lw_tbl[768]? = some (Cond.code ⟨"OddBridge", "doubt", "(II)I"⟩ prog_1_method_15_code 4 (some .int)) := by decide +kernel
theorem w_769 : lw_tbl[769]? = some (Cond.methodLink "OddBridgeLaw" 73 ⟨"OddBridge", "odd", "(I)I"⟩) := by decide +kernel
theorem w_770 : lw_tbl[770]? = some (Cond.instanceMethod ⟨"OddBridge", "odd", "(I)I"⟩) := by decide +kernel
theorem w_771 : lw_tbl[771]? = some (Cond.selects "OddBridge" ⟨"OddBridge", "odd", "(I)I"⟩ ⟨"OddBridge", "odd", "(I)I"⟩) := by decide +kernel
theorem w_772 : lw_tbl[772]? = some (Cond.code ⟨"OddBridge", "odd", "(I)I"⟩ prog_1_method_16_code 13 (some .int)) := by decide +kernel
theorem w_773 : lw_tbl[773]? = some (Cond.methodLink "OddBridge" 199 ⟨"OddBridge", "holds", "(II)Z"⟩) := by decide +kernel
theorem w_774 : lw_tbl[774]? = some (Cond.constantLong "OddBridge" 202 (10 : Int64)) := by decide +kernel
theorem w_775 : lw_tbl[775]? = some (Cond.methodLink "OddBridgeLaw" 77 ⟨"OddBridge", "home", "(III)I"⟩) := by decide +kernel
theorem w_776 : lw_tbl[776]? = some (Cond.instanceMethod ⟨"OddBridge", "home", "(III)I"⟩) := by decide +kernel
theorem w_777 : lw_tbl[777]? = some (Cond.selects "OddBridge" ⟨"OddBridge", "home", "(III)I"⟩ ⟨"OddBridge", "home", "(III)I"⟩) := by decide +kernel
theorem w_778 : lw_tbl[778]? = some (Cond.code ⟨"OddBridge", "home", "(III)I"⟩ prog_1_method_17_code 4 (some .int)) := by decide +kernel
theorem w_779 : lw_tbl[779]? = some (Cond.methodLink "OddBridge" 204 ⟨"OddBridge", "waysHome", "(II)I"⟩) := by decide +kernel
theorem w_781 : lw_tbl[781]? = some (Cond.instanceMethod ⟨"OddBridge", "waysHome", "(II)I"⟩) := by decide +kernel
theorem w_782 : lw_tbl[782]? = some (Cond.code ⟨"OddBridge", "waysHome", "(II)I"⟩ prog_1_method_38_code 5 (some .int)) := by decide +kernel
theorem w_783 : lw_tbl[783]? = some (Cond.methodLink "OddBridge" 264 ⟨"java/util/Arrays", "fill", "([II)V"⟩) := by decide +kernel
theorem w_784 : lw_tbl[784]? = some (Cond.methodLink "OddBridge" 207 ⟨"OddBridge", "fewestHome", "(II)I"⟩) := by decide +kernel
theorem w_785 : lw_tbl[785]? = some (Cond.static ⟨"OddBridge", "fewestHome", "(II)I"⟩) := by decide +kernel
theorem w_786 : lw_tbl[786]? = some (Cond.code ⟨"OddBridge", "fewestHome", "(II)I"⟩ prog_1_method_39_code 4 (some .int)) := by decide +kernel
theorem w_787 : lw_tbl[787]? = some (Cond.methodLink "OddBridgeLaw" 81 ⟨"OddBridge", "say", "(III)I"⟩) := by decide +kernel
theorem w_788 : lw_tbl[788]? = some (Cond.instanceMethod ⟨"OddBridge", "say", "(III)I"⟩) := by decide +kernel
theorem w_789 : lw_tbl[789]? = some (Cond.selects "OddBridge" ⟨"OddBridge", "say", "(III)I"⟩ ⟨"OddBridge", "say", "(III)I"⟩) := by decide +kernel
theorem w_790 : lw_tbl[790]? = some (Cond.code ⟨"OddBridge", "say", "(III)I"⟩ prog_1_method_18_code 5 (some .int)) := by decide +kernel
theorem w_791 : lw_tbl[791]? = some (Cond.methodLinkNest "OddBridge" 213 ⟨"OddBridge$Scene", "addSaid", "(III)V"⟩ "OddBridge") := by decide +kernel
theorem w_793 : lw_tbl[793]? = some (Cond.instanceMethod ⟨"OddBridge$Scene", "addSaid", "(III)V"⟩) := by decide +kernel
theorem w_794 : lw_tbl[794]? = some (Cond.code ⟨"OddBridge$Scene", "addSaid", "(III)V"⟩ prog_7_method_4_code 4 none) := by decide +kernel
theorem w_795 : lw_tbl[795]? = some (Cond.methodLink "OddBridgeLaw" 85 ⟨"OddBridge", "hush", "()I"⟩) := by decide +kernel
theorem w_796 : lw_tbl[796]? = some (Cond.instanceMethod ⟨"OddBridge", "hush", "()I"⟩) := by decide +kernel
theorem w_797 : lw_tbl[797]? = some (Cond.selects "OddBridge" ⟨"OddBridge", "hush", "()I"⟩ ⟨"OddBridge", "hush", "()I"⟩) := by decide +kernel
theorem w_798 : lw_tbl[798]? = some (Cond.code ⟨"OddBridge", "hush", "()I"⟩ prog_1_method_19_code 2 (some .int)) := by decide +kernel
theorem w_799 : lw_tbl[799]? = some (Cond.methodLink "OddBridgeLaw" 89 ⟨"OddBridge", "dispute", "(I)J"⟩) := by decide +kernel
theorem w_800 : lw_tbl[800]? = some (Cond.instanceMethod ⟨"OddBridge", "dispute", "(I)J"⟩) := by decide +kernel
theorem w_801 : lw_tbl[801]? = some (Cond.selects "OddBridge" ⟨"OddBridge", "dispute", "(I)J"⟩ ⟨"OddBridge", "dispute", "(I)J"⟩) := by decide +kernel
theorem w_802 : lw_tbl[802]? = some (Cond.code ⟨"OddBridge", "dispute", "(I)J"⟩ prog_1_method_20_code 2 (some .long)) := by decide +kernel
theorem w_803 : lw_tbl[803]? = some (Cond.methodLinkNest "OddBridge" 216 ⟨"OddBridge$Hearing", "minutesUnwell", "(I)J"⟩ "OddBridge") := by decide +kernel
theorem w_805 : lw_tbl[805]? = some (Cond.instanceMethod ⟨"OddBridge$Hearing", "minutesUnwell", "(I)J"⟩) := by decide +kernel
theorem w_806 : lw_tbl[806]? = some (Cond.code ⟨"OddBridge$Hearing", "minutesUnwell", "(I)J"⟩ prog_5_method_3_code 5 (some .long)) := by decide +kernel
theorem w_807 : lw_tbl[807]? = some (Cond.methodLink "OddBridge$Hearing" 39 ⟨"OddBridge$Hearing", "onBut", "(II)I"⟩) := by decide +kernel
theorem w_809 : lw_tbl[809]? = some (Cond.instanceMethod ⟨"OddBridge$Hearing", "onBut", "(II)I"⟩) := by decide +kernel
theorem w_810 : lw_tbl[810]? = some (Cond.code ⟨"OddBridge$Hearing", "onBut", "(II)I"⟩ prog_5_method_2_code 5 (some .int)) := by decide +kernel
theorem w_811 : lw_tbl[811]? = some (Cond.methodLinkNest "OddBridge$Hearing" 25 ⟨"OddBridge", "holds", "(II)Z"⟩ "OddBridge") := by decide +kernel
theorem w_812 : lw_tbl[812]? = some (Cond.methodLinkNest "OddBridge$Hearing" 43 ⟨"OddBridge$Judge", "isWell", "(II)Z"⟩ "OddBridge") := by decide +kernel
theorem w_813 : lw_tbl[813]? = some (Cond.methodLink "OddBridgeLaw" 94 ⟨"OddBridge", "lied", "(I)I"⟩) := by decide +kernel
theorem w_814 : lw_tbl[814]? = some (Cond.instanceMethod ⟨"OddBridge", "lied", "(I)I"⟩) := by decide +kernel
theorem w_815 : lw_tbl[815]? = some (Cond.selects "OddBridge" ⟨"OddBridge", "lied", "(I)I"⟩ ⟨"OddBridge", "lied", "(I)I"⟩) := by decide +kernel
theorem w_816 : lw_tbl[816]? = some (Cond.code ⟨"OddBridge", "lied", "(I)I"⟩ prog_1_method_21_code 2 (some .int)) := by decide +kernel
theorem w_817 : lw_tbl[817]? = some (Cond.methodLinkNest "OddBridge" 220 ⟨"OddBridge$Hearing", "eachAlone", "()I"⟩ "OddBridge") := by decide +kernel
theorem w_819 : lw_tbl[819]? = some (Cond.instanceMethod ⟨"OddBridge$Hearing", "eachAlone", "()I"⟩) := by decide +kernel
theorem w_820 : lw_tbl[820]? = some (Cond.code ⟨"OddBridge$Hearing", "eachAlone", "()I"⟩ prog_5_method_5_code 3 (some .int)) := by decide +kernel
theorem w_821 : lw_tbl[821]? = some (Cond.methodLink "OddBridge$Hearing" 48 ⟨"OddBridge$Hearing", "allWellBut", "(I)Z"⟩) := by decide +kernel
theorem w_823 : lw_tbl[823]? = some (Cond.instanceMethod ⟨"OddBridge$Hearing", "allWellBut", "(I)Z"⟩) := by decide +kernel
theorem w_824 : lw_tbl[824]? = some (Cond.code ⟨"OddBridge$Hearing", "allWellBut", "(I)Z"⟩ prog_5_method_4_code 3 (some .boolean)) := by decide +kernel
theorem w_825 : lw_tbl[825]? = some (Cond.methodLinkNest "OddBridge" 223 ⟨"OddBridge$Hearing", "fewestLiars", "()I"⟩ "OddBridge") := by decide +kernel
theorem w_827 : lw_tbl[827]? = some (Cond.instanceMethod ⟨"OddBridge$Hearing", "fewestLiars", "()I"⟩) := by decide +kernel
theorem w_828 : lw_tbl[828]? = some (Cond.code ⟨"OddBridge$Hearing", "fewestLiars", "()I"⟩ prog_5_method_6_code 3 (some .int)) := by decide +kernel
theorem w_829 : lw_tbl[829]? = some (Cond.methodLink "OddBridge$Hearing" 52 ⟨"java/lang/Integer", "bitCount", "(I)I"⟩) := by decide +kernel
theorem w_830 : lw_tbl[830]? = some (Cond.methodLink "OddBridgeLaw" 98 ⟨"OddBridge", "part", "(I)J"⟩) := by decide +kernel
theorem w_831 : lw_tbl[831]? = some (Cond.instanceMethod ⟨"OddBridge", "part", "(I)J"⟩) := by decide +kernel
theorem w_832 : lw_tbl[832]? = some (Cond.selects "OddBridge" ⟨"OddBridge", "part", "(I)J"⟩ ⟨"OddBridge", "part", "(I)J"⟩) := by decide +kernel
theorem w_833 : lw_tbl[833]? = some (Cond.code ⟨"OddBridge", "part", "(I)J"⟩ prog_1_method_22_code 2 (some .long)) := by decide +kernel
theorem w_834 : lw_tbl[834]? = some (Cond.methodLink "OddBridgeLaw" 102 ⟨"OddBridge", "image", "(I)I"⟩) := by decide +kernel
theorem w_835 : lw_tbl[835]? = some (Cond.instanceMethod ⟨"OddBridge", "image", "(I)I"⟩) := by decide +kernel
theorem w_836 : lw_tbl[836]? = some (Cond.selects "OddBridge" ⟨"OddBridge", "image", "(I)I"⟩ ⟨"OddBridge", "image", "(I)I"⟩) := by decide +kernel
theorem w_837 : lw_tbl[837]? = some (Cond.code ⟨"OddBridge", "image", "(I)I"⟩ prog_1_method_23_code 2 (some .int)) := by decide +kernel
theorem w_838 : lw_tbl[838]? = some (Cond.methodLink "OddBridge" 233 ⟨"OddBridge", "imageAt", "(I)LOddBridge$Scene;"⟩) := by decide +kernel
theorem w_840 : lw_tbl[840]? = some (Cond.instanceMethod ⟨"OddBridge", "imageAt", "(I)LOddBridge$Scene;"⟩) := by decide +kernel
theorem w_841 : lw_tbl[841]? = some (Cond.code ⟨"OddBridge", "imageAt", "(I)LOddBridge$Scene;"⟩ prog_1_method_35_code 2 (Option.some (Jvm.ClassFile.FieldType.object "OddBridge$Scene"))) := by decide +kernel
theorem w_842 : lw_tbl[842]? = some (Cond.methodLinkNest "OddBridge" 237 ⟨"OddBridge$Scene", "become", "(LOddBridge$Scene;)V"⟩ "OddBridge") := by decide +kernel
theorem w_844 : lw_tbl[844]? = some (Cond.instanceMethod ⟨"OddBridge$Scene", "become", "(LOddBridge$Scene;)V"⟩) := by decide +kernel
theorem w_845 : lw_tbl[845]? = some (Cond.code ⟨"OddBridge$Scene", "become", "(LOddBridge$Scene;)V"⟩ prog_7_method_5_code 2 none) := by decide +kernel
theorem w_849 : lw_tbl[849]? = some (Cond.methodLink "OddBridgeLaw" 106 ⟨"OddBridge", "from", "(I)I"⟩) := by decide +kernel
theorem w_850 : lw_tbl[850]? = some (Cond.instanceMethod ⟨"OddBridge", "from", "(I)I"⟩) := by decide +kernel
theorem w_851 : lw_tbl[851]? = some (Cond.selects "OddBridge" ⟨"OddBridge", "from", "(I)I"⟩ ⟨"OddBridge", "from", "(I)I"⟩) := by decide +kernel
theorem w_852 : lw_tbl[852]? = some (Cond.code ⟨"OddBridge", "from", "(I)I"⟩ prog_1_method_24_code 2 (some .int)) := by decide +kernel
theorem w_853 : lw_tbl[853]? = some (Cond.methodLink "OddBridgeLaw" 110 ⟨"OddBridge", "status", "(I)I"⟩) := by decide +kernel
theorem w_854 : lw_tbl[854]? = some (Cond.instanceMethod ⟨"OddBridge", "status", "(I)I"⟩) := by decide +kernel
theorem w_855 : lw_tbl[855]? = some (Cond.selects "OddBridge" ⟨"OddBridge", "status", "(I)I"⟩ ⟨"OddBridge", "status", "(I)I"⟩) := by decide +kernel
theorem w_856 : lw_tbl[856]? = some (Cond.code ⟨"OddBridge", "status", "(I)I"⟩ prog_1_method_25_code 2 (some .int)) := by decide +kernel
theorem w_857 : lw_tbl[857]? = some (Cond.methodLink "OddBridgeLaw" 114 ⟨"OddBridge", "count", "(I)I"⟩) := by decide +kernel
theorem w_858 : lw_tbl[858]? = some (Cond.instanceMethod ⟨"OddBridge", "count", "(I)I"⟩) := by decide +kernel
theorem w_859 : lw_tbl[859]? = some (Cond.selects "OddBridge" ⟨"OddBridge", "count", "(I)I"⟩ ⟨"OddBridge", "count", "(I)I"⟩) := by decide +kernel
theorem w_860 : lw_tbl[860]? = some (Cond.code ⟨"OddBridge", "count", "(I)I"⟩ prog_1_method_26_code 2 (some .int)) := by decide +kernel
theorem w_861 : lw_tbl[861]? = some (Cond.methodLink "OddBridgeLaw" 118 ⟨"OddBridge", "digest", "()J"⟩) := by decide +kernel
theorem w_862 : lw_tbl[862]? = some (Cond.instanceMethod ⟨"OddBridge", "digest", "()J"⟩) := by decide +kernel
theorem w_863 : lw_tbl[863]? = some (Cond.selects "OddBridge" ⟨"OddBridge", "digest", "()J"⟩ ⟨"OddBridge", "digest", "()J"⟩) := by decide +kernel
theorem w_864 : lw_tbl[864]? = some (Cond.code ⟨"OddBridge", "digest", "()J"⟩ prog_1_method_27_code 3 (some .long)) := by decide +kernel
theorem w_865 : lw_tbl[865]? = some (Cond.constantLong "OddBridge" 245 (643 : Int64)) := by decide +kernel
theorem w_866 : lw_tbl[866]? = some (Cond.methodLinkNest "OddBridge" 247 ⟨"OddBridge$Scene", "addedTo", "(J)J"⟩ "OddBridge") := by decide +kernel
theorem w_868 : lw_tbl[868]? = some (Cond.instanceMethod ⟨"OddBridge$Scene", "addedTo", "(J)J"⟩) := by decide +kernel
theorem w_869 : lw_tbl[869]? = some (Cond.code ⟨"OddBridge$Scene", "addedTo", "(J)J"⟩ prog_7_method_7_code 6 (some .long)) := by decide +kernel
theorem w_870 : lw_tbl[870]? = some (Cond.constantLong "OddBridge$Scene" 66 (31 : Int64)) := by decide +kernel
theorem w_871 : lw_tbl[871]? = some (Cond.constantLong "OddBridge" 251 (31 : Int64)) := by decide +kernel
theorem w_872 : lw_tbl[872]? = some (Cond.classLink "OddBridgeLaw" 10 "OddBridgeModel") := by decide +kernel
theorem w_873 : lw_tbl[873]? = some (Cond.instantiable "OddBridgeModel" 27) := by decide +kernel
theorem w_874 : lw_tbl[874]? = some (Cond.methodLink "OddBridgeLaw" 12 ⟨"OddBridgeModel", "<init>", "()V"⟩) := by decide +kernel
theorem w_875 : lw_tbl[875]? = some (Cond.instanceMethod ⟨"OddBridgeModel", "<init>", "()V"⟩) := by decide +kernel
theorem w_876 : lw_tbl[876]? = some (Cond.code ⟨"OddBridgeModel", "<init>", "()V"⟩ prog_10_method_1_code 1 none) := by decide +kernel
theorem w_877 : lw_tbl[877]? = some (Cond.methodLink "OddBridgeModel" 1 ⟨"java/lang/Object", "<init>", "()V"⟩) := by decide +kernel
theorem w_878 : lw_tbl[878]? = some (Cond.fieldLink "OddBridgeModel" 7 "OddBridgeModel" "now" "[I") := by decide +kernel
theorem w_879 : lw_tbl[879]? = some (Cond.fieldLink "OddBridgeModel" 13 "OddBridgeModel" "kept" "[I") := by decide +kernel
theorem w_880 : lw_tbl[880]? = some (Cond.fieldLink "OddBridgeModel" 16 "OddBridgeModel" "isKept" "[Z") := by decide +kernel
theorem w_881 : lw_tbl[881]? = some (Cond.fieldLink "OddBridgeModel" 20 "OddBridgeModel" "refused" "[I") := by decide +kernel
theorem w_882 : lw_tbl[882]? = some (Cond.fieldLink "OddBridgeModel" 67 "OddBridgeModel" "above" "J") := by decide +kernel
theorem w_883 : lw_tbl[883]? = some (Cond.fieldLink "OddBridgeModel" 23 "OddBridgeModel" "below" "J") := by decide +kernel
theorem w_884 : lw_tbl[884]? = some (Cond.fieldLink "OddBridgeModel" 114 "OddBridgeModel" "place" "I") := by decide +kernel
theorem w_885 : lw_tbl[885]? = some (Cond.fieldLink "OddBridgeModel" 143 "OddBridgeModel" "fault" "I") := by decide +kernel
theorem w_886 : lw_tbl[886]? = some (Cond.fieldLink "OddBridgeModel" 27 "OddBridgeModel" "values" "[J") := by decide +kernel
theorem w_887 : lw_tbl[887]? = some (Cond.fieldLink "OddBridgeModel" 127 "OddBridgeModel" "valueMany" "I") := by decide +kernel
theorem w_888 : lw_tbl[888]? = some (Cond.fieldLink "OddBridgeModel" 31 "OddBridgeModel" "signs" "[I") := by decide +kernel
theorem w_889 : lw_tbl[889]? = some (Cond.fieldLink "OddBridgeModel" 124 "OddBridgeModel" "signMany" "I") := by decide +kernel
theorem w_890 : lw_tbl[890]? = some (Cond.fieldLink "OddBridgeModel" 34 "OddBridgeModel" "letters" "[J") := by decide +kernel
theorem w_891 : lw_tbl[891]? = some (Cond.fieldLink "OddBridgeModel" 166 "OddBridgeModel" "told" "J") := by decide +kernel
theorem w_892 : lw_tbl[892]? = some (Cond.fieldLink "OddBridgeModel" 37 "OddBridgeModel" "stepOn" "[I") := by decide +kernel
theorem w_893 : lw_tbl[893]? = some (Cond.fieldLink "OddBridgeModel" 40 "OddBridgeModel" "stepOff" "[I") := by decide +kernel
theorem w_894 : lw_tbl[894]? = some (Cond.fieldLink "OddBridgeModel" 43 "OddBridgeModel" "onIn" "[I") := by decide +kernel
theorem w_895 : lw_tbl[895]? = some (Cond.fieldLink "OddBridgeModel" 181 "OddBridgeModel" "faults" "I") := by decide +kernel
theorem w_896 : lw_tbl[896]? = some (Cond.fieldLink "OddBridgeModel" 184 "OddBridgeModel" "firstFault" "I") := by decide +kernel
theorem w_897 : lw_tbl[897]? = some (Cond.fieldLink "OddBridgeModel" 46 "OddBridgeModel" "minutesOf" "[I") := by decide +kernel
theorem w_898 : lw_tbl[898]? = some (Cond.fieldLink "OddBridgeModel" 49 "OddBridgeModel" "payOf" "[I") := by decide +kernel
theorem w_899 : lw_tbl[899]? = some (Cond.fieldLink "OddBridgeModel" 52 "OddBridgeModel" "leastPay" "[I") := by decide +kernel
theorem w_900 : lw_tbl[900]? = some (Cond.fieldLink "OddBridgeModel" 55 "OddBridgeModel" "priceOf" "[I") := by decide +kernel
theorem w_901 : lw_tbl[901]? = some (Cond.fieldLink "OddBridgeModel" 219 "OddBridgeModel" "companies" "I") := by decide +kernel
theorem w_902 : lw_tbl[902]? = some (Cond.fieldLink "OddBridgeModel" 58 "OddBridgeModel" "row" "[I") := by decide +kernel
theorem w_903 : lw_tbl[903]? = some (Cond.fieldLink "OddBridgeModel" 61 "OddBridgeModel" "waysOf" "[I") := by decide +kernel
theorem w_904 : lw_tbl[904]? = some (Cond.fieldLink "OddBridgeModel" 64 "OddBridgeModel" "fewestOf" "[I") := by decide +kernel
theorem w_960 : lw_tbl[960]? = some (Cond.methodLink "OddBridgeLaw" 17 ⟨"OddBridgeModel", "walker", "(III)I"⟩) := by decide +kernel
theorem w_961 : lw_tbl[961]? = some (Cond.instanceMethod ⟨"OddBridgeModel", "walker", "(III)I"⟩) := by decide +kernel
theorem w_962 : lw_tbl[962]? = some (Cond.selects "OddBridgeModel" ⟨"OddBridgeModel", "walker", "(III)I"⟩ ⟨"OddBridgeModel", "walker", "(III)I"⟩) := by decide +kernel
theorem w_963 : lw_tbl[963]? = some (Cond.code ⟨"OddBridgeModel", "walker", "(III)I"⟩ prog_10_method_13_code 5 (some .int)) := by decide +kernel
theorem w_964 : lw_tbl[964]? = some (Cond.constantLong "OddBridgeModel" 81 (7 : Int64)) := by decide +kernel
theorem w_965 : lw_tbl[965]? = some (Cond.methodLink "OddBridgeModel" 74 ⟨"OddBridgeModel", "in", "(JJJ)Z"⟩) := by decide +kernel
theorem w_966 : lw_tbl[966]? = some (Cond.static ⟨"OddBridgeModel", "in", "(JJJ)Z"⟩) := by decide +kernel
theorem w_967 : lw_tbl[967]? = some (Cond.code ⟨"OddBridgeModel", "in", "(JJJ)Z"⟩ prog_10_method_3_code 6 (some .boolean)) := by decide +kernel
theorem w_968 : lw_tbl[968]? = some (Cond.constantLong "OddBridgeModel" 83 (20 : Int64)) := by decide +kernel
theorem w_969 : lw_tbl[969]? = some (Cond.constantLong "OddBridgeModel" 85 (99 : Int64)) := by decide +kernel
theorem w_970 : lw_tbl[970]? = some (Cond.methodLink "OddBridgeModel" 87 ⟨"OddBridgeModel", "bad", "(I)I"⟩) := by decide +kernel
theorem w_972 : lw_tbl[972]? = some (Cond.instanceMethod ⟨"OddBridgeModel", "bad", "(I)I"⟩) := by decide +kernel
theorem w_973 : lw_tbl[973]? = some (Cond.code ⟨"OddBridgeModel", "bad", "(I)I"⟩ prog_10_method_4_code 2 (some .int)) := by decide +kernel
theorem w_974 : lw_tbl[974]? = some (Cond.methodLink "OddBridgeModel" 70 ⟨"OddBridgeModel", "walkers", "()I"⟩) := by decide +kernel
theorem w_976 : lw_tbl[976]? = some (Cond.instanceMethod ⟨"OddBridgeModel", "walkers", "()I"⟩) := by decide +kernel
theorem w_977 : lw_tbl[977]? = some (Cond.code ⟨"OddBridgeModel", "walkers", "()I"⟩ prog_10_method_8_code 1 (some .int)) := by decide +kernel
theorem w_978 : lw_tbl[978]? = some (Cond.methodLink "OddBridgeModel" 91 ⟨"OddBridgeModel", "full", "()I"⟩) := by decide +kernel
theorem w_980 : lw_tbl[980]? = some (Cond.instanceMethod ⟨"OddBridgeModel", "full", "()I"⟩) := by decide +kernel
theorem w_981 : lw_tbl[981]? = some (Cond.code ⟨"OddBridgeModel", "full", "()I"⟩ prog_10_method_6_code 1 (some .int)) := by decide +kernel
theorem w_982 : lw_tbl[982]? = some (Cond.methodLink "OddBridgeLaw" 22 ⟨"OddBridgeModel", "put", "(II)I"⟩) := by decide +kernel
theorem w_983 : lw_tbl[983]? = some (Cond.instanceMethod ⟨"OddBridgeModel", "put", "(II)I"⟩) := by decide +kernel
theorem w_984 : lw_tbl[984]? = some (Cond.selects "OddBridgeModel" ⟨"OddBridgeModel", "put", "(II)I"⟩ ⟨"OddBridgeModel", "put", "(II)I"⟩) := by decide +kernel
theorem w_985 : lw_tbl[985]? = some (Cond.code ⟨"OddBridgeModel", "put", "(II)I"⟩ prog_10_method_14_code 4 (some .int)) := by decide +kernel
theorem w_986 : lw_tbl[986]? = some (Cond.constantLong "OddBridgeModel" 94 (19 : Int64)) := by decide +kernel
theorem w_987 : lw_tbl[987]? = some (Cond.methodLink "OddBridgeLaw" 40 ⟨"OddBridgeModel", "brings", "(II)I"⟩) := by decide +kernel
theorem w_988 : lw_tbl[988]? = some (Cond.instanceMethod ⟨"OddBridgeModel", "brings", "(II)I"⟩) := by decide +kernel
theorem w_989 : lw_tbl[989]? = some (Cond.selects "OddBridgeModel" ⟨"OddBridgeModel", "brings", "(II)I"⟩ ⟨"OddBridgeModel", "brings", "(II)I"⟩) := by decide +kernel
theorem w_990 : lw_tbl[990]? = some (Cond.code ⟨"OddBridgeModel", "brings", "(II)I"⟩ prog_10_method_17_code 3 (some .int)) := by decide +kernel
theorem w_991 : lw_tbl[991]? = some (Cond.methodLink "OddBridgeModel" 103 ⟨"OddBridgeModel", "isSet", "(I)Z"⟩) := by decide +kernel
theorem w_993 : lw_tbl[993]? = some (Cond.instanceMethod ⟨"OddBridgeModel", "isSet", "(I)Z"⟩) := by decide +kernel
theorem w_994 : lw_tbl[994]? = some (Cond.code ⟨"OddBridgeModel", "isSet", "(I)Z"⟩ prog_10_method_11_code 2 (some .boolean)) := by decide +kernel
theorem w_995 : lw_tbl[995]? = some (Cond.methodLink "OddBridgeModel" 78 ⟨"OddBridgeModel", "all", "()I"⟩) := by decide +kernel
theorem w_997 : lw_tbl[997]? = some (Cond.instanceMethod ⟨"OddBridgeModel", "all", "()I"⟩) := by decide +kernel
theorem w_998 : lw_tbl[998]? = some (Cond.code ⟨"OddBridgeModel", "all", "()I"⟩ prog_10_method_9_code 1 (some .int)) := by decide +kernel
theorem w_999 : lw_tbl[999]? = some (Cond.constantLong "OddBridgeModel" 107 (4 : Int64)) := by decide +kernel
theorem w_1000 : lw_tbl[1000]? = some (Cond.methodLink "OddBridgeModel" 109 ⟨"OddBridgeModel", "broughtBy", "(II)I"⟩) := by decide +kernel
theorem w_1002 : lw_tbl[1002]? = some (Cond.instanceMethod ⟨"OddBridgeModel", "broughtBy", "(II)I"⟩) := by decide +kernel
theorem w_1003 : lw_tbl[1003]? = some (Cond.code ⟨"OddBridgeModel", "broughtBy", "(II)I"⟩ prog_10_method_16_code 5 (some .int)) := by decide +kernel
theorem w_1004 : lw_tbl[1004]? = some (Cond.methodLink "OddBridgeModel" 96 ⟨"OddBridgeModel", "of", "(II)I"⟩) := by decide +kernel
theorem w_1006 : lw_tbl[1006]? = some (Cond.instanceMethod ⟨"OddBridgeModel", "of", "(II)I"⟩) := by decide +kernel
theorem w_1007 : lw_tbl[1007]? = some (Cond.code ⟨"OddBridgeModel", "of", "(II)I"⟩ prog_10_method_12_code 3 (some .int)) := by decide +kernel
theorem w_1008 : lw_tbl[1008]? = some (Cond.methodLink "OddBridgeModel" 100 ⟨"OddBridgeModel", "bringsOf", "(II)I"⟩) := by decide +kernel
theorem w_1009 : lw_tbl[1009]? = some (Cond.static ⟨"OddBridgeModel", "bringsOf", "(II)I"⟩) := by decide +kernel
theorem w_1010 : lw_tbl[1010]? = some (Cond.code ⟨"OddBridgeModel", "bringsOf", "(II)I"⟩ prog_10_method_15_code 2 (some .int)) := by decide +kernel
theorem w_1011 : lw_tbl[1011]? = some (Cond.methodLink "OddBridgeLaw" 27 ⟨"OddBridgeModel", "write", "(I)I"⟩) := by decide +kernel
theorem w_1012 : lw_tbl[1012]? = some (Cond.instanceMethod ⟨"OddBridgeModel", "write", "(I)I"⟩) := by decide +kernel
theorem w_1013 : lw_tbl[1013]? = some (Cond.selects "OddBridgeModel" ⟨"OddBridgeModel", "write", "(I)I"⟩ ⟨"OddBridgeModel", "write", "(I)I"⟩) := by decide +kernel
theorem w_1014 : lw_tbl[1014]? = some (Cond.code ⟨"OddBridgeModel", "write", "(I)I"⟩ prog_10_method_18_code 2 (some .int)) := by decide +kernel
theorem w_1015 : lw_tbl[1015]? = some (Cond.constantLong "OddBridgeModel" 112 (127 : Int64)) := by decide +kernel
theorem w_1016 : lw_tbl[1016]? = some (Cond.methodLink "OddBridgeLaw" 32 ⟨"OddBridgeModel", "erase", "()I"⟩) := by decide +kernel
theorem w_1017 : lw_tbl[1017]? = some (Cond.instanceMethod ⟨"OddBridgeModel", "erase", "()I"⟩) := by decide +kernel
theorem w_1018 : lw_tbl[1018]? = some (Cond.selects "OddBridgeModel" ⟨"OddBridgeModel", "erase", "()I"⟩ ⟨"OddBridgeModel", "erase", "()I"⟩) := by decide +kernel
theorem w_1019 : lw_tbl[1019]? = some (Cond.code ⟨"OddBridgeModel", "erase", "()I"⟩ prog_10_method_19_code 2 (some .int)) := by decide +kernel
theorem w_1020 : lw_tbl[1020]? = some (Cond.methodLink "OddBridgeLaw" 36 ⟨"OddBridgeModel", "fault", "()I"⟩) := by decide +kernel
theorem w_1021 : lw_tbl[1021]? = some (Cond.instanceMethod ⟨"OddBridgeModel", "fault", "()I"⟩) := by decide +kernel
theorem w_1022 : lw_tbl[1022]? = some (Cond.selects "OddBridgeModel" ⟨"OddBridgeModel", "fault", "()I"⟩ ⟨"OddBridgeModel", "fault", "()I"⟩) := by decide +kernel
theorem w_1023 : lw_tbl[1023]? = some (Cond.code ⟨"OddBridgeModel", "fault", "()I"⟩ prog_10_method_31_code 2 (some .int)) := by decide +kernel
theorem w_1024 : lw_tbl[1024]? = some (Cond.methodLink "OddBridgeModel" 169 ⟨"OddBridgeModel", "reads", "()Z"⟩) := by decide +kernel
theorem w_1026 : lw_tbl[1026]? = some (Cond.instanceMethod ⟨"OddBridgeModel", "reads", "()Z"⟩) := by decide +kernel
theorem w_1027 : lw_tbl[1027]? = some (Cond.code ⟨"OddBridgeModel", "reads", "()Z"⟩ prog_10_method_30_code 5 (some .boolean)) := by decide +kernel
theorem w_1028 : lw_tbl[1028]? = some (Cond.methodLink "OddBridgeModel" 148 ⟨"OddBridgeModel", "ahead", "()I"⟩) := by decide +kernel
theorem w_1030 : lw_tbl[1030]? = some (Cond.instanceMethod ⟨"OddBridgeModel", "ahead", "()I"⟩) := by decide +kernel
theorem w_1031 : lw_tbl[1031]? = some (Cond.code ⟨"OddBridgeModel", "ahead", "()I"⟩ prog_10_method_22_code 1 (some .int)) := by decide +kernel
theorem w_1032 : lw_tbl[1032]? = some (Cond.methodLink "OddBridgeModel" 118 ⟨"OddBridgeModel", "textLong", "()I"⟩) := by decide +kernel
theorem w_1034 : lw_tbl[1034]? = some (Cond.instanceMethod ⟨"OddBridgeModel", "textLong", "()I"⟩) := by decide +kernel
theorem w_1035 : lw_tbl[1035]? = some (Cond.code ⟨"OddBridgeModel", "textLong", "()I"⟩ prog_10_method_20_code 1 (some .int)) := by decide +kernel
theorem w_1036 : lw_tbl[1036]? = some (Cond.methodLink "OddBridgeModel" 121 ⟨"OddBridgeModel", "charAt", "(I)I"⟩) := by decide +kernel
theorem w_1038 : lw_tbl[1038]? = some (Cond.instanceMethod ⟨"OddBridgeModel", "charAt", "(I)I"⟩) := by decide +kernel
theorem w_1039 : lw_tbl[1039]? = some (Cond.code ⟨"OddBridgeModel", "charAt", "(I)I"⟩ prog_10_method_21_code 2 (some .int)) := by decide +kernel
theorem w_1040 : lw_tbl[1040]? = some (Cond.methodLink "OddBridgeModel" 140 ⟨"OddBridgeModel", "isFigure", "(I)Z"⟩) := by decide +kernel
theorem w_1041 : lw_tbl[1041]? = some (Cond.static ⟨"OddBridgeModel", "isFigure", "(I)Z"⟩) := by decide +kernel
theorem w_1042 : lw_tbl[1042]? = some (Cond.code ⟨"OddBridgeModel", "isFigure", "(I)Z"⟩ prog_10_method_28_code 1 (some .boolean)) := by decide +kernel
theorem w_1043 : lw_tbl[1043]? = some (Cond.constantLong "OddBridgeModel" 136 (48 : Int64)) := by decide +kernel
theorem w_1044 : lw_tbl[1044]? = some (Cond.constantLong "OddBridgeModel" 138 (57 : Int64)) := by decide +kernel
theorem w_1045 : lw_tbl[1045]? = some (Cond.methodLink "OddBridgeModel" 151 ⟨"OddBridgeModel", "digits", "()J"⟩) := by decide +kernel
theorem w_1047 : lw_tbl[1047]? = some (Cond.instanceMethod ⟨"OddBridgeModel", "digits", "()J"⟩) := by decide +kernel
theorem w_1048 : lw_tbl[1048]? = some (Cond.code ⟨"OddBridgeModel", "digits", "()J"⟩ prog_10_method_29_code 4 (some .long)) := by decide +kernel
theorem w_1049 : lw_tbl[1049]? = some (Cond.constantLong "OddBridgeModel" 146 (10 : Int64)) := by decide +kernel
theorem w_1050 : lw_tbl[1050]? = some (Cond.methodLink "OddBridgeModel" 155 ⟨"OddBridgeModel", "stands", "(J)V"⟩) := by decide +kernel
theorem w_1052 : lw_tbl[1052]? = some (Cond.instanceMethod ⟨"OddBridgeModel", "stands", "(J)V"⟩) := by decide +kernel
theorem w_1053 : lw_tbl[1053]? = some (Cond.code ⟨"OddBridgeModel", "stands", "(J)V"⟩ prog_10_method_26_code 5 none) := by decide +kernel
theorem w_1054 : lw_tbl[1054]? = some (Cond.methodLink "OddBridgeModel" 159 ⟨"OddBridgeModel", "letterOf", "(I)I"⟩) := by decide +kernel
theorem w_1055 : lw_tbl[1055]? = some (Cond.static ⟨"OddBridgeModel", "letterOf", "(I)I"⟩) := by decide +kernel
theorem w_1056 : lw_tbl[1056]? = some (Cond.code ⟨"OddBridgeModel", "letterOf", "(I)I"⟩ prog_10_method_27_code 1 (some .int)) := by decide +kernel
theorem w_1057 : lw_tbl[1057]? = some (Cond.methodLink "OddBridgeModel" 162 ⟨"OddBridgeModel", "workDown", "(I)V"⟩) := by decide +kernel
theorem w_1059 : lw_tbl[1059]? = some (Cond.instanceMethod ⟨"OddBridgeModel", "workDown", "(I)V"⟩) := by decide +kernel
theorem w_1060 : lw_tbl[1060]? = some (Cond.code ⟨"OddBridgeModel", "workDown", "(I)V"⟩ prog_10_method_25_code 2 none) := by decide +kernel
theorem w_1061 : lw_tbl[1061]? = some (Cond.methodLink "OddBridgeModel" 130 ⟨"OddBridgeModel", "rank", "(I)I"⟩) := by decide +kernel
theorem w_1062 : lw_tbl[1062]? = some (Cond.static ⟨"OddBridgeModel", "rank", "(I)I"⟩) := by decide +kernel
theorem w_1063 : lw_tbl[1063]? = some (Cond.code ⟨"OddBridgeModel", "rank", "(I)I"⟩ prog_10_method_23_code 1 (some .int)) := by decide +kernel
theorem w_1064 : lw_tbl[1064]? = some (Cond.methodLink "OddBridgeModel" 133 ⟨"OddBridgeModel", "workOut", "()V"⟩) := by decide +kernel
theorem w_1066 : lw_tbl[1066]? = some (Cond.instanceMethod ⟨"OddBridgeModel", "workOut", "()V"⟩) := by decide +kernel
theorem w_1067 : lw_tbl[1067]? = some (Cond.code ⟨"OddBridgeModel", "workOut", "()V"⟩ prog_10_method_24_code 7 none) := by decide +kernel
theorem w_1068 : lw_tbl[1068]? = some (Cond.methodLink "OddBridgeLaw" 44 ⟨"OddBridgeModel", "well", "(II)I"⟩) := by decide +kernel
theorem w_1069 : lw_tbl[1069]? = some (Cond.instanceMethod ⟨"OddBridgeModel", "well", "(II)I"⟩) := by decide +kernel
theorem w_1070 : lw_tbl[1070]? = some (Cond.selects "OddBridgeModel" ⟨"OddBridgeModel", "well", "(II)I"⟩ ⟨"OddBridgeModel", "well", "(II)I"⟩) := by decide +kernel
theorem w_1071 : lw_tbl[1071]? = some (Cond.code ⟨"OddBridgeModel", "well", "(II)I"⟩ prog_10_method_33_code 3 (some .int)) := by decide +kernel
theorem w_1072 : lw_tbl[1072]? = some (Cond.constantLong "OddBridgeModel" 173 (199 : Int64)) := by decide +kernel
theorem w_1073 : lw_tbl[1073]? = some (Cond.methodLink "OddBridgeModel" 175 ⟨"OddBridgeModel", "isWell", "(III)Z"⟩) := by decide +kernel
theorem w_1075 : lw_tbl[1075]? = some (Cond.instanceMethod ⟨"OddBridgeModel", "isWell", "(III)Z"⟩) := by decide +kernel
theorem w_1076 : lw_tbl[1076]? = some (Cond.code ⟨"OddBridgeModel", "isWell", "(III)Z"⟩ prog_10_method_32_code 6 (some .boolean)) := by decide +kernel
theorem w_1077 : lw_tbl[1077]? = some (Cond.methodLink "OddBridgeLaw" 48 ⟨"OddBridgeModel", "on", "(I)I"⟩) := by decide +kernel
theorem w_1078 : lw_tbl[1078]? = some (Cond.instanceMethod ⟨"OddBridgeModel", "on", "(I)I"⟩) := by decide +kernel
theorem w_1079 : lw_tbl[1079]? = some (Cond.selects "OddBridgeModel" ⟨"OddBridgeModel", "on", "(I)I"⟩ ⟨"OddBridgeModel", "on", "(I)I"⟩) := by decide +kernel
theorem w_1080 : lw_tbl[1080]? = some (Cond.code ⟨"OddBridgeModel", "on", "(I)I"⟩ prog_10_method_40_code 2 (some .int)) := by decide +kernel
theorem w_1081 : lw_tbl[1081]? = some (Cond.methodLink "OddBridgeModel" 200 ⟨"OddBridgeModel", "celebrate", "()V"⟩) := by decide +kernel
theorem w_1083 : lw_tbl[1083]? = some (Cond.instanceMethod ⟨"OddBridgeModel", "celebrate", "()V"⟩) := by decide +kernel
theorem w_1084 : lw_tbl[1084]? = some (Cond.code ⟨"OddBridgeModel", "celebrate", "()V"⟩ prog_10_method_39_code 7 none) := by decide +kernel
theorem w_1085 : lw_tbl[1085]? = some (Cond.methodLink "OddBridgeModel" 187 ⟨"OddBridgeModel", "onNow", "()I"⟩) := by decide +kernel
theorem w_1087 : lw_tbl[1087]? = some (Cond.instanceMethod ⟨"OddBridgeModel", "onNow", "()I"⟩) := by decide +kernel
theorem w_1088 : lw_tbl[1088]? = some (Cond.code ⟨"OddBridgeModel", "onNow", "()I"⟩ prog_10_method_35_code 3 (some .int)) := by decide +kernel
theorem w_1089 : lw_tbl[1089]? = some (Cond.methodLink "OddBridgeModel" 190 ⟨"OddBridgeModel", "mayStep", "(I)I"⟩) := by decide +kernel
theorem w_1091 : lw_tbl[1091]? = some (Cond.instanceMethod ⟨"OddBridgeModel", "mayStep", "(I)I"⟩) := by decide +kernel
theorem w_1092 : lw_tbl[1092]? = some (Cond.code ⟨"OddBridgeModel", "mayStep", "(I)I"⟩ prog_10_method_36_code 5 (some .int)) := by decide +kernel
theorem w_1093 : lw_tbl[1093]? = some (Cond.methodLink "OddBridgeModel" 193 ⟨"OddBridgeModel", "manyIn", "(I)I"⟩) := by decide +kernel
theorem w_1094 : lw_tbl[1094]? = some (Cond.static ⟨"OddBridgeModel", "manyIn", "(I)I"⟩) := by decide +kernel
theorem w_1095 : lw_tbl[1095]? = some (Cond.code ⟨"OddBridgeModel", "manyIn", "(I)I"⟩ prog_10_method_34_code 3 (some .int)) := by decide +kernel
theorem w_1096 : lw_tbl[1096]? = some (Cond.methodLink "OddBridgeModel" 196 ⟨"OddBridgeModel", "isWellOn", "(II)Z"⟩) := by decide +kernel
theorem w_1098 : lw_tbl[1098]? = some (Cond.instanceMethod ⟨"OddBridgeModel", "isWellOn", "(II)Z"⟩) := by decide +kernel
theorem w_1099 : lw_tbl[1099]? = some (Cond.code ⟨"OddBridgeModel", "isWellOn", "(II)Z"⟩ prog_10_method_38_code 4 (some .boolean)) := by decide +kernel
theorem w_1100 : lw_tbl[1100]? = some (Cond.methodLink "OddBridgeModel" 179 ⟨"OddBridgeModel", "ahead", "(II)I"⟩) := by decide +kernel
theorem w_1102 : lw_tbl[1102]? = some (Cond.instanceMethod ⟨"OddBridgeModel", "ahead", "(II)I"⟩) := by decide +kernel
theorem w_1103 : lw_tbl[1103]? = some (Cond.code ⟨"OddBridgeModel", "ahead", "(II)I"⟩ prog_10_method_37_code 6 (some .int)) := by decide +kernel
theorem w_1104 : lw_tbl[1104]? = some (Cond.methodLink "OddBridgeLaw" 52 ⟨"OddBridgeModel", "stepped", "(II)I"⟩) := by decide +kernel
theorem w_1105 : lw_tbl[1105]? = some (Cond.instanceMethod ⟨"OddBridgeModel", "stepped", "(II)I"⟩) := by decide +kernel
theorem w_1106 : lw_tbl[1106]? = some (Cond.selects "OddBridgeModel" ⟨"OddBridgeModel", "stepped", "(II)I"⟩ ⟨"OddBridgeModel", "stepped", "(II)I"⟩) := by decide +kernel
theorem w_1107 : lw_tbl[1107]? = some (Cond.code ⟨"OddBridgeModel", "stepped", "(II)I"⟩ prog_10_method_41_code 3 (some .int)) := by decide +kernel
theorem w_1108 : lw_tbl[1108]? = some (Cond.methodLink "OddBridgeModel" 203 ⟨"OddBridgeModel", "isWalker", "(I)Z"⟩) := by decide +kernel
theorem w_1110 : lw_tbl[1110]? = some (Cond.instanceMethod ⟨"OddBridgeModel", "isWalker", "(I)Z"⟩) := by decide +kernel
theorem w_1111 : lw_tbl[1111]? = some (Cond.code ⟨"OddBridgeModel", "isWalker", "(I)Z"⟩ prog_10_method_10_code 2 (some .boolean)) := by decide +kernel
theorem w_1112 : lw_tbl[1112]? = some (Cond.methodLink "OddBridgeLaw" 56 ⟨"OddBridgeModel", "faulty", "(I)I"⟩) := by decide +kernel
theorem w_1113 : lw_tbl[1113]? = some (Cond.instanceMethod ⟨"OddBridgeModel", "faulty", "(I)I"⟩) := by decide +kernel
theorem w_1114 : lw_tbl[1114]? = some (Cond.selects "OddBridgeModel" ⟨"OddBridgeModel", "faulty", "(I)I"⟩ ⟨"OddBridgeModel", "faulty", "(I)I"⟩) := by decide +kernel
theorem w_1115 : lw_tbl[1115]? = some (Cond.code ⟨"OddBridgeModel", "faulty", "(I)I"⟩ prog_10_method_42_code 2 (some .int)) := by decide +kernel
theorem w_1116 : lw_tbl[1116]? = some (Cond.methodLink "OddBridgeLaw" 60 ⟨"OddBridgeModel", "least", "(I)I"⟩) := by decide +kernel
theorem w_1117 : lw_tbl[1117]? = some (Cond.instanceMethod ⟨"OddBridgeModel", "least", "(I)I"⟩) := by decide +kernel
theorem w_1118 : lw_tbl[1118]? = some (Cond.selects "OddBridgeModel" ⟨"OddBridgeModel", "least", "(I)I"⟩ ⟨"OddBridgeModel", "least", "(I)I"⟩) := by decide +kernel
theorem w_1119 : lw_tbl[1119]? = some (Cond.code ⟨"OddBridgeModel", "least", "(I)I"⟩ prog_10_method_49_code 2 (some .int)) := by decide +kernel
theorem w_1120 : lw_tbl[1120]? = some (Cond.constantLong "OddBridgeModel" 225 (3 : Int64)) := by decide +kernel
theorem w_1121 : lw_tbl[1121]? = some (Cond.methodLink "OddBridgeModel" 227 ⟨"OddBridgeModel", "layRow", "()Z"⟩) := by decide +kernel
theorem w_1123 : lw_tbl[1123]? = some (Cond.instanceMethod ⟨"OddBridgeModel", "layRow", "()Z"⟩) := by decide +kernel
theorem w_1124 : lw_tbl[1124]? = some (Cond.code ⟨"OddBridgeModel", "layRow", "()Z"⟩ prog_10_method_47_code 3 (some .boolean)) := by decide +kernel
theorem w_1125 : lw_tbl[1125]? = some (Cond.methodLink "OddBridgeModel" 216 ⟨"OddBridgeModel", "findLeast", "()V"⟩) := by decide +kernel
theorem w_1127 : lw_tbl[1127]? = some (Cond.instanceMethod ⟨"OddBridgeModel", "findLeast", "()V"⟩) := by decide +kernel
theorem w_1128 : lw_tbl[1128]? = some (Cond.code ⟨"OddBridgeModel", "findLeast", "()V"⟩ prog_10_method_46_code 8 none) := by decide +kernel
theorem w_1129 : lw_tbl[1129]? = some (Cond.methodLink "OddBridgeModel" 207 ⟨"OddBridgeModel", "findPrices", "()V"⟩) := by decide +kernel
theorem w_1131 : lw_tbl[1131]? = some (Cond.instanceMethod ⟨"OddBridgeModel", "findPrices", "()V"⟩) := by decide +kernel
theorem w_1132 : lw_tbl[1132]? = some (Cond.code ⟨"OddBridgeModel", "findPrices", "()V"⟩ prog_10_method_44_code 2 none) := by decide +kernel
theorem w_1133 : lw_tbl[1133]? = some (Cond.constant "OddBridgeModel" 206 (1000000 : Int32)) := by decide +kernel
theorem w_1134 : lw_tbl[1134]? = some (Cond.methodLink "OddBridgeModel" 210 ⟨"OddBridgeModel", "mayGo", "(II)Z"⟩) := by decide +kernel
theorem w_1136 : lw_tbl[1136]? = some (Cond.instanceMethod ⟨"OddBridgeModel", "mayGo", "(II)Z"⟩) := by decide +kernel
theorem w_1137 : lw_tbl[1137]? = some (Cond.code ⟨"OddBridgeModel", "mayGo", "(II)Z"⟩ prog_10_method_45_code 3 (some .boolean)) := by decide +kernel
theorem w_1138 : lw_tbl[1138]? = some (Cond.methodLink "OddBridgeModel" 213 ⟨"OddBridgeModel", "timeOf", "(I)I"⟩) := by decide +kernel
theorem w_1140 : lw_tbl[1140]? = some (Cond.instanceMethod ⟨"OddBridgeModel", "timeOf", "(I)I"⟩) := by decide +kernel
theorem w_1141 : lw_tbl[1141]? = some (Cond.code ⟨"OddBridgeModel", "timeOf", "(I)I"⟩ prog_10_method_43_code 4 (some .int)) := by decide +kernel
theorem w_1142 : lw_tbl[1142]? = some (Cond.methodLink "OddBridgeModel" 222 ⟨"OddBridgeModel", "isNext", "(II)Z"⟩) := by decide +kernel
theorem w_1144 : lw_tbl[1144]? = some (Cond.instanceMethod ⟨"OddBridgeModel", "isNext", "(II)Z"⟩) := by decide +kernel
theorem w_1145 : lw_tbl[1145]? = some (Cond.code ⟨"OddBridgeModel", "isNext", "(II)Z"⟩ prog_10_method_48_code 4 (some .boolean)) := by decide +kernel
theorem w_1146 : lw_tbl[1146]? = some (Cond.methodLink "OddBridgeLaw" 64 ⟨"OddBridgeModel", "row", "(I)I"⟩) := by decide +kernel
theorem w_1147 : lw_tbl[1147]? = some (Cond.instanceMethod ⟨"OddBridgeModel", "row", "(I)I"⟩) := by decide +kernel
theorem w_1148 : lw_tbl[1148]? = some (Cond.selects "OddBridgeModel" ⟨"OddBridgeModel", "row", "(I)I"⟩ ⟨"OddBridgeModel", "row", "(I)I"⟩) := by decide +kernel
theorem w_1149 : lw_tbl[1149]? = some (Cond.code ⟨"OddBridgeModel", "row", "(I)I"⟩ prog_10_method_50_code 2 (some .int)) := by decide +kernel
theorem w_1150 : lw_tbl[1150]? = some (Cond.methodLink "OddBridgeLaw" 68 ⟨"OddBridgeModel", "toll", "(II)I"⟩) := by decide +kernel
theorem w_1151 : lw_tbl[1151]? = some (Cond.instanceMethod ⟨"OddBridgeModel", "toll", "(II)I"⟩) := by decide +kernel
theorem w_1152 : lw_tbl[1152]? = some (Cond.selects "OddBridgeModel" ⟨"OddBridgeModel", "toll", "(II)I"⟩ ⟨"OddBridgeModel", "toll", "(II)I"⟩) := by decide +kernel
theorem w_1153 : lw_tbl[1153]? = some (Cond.code ⟨"OddBridgeModel", "toll", "(II)I"⟩ prog_10_method_51_code 13 (some .int)) := by decide +kernel
theorem w_1154 : lw_tbl[1154]? = some (Cond.constantLong "OddBridgeModel" 230 (8 : Int64)) := by decide +kernel
theorem w_1155 : lw_tbl[1155]? = some (Cond.methodLink "OddBridgeModel" 232 ⟨"OddBridgeModel", "no", "()I"⟩) := by decide +kernel
theorem w_1157 : lw_tbl[1157]? = some (Cond.instanceMethod ⟨"OddBridgeModel", "no", "()I"⟩) := by decide +kernel
theorem w_1158 : lw_tbl[1158]? = some (Cond.code ⟨"OddBridgeModel", "no", "()I"⟩ prog_10_method_5_code 1 (some .int)) := by decide +kernel
theorem w_1159 : lw_tbl[1159]? = some (Cond.methodLink "OddBridgeModel" 235 ⟨"OddBridgeModel", "tells", "(JJ)I"⟩) := by decide +kernel
theorem w_1161 : lw_tbl[1161]? = some (Cond.instanceMethod ⟨"OddBridgeModel", "tells", "(JJ)I"⟩) := by decide +kernel
theorem w_1162 : lw_tbl[1162]? = some (Cond.code ⟨"OddBridgeModel", "tells", "(JJ)I"⟩ prog_10_method_7_code 11 (some .int)) := by decide +kernel
theorem w_1163 : lw_tbl[1163]? = some (Cond.methodLink "OddBridgeLaw" 72 ⟨"OddBridgeModel", "doubt", "(II)I"⟩) := by decide +kernel
theorem w_1164 : lw_tbl[1164]? = some (Cond.instanceMethod ⟨"OddBridgeModel", "doubt", "(II)I"⟩) := by decide +kernel
theorem w_1165 : lw_tbl[1165]? = some (Cond.selects "OddBridgeModel" ⟨"OddBridgeModel", "doubt", "(II)I"⟩ ⟨"OddBridgeModel", "doubt", "(II)I"⟩) := by decide +kernel
theorem w_1166 : lw_tbl[1166]? = some (Cond.code ⟨"OddBridgeModel", "doubt", "(II)I"⟩ prog_10_method_52_code 4 (some .int)) := by decide +kernel
theorem w_1167 : lw_tbl[1167]? = some (Cond.methodLink "OddBridgeLaw" 76 ⟨"OddBridgeModel", "odd", "(I)I"⟩) := by decide +kernel
theorem w_1168 : lw_tbl[1168]? = some (Cond.instanceMethod ⟨"OddBridgeModel", "odd", "(I)I"⟩) := by decide +kernel
theorem w_1169 : lw_tbl[1169]? = some (Cond.selects "OddBridgeModel" ⟨"OddBridgeModel", "odd", "(I)I"⟩ ⟨"OddBridgeModel", "odd", "(I)I"⟩) := by decide +kernel
theorem w_1170 : lw_tbl[1170]? = some (Cond.code ⟨"OddBridgeModel", "odd", "(I)I"⟩ prog_10_method_53_code 10 (some .int)) := by decide +kernel
theorem w_1171 : lw_tbl[1171]? = some (Cond.methodLink "OddBridgeLaw" 80 ⟨"OddBridgeModel", "home", "(III)I"⟩) := by decide +kernel
theorem w_1172 : lw_tbl[1172]? = some (Cond.instanceMethod ⟨"OddBridgeModel", "home", "(III)I"⟩) := by decide +kernel
theorem w_1173 : lw_tbl[1173]? = some (Cond.selects "OddBridgeModel" ⟨"OddBridgeModel", "home", "(III)I"⟩ ⟨"OddBridgeModel", "home", "(III)I"⟩) := by decide +kernel
theorem w_1174 : lw_tbl[1174]? = some (Cond.code ⟨"OddBridgeModel", "home", "(III)I"⟩ prog_10_method_54_code 6 (some .int)) := by decide +kernel
theorem w_1175 : lw_tbl[1175]? = some (Cond.constantLong "OddBridgeModel" 239 (40 : Int64)) := by decide +kernel
theorem w_1176 : lw_tbl[1176]? = some (Cond.methodLink "OddBridgeLaw" 84 ⟨"OddBridgeModel", "say", "(III)I"⟩) := by decide +kernel
theorem w_1177 : lw_tbl[1177]? = some (Cond.instanceMethod ⟨"OddBridgeModel", "say", "(III)I"⟩) := by decide +kernel
theorem w_1178 : lw_tbl[1178]? = some (Cond.selects "OddBridgeModel" ⟨"OddBridgeModel", "say", "(III)I"⟩ ⟨"OddBridgeModel", "say", "(III)I"⟩) := by decide +kernel
theorem w_1179 : lw_tbl[1179]? = some (Cond.code ⟨"OddBridgeModel", "say", "(III)I"⟩ prog_10_method_56_code 5 (some .int)) := by decide +kernel
theorem w_1180 : lw_tbl[1180]? = some (Cond.constantLong "OddBridgeModel" 241 (62 : Int64)) := by decide +kernel
theorem w_1181 : lw_tbl[1181]? = some (Cond.methodLink "OddBridgeModel" 243 ⟨"OddBridgeModel", "said", "()I"⟩) := by decide +kernel
theorem w_1183 : lw_tbl[1183]? = some (Cond.instanceMethod ⟨"OddBridgeModel", "said", "()I"⟩) := by decide +kernel
theorem w_1184 : lw_tbl[1184]? = some (Cond.code ⟨"OddBridgeModel", "said", "()I"⟩ prog_10_method_55_code 1 (some .int)) := by decide +kernel
theorem w_1185 : lw_tbl[1185]? = some (Cond.methodLink "OddBridgeLaw" 88 ⟨"OddBridgeModel", "hush", "()I"⟩) := by decide +kernel
theorem w_1186 : lw_tbl[1186]? = some (Cond.instanceMethod ⟨"OddBridgeModel", "hush", "()I"⟩) := by decide +kernel
theorem w_1187 : lw_tbl[1187]? = some (Cond.selects "OddBridgeModel" ⟨"OddBridgeModel", "hush", "()I"⟩ ⟨"OddBridgeModel", "hush", "()I"⟩) := by decide +kernel
theorem w_1188 : lw_tbl[1188]? = some (Cond.code ⟨"OddBridgeModel", "hush", "()I"⟩ prog_10_method_57_code 2 (some .int)) := by decide +kernel
theorem w_1189 : lw_tbl[1189]? = some (Cond.methodLink "OddBridgeLaw" 93 ⟨"OddBridgeModel", "dispute", "(I)J"⟩) := by decide +kernel
theorem w_1190 : lw_tbl[1190]? = some (Cond.instanceMethod ⟨"OddBridgeModel", "dispute", "(I)J"⟩) := by decide +kernel
theorem w_1191 : lw_tbl[1191]? = some (Cond.selects "OddBridgeModel" ⟨"OddBridgeModel", "dispute", "(I)J"⟩ ⟨"OddBridgeModel", "dispute", "(I)J"⟩) := by decide +kernel
theorem w_1192 : lw_tbl[1192]? = some (Cond.code ⟨"OddBridgeModel", "dispute", "(I)J"⟩ prog_10_method_60_code 2 (some .long)) := by decide +kernel
theorem w_1193 : lw_tbl[1193]? = some (Cond.methodLink "OddBridgeModel" 249 ⟨"OddBridgeModel", "disputeOf", "(I)J"⟩) := by decide +kernel
theorem w_1195 : lw_tbl[1195]? = some (Cond.instanceMethod ⟨"OddBridgeModel", "disputeOf", "(I)J"⟩) := by decide +kernel
theorem w_1196 : lw_tbl[1196]? = some (Cond.code ⟨"OddBridgeModel", "disputeOf", "(I)J"⟩ prog_10_method_59_code 5 (some .long)) := by decide +kernel
theorem w_1197 : lw_tbl[1197]? = some (Cond.methodLink "OddBridgeModel" 246 ⟨"OddBridgeModel", "onBy", "(II)I"⟩) := by decide +kernel
theorem w_1199 : lw_tbl[1199]? = some (Cond.instanceMethod ⟨"OddBridgeModel", "onBy", "(II)I"⟩) := by decide +kernel
theorem w_1200 : lw_tbl[1200]? = some (Cond.code ⟨"OddBridgeModel", "onBy", "(II)I"⟩ prog_10_method_58_code 6 (some .int)) := by decide +kernel
theorem w_1201 : lw_tbl[1201]? = some (Cond.methodLink "OddBridgeLaw" 97 ⟨"OddBridgeModel", "lied", "(I)I"⟩) := by decide +kernel
theorem w_1202 : lw_tbl[1202]? = some (Cond.instanceMethod ⟨"OddBridgeModel", "lied", "(I)I"⟩) := by decide +kernel
theorem w_1203 : lw_tbl[1203]? = some (Cond.selects "OddBridgeModel" ⟨"OddBridgeModel", "lied", "(I)I"⟩ ⟨"OddBridgeModel", "lied", "(I)I"⟩) := by decide +kernel
theorem w_1204 : lw_tbl[1204]? = some (Cond.code ⟨"OddBridgeModel", "lied", "(I)I"⟩ prog_10_method_61_code 6 (some .int)) := by decide +kernel
theorem w_1205 : lw_tbl[1205]? = some (Cond.methodLink "OddBridgeLaw" 101 ⟨"OddBridgeModel", "part", "(I)J"⟩) := by decide +kernel
theorem w_1206 : lw_tbl[1206]? = some (Cond.instanceMethod ⟨"OddBridgeModel", "part", "(I)J"⟩) := by decide +kernel
theorem w_1207 : lw_tbl[1207]? = some (Cond.selects "OddBridgeModel" ⟨"OddBridgeModel", "part", "(I)J"⟩ ⟨"OddBridgeModel", "part", "(I)J"⟩) := by decide +kernel
theorem w_1208 : lw_tbl[1208]? = some (Cond.code ⟨"OddBridgeModel", "part", "(I)J"⟩ prog_10_method_62_code 2 (some .long)) := by decide +kernel
theorem w_1209 : lw_tbl[1209]? = some (Cond.methodLink "OddBridgeLaw" 105 ⟨"OddBridgeModel", "image", "(I)I"⟩) := by decide +kernel
theorem w_1210 : lw_tbl[1210]? = some (Cond.instanceMethod ⟨"OddBridgeModel", "image", "(I)I"⟩) := by decide +kernel
theorem w_1211 : lw_tbl[1211]? = some (Cond.selects "OddBridgeModel" ⟨"OddBridgeModel", "image", "(I)I"⟩ ⟨"OddBridgeModel", "image", "(I)I"⟩) := by decide +kernel
theorem w_1212 : lw_tbl[1212]? = some (Cond.code ⟨"OddBridgeModel", "image", "(I)I"⟩ prog_10_method_63_code 3 (some .int)) := by decide +kernel
theorem w_1213 : lw_tbl[1213]? = some (Cond.methodLink "OddBridgeLaw" 109 ⟨"OddBridgeModel", "from", "(I)I"⟩) := by decide +kernel
theorem w_1214 : lw_tbl[1214]? = some (Cond.instanceMethod ⟨"OddBridgeModel", "from", "(I)I"⟩) := by decide +kernel
theorem w_1215 : lw_tbl[1215]? = some (Cond.selects "OddBridgeModel" ⟨"OddBridgeModel", "from", "(I)I"⟩ ⟨"OddBridgeModel", "from", "(I)I"⟩) := by decide +kernel
theorem w_1216 : lw_tbl[1216]? = some (Cond.code ⟨"OddBridgeModel", "from", "(I)I"⟩ prog_10_method_64_code 3 (some .int)) := by decide +kernel
theorem w_1217 : lw_tbl[1217]? = some (Cond.methodLink "OddBridgeLaw" 113 ⟨"OddBridgeModel", "status", "(I)I"⟩) := by decide +kernel
theorem w_1218 : lw_tbl[1218]? = some (Cond.instanceMethod ⟨"OddBridgeModel", "status", "(I)I"⟩) := by decide +kernel
theorem w_1219 : lw_tbl[1219]? = some (Cond.selects "OddBridgeModel" ⟨"OddBridgeModel", "status", "(I)I"⟩ ⟨"OddBridgeModel", "status", "(I)I"⟩) := by decide +kernel
theorem w_1220 : lw_tbl[1220]? = some (Cond.code ⟨"OddBridgeModel", "status", "(I)I"⟩ prog_10_method_65_code 2 (some .int)) := by decide +kernel
theorem w_1221 : lw_tbl[1221]? = some (Cond.constantLong "OddBridgeModel" 253 (2 : Int64)) := by decide +kernel
theorem w_1222 : lw_tbl[1222]? = some (Cond.methodLink "OddBridgeLaw" 117 ⟨"OddBridgeModel", "count", "(I)I"⟩) := by decide +kernel
theorem w_1223 : lw_tbl[1223]? = some (Cond.instanceMethod ⟨"OddBridgeModel", "count", "(I)I"⟩) := by decide +kernel
theorem w_1224 : lw_tbl[1224]? = some (Cond.selects "OddBridgeModel" ⟨"OddBridgeModel", "count", "(I)I"⟩ ⟨"OddBridgeModel", "count", "(I)I"⟩) := by decide +kernel
theorem w_1225 : lw_tbl[1225]? = some (Cond.code ⟨"OddBridgeModel", "count", "(I)I"⟩ prog_10_method_66_code 2 (some .int)) := by decide +kernel
theorem w_1226 : lw_tbl[1226]? = some (Cond.methodLink "OddBridgeLaw" 122 ⟨"OddBridgeModel", "digest", "()J"⟩) := by decide +kernel
theorem w_1227 : lw_tbl[1227]? = some (Cond.instanceMethod ⟨"OddBridgeModel", "digest", "()J"⟩) := by decide +kernel
theorem w_1228 : lw_tbl[1228]? = some (Cond.selects "OddBridgeModel" ⟨"OddBridgeModel", "digest", "()J"⟩ ⟨"OddBridgeModel", "digest", "()J"⟩) := by decide +kernel
theorem w_1229 : lw_tbl[1229]? = some (Cond.code ⟨"OddBridgeModel", "digest", "()J"⟩ prog_10_method_68_code 3 (some .long)) := by decide +kernel
theorem w_1230 : lw_tbl[1230]? = some (Cond.constantLong "OddBridgeModel" 255 (31 : Int64)) := by decide +kernel
theorem w_1231 : lw_tbl[1231]? = some (Cond.constantLong "OddBridgeModel" 257 (19933 : Int64)) := by decide +kernel
theorem w_1232 : lw_tbl[1232]? = some (Cond.methodLink "OddBridgeModel" 259 ⟨"OddBridgeModel", "sums", "(JII)J"⟩) := by decide +kernel
theorem w_1234 : lw_tbl[1234]? = some (Cond.instanceMethod ⟨"OddBridgeModel", "sums", "(JII)J"⟩) := by decide +kernel
theorem w_1235 : lw_tbl[1235]? = some (Cond.code ⟨"OddBridgeModel", "sums", "(JII)J"⟩ prog_10_method_67_code 8 (some .long)) := by decide +kernel
