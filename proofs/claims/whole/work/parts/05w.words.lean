theorem bw_0 : Cond.selects "ClassMaker$Tape" (⟨"ClassMaker$Tape", "scanToken", "(I)I"⟩ : MethodName) (⟨"ClassMaker$Tape", "scanToken", "(I)I"⟩ : MethodName) ∈ BW := BW_in (List.mem_of_getElem? (i := 0) (by decide +kernel)) rfl
theorem bw_1 : Cond.selects "ClassMaker$Tape" (⟨"ClassMaker$Tape", "wordCode", "(II)I"⟩ : MethodName) (⟨"ClassMaker$Tape", "wordCode", "(II)I"⟩ : MethodName) ∈ BW := BW_in (List.mem_of_getElem? (i := 1) (by decide +kernel)) rfl
theorem bw_2 : Cond.selects "ClassMaker$Tape" (⟨"ClassMaker$Tape", "add", "(III)V"⟩ : MethodName) (⟨"ClassMaker$Tape", "add", "(III)V"⟩ : MethodName) ∈ BW := BW_in (List.mem_of_getElem? (i := 2) (by decide +kernel)) rfl
theorem bw_3 : Cond.selects "ClassMaker$Tape" (⟨"ClassMaker$Tape", "scanNumber", "(I)I"⟩ : MethodName) (⟨"ClassMaker$Tape", "scanNumber", "(I)I"⟩ : MethodName) ∈ BW := BW_in (List.mem_of_getElem? (i := 3) (by decide +kernel)) rfl
theorem bw_4 : Cond.selects "ClassMaker$Parser" (⟨"ClassMaker$Parser", "next", "()V"⟩ : MethodName) (⟨"ClassMaker$Parser", "next", "()V"⟩ : MethodName) ∈ BW := BW_in (List.mem_of_getElem? (i := 4) (by decide +kernel)) rfl
theorem bw_5 : Cond.selects "ClassMaker$Parser" (⟨"ClassMaker$Parser", "readStatement", "(I)Z"⟩ : MethodName) (⟨"ClassMaker$Parser", "readStatement", "(I)Z"⟩ : MethodName) ∈ BW := BW_in (List.mem_of_getElem? (i := 5) (by decide +kernel)) rfl
theorem bw_6 : Cond.selects "ClassMaker$Parser" (⟨"ClassMaker$Parser", "refuse", "(I)Z"⟩ : MethodName) (⟨"ClassMaker$Parser", "refuse", "(I)Z"⟩ : MethodName) ∈ BW := BW_in (List.mem_of_getElem? (i := 6) (by decide +kernel)) rfl
theorem bw_7 : Cond.selects "ClassMaker$Parser" (⟨"ClassMaker$Parser", "readBody", "(II)Z"⟩ : MethodName) (⟨"ClassMaker$Parser", "readBody", "(II)Z"⟩ : MethodName) ∈ BW := BW_in (List.mem_of_getElem? (i := 7) (by decide +kernel)) rfl
theorem bw_8 : Cond.selects "ClassMaker$Parser" (⟨"ClassMaker$Parser", "readTerms", "(I)Z"⟩ : MethodName) (⟨"ClassMaker$Parser", "readTerms", "(I)Z"⟩ : MethodName) ∈ BW := BW_in (List.mem_of_getElem? (i := 8) (by decide +kernel)) rfl
theorem bw_9 : Cond.selects "ClassMaker$Parser" (⟨"ClassMaker$Parser", "readTerm", "(I)Z"⟩ : MethodName) (⟨"ClassMaker$Parser", "readTerm", "(I)Z"⟩ : MethodName) ∈ BW := BW_in (List.mem_of_getElem? (i := 9) (by decide +kernel)) rfl
theorem bw_10 : Cond.selects "ClassMaker$Parser" (⟨"ClassMaker$Parser", "readCode", "(I)Z"⟩ : MethodName) (⟨"ClassMaker$Parser", "readCode", "(I)Z"⟩ : MethodName) ∈ BW := BW_in (List.mem_of_getElem? (i := 10) (by decide +kernel)) rfl
theorem bw_11 : Cond.selects "ClassMaker$Parser" (⟨"ClassMaker$Parser", "readWeight", "(I)Z"⟩ : MethodName) (⟨"ClassMaker$Parser", "readWeight", "(I)Z"⟩ : MethodName) ∈ BW := BW_in (List.mem_of_getElem? (i := 11) (by decide +kernel)) rfl
theorem bw_12 : Cond.selects "ClassMaker$Parser" (⟨"ClassMaker$Parser", "readNumber", "(I)Z"⟩ : MethodName) (⟨"ClassMaker$Parser", "readNumber", "(I)Z"⟩ : MethodName) ∈ BW := BW_in (List.mem_of_getElem? (i := 12) (by decide +kernel)) rfl
theorem bw_13 : Cond.selects "ClassMaker$Parser" (⟨"ClassMaker$Parser", "readTrait", "(I)Z"⟩ : MethodName) (⟨"ClassMaker$Parser", "readTrait", "(I)Z"⟩ : MethodName) ∈ BW := BW_in (List.mem_of_getElem? (i := 13) (by decide +kernel)) rfl
theorem bw_14 : Cond.selects "ClassMaker$Parser" (⟨"ClassMaker$Parser", "readHow", "(I)Z"⟩ : MethodName) (⟨"ClassMaker$Parser", "readHow", "(I)Z"⟩ : MethodName) ∈ BW := BW_in (List.mem_of_getElem? (i := 14) (by decide +kernel)) rfl
theorem bw_15 : Cond.selects "ClassMaker" (⟨"ClassMaker", "isDay", "(I)Z"⟩ : MethodName) (⟨"ClassMaker", "isDay", "(I)Z"⟩ : MethodName) ∈ BW := BW_in (List.mem_of_getElem? (i := 15) (by decide +kernel)) rfl
theorem bw_16 : Cond.selects "ClassMaker$Rules" (⟨"ClassMaker$Rules", "termsUse", "(II)Z"⟩ : MethodName) (⟨"ClassMaker$Rules", "termsUse", "(II)Z"⟩ : MethodName) ∈ BW := BW_in (List.mem_of_getElem? (i := 16) (by decide +kernel)) rfl
theorem bw_17 : Cond.selects "ClassMaker$Judge" (⟨"ClassMaker$Judge", "traitOf", "(II)I"⟩ : MethodName) (⟨"ClassMaker$Judge", "traitOf", "(II)I"⟩ : MethodName) ∈ BW := BW_in (List.mem_of_getElem? (i := 17) (by decide +kernel)) rfl
theorem bw_18 : Cond.selects "ClassMaker$Judge" (⟨"ClassMaker$Judge", "holders", "(I)I"⟩ : MethodName) (⟨"ClassMaker$Judge", "holders", "(I)I"⟩ : MethodName) ∈ BW := BW_in (List.mem_of_getElem? (i := 18) (by decide +kernel)) rfl
theorem bw_19 : Cond.selects "ClassMaker$Judge" (⟨"ClassMaker$Judge", "meetsTerm", "(II)Z"⟩ : MethodName) (⟨"ClassMaker$Judge", "meetsTerm", "(II)Z"⟩ : MethodName) ∈ BW := BW_in (List.mem_of_getElem? (i := 19) (by decide +kernel)) rfl
theorem bw_20 : Cond.selects "ClassMaker" (⟨"ClassMaker", "bestPlan", "(I)I"⟩ : MethodName) (⟨"ClassMaker", "bestPlan", "(I)I"⟩ : MethodName) ∈ BW := BW_in (List.mem_of_getElem? (i := 20) (by decide +kernel)) rfl
theorem bw_21 : Cond.selects "ClassMaker" (⟨"ClassMaker", "searchBest", "(I)I"⟩ : MethodName) (⟨"ClassMaker", "searchBest", "(I)I"⟩ : MethodName) ∈ BW := BW_in (List.mem_of_getElem? (i := 21) (by decide +kernel)) rfl
theorem bw_22 : Cond.selects "ClassMaker$Search" (⟨"ClassMaker$Search", "readSets", "()V"⟩ : MethodName) (⟨"ClassMaker$Search", "readSets", "()V"⟩ : MethodName) ∈ BW := BW_in (List.mem_of_getElem? (i := 22) (by decide +kernel)) rfl
theorem bw_23 : Cond.selects "ClassMaker$Judge" (⟨"ClassMaker$Judge", "hasNoPair", "(I)Z"⟩ : MethodName) (⟨"ClassMaker$Judge", "hasNoPair", "(I)Z"⟩ : MethodName) ∈ BW := BW_in (List.mem_of_getElem? (i := 23) (by decide +kernel)) rfl
theorem bw_24 : Cond.selects "ClassMaker$Judge" (⟨"ClassMaker$Judge", "fitsStatements", "(I)Z"⟩ : MethodName) (⟨"ClassMaker$Judge", "fitsStatements", "(I)Z"⟩ : MethodName) ∈ BW := BW_in (List.mem_of_getElem? (i := 24) (by decide +kernel)) rfl
theorem bw_25 : Cond.selects "ClassMaker$Judge" (⟨"ClassMaker$Judge", "leftIn", "(I)I"⟩ : MethodName) (⟨"ClassMaker$Judge", "leftIn", "(I)I"⟩ : MethodName) ∈ BW := BW_in (List.mem_of_getElem? (i := 25) (by decide +kernel)) rfl
theorem bw_26 : Cond.selects "ClassMaker$Judge" (⟨"ClassMaker$Judge", "regretIn", "(I)I"⟩ : MethodName) (⟨"ClassMaker$Judge", "regretIn", "(I)I"⟩ : MethodName) ∈ BW := BW_in (List.mem_of_getElem? (i := 26) (by decide +kernel)) rfl
theorem bw_27 : Cond.selects "ClassMaker$Search" (⟨"ClassMaker$Search", "readTwins", "()V"⟩ : MethodName) (⟨"ClassMaker$Search", "readTwins", "()V"⟩ : MethodName) ∈ BW := BW_in (List.mem_of_getElem? (i := 27) (by decide +kernel)) rfl
theorem bw_28 : Cond.selects "ClassMaker$Search" (⟨"ClassMaker$Search", "readSpreads", "()V"⟩ : MethodName) (⟨"ClassMaker$Search", "readSpreads", "()V"⟩ : MethodName) ∈ BW := BW_in (List.mem_of_getElem? (i := 28) (by decide +kernel)) rfl
theorem bw_29 : Cond.selects "ClassMaker$Search" (⟨"ClassMaker$Search", "weigh", "()V"⟩ : MethodName) (⟨"ClassMaker$Search", "weigh", "()V"⟩ : MethodName) ∈ BW := BW_in (List.mem_of_getElem? (i := 29) (by decide +kernel)) rfl
theorem bw_30 : Cond.selects "ClassMaker$Search" (⟨"ClassMaker$Search", "spreadOf", "(I)I"⟩ : MethodName) (⟨"ClassMaker$Search", "spreadOf", "(I)I"⟩ : MethodName) ∈ BW := BW_in (List.mem_of_getElem? (i := 30) (by decide +kernel)) rfl
theorem bw_31 : Cond.selects "ClassMaker$Search" (⟨"ClassMaker$Search", "isPerfect", "()Z"⟩ : MethodName) (⟨"ClassMaker$Search", "isPerfect", "()Z"⟩ : MethodName) ∈ BW := BW_in (List.mem_of_getElem? (i := 31) (by decide +kernel)) rfl
theorem bw_32 : Cond.selects "ClassMaker$Search" (⟨"ClassMaker$Search", "isRepeat", "(I)Z"⟩ : MethodName) (⟨"ClassMaker$Search", "isRepeat", "(I)Z"⟩ : MethodName) ∈ BW := BW_in (List.mem_of_getElem? (i := 32) (by decide +kernel)) rfl
theorem bw_33 : Cond.selects "ClassMaker$Search" (⟨"ClassMaker$Search", "mayJoin", "(II)Z"⟩ : MethodName) (⟨"ClassMaker$Search", "mayJoin", "(II)Z"⟩ : MethodName) ∈ BW := BW_in (List.mem_of_getElem? (i := 33) (by decide +kernel)) rfl
theorem bw_34 : Cond.selects "ClassMaker$Search" (⟨"ClassMaker$Search", "movesOf", "(II)I"⟩ : MethodName) (⟨"ClassMaker$Search", "movesOf", "(II)I"⟩ : MethodName) ∈ BW := BW_in (List.mem_of_getElem? (i := 34) (by decide +kernel)) rfl
theorem bw_35 : Cond.selects "ClassMaker$Search" (⟨"ClassMaker$Search", "put", "(III)V"⟩ : MethodName) (⟨"ClassMaker$Search", "put", "(III)V"⟩ : MethodName) ∈ BW := BW_in (List.mem_of_getElem? (i := 35) (by decide +kernel)) rfl
theorem bw_36 : Cond.selects "ClassMaker" (⟨"ClassMaker", "takeSearched", "()V"⟩ : MethodName) (⟨"ClassMaker", "takeSearched", "()V"⟩ : MethodName) ∈ BW := BW_in (List.mem_of_getElem? (i := 36) (by decide +kernel)) rfl
theorem bw_37 : Cond.selects "ClassMaker$Hand" (⟨"ClassMaker$Hand", "firstClass", "(I)I"⟩ : MethodName) (⟨"ClassMaker$Hand", "firstClass", "(I)I"⟩ : MethodName) ∈ BW := BW_in (List.mem_of_getElem? (i := 37) (by decide +kernel)) rfl
theorem bw_38 : Cond.selects "ClassMaker$Judge" (⟨"ClassMaker$Judge", "isWhole", "(II)Z"⟩ : MethodName) (⟨"ClassMaker$Judge", "isWhole", "(II)Z"⟩ : MethodName) ∈ BW := BW_in (List.mem_of_getElem? (i := 38) (by decide +kernel)) rfl
theorem bw_39 : Cond.selects "ClassMaker$Judge" (⟨"ClassMaker$Judge", "weightIn", "(II)I"⟩ : MethodName) (⟨"ClassMaker$Judge", "weightIn", "(II)I"⟩ : MethodName) ∈ BW := BW_in (List.mem_of_getElem? (i := 39) (by decide +kernel)) rfl
theorem bw_40 : Cond.selects "ClassMaker$Hand" (⟨"ClassMaker$Hand", "stepsByMove", "()Z"⟩ : MethodName) (⟨"ClassMaker$Hand", "stepsByMove", "()Z"⟩ : MethodName) ∈ BW := BW_in (List.mem_of_getElem? (i := 40) (by decide +kernel)) rfl
theorem bw_41 : Cond.selects "ClassMaker$Hand" (⟨"ClassMaker$Hand", "moveBetters", "(III)Z"⟩ : MethodName) (⟨"ClassMaker$Hand", "moveBetters", "(III)Z"⟩ : MethodName) ∈ BW := BW_in (List.mem_of_getElem? (i := 41) (by decide +kernel)) rfl
theorem bw_42 : Cond.selects "ClassMaker$Hand" (⟨"ClassMaker$Hand", "stepsBySwap", "()Z"⟩ : MethodName) (⟨"ClassMaker$Hand", "stepsBySwap", "()Z"⟩ : MethodName) ∈ BW := BW_in (List.mem_of_getElem? (i := 42) (by decide +kernel)) rfl
theorem bw_43 : Cond.selects "ClassMaker" (⟨"ClassMaker", "gatherList", "()V"⟩ : MethodName) (⟨"ClassMaker", "gatherList", "()V"⟩ : MethodName) ∈ BW := BW_in (List.mem_of_getElem? (i := 43) (by decide +kernel)) rfl
theorem bw_44 : Cond.selects "ClassMaker" (⟨"ClassMaker", "countListed", "()I"⟩ : MethodName) (⟨"ClassMaker", "countListed", "()I"⟩ : MethodName) ∈ BW := BW_in (List.mem_of_getElem? (i := 44) (by decide +kernel)) rfl
theorem bw_45 : Cond.selects "ClassMaker" (⟨"ClassMaker", "searchSwaps", "(I)I"⟩ : MethodName) (⟨"ClassMaker", "searchSwaps", "(I)I"⟩ : MethodName) ∈ BW := BW_in (List.mem_of_getElem? (i := 45) (by decide +kernel)) rfl
theorem bw_46 : Cond.selects "ClassMaker" (⟨"ClassMaker", "bettersBoth", "(II)Z"⟩ : MethodName) (⟨"ClassMaker", "bettersBoth", "(II)Z"⟩ : MethodName) ∈ BW := BW_in (List.mem_of_getElem? (i := 46) (by decide +kernel)) rfl
theorem bw_47 : Cond.selects "ClassMaker$Helpers" (⟨"ClassMaker$Helpers", "lackOfWay", "(II)I"⟩ : MethodName) (⟨"ClassMaker$Helpers", "lackOfWay", "(II)I"⟩ : MethodName) ∈ BW := BW_in (List.mem_of_getElem? (i := 47) (by decide +kernel)) rfl
theorem bw_48 : Cond.selects "ClassMaker" (⟨"ClassMaker", "partPairs", "()V"⟩ : MethodName) (⟨"ClassMaker", "partPairs", "()V"⟩ : MethodName) ∈ BW := BW_in (List.mem_of_getElem? (i := 48) (by decide +kernel)) rfl
theorem bw_49 : Cond.selects "ClassMaker" (⟨"ClassMaker", "settle", "()I"⟩ : MethodName) (⟨"ClassMaker", "settle", "()I"⟩ : MethodName) ∈ BW := BW_in (List.mem_of_getElem? (i := 49) (by decide +kernel)) rfl
theorem bw_50 : Cond.selects "ClassMaker" (⟨"ClassMaker", "countClass", "(I)I"⟩ : MethodName) (⟨"ClassMaker", "countClass", "(I)I"⟩ : MethodName) ∈ BW := BW_in (List.mem_of_getElem? (i := 50) (by decide +kernel)) rfl
theorem bw_52 : Cond.selects "ClassMakerModel" (⟨"ClassMakerModel", "isChild", "(I)Z"⟩ : MethodName) (⟨"ClassMakerModel", "isChild", "(I)Z"⟩ : MethodName) ∈ BW := BW_in (List.mem_of_getElem? (i := 52) (by decide +kernel)) rfl
theorem bw_53 : Cond.selects "ClassMakerModel" (⟨"ClassMakerModel", "areTwo", "(II)Z"⟩ : MethodName) (⟨"ClassMakerModel", "areTwo", "(II)Z"⟩ : MethodName) ∈ BW := BW_in (List.mem_of_getElem? (i := 53) (by decide +kernel)) rfl
theorem bw_54 : Cond.selects "ClassMakerModel" (⟨"ClassMakerModel", "turns", "([ZIIZ)Z"⟩ : MethodName) (⟨"ClassMakerModel", "turns", "([ZIIZ)Z"⟩ : MethodName) ∈ BW := BW_in (List.mem_of_getElem? (i := 54) (by decide +kernel)) rfl
theorem bw_55 : Cond.selects "ClassMakerModel" (⟨"ClassMakerModel", "together", "(III)I"⟩ : MethodName) (⟨"ClassMakerModel", "together", "(III)I"⟩ : MethodName) ∈ BW := BW_in (List.mem_of_getElem? (i := 55) (by decide +kernel)) rfl
theorem bw_56 : Cond.selects "ClassMakerModel" (⟨"ClassMakerModel", "scaledOf", "(IIII)I"⟩ : MethodName) (⟨"ClassMakerModel", "scaledOf", "(IIII)I"⟩ : MethodName) ∈ BW := BW_in (List.mem_of_getElem? (i := 56) (by decide +kernel)) rfl
theorem bw_57 : Cond.selects "ClassMakerModel" (⟨"ClassMakerModel", "raw", "(IIII)I"⟩ : MethodName) (⟨"ClassMakerModel", "raw", "(IIII)I"⟩ : MethodName) ∈ BW := BW_in (List.mem_of_getElem? (i := 57) (by decide +kernel)) rfl
theorem bw_58 : Cond.selects "ClassMakerModel" (⟨"ClassMakerModel", "next", "()V"⟩ : MethodName) (⟨"ClassMakerModel", "next", "()V"⟩ : MethodName) ∈ BW := BW_in (List.mem_of_getElem? (i := 58) (by decide +kernel)) rfl
theorem bw_59 : Cond.selects "ClassMakerModel" (⟨"ClassMakerModel", "byteAt", "(I)I"⟩ : MethodName) (⟨"ClassMakerModel", "byteAt", "(I)I"⟩ : MethodName) ∈ BW := BW_in (List.mem_of_getElem? (i := 59) (by decide +kernel)) rfl
theorem bw_60 : Cond.selects "ClassMakerModel" (⟨"ClassMakerModel", "statement", "()Z"⟩ : MethodName) (⟨"ClassMakerModel", "statement", "()Z"⟩ : MethodName) ∈ BW := BW_in (List.mem_of_getElem? (i := 60) (by decide +kernel)) rfl
theorem bw_61 : Cond.selects "ClassMakerModel" (⟨"ClassMakerModel", "sortHere", "()I"⟩ : MethodName) (⟨"ClassMakerModel", "sortHere", "()I"⟩ : MethodName) ∈ BW := BW_in (List.mem_of_getElem? (i := 61) (by decide +kernel)) rfl
theorem bw_62 : Cond.selects "ClassMakerModel" (⟨"ClassMakerModel", "isWord", "(Ljava/lang/String;)Z"⟩ : MethodName) (⟨"ClassMakerModel", "isWord", "(Ljava/lang/String;)Z"⟩ : MethodName) ∈ BW := BW_in (List.mem_of_getElem? (i := 62) (by decide +kernel)) rfl
theorem bw_63 : Cond.selects "ClassMakerModel" (⟨"ClassMakerModel", "wrong", "(I)Z"⟩ : MethodName) (⟨"ClassMakerModel", "wrong", "(I)Z"⟩ : MethodName) ∈ BW := BW_in (List.mem_of_getElem? (i := 63) (by decide +kernel)) rfl
theorem bw_64 : Cond.selects "ClassMakerModel" (⟨"ClassMakerModel", "isBody", "(II)Z"⟩ : MethodName) (⟨"ClassMakerModel", "isBody", "(II)Z"⟩ : MethodName) ∈ BW := BW_in (List.mem_of_getElem? (i := 64) (by decide +kernel)) rfl
theorem bw_65 : Cond.selects "ClassMakerModel" (⟨"ClassMakerModel", "isSign", "(I)Z"⟩ : MethodName) (⟨"ClassMakerModel", "isSign", "(I)Z"⟩ : MethodName) ∈ BW := BW_in (List.mem_of_getElem? (i := 65) (by decide +kernel)) rfl
theorem bw_66 : Cond.selects "ClassMakerModel" (⟨"ClassMakerModel", "takesTerms", "(I)Z"⟩ : MethodName) (⟨"ClassMakerModel", "takesTerms", "(I)Z"⟩ : MethodName) ∈ BW := BW_in (List.mem_of_getElem? (i := 66) (by decide +kernel)) rfl
theorem bw_67 : Cond.selects "ClassMakerModel" (⟨"ClassMakerModel", "factHere", "()I"⟩ : MethodName) (⟨"ClassMakerModel", "factHere", "()I"⟩ : MethodName) ∈ BW := BW_in (List.mem_of_getElem? (i := 67) (by decide +kernel)) rfl
theorem bw_68 : Cond.selects "ClassMakerModel" (⟨"ClassMakerModel", "takesTerm", "(I)Z"⟩ : MethodName) (⟨"ClassMakerModel", "takesTerm", "(I)Z"⟩ : MethodName) ∈ BW := BW_in (List.mem_of_getElem? (i := 68) (by decide +kernel)) rfl
theorem bw_69 : Cond.selects "ClassMakerModel" (⟨"ClassMakerModel", "takesSign", "(I)Z"⟩ : MethodName) (⟨"ClassMakerModel", "takesSign", "(I)Z"⟩ : MethodName) ∈ BW := BW_in (List.mem_of_getElem? (i := 69) (by decide +kernel)) rfl
theorem bw_70 : Cond.selects "ClassMakerModel" (⟨"ClassMakerModel", "takesNumber", "(I)Z"⟩ : MethodName) (⟨"ClassMakerModel", "takesNumber", "(I)Z"⟩ : MethodName) ∈ BW := BW_in (List.mem_of_getElem? (i := 70) (by decide +kernel)) rfl
theorem bw_71 : Cond.selects "ClassMakerModel" (⟨"ClassMakerModel", "learns", "(I)V"⟩ : MethodName) (⟨"ClassMakerModel", "learns", "(I)V"⟩ : MethodName) ∈ BW := BW_in (List.mem_of_getElem? (i := 71) (by decide +kernel)) rfl
theorem bw_72 : Cond.selects "ClassMakerModel" (⟨"ClassMakerModel", "wishesOf", "(I)I"⟩ : MethodName) (⟨"ClassMakerModel", "wishesOf", "(I)I"⟩ : MethodName) ∈ BW := BW_in (List.mem_of_getElem? (i := 72) (by decide +kernel)) rfl
theorem bw_73 : Cond.selects "ClassMakerModel" (⟨"ClassMakerModel", "namedBy", "(I)I"⟩ : MethodName) (⟨"ClassMakerModel", "namedBy", "(I)I"⟩ : MethodName) ∈ BW := BW_in (List.mem_of_getElem? (i := 73) (by decide +kernel)) rfl
theorem bw_74 : Cond.selects "ClassMakerModel" (⟨"ClassMakerModel", "allHold", "(II)Z"⟩ : MethodName) (⟨"ClassMakerModel", "allHold", "(II)Z"⟩ : MethodName) ∈ BW := BW_in (List.mem_of_getElem? (i := 74) (by decide +kernel)) rfl
theorem bw_75 : Cond.selects "ClassMakerModel" (⟨"ClassMakerModel", "bests", "(I)I"⟩ : MethodName) (⟨"ClassMakerModel", "bests", "(I)I"⟩ : MethodName) ∈ BW := BW_in (List.mem_of_getElem? (i := 75) (by decide +kernel)) rfl
theorem bw_76 : Cond.selects "ClassMakerModel" (⟨"ClassMakerModel", "cameBy", "(I)I"⟩ : MethodName) (⟨"ClassMakerModel", "cameBy", "(I)I"⟩ : MethodName) ∈ BW := BW_in (List.mem_of_getElem? (i := 76) (by decide +kernel)) rfl
theorem bw_77 : Cond.selects "ClassMakerModel" (⟨"ClassMakerModel", "isSound", "()Z"⟩ : MethodName) (⟨"ClassMakerModel", "isSound", "()Z"⟩ : MethodName) ∈ BW := BW_in (List.mem_of_getElem? (i := 77) (by decide +kernel)) rfl
theorem bw_78 : Cond.selects "ClassMakerModel" (⟨"ClassMakerModel", "inClass", "(I)I"⟩ : MethodName) (⟨"ClassMakerModel", "inClass", "(I)I"⟩ : MethodName) ∈ BW := BW_in (List.mem_of_getElem? (i := 78) (by decide +kernel)) rfl
theorem bw_79 : Cond.selects "ClassMakerModel" (⟨"ClassMakerModel", "isMet", "(I)Z"⟩ : MethodName) (⟨"ClassMakerModel", "isMet", "(I)Z"⟩ : MethodName) ∈ BW := BW_in (List.mem_of_getElem? (i := 79) (by decide +kernel)) rfl
theorem bw_80 : Cond.selects "ClassMakerModel" (⟨"ClassMakerModel", "holdIn", "(II)I"⟩ : MethodName) (⟨"ClassMakerModel", "holdIn", "(II)I"⟩ : MethodName) ∈ BW := BW_in (List.mem_of_getElem? (i := 80) (by decide +kernel)) rfl
theorem bw_81 : Cond.selects "ClassMakerModel" (⟨"ClassMakerModel", "lack", "()I"⟩ : MethodName) (⟨"ClassMakerModel", "lack", "()I"⟩ : MethodName) ∈ BW := BW_in (List.mem_of_getElem? (i := 81) (by decide +kernel)) rfl
theorem bw_82 : Cond.selects "ClassMakerModel" (⟨"ClassMakerModel", "allHarm", "()I"⟩ : MethodName) (⟨"ClassMakerModel", "allHarm", "()I"⟩ : MethodName) ∈ BW := BW_in (List.mem_of_getElem? (i := 82) (by decide +kernel)) rfl
theorem bw_83 : Cond.selects "ClassMakerModel" (⟨"ClassMakerModel", "harmOf", "(I)I"⟩ : MethodName) (⟨"ClassMakerModel", "harmOf", "(I)I"⟩ : MethodName) ∈ BW := BW_in (List.mem_of_getElem? (i := 83) (by decide +kernel)) rfl
theorem bw_84 : Cond.selects "ClassMakerModel" (⟨"ClassMakerModel", "servedIn", "(I)I"⟩ : MethodName) (⟨"ClassMakerModel", "servedIn", "(I)I"⟩ : MethodName) ∈ BW := BW_in (List.mem_of_getElem? (i := 84) (by decide +kernel)) rfl
theorem bw_85 : Cond.selects "ClassMakerModel" (⟨"ClassMakerModel", "counts", "()Z"⟩ : MethodName) (⟨"ClassMakerModel", "counts", "()Z"⟩ : MethodName) ∈ BW := BW_in (List.mem_of_getElem? (i := 85) (by decide +kernel)) rfl
theorem bw_86 : Cond.selects "ClassMakerModel" (⟨"ClassMakerModel", "softest", "(IZ)I"⟩ : MethodName) (⟨"ClassMakerModel", "softest", "(IZ)I"⟩ : MethodName) ∈ BW := BW_in (List.mem_of_getElem? (i := 86) (by decide +kernel)) rfl
theorem bw_87 : Cond.selects "ClassMakerModel" (⟨"ClassMakerModel", "betters", "()Z"⟩ : MethodName) (⟨"ClassMakerModel", "betters", "()Z"⟩ : MethodName) ∈ BW := BW_in (List.mem_of_getElem? (i := 87) (by decide +kernel)) rfl
theorem bw_88 : Cond.selects "ClassMakerModel" (⟨"ClassMakerModel", "isBetter", "(II)Z"⟩ : MethodName) (⟨"ClassMakerModel", "isBetter", "(II)Z"⟩ : MethodName) ∈ BW := BW_in (List.mem_of_getElem? (i := 88) (by decide +kernel)) rfl
theorem bw_89 : Cond.selects "ClassMakerModel" (⟨"ClassMakerModel", "swaps", "(II)V"⟩ : MethodName) (⟨"ClassMakerModel", "swaps", "(II)V"⟩ : MethodName) ∈ BW := BW_in (List.mem_of_getElem? (i := 89) (by decide +kernel)) rfl
theorem bw_90 : Cond.selects "ClassMakerModel" (⟨"ClassMakerModel", "looks", "()V"⟩ : MethodName) (⟨"ClassMakerModel", "looks", "()V"⟩ : MethodName) ∈ BW := BW_in (List.mem_of_getElem? (i := 90) (by decide +kernel)) rfl
theorem bw_91 : Cond.selects "ClassMakerModel" (⟨"ClassMakerModel", "listed", "()I"⟩ : MethodName) (⟨"ClassMakerModel", "listed", "()I"⟩ : MethodName) ∈ BW := BW_in (List.mem_of_getElem? (i := 91) (by decide +kernel)) rfl
theorem bw_92 : Cond.selects "ClassMakerModel" (⟨"ClassMakerModel", "isGain", "(II)Z"⟩ : MethodName) (⟨"ClassMakerModel", "isGain", "(II)Z"⟩ : MethodName) ∈ BW := BW_in (List.mem_of_getElem? (i := 92) (by decide +kernel)) rfl
theorem bw_93 : Cond.selects "ClassMakerModel" (⟨"ClassMakerModel", "leads", "(I)V"⟩ : MethodName) (⟨"ClassMakerModel", "leads", "(I)V"⟩ : MethodName) ∈ BW := BW_in (List.mem_of_getElem? (i := 93) (by decide +kernel)) rfl
theorem bw_94 : Cond.selects "ClassMakerModel" (⟨"ClassMakerModel", "lacking", "(I)I"⟩ : MethodName) (⟨"ClassMakerModel", "lacking", "(I)I"⟩ : MethodName) ∈ BW := BW_in (List.mem_of_getElem? (i := 94) (by decide +kernel)) rfl
theorem bw_95 : Cond.selects "ClassMakerModel" (⟨"ClassMakerModel", "isLow", "(I)Z"⟩ : MethodName) (⟨"ClassMakerModel", "isLow", "(I)Z"⟩ : MethodName) ∈ BW := BW_in (List.mem_of_getElem? (i := 95) (by decide +kernel)) rfl
theorem bw_96 : Cond.selects "ClassMakerModel" (⟨"ClassMakerModel", "many", "([ZI)I"⟩ : MethodName) (⟨"ClassMakerModel", "many", "([ZI)I"⟩ : MethodName) ∈ BW := BW_in (List.mem_of_getElem? (i := 96) (by decide +kernel)) rfl
theorem bw_98 : Cond.initialized "ClassMaker" ∈ BW := BW_in (List.mem_of_getElem? (i := 98) (by decide +kernel)) rfl
theorem bw_99 : Cond.initialized "ClassMaker$Facts" ∈ BW := BW_in (List.mem_of_getElem? (i := 99) (by decide +kernel)) rfl
theorem bw_100 : Cond.initialized "java/util/Arrays" ∈ BW := BW_in (List.mem_of_getElem? (i := 100) (by decide +kernel)) rfl
theorem bw_101 : Cond.initialized "ClassMaker$Marks" ∈ BW := BW_in (List.mem_of_getElem? (i := 101) (by decide +kernel)) rfl
theorem bw_102 : Cond.initialized "ClassMaker$Tape" ∈ BW := BW_in (List.mem_of_getElem? (i := 102) (by decide +kernel)) rfl
theorem bw_103 : Cond.initialized "ClassMaker$Parser" ∈ BW := BW_in (List.mem_of_getElem? (i := 103) (by decide +kernel)) rfl
theorem bw_104 : Cond.initialized "ClassMaker$Judge" ∈ BW := BW_in (List.mem_of_getElem? (i := 104) (by decide +kernel)) rfl
theorem bw_105 : Cond.initialized "ClassMaker$Search" ∈ BW := BW_in (List.mem_of_getElem? (i := 105) (by decide +kernel)) rfl
theorem bw_106 : Cond.initialized "ClassMaker$Hand" ∈ BW := BW_in (List.mem_of_getElem? (i := 106) (by decide +kernel)) rfl
theorem bw_107 : Cond.initialized "ClassMaker$Helpers" ∈ BW := BW_in (List.mem_of_getElem? (i := 107) (by decide +kernel)) rfl
theorem bw_108 : Cond.initialized "ClassMaker$Book" ∈ BW := BW_in (List.mem_of_getElem? (i := 108) (by decide +kernel)) rfl
theorem bw_109 : Cond.initialized "ClassMaker$Rules" ∈ BW := BW_in (List.mem_of_getElem? (i := 109) (by decide +kernel)) rfl
theorem bw_110 : Cond.initialized "ClassMakerModel" ∈ BW := BW_in (List.mem_of_getElem? (i := 110) (by decide +kernel)) rfl
theorem bw_111 : Cond.initialized "java/lang/String" ∈ BW := BW_in (List.mem_of_getElem? (i := 111) (by decide +kernel)) rfl
theorem bw_112 : Cond.initialized "java/lang/StringLatin1" ∈ BW := BW_in (List.mem_of_getElem? (i := 112) (by decide +kernel)) rfl
theorem bw_113 : Cond.initialized "jdk/internal/util/Preconditions" ∈ BW := BW_in (List.mem_of_getElem? (i := 113) (by decide +kernel)) rfl
theorem bw_115 : Cond.initialized "java/lang/Math" ∈ BW := BW_in (List.mem_of_getElem? (i := 115) (by decide +kernel)) rfl
theorem bw_116 : Cond.initialized "java/lang/Integer" ∈ BW := BW_in (List.mem_of_getElem? (i := 116) (by decide +kernel)) rfl
theorem bw_117 : Cond.initialized "java/lang/System" ∈ BW := BW_in (List.mem_of_getElem? (i := 117) (by decide +kernel)) rfl
theorem bw_137 : Cond.static (⟨"java/util/Arrays", "fill", "([II)V"⟩ : MethodName) ∈ BW := BW_in (List.mem_of_getElem? (i := 137) (by decide +kernel)) rfl
theorem bw_138 : Cond.code (⟨"java/util/Arrays", "fill", "([II)V"⟩ : MethodName) prog_28_method_103_code 4 none ∈ BW := BW_in (List.mem_of_getElem? (i := 138) (by decide +kernel)) rfl
theorem bw_139 : Cond.fieldLink "ClassMaker$Facts" 61 "ClassMaker$Facts" "count" "I" ∈ BW := BW_in (List.mem_of_getElem? (i := 139) (by decide +kernel)) rfl
theorem bw_140 : Cond.fieldLink "ClassMaker$Hand" 32 "ClassMaker$Facts" "count" "I" ∈ BW := BW_in (List.mem_of_getElem? (i := 140) (by decide +kernel)) rfl
theorem bw_141 : Cond.fieldLink "ClassMaker$Judge" 56 "ClassMaker$Facts" "count" "I" ∈ BW := BW_in (List.mem_of_getElem? (i := 141) (by decide +kernel)) rfl
theorem bw_142 : Cond.fieldLink "ClassMaker" 194 "ClassMaker$Facts" "count" "I" ∈ BW := BW_in (List.mem_of_getElem? (i := 142) (by decide +kernel)) rfl
theorem bw_143 : Cond.fieldLink "ClassMaker$Facts" 9 "ClassMaker$Facts" "sex" "[I" ∈ BW := BW_in (List.mem_of_getElem? (i := 143) (by decide +kernel)) rfl
theorem bw_144 : Cond.fieldLink "ClassMaker$Judge" 73 "ClassMaker$Facts" "sex" "[I" ∈ BW := BW_in (List.mem_of_getElem? (i := 144) (by decide +kernel)) rfl
theorem bw_146 : Cond.fieldLink "ClassMaker$Facts" 15 "ClassMaker$Facts" "month" "[I" ∈ BW := BW_in (List.mem_of_getElem? (i := 146) (by decide +kernel)) rfl
theorem bw_147 : Cond.fieldLink "ClassMaker$Judge" 76 "ClassMaker$Facts" "month" "[I" ∈ BW := BW_in (List.mem_of_getElem? (i := 147) (by decide +kernel)) rfl
theorem bw_149 : Cond.fieldLink "ClassMaker$Facts" 18 "ClassMaker$Facts" "tags" "[I" ∈ BW := BW_in (List.mem_of_getElem? (i := 149) (by decide +kernel)) rfl
theorem bw_150 : Cond.fieldLink "ClassMaker$Judge" 111 "ClassMaker$Facts" "tags" "[I" ∈ BW := BW_in (List.mem_of_getElem? (i := 150) (by decide +kernel)) rfl
theorem bw_152 : Cond.fieldLink "ClassMaker$Facts" 21 "ClassMaker$Facts" "came" "[I" ∈ BW := BW_in (List.mem_of_getElem? (i := 152) (by decide +kernel)) rfl
theorem bw_155 : Cond.fieldLink "ClassMaker$Judge" 82 "ClassMaker$Facts" "owed" "[I" ∈ BW := BW_in (List.mem_of_getElem? (i := 155) (by decide +kernel)) rfl
theorem bw_156 : Cond.fieldLink "ClassMaker" 355 "ClassMaker$Facts" "owed" "[I" ∈ BW := BW_in (List.mem_of_getElem? (i := 156) (by decide +kernel)) rfl
theorem bw_157 : Cond.fieldLink "ClassMaker$Facts" 27 "ClassMaker$Facts" "wishes" "[I" ∈ BW := BW_in (List.mem_of_getElem? (i := 157) (by decide +kernel)) rfl
theorem bw_158 : Cond.fieldLink "ClassMaker" 132 "ClassMaker$Facts" "wishes" "[I" ∈ BW := BW_in (List.mem_of_getElem? (i := 158) (by decide +kernel)) rfl
theorem bw_160 : Cond.fieldLink "ClassMaker" 135 "ClassMaker$Facts" "bars" "[I" ∈ BW := BW_in (List.mem_of_getElem? (i := 160) (by decide +kernel)) rfl
theorem bw_161 : Cond.fieldLink "ClassMaker$Judge" 196 "ClassMaker$Facts" "bars" "[I" ∈ BW := BW_in (List.mem_of_getElem? (i := 161) (by decide +kernel)) rfl
theorem bw_163 : Cond.fieldLink "ClassMaker" 142 "ClassMaker$Facts" "twins" "[I" ∈ BW := BW_in (List.mem_of_getElem? (i := 163) (by decide +kernel)) rfl
theorem bw_164 : Cond.fieldLink "ClassMaker$Judge" 199 "ClassMaker$Facts" "twins" "[I" ∈ BW := BW_in (List.mem_of_getElem? (i := 164) (by decide +kernel)) rfl
theorem bw_166 : Cond.fieldLink "ClassMaker" 145 "ClassMaker$Facts" "nots" "[I" ∈ BW := BW_in (List.mem_of_getElem? (i := 166) (by decide +kernel)) rfl
theorem bw_167 : Cond.fieldLink "ClassMaker$Search" 159 "ClassMaker$Facts" "nots" "[I" ∈ BW := BW_in (List.mem_of_getElem? (i := 167) (by decide +kernel)) rfl
theorem bw_168 : Cond.fieldLink "ClassMaker$Judge" 187 "ClassMaker$Facts" "nots" "[I" ∈ BW := BW_in (List.mem_of_getElem? (i := 168) (by decide +kernel)) rfl
theorem bw_169 : Cond.fieldLink "ClassMaker$Facts" 39 "ClassMaker$Facts" "regret" "[I" ∈ BW := BW_in (List.mem_of_getElem? (i := 169) (by decide +kernel)) rfl
theorem bw_170 : Cond.fieldLink "ClassMaker$Judge" 140 "ClassMaker$Facts" "regret" "[I" ∈ BW := BW_in (List.mem_of_getElem? (i := 170) (by decide +kernel)) rfl
theorem bw_171 : Cond.fieldLink "ClassMaker" 334 "ClassMaker$Facts" "regret" "[I" ∈ BW := BW_in (List.mem_of_getElem? (i := 171) (by decide +kernel)) rfl
theorem bw_172 : Cond.fieldLink "ClassMaker$Facts" 42 "ClassMaker$Facts" "went" "[I" ∈ BW := BW_in (List.mem_of_getElem? (i := 172) (by decide +kernel)) rfl
theorem bw_173 : Cond.fieldLink "ClassMaker" 319 "ClassMaker$Facts" "went" "[I" ∈ BW := BW_in (List.mem_of_getElem? (i := 173) (by decide +kernel)) rfl
theorem bw_174 : Cond.fieldLink "ClassMaker$Facts" 45 "ClassMaker$Facts" "doubt" "[I" ∈ BW := BW_in (List.mem_of_getElem? (i := 174) (by decide +kernel)) rfl
theorem bw_175 : Cond.fieldLink "ClassMaker" 322 "ClassMaker$Facts" "doubt" "[I" ∈ BW := BW_in (List.mem_of_getElem? (i := 175) (by decide +kernel)) rfl
theorem bw_177 : Cond.fieldLink "ClassMaker$Hand" 60 "ClassMaker$Facts" "classCount" "I" ∈ BW := BW_in (List.mem_of_getElem? (i := 177) (by decide +kernel)) rfl
theorem bw_178 : Cond.fieldLink "ClassMaker$Search" 98 "ClassMaker$Facts" "classCount" "I" ∈ BW := BW_in (List.mem_of_getElem? (i := 178) (by decide +kernel)) rfl
theorem bw_179 : Cond.fieldLink "ClassMaker" 151 "ClassMaker$Facts" "classCount" "I" ∈ BW := BW_in (List.mem_of_getElem? (i := 179) (by decide +kernel)) rfl
theorem bw_180 : Cond.fieldLink "ClassMaker$Judge" 149 "ClassMaker$Facts" "classCount" "I" ∈ BW := BW_in (List.mem_of_getElem? (i := 180) (by decide +kernel)) rfl
theorem bw_182 : Cond.fieldLink "ClassMaker" 154 "ClassMaker$Facts" "room" "[I" ∈ BW := BW_in (List.mem_of_getElem? (i := 182) (by decide +kernel)) rfl
theorem bw_183 : Cond.fieldLink "ClassMaker$Search" 156 "ClassMaker$Facts" "room" "[I" ∈ BW := BW_in (List.mem_of_getElem? (i := 183) (by decide +kernel)) rfl
theorem bw_184 : Cond.fieldLink "ClassMaker$Judge" 184 "ClassMaker$Facts" "room" "[I" ∈ BW := BW_in (List.mem_of_getElem? (i := 184) (by decide +kernel)) rfl
theorem bw_223 : Cond.fieldLink "ClassMaker$Marks" 30 "ClassMaker$Marks" "count" "I" ∈ BW := BW_in (List.mem_of_getElem? (i := 223) (by decide +kernel)) rfl
theorem bw_224 : Cond.fieldLink "ClassMaker" 366 "ClassMaker$Marks" "count" "I" ∈ BW := BW_in (List.mem_of_getElem? (i := 224) (by decide +kernel)) rfl
theorem bw_225 : Cond.fieldLink "ClassMaker$Marks" 11 "ClassMaker$Marks" "teachers" "[I" ∈ BW := BW_in (List.mem_of_getElem? (i := 225) (by decide +kernel)) rfl
theorem bw_226 : Cond.fieldLink "ClassMaker$Marks" 15 "ClassMaker$Marks" "children" "[I" ∈ BW := BW_in (List.mem_of_getElem? (i := 226) (by decide +kernel)) rfl
theorem bw_227 : Cond.fieldLink "ClassMaker$Marks" 18 "ClassMaker$Marks" "sorts" "[I" ∈ BW := BW_in (List.mem_of_getElem? (i := 227) (by decide +kernel)) rfl
theorem bw_228 : Cond.fieldLink "ClassMaker$Marks" 21 "ClassMaker$Marks" "values" "[I" ∈ BW := BW_in (List.mem_of_getElem? (i := 228) (by decide +kernel)) rfl
theorem bw_229 : Cond.fieldLink "ClassMaker$Marks" 24 "ClassMaker$Marks" "days" "[I" ∈ BW := BW_in (List.mem_of_getElem? (i := 229) (by decide +kernel)) rfl
theorem bw_230 : Cond.fieldLink "ClassMaker$Marks" 27 "ClassMaker$Marks" "latest" "[I" ∈ BW := BW_in (List.mem_of_getElem? (i := 230) (by decide +kernel)) rfl
theorem bw_252 : Cond.fieldLink "ClassMaker$Tape" 25 "ClassMaker$Tape" "length" "I" ∈ BW := BW_in (List.mem_of_getElem? (i := 252) (by decide +kernel)) rfl
theorem bw_253 : Cond.fieldLink "ClassMaker" 164 "ClassMaker$Tape" "length" "I" ∈ BW := BW_in (List.mem_of_getElem? (i := 253) (by decide +kernel)) rfl
theorem bw_254 : Cond.fieldLink "ClassMaker$Tape" 11 "ClassMaker$Tape" "bytes" "[C" ∈ BW := BW_in (List.mem_of_getElem? (i := 254) (by decide +kernel)) rfl
theorem bw_255 : Cond.fieldLink "ClassMaker$Parser" 49 "ClassMaker$Tape" "tokens" "I" ∈ BW := BW_in (List.mem_of_getElem? (i := 255) (by decide +kernel)) rfl
theorem bw_256 : Cond.fieldLink "ClassMaker$Tape" 29 "ClassMaker$Tape" "tokens" "I" ∈ BW := BW_in (List.mem_of_getElem? (i := 256) (by decide +kernel)) rfl
theorem bw_257 : Cond.fieldLink "ClassMaker$Tape" 15 "ClassMaker$Tape" "codes" "[I" ∈ BW := BW_in (List.mem_of_getElem? (i := 257) (by decide +kernel)) rfl
theorem bw_258 : Cond.fieldLink "ClassMaker$Parser" 52 "ClassMaker$Tape" "codes" "[I" ∈ BW := BW_in (List.mem_of_getElem? (i := 258) (by decide +kernel)) rfl
theorem bw_259 : Cond.fieldLink "ClassMaker$Tape" 19 "ClassMaker$Tape" "starts" "[I" ∈ BW := BW_in (List.mem_of_getElem? (i := 259) (by decide +kernel)) rfl
theorem bw_260 : Cond.fieldLink "ClassMaker$Parser" 56 "ClassMaker$Tape" "starts" "[I" ∈ BW := BW_in (List.mem_of_getElem? (i := 260) (by decide +kernel)) rfl
theorem bw_261 : Cond.fieldLink "ClassMaker$Tape" 22 "ClassMaker$Tape" "numbers" "[I" ∈ BW := BW_in (List.mem_of_getElem? (i := 261) (by decide +kernel)) rfl
theorem bw_262 : Cond.fieldLink "ClassMaker$Parser" 62 "ClassMaker$Tape" "numbers" "[I" ∈ BW := BW_in (List.mem_of_getElem? (i := 262) (by decide +kernel)) rfl
theorem bw_283 : Cond.fieldLink "ClassMaker$Parser" 28 "ClassMaker$Parser" "fault" "I" ∈ BW := BW_in (List.mem_of_getElem? (i := 283) (by decide +kernel)) rfl
theorem bw_284 : Cond.fieldLink "ClassMaker" 171 "ClassMaker$Parser" "fault" "I" ∈ BW := BW_in (List.mem_of_getElem? (i := 284) (by decide +kernel)) rfl
theorem bw_285 : Cond.fieldLink "ClassMaker$Parser" 9 "ClassMaker$Parser" "faultPlace" "I" ∈ BW := BW_in (List.mem_of_getElem? (i := 285) (by decide +kernel)) rfl
theorem bw_286 : Cond.fieldLink "ClassMaker" 177 "ClassMaker$Parser" "faultPlace" "I" ∈ BW := BW_in (List.mem_of_getElem? (i := 286) (by decide +kernel)) rfl
theorem bw_287 : Cond.fieldLink "ClassMaker$Parser" 15 "ClassMaker$Parser" "tape" "LClassMaker$Tape;" ∈ BW := BW_in (List.mem_of_getElem? (i := 287) (by decide +kernel)) rfl
theorem bw_288 : Cond.fieldLink "ClassMaker$Parser" 19 "ClassMaker$Parser" "rules" "LClassMaker$Rules;" ∈ BW := BW_in (List.mem_of_getElem? (i := 288) (by decide +kernel)) rfl
theorem bw_289 : Cond.fieldLink "ClassMaker$Parser" 36 "ClassMaker$Parser" "token" "I" ∈ BW := BW_in (List.mem_of_getElem? (i := 289) (by decide +kernel)) rfl
theorem bw_290 : Cond.fieldLink "ClassMaker$Parser" 42 "ClassMaker$Parser" "code" "I" ∈ BW := BW_in (List.mem_of_getElem? (i := 290) (by decide +kernel)) rfl
theorem bw_291 : Cond.fieldLink "ClassMaker$Parser" 59 "ClassMaker$Parser" "start" "I" ∈ BW := BW_in (List.mem_of_getElem? (i := 291) (by decide +kernel)) rfl
theorem bw_292 : Cond.fieldLink "ClassMaker$Parser" 65 "ClassMaker$Parser" "number" "I" ∈ BW := BW_in (List.mem_of_getElem? (i := 292) (by decide +kernel)) rfl
theorem bw_316 : Cond.fieldLink "ClassMaker$Judge" 26 "ClassMaker$Judge" "facts" "LClassMaker$Facts;" ∈ BW := BW_in (List.mem_of_getElem? (i := 316) (by decide +kernel)) rfl
theorem bw_317 : Cond.fieldLink "ClassMaker$Judge" 30 "ClassMaker$Judge" "marks" "LClassMaker$Marks;" ∈ BW := BW_in (List.mem_of_getElem? (i := 317) (by decide +kernel)) rfl
theorem bw_318 : Cond.fieldLink "ClassMaker$Judge" 34 "ClassMaker$Judge" "rules" "LClassMaker$Rules;" ∈ BW := BW_in (List.mem_of_getElem? (i := 318) (by decide +kernel)) rfl
theorem bw_319 : Cond.fieldLink "ClassMaker$Search" 112 "ClassMaker$Judge" "rules" "LClassMaker$Rules;" ∈ BW := BW_in (List.mem_of_getElem? (i := 319) (by decide +kernel)) rfl
theorem bw_320 : Cond.fieldLink "ClassMaker$Judge" 42 "ClassMaker$Judge" "how" "I" ∈ BW := BW_in (List.mem_of_getElem? (i := 320) (by decide +kernel)) rfl
theorem bw_321 : Cond.fieldLink "ClassMaker$Judge" 11 "ClassMaker$Judge" "traits" "[I" ∈ BW := BW_in (List.mem_of_getElem? (i := 321) (by decide +kernel)) rfl
theorem bw_322 : Cond.fieldLink "ClassMaker$Judge" 15 "ClassMaker$Judge" "wished" "[I" ∈ BW := BW_in (List.mem_of_getElem? (i := 322) (by decide +kernel)) rfl
theorem bw_323 : Cond.fieldLink "ClassMaker$Judge" 20 "ClassMaker$Judge" "first" "[I" ∈ BW := BW_in (List.mem_of_getElem? (i := 323) (by decide +kernel)) rfl
theorem bw_324 : Cond.fieldLink "ClassMaker$Judge" 23 "ClassMaker$Judge" "second" "[I" ∈ BW := BW_in (List.mem_of_getElem? (i := 324) (by decide +kernel)) rfl
theorem bw_348 : Cond.fieldLink "ClassMaker$Search" 50 "ClassMaker$Search" "facts" "LClassMaker$Facts;" ∈ BW := BW_in (List.mem_of_getElem? (i := 348) (by decide +kernel)) rfl
theorem bw_349 : Cond.fieldLink "ClassMaker$Search" 54 "ClassMaker$Search" "judge" "LClassMaker$Judge;" ∈ BW := BW_in (List.mem_of_getElem? (i := 349) (by decide +kernel)) rfl
theorem bw_350 : Cond.fieldLink "ClassMaker$Search" 58 "ClassMaker$Search" "size" "I" ∈ BW := BW_in (List.mem_of_getElem? (i := 350) (by decide +kernel)) rfl
theorem bw_351 : Cond.fieldLink "ClassMaker$Search" 11 "ClassMaker$Search" "members" "[I" ∈ BW := BW_in (List.mem_of_getElem? (i := 351) (by decide +kernel)) rfl
theorem bw_352 : Cond.fieldLink "ClassMaker$Search" 15 "ClassMaker$Search" "stays" "[I" ∈ BW := BW_in (List.mem_of_getElem? (i := 352) (by decide +kernel)) rfl
theorem bw_353 : Cond.fieldLink "ClassMaker$Search" 18 "ClassMaker$Search" "joined" "[I" ∈ BW := BW_in (List.mem_of_getElem? (i := 353) (by decide +kernel)) rfl
theorem bw_354 : Cond.fieldLink "ClassMaker$Search" 21 "ClassMaker$Search" "standing" "[I" ∈ BW := BW_in (List.mem_of_getElem? (i := 354) (by decide +kernel)) rfl
theorem bw_355 : Cond.fieldLink "ClassMaker$Search" 24 "ClassMaker$Search" "costs" "[I" ∈ BW := BW_in (List.mem_of_getElem? (i := 355) (by decide +kernel)) rfl
theorem bw_356 : Cond.fieldLink "ClassMaker$Search" 27 "ClassMaker$Search" "lacks" "[I" ∈ BW := BW_in (List.mem_of_getElem? (i := 356) (by decide +kernel)) rfl
theorem bw_357 : Cond.fieldLink "ClassMaker$Search" 126 "ClassMaker$Search" "spreads" "I" ∈ BW := BW_in (List.mem_of_getElem? (i := 357) (by decide +kernel)) rfl
theorem bw_358 : Cond.fieldLink "ClassMaker$Search" 32 "ClassMaker$Search" "spreadNumbers" "[I" ∈ BW := BW_in (List.mem_of_getElem? (i := 358) (by decide +kernel)) rfl
theorem bw_359 : Cond.fieldLink "ClassMaker$Search" 35 "ClassMaker$Search" "weights" "[I" ∈ BW := BW_in (List.mem_of_getElem? (i := 359) (by decide +kernel)) rfl
theorem bw_360 : Cond.fieldLink "ClassMaker$Search" 38 "ClassMaker$Search" "sums" "[I" ∈ BW := BW_in (List.mem_of_getElem? (i := 360) (by decide +kernel)) rfl
theorem bw_361 : Cond.fieldLink "ClassMaker$Search" 41 "ClassMaker$Search" "groups" "[I" ∈ BW := BW_in (List.mem_of_getElem? (i := 361) (by decide +kernel)) rfl
theorem bw_362 : Cond.fieldLink "ClassMaker$Search" 44 "ClassMaker$Search" "seats" "[I" ∈ BW := BW_in (List.mem_of_getElem? (i := 362) (by decide +kernel)) rfl
theorem bw_363 : Cond.fieldLink "ClassMaker$Search" 47 "ClassMaker$Search" "best" "[I" ∈ BW := BW_in (List.mem_of_getElem? (i := 363) (by decide +kernel)) rfl
theorem bw_364 : Cond.fieldLink "ClassMaker$Search" 81 "ClassMaker$Search" "moves" "I" ∈ BW := BW_in (List.mem_of_getElem? (i := 364) (by decide +kernel)) rfl
theorem bw_365 : Cond.fieldLink "ClassMaker$Search" 62 "ClassMaker$Search" "found" "Z" ∈ BW := BW_in (List.mem_of_getElem? (i := 365) (by decide +kernel)) rfl
theorem bw_366 : Cond.fieldLink "ClassMaker" 252 "ClassMaker$Search" "found" "Z" ∈ BW := BW_in (List.mem_of_getElem? (i := 366) (by decide +kernel)) rfl
theorem bw_367 : Cond.fieldLink "ClassMaker$Search" 84 "ClassMaker$Search" "bestMoves" "I" ∈ BW := BW_in (List.mem_of_getElem? (i := 367) (by decide +kernel)) rfl
theorem bw_368 : Cond.fieldLink "ClassMaker" 255 "ClassMaker$Search" "bestMoves" "I" ∈ BW := BW_in (List.mem_of_getElem? (i := 368) (by decide +kernel)) rfl
theorem bw_369 : Cond.fieldLink "ClassMaker$Search" 87 "ClassMaker$Search" "bestHarm" "I" ∈ BW := BW_in (List.mem_of_getElem? (i := 369) (by decide +kernel)) rfl
theorem bw_370 : Cond.fieldLink "ClassMaker" 383 "ClassMaker$Search" "bestHarm" "I" ∈ BW := BW_in (List.mem_of_getElem? (i := 370) (by decide +kernel)) rfl
theorem bw_418 : Cond.fieldLink "ClassMaker$Hand" 18 "ClassMaker$Hand" "facts" "LClassMaker$Facts;" ∈ BW := BW_in (List.mem_of_getElem? (i := 418) (by decide +kernel)) rfl
theorem bw_419 : Cond.fieldLink "ClassMaker$Hand" 22 "ClassMaker$Hand" "judge" "LClassMaker$Judge;" ∈ BW := BW_in (List.mem_of_getElem? (i := 419) (by decide +kernel)) rfl
theorem bw_420 : Cond.fieldLink "ClassMaker$Hand" 9 "ClassMaker$Hand" "groups" "[I" ∈ BW := BW_in (List.mem_of_getElem? (i := 420) (by decide +kernel)) rfl
theorem bw_421 : Cond.fieldLink "ClassMaker$Hand" 15 "ClassMaker$Hand" "seats" "[I" ∈ BW := BW_in (List.mem_of_getElem? (i := 421) (by decide +kernel)) rfl
theorem bw_422 : Cond.fieldLink "ClassMaker" 219 "ClassMaker$Hand" "seats" "[I" ∈ BW := BW_in (List.mem_of_getElem? (i := 422) (by decide +kernel)) rfl
theorem bw_423 : Cond.fieldLink "ClassMaker$Hand" 57 "ClassMaker$Hand" "taken" "I" ∈ BW := BW_in (List.mem_of_getElem? (i := 423) (by decide +kernel)) rfl
theorem bw_424 : Cond.fieldLink "ClassMaker" 216 "ClassMaker$Hand" "taken" "I" ∈ BW := BW_in (List.mem_of_getElem? (i := 424) (by decide +kernel)) rfl
theorem bw_425 : Cond.fieldLink "ClassMaker$Hand" 48 "ClassMaker$Hand" "lack" "I" ∈ BW := BW_in (List.mem_of_getElem? (i := 425) (by decide +kernel)) rfl
theorem bw_426 : Cond.fieldLink "ClassMaker" 222 "ClassMaker$Hand" "lack" "I" ∈ BW := BW_in (List.mem_of_getElem? (i := 426) (by decide +kernel)) rfl
theorem bw_427 : Cond.fieldLink "ClassMaker$Hand" 54 "ClassMaker$Hand" "harm" "I" ∈ BW := BW_in (List.mem_of_getElem? (i := 427) (by decide +kernel)) rfl
theorem bw_428 : Cond.fieldLink "ClassMaker" 225 "ClassMaker$Hand" "harm" "I" ∈ BW := BW_in (List.mem_of_getElem? (i := 428) (by decide +kernel)) rfl
theorem bw_450 : Cond.fieldLink "ClassMaker$Helpers" 27 "ClassMaker$Helpers" "count" "I" ∈ BW := BW_in (List.mem_of_getElem? (i := 450) (by decide +kernel)) rfl
theorem bw_451 : Cond.fieldLink "ClassMaker" 297 "ClassMaker$Helpers" "count" "I" ∈ BW := BW_in (List.mem_of_getElem? (i := 451) (by decide +kernel)) rfl
theorem bw_452 : Cond.fieldLink "ClassMaker$Helpers" 11 "ClassMaker$Helpers" "hours" "[I" ∈ BW := BW_in (List.mem_of_getElem? (i := 452) (by decide +kernel)) rfl
theorem bw_453 : Cond.fieldLink "ClassMaker$Helpers" 15 "ClassMaker$Helpers" "needs" "[I" ∈ BW := BW_in (List.mem_of_getElem? (i := 453) (by decide +kernel)) rfl
theorem bw_454 : Cond.fieldLink "ClassMaker$Helpers" 18 "ClassMaker$Helpers" "rest" "[I" ∈ BW := BW_in (List.mem_of_getElem? (i := 454) (by decide +kernel)) rfl
theorem bw_455 : Cond.fieldLink "ClassMaker$Helpers" 21 "ClassMaker$Helpers" "seats" "[I" ∈ BW := BW_in (List.mem_of_getElem? (i := 455) (by decide +kernel)) rfl
theorem bw_456 : Cond.fieldLink "ClassMaker$Helpers" 24 "ClassMaker$Helpers" "best" "[I" ∈ BW := BW_in (List.mem_of_getElem? (i := 456) (by decide +kernel)) rfl
theorem bw_457 : Cond.fieldLink "ClassMaker" 316 "ClassMaker$Helpers" "best" "[I" ∈ BW := BW_in (List.mem_of_getElem? (i := 457) (by decide +kernel)) rfl
theorem bw_458 : Cond.fieldLink "ClassMaker$Helpers" 41 "ClassMaker$Helpers" "least" "I" ∈ BW := BW_in (List.mem_of_getElem? (i := 458) (by decide +kernel)) rfl
theorem bw_459 : Cond.fieldLink "ClassMaker" 313 "ClassMaker$Helpers" "least" "I" ∈ BW := BW_in (List.mem_of_getElem? (i := 459) (by decide +kernel)) rfl
theorem bw_482 : Cond.fieldLink "ClassMaker$Book" 30 "ClassMaker$Book" "count" "I" ∈ BW := BW_in (List.mem_of_getElem? (i := 482) (by decide +kernel)) rfl
theorem bw_483 : Cond.fieldLink "ClassMaker" 367 "ClassMaker$Book" "count" "I" ∈ BW := BW_in (List.mem_of_getElem? (i := 483) (by decide +kernel)) rfl
theorem bw_484 : Cond.fieldLink "ClassMaker$Book" 11 "ClassMaker$Book" "children" "[I" ∈ BW := BW_in (List.mem_of_getElem? (i := 484) (by decide +kernel)) rfl
theorem bw_485 : Cond.fieldLink "ClassMaker$Book" 15 "ClassMaker$Book" "seats" "[I" ∈ BW := BW_in (List.mem_of_getElem? (i := 485) (by decide +kernel)) rfl
theorem bw_486 : Cond.fieldLink "ClassMaker$Book" 18 "ClassMaker$Book" "days" "[I" ∈ BW := BW_in (List.mem_of_getElem? (i := 486) (by decide +kernel)) rfl
theorem bw_487 : Cond.fieldLink "ClassMaker$Book" 21 "ClassMaker$Book" "last" "[I" ∈ BW := BW_in (List.mem_of_getElem? (i := 487) (by decide +kernel)) rfl
theorem bw_499 : Cond.methodLink "ClassMaker" 82 (⟨"java/util/Arrays", "fill", "([II)V"⟩ : MethodName) ∈ BW := BW_in (List.mem_of_getElem? (i := 499) (by decide +kernel)) rfl
theorem bw_506 : Cond.fieldLink "ClassMaker$Rules" 37 "ClassMaker$Rules" "count" "I" ∈ BW := BW_in (List.mem_of_getElem? (i := 506) (by decide +kernel)) rfl
theorem bw_507 : Cond.fieldLink "ClassMaker$Judge" 69 "ClassMaker$Rules" "count" "I" ∈ BW := BW_in (List.mem_of_getElem? (i := 507) (by decide +kernel)) rfl
theorem bw_508 : Cond.fieldLink "ClassMaker$Parser" 78 "ClassMaker$Rules" "count" "I" ∈ BW := BW_in (List.mem_of_getElem? (i := 508) (by decide +kernel)) rfl
theorem bw_509 : Cond.fieldLink "ClassMaker$Search" 116 "ClassMaker$Rules" "count" "I" ∈ BW := BW_in (List.mem_of_getElem? (i := 509) (by decide +kernel)) rfl
theorem bw_510 : Cond.fieldLink "ClassMaker" 174 "ClassMaker$Rules" "count" "I" ∈ BW := BW_in (List.mem_of_getElem? (i := 510) (by decide +kernel)) rfl
theorem bw_511 : Cond.fieldLink "ClassMaker$Rules" 11 "ClassMaker$Rules" "kinds" "[I" ∈ BW := BW_in (List.mem_of_getElem? (i := 511) (by decide +kernel)) rfl
theorem bw_512 : Cond.fieldLink "ClassMaker$Parser" 75 "ClassMaker$Rules" "kinds" "[I" ∈ BW := BW_in (List.mem_of_getElem? (i := 512) (by decide +kernel)) rfl
theorem bw_513 : Cond.fieldLink "ClassMaker$Judge" 117 "ClassMaker$Rules" "kinds" "[I" ∈ BW := BW_in (List.mem_of_getElem? (i := 513) (by decide +kernel)) rfl
theorem bw_515 : Cond.fieldLink "ClassMaker$Parser" 103 "ClassMaker$Rules" "numbers" "[I" ∈ BW := BW_in (List.mem_of_getElem? (i := 515) (by decide +kernel)) rfl
theorem bw_516 : Cond.fieldLink "ClassMaker$Search" 133 "ClassMaker$Rules" "numbers" "[I" ∈ BW := BW_in (List.mem_of_getElem? (i := 516) (by decide +kernel)) rfl
theorem bw_517 : Cond.fieldLink "ClassMaker$Judge" 131 "ClassMaker$Rules" "numbers" "[I" ∈ BW := BW_in (List.mem_of_getElem? (i := 517) (by decide +kernel)) rfl
theorem bw_518 : Cond.fieldLink "ClassMaker$Rules" 18 "ClassMaker$Rules" "words" "[I" ∈ BW := BW_in (List.mem_of_getElem? (i := 518) (by decide +kernel)) rfl
theorem bw_519 : Cond.fieldLink "ClassMaker$Judge" 120 "ClassMaker$Rules" "words" "[I" ∈ BW := BW_in (List.mem_of_getElem? (i := 519) (by decide +kernel)) rfl
theorem bw_520 : Cond.fieldLink "ClassMaker$Parser" 104 "ClassMaker$Rules" "words" "[I" ∈ BW := BW_in (List.mem_of_getElem? (i := 520) (by decide +kernel)) rfl
theorem bw_521 : Cond.fieldLink "ClassMaker$Rules" 21 "ClassMaker$Rules" "terms" "[I" ∈ BW := BW_in (List.mem_of_getElem? (i := 521) (by decide +kernel)) rfl
theorem bw_522 : Cond.fieldLink "ClassMaker$Judge" 95 "ClassMaker$Rules" "terms" "[I" ∈ BW := BW_in (List.mem_of_getElem? (i := 522) (by decide +kernel)) rfl
theorem bw_523 : Cond.fieldLink "ClassMaker$Parser" 110 "ClassMaker$Rules" "terms" "[I" ∈ BW := BW_in (List.mem_of_getElem? (i := 523) (by decide +kernel)) rfl
theorem bw_525 : Cond.fieldLink "ClassMaker$Judge" 101 "ClassMaker$Rules" "termNots" "[Z" ∈ BW := BW_in (List.mem_of_getElem? (i := 525) (by decide +kernel)) rfl
theorem bw_526 : Cond.fieldLink "ClassMaker$Parser" 113 "ClassMaker$Rules" "termNots" "[Z" ∈ BW := BW_in (List.mem_of_getElem? (i := 526) (by decide +kernel)) rfl
theorem bw_527 : Cond.fieldLink "ClassMaker$Rules" 28 "ClassMaker$Rules" "termWords" "[I" ∈ BW := BW_in (List.mem_of_getElem? (i := 527) (by decide +kernel)) rfl
theorem bw_528 : Cond.fieldLink "ClassMaker$Judge" 105 "ClassMaker$Rules" "termWords" "[I" ∈ BW := BW_in (List.mem_of_getElem? (i := 528) (by decide +kernel)) rfl
theorem bw_529 : Cond.fieldLink "ClassMaker$Parser" 117 "ClassMaker$Rules" "termWords" "[I" ∈ BW := BW_in (List.mem_of_getElem? (i := 529) (by decide +kernel)) rfl
theorem bw_531 : Cond.fieldLink "ClassMaker$Judge" 114 "ClassMaker$Rules" "termSigns" "[I" ∈ BW := BW_in (List.mem_of_getElem? (i := 531) (by decide +kernel)) rfl
theorem bw_532 : Cond.fieldLink "ClassMaker$Parser" 120 "ClassMaker$Rules" "termSigns" "[I" ∈ BW := BW_in (List.mem_of_getElem? (i := 532) (by decide +kernel)) rfl
theorem bw_534 : Cond.fieldLink "ClassMaker$Judge" 108 "ClassMaker$Rules" "termNumbers" "[I" ∈ BW := BW_in (List.mem_of_getElem? (i := 534) (by decide +kernel)) rfl
theorem bw_535 : Cond.fieldLink "ClassMaker$Parser" 123 "ClassMaker$Rules" "termNumbers" "[I" ∈ BW := BW_in (List.mem_of_getElem? (i := 535) (by decide +kernel)) rfl
theorem bw_556 : Cond.fieldLink "ClassMaker" 10 "ClassMaker" "facts" "LClassMaker$Facts;" ∈ BW := BW_in (List.mem_of_getElem? (i := 556) (by decide +kernel)) rfl
theorem bw_557 : Cond.fieldLink "ClassMaker" 19 "ClassMaker" "marks" "LClassMaker$Marks;" ∈ BW := BW_in (List.mem_of_getElem? (i := 557) (by decide +kernel)) rfl
theorem bw_558 : Cond.fieldLink "ClassMaker" 26 "ClassMaker" "tape" "LClassMaker$Tape;" ∈ BW := BW_in (List.mem_of_getElem? (i := 558) (by decide +kernel)) rfl
theorem bw_559 : Cond.fieldLink "ClassMaker" 35 "ClassMaker" "parser" "LClassMaker$Parser;" ∈ BW := BW_in (List.mem_of_getElem? (i := 559) (by decide +kernel)) rfl
theorem bw_560 : Cond.fieldLink "ClassMaker" 44 "ClassMaker" "judge" "LClassMaker$Judge;" ∈ BW := BW_in (List.mem_of_getElem? (i := 560) (by decide +kernel)) rfl
theorem bw_561 : Cond.fieldLink "ClassMaker" 53 "ClassMaker" "search" "LClassMaker$Search;" ∈ BW := BW_in (List.mem_of_getElem? (i := 561) (by decide +kernel)) rfl
theorem bw_562 : Cond.fieldLink "ClassMaker" 60 "ClassMaker" "hand" "LClassMaker$Hand;" ∈ BW := BW_in (List.mem_of_getElem? (i := 562) (by decide +kernel)) rfl
theorem bw_563 : Cond.fieldLink "ClassMaker" 67 "ClassMaker" "helpers" "LClassMaker$Helpers;" ∈ BW := BW_in (List.mem_of_getElem? (i := 563) (by decide +kernel)) rfl
theorem bw_564 : Cond.fieldLink "ClassMaker" 74 "ClassMaker" "book" "LClassMaker$Book;" ∈ BW := BW_in (List.mem_of_getElem? (i := 564) (by decide +kernel)) rfl
theorem bw_565 : Cond.fieldLink "ClassMaker" 78 "ClassMaker" "list" "[I" ∈ BW := BW_in (List.mem_of_getElem? (i := 565) (by decide +kernel)) rfl
theorem bw_566 : Cond.fieldLink "ClassMaker" 88 "ClassMaker" "groups" "[I" ∈ BW := BW_in (List.mem_of_getElem? (i := 566) (by decide +kernel)) rfl
theorem bw_567 : Cond.fieldLink "ClassMaker" 94 "ClassMaker" "rules" "LClassMaker$Rules;" ∈ BW := BW_in (List.mem_of_getElem? (i := 567) (by decide +kernel)) rfl
theorem bw_568 : Cond.fieldLink "ClassMaker" 98 "ClassMaker" "draft" "LClassMaker$Rules;" ∈ BW := BW_in (List.mem_of_getElem? (i := 568) (by decide +kernel)) rfl
theorem bw_569 : Cond.fieldLink "ClassMaker" 113 "ClassMaker" "today" "I" ∈ BW := BW_in (List.mem_of_getElem? (i := 569) (by decide +kernel)) rfl
theorem bw_570 : Cond.fieldLink "ClassMaker" 331 "ClassMaker" "years" "I" ∈ BW := BW_in (List.mem_of_getElem? (i := 570) (by decide +kernel)) rfl
theorem bw_571 : Cond.fieldLink "ClassMaker" 101 "ClassMaker" "stepsTaken" "I" ∈ BW := BW_in (List.mem_of_getElem? (i := 571) (by decide +kernel)) rfl
theorem bw_572 : Cond.fieldLink "ClassMaker" 109 "ClassMaker" "bestKnown" "Z" ∈ BW := BW_in (List.mem_of_getElem? (i := 572) (by decide +kernel)) rfl
theorem bw_573 : Cond.fieldLink "ClassMaker" 371 "ClassMaker" "bestDay" "I" ∈ BW := BW_in (List.mem_of_getElem? (i := 573) (by decide +kernel)) rfl
theorem bw_574 : Cond.fieldLink "ClassMaker" 377 "ClassMaker" "bestAnswer" "I" ∈ BW := BW_in (List.mem_of_getElem? (i := 574) (by decide +kernel)) rfl
theorem bw_618 : Cond.methodLink "ClassMaker" 105 (⟨"ClassMaker", "within", "(III)Z"⟩ : MethodName) ∈ BW := BW_in (List.mem_of_getElem? (i := 618) (by decide +kernel)) rfl
theorem bw_619 : Cond.static (⟨"ClassMaker", "within", "(III)Z"⟩ : MethodName) ∈ BW := BW_in (List.mem_of_getElem? (i := 619) (by decide +kernel)) rfl
theorem bw_620 : Cond.code (⟨"ClassMaker", "within", "(III)Z"⟩ : MethodName) prog_1_method_42_code 3 (some .boolean) ∈ BW := BW_in (List.mem_of_getElem? (i := 620) (by decide +kernel)) rfl
theorem bw_621 : Cond.methodLink "ClassMaker" 116 (⟨"ClassMaker$Facts", "\x61dmit", "(IIII)I"⟩ : MethodName) ∈ BW := BW_in (List.mem_of_getElem? (i := 621) (by decide +kernel)) rfl
theorem bw_622 : Cond.instanceMethod (⟨"ClassMaker$Facts", "\x61dmit", "(IIII)I"⟩ : MethodName) ∈ BW := BW_in (List.mem_of_getElem? (i := 622) (by decide +kernel)) rfl
theorem bw_623 : Cond.selects "ClassMaker$Facts" (⟨"ClassMaker$Facts", "\x61dmit", "(IIII)I"⟩ : MethodName) (⟨"ClassMaker$Facts", "\x61dmit", "(IIII)I"⟩ : MethodName) ∈ BW := BW_in (List.mem_of_getElem? (i := 623) (by decide +kernel)) rfl
theorem bw_624 : Cond.code (⟨"ClassMaker$Facts", "\x61dmit", "(IIII)I"⟩ : MethodName) prog_3_method_4_code 5 (some .int) ∈ BW := BW_in (List.mem_of_getElem? (i := 624) (by decide +kernel)) rfl
theorem bw_629 : Cond.methodLink "ClassMaker" 120 (⟨"ClassMaker$Facts", "has", "(I)Z"⟩ : MethodName) ∈ BW := BW_in (List.mem_of_getElem? (i := 629) (by decide +kernel)) rfl
theorem bw_630 : Cond.instanceMethod (⟨"ClassMaker$Facts", "has", "(I)Z"⟩ : MethodName) ∈ BW := BW_in (List.mem_of_getElem? (i := 630) (by decide +kernel)) rfl
theorem bw_631 : Cond.selects "ClassMaker$Facts" (⟨"ClassMaker$Facts", "has", "(I)Z"⟩ : MethodName) (⟨"ClassMaker$Facts", "has", "(I)Z"⟩ : MethodName) ∈ BW := BW_in (List.mem_of_getElem? (i := 631) (by decide +kernel)) rfl
theorem bw_632 : Cond.code (⟨"ClassMaker$Facts", "has", "(I)Z"⟩ : MethodName) prog_3_method_2_code 2 (some .boolean) ∈ BW := BW_in (List.mem_of_getElem? (i := 632) (by decide +kernel)) rfl
theorem bw_633 : Cond.methodLink "ClassMaker" 124 (⟨"ClassMaker$Marks", "add", "(IIIII)Z"⟩ : MethodName) ∈ BW := BW_in (List.mem_of_getElem? (i := 633) (by decide +kernel)) rfl
theorem bw_634 : Cond.instanceMethod (⟨"ClassMaker$Marks", "add", "(IIIII)Z"⟩ : MethodName) ∈ BW := BW_in (List.mem_of_getElem? (i := 634) (by decide +kernel)) rfl
theorem bw_635 : Cond.selects "ClassMaker$Marks" (⟨"ClassMaker$Marks", "add", "(IIIII)Z"⟩ : MethodName) (⟨"ClassMaker$Marks", "add", "(IIIII)Z"⟩ : MethodName) ∈ BW := BW_in (List.mem_of_getElem? (i := 635) (by decide +kernel)) rfl
theorem bw_636 : Cond.code (⟨"ClassMaker$Marks", "add", "(IIIII)Z"⟩ : MethodName) prog_7_method_2_code 6 (some .boolean) ∈ BW := BW_in (List.mem_of_getElem? (i := 636) (by decide +kernel)) rfl
theorem bw_641 : Cond.methodLink "ClassMaker" 128 (⟨"ClassMaker$Facts", "areTwo", "(II)Z"⟩ : MethodName) ∈ BW := BW_in (List.mem_of_getElem? (i := 641) (by decide +kernel)) rfl
theorem bw_642 : Cond.instanceMethod (⟨"ClassMaker$Facts", "areTwo", "(II)Z"⟩ : MethodName) ∈ BW := BW_in (List.mem_of_getElem? (i := 642) (by decide +kernel)) rfl
theorem bw_643 : Cond.selects "ClassMaker$Facts" (⟨"ClassMaker$Facts", "areTwo", "(II)Z"⟩ : MethodName) (⟨"ClassMaker$Facts", "areTwo", "(II)Z"⟩ : MethodName) ∈ BW := BW_in (List.mem_of_getElem? (i := 643) (by decide +kernel)) rfl
theorem bw_644 : Cond.code (⟨"ClassMaker$Facts", "areTwo", "(II)Z"⟩ : MethodName) prog_3_method_3_code 3 (some .boolean) ∈ BW := BW_in (List.mem_of_getElem? (i := 644) (by decide +kernel)) rfl
theorem bw_645 : Cond.methodLink "ClassMaker$Facts" 64 (⟨"ClassMaker$Facts", "has", "(I)Z"⟩ : MethodName) ∈ BW := BW_in (List.mem_of_getElem? (i := 645) (by decide +kernel)) rfl
theorem bw_650 : Cond.methodLink "ClassMaker" 138 (⟨"ClassMaker", "setPair", "([IIIZ)Z"⟩ : MethodName) ∈ BW := BW_in (List.mem_of_getElem? (i := 650) (by decide +kernel)) rfl
theorem bw_651 : Cond.static (⟨"ClassMaker", "setPair", "([IIIZ)Z"⟩ : MethodName) ∈ BW := BW_in (List.mem_of_getElem? (i := 651) (by decide +kernel)) rfl
theorem bw_652 : Cond.code (⟨"ClassMaker", "setPair", "([IIIZ)Z"⟩ : MethodName) prog_1_method_45_code 4 (some .boolean) ∈ BW := BW_in (List.mem_of_getElem? (i := 652) (by decide +kernel)) rfl
theorem bw_653 : Cond.methodLink "ClassMaker" 148 (⟨"ClassMaker", "setBit", "([IIIZ)Z"⟩ : MethodName) ∈ BW := BW_in (List.mem_of_getElem? (i := 653) (by decide +kernel)) rfl
theorem bw_654 : Cond.static (⟨"ClassMaker", "setBit", "([IIIZ)Z"⟩ : MethodName) ∈ BW := BW_in (List.mem_of_getElem? (i := 654) (by decide +kernel)) rfl
theorem bw_655 : Cond.code (⟨"ClassMaker", "setBit", "([IIIZ)Z"⟩ : MethodName) prog_1_method_44_code 5 (some .boolean) ∈ BW := BW_in (List.mem_of_getElem? (i := 655) (by decide +kernel)) rfl
theorem bw_676 : Cond.methodLink "ClassMaker" 157 (⟨"ClassMaker$Tape", "hasSpace", "(I)Z"⟩ : MethodName) ∈ BW := BW_in (List.mem_of_getElem? (i := 676) (by decide +kernel)) rfl
theorem bw_677 : Cond.instanceMethod (⟨"ClassMaker$Tape", "hasSpace", "(I)Z"⟩ : MethodName) ∈ BW := BW_in (List.mem_of_getElem? (i := 677) (by decide +kernel)) rfl
theorem bw_678 : Cond.selects "ClassMaker$Tape" (⟨"ClassMaker$Tape", "hasSpace", "(I)Z"⟩ : MethodName) (⟨"ClassMaker$Tape", "hasSpace", "(I)Z"⟩ : MethodName) ∈ BW := BW_in (List.mem_of_getElem? (i := 678) (by decide +kernel)) rfl
theorem bw_679 : Cond.code (⟨"ClassMaker$Tape", "hasSpace", "(I)Z"⟩ : MethodName) prog_11_method_2_code 2 (some .boolean) ∈ BW := BW_in (List.mem_of_getElem? (i := 679) (by decide +kernel)) rfl
theorem bw_680 : Cond.methodLink "ClassMaker" 160 (⟨"ClassMaker$Tape", "append", "(I)V"⟩ : MethodName) ∈ BW := BW_in (List.mem_of_getElem? (i := 680) (by decide +kernel)) rfl
theorem bw_681 : Cond.instanceMethod (⟨"ClassMaker$Tape", "append", "(I)V"⟩ : MethodName) ∈ BW := BW_in (List.mem_of_getElem? (i := 681) (by decide +kernel)) rfl
theorem bw_682 : Cond.selects "ClassMaker$Tape" (⟨"ClassMaker$Tape", "append", "(I)V"⟩ : MethodName) (⟨"ClassMaker$Tape", "append", "(I)V"⟩ : MethodName) ∈ BW := BW_in (List.mem_of_getElem? (i := 682) (by decide +kernel)) rfl
theorem bw_683 : Cond.code (⟨"ClassMaker$Tape", "append", "(I)V"⟩ : MethodName) prog_11_method_3_code 3 none ∈ BW := BW_in (List.mem_of_getElem? (i := 683) (by decide +kernel)) rfl
theorem bw_692 : Cond.methodLink "ClassMaker" 167 (⟨"ClassMaker$Parser", "reads", "(LClassMaker$Rules;)Z"⟩ : MethodName) ∈ BW := BW_in (List.mem_of_getElem? (i := 692) (by decide +kernel)) rfl
theorem bw_693 : Cond.instanceMethod (⟨"ClassMaker$Parser", "reads", "(LClassMaker$Rules;)Z"⟩ : MethodName) ∈ BW := BW_in (List.mem_of_getElem? (i := 693) (by decide +kernel)) rfl
theorem bw_694 : Cond.selects "ClassMaker$Parser" (⟨"ClassMaker$Parser", "reads", "(LClassMaker$Rules;)Z"⟩ : MethodName) (⟨"ClassMaker$Parser", "reads", "(LClassMaker$Rules;)Z"⟩ : MethodName) ∈ BW := BW_in (List.mem_of_getElem? (i := 694) (by decide +kernel)) rfl
theorem bw_695 : Cond.code (⟨"ClassMaker$Parser", "reads", "(LClassMaker$Rules;)Z"⟩ : MethodName) prog_8_method_2_code 3 (some .boolean) ∈ BW := BW_in (List.mem_of_getElem? (i := 695) (by decide +kernel)) rfl
theorem bw_696 : Cond.methodLink "ClassMaker$Parser" 23 (⟨"ClassMaker$Rules", "clear", "()V"⟩ : MethodName) ∈ BW := BW_in (List.mem_of_getElem? (i := 696) (by decide +kernel)) rfl
theorem bw_697 : Cond.instanceMethod (⟨"ClassMaker$Rules", "clear", "()V"⟩ : MethodName) ∈ BW := BW_in (List.mem_of_getElem? (i := 697) (by decide +kernel)) rfl
theorem bw_698 : Cond.selects "ClassMaker$Rules" (⟨"ClassMaker$Rules", "clear", "()V"⟩ : MethodName) (⟨"ClassMaker$Rules", "clear", "()V"⟩ : MethodName) ∈ BW := BW_in (List.mem_of_getElem? (i := 698) (by decide +kernel)) rfl
theorem bw_699 : Cond.code (⟨"ClassMaker$Rules", "clear", "()V"⟩ : MethodName) prog_9_method_2_code 1 none ∈ BW := BW_in (List.mem_of_getElem? (i := 699) (by decide +kernel)) rfl
theorem bw_700 : Cond.methodLink "ClassMaker$Rules" 41 (⟨"java/util/Arrays", "fill", "([II)V"⟩ : MethodName) ∈ BW := BW_in (List.mem_of_getElem? (i := 700) (by decide +kernel)) rfl
theorem bw_701 : Cond.methodLink "ClassMaker$Parser" 31 (⟨"ClassMaker$Tape", "scan", "()V"⟩ : MethodName) ∈ BW := BW_in (List.mem_of_getElem? (i := 701) (by decide +kernel)) rfl
theorem bw_702 : Cond.instanceMethod (⟨"ClassMaker$Tape", "scan", "()V"⟩ : MethodName) ∈ BW := BW_in (List.mem_of_getElem? (i := 702) (by decide +kernel)) rfl
theorem bw_703 : Cond.selects "ClassMaker$Tape" (⟨"ClassMaker$Tape", "scan", "()V"⟩ : MethodName) (⟨"ClassMaker$Tape", "scan", "()V"⟩ : MethodName) ∈ BW := BW_in (List.mem_of_getElem? (i := 703) (by decide +kernel)) rfl
theorem bw_704 : Cond.code (⟨"ClassMaker$Tape", "scan", "()V"⟩ : MethodName) prog_11_method_4_code 4 none ∈ BW := BW_in (List.mem_of_getElem? (i := 704) (by decide +kernel)) rfl
theorem bw_705 : Cond.methodLink "ClassMaker$Tape" 32 (⟨"ClassMaker$Tape", "scanToken", "(I)I"⟩ : MethodName) ∈ BW := BW_in (List.mem_of_getElem? (i := 705) (by decide +kernel)) rfl
theorem bw_707 : Cond.instanceMethod (⟨"ClassMaker$Tape", "scanToken", "(I)I"⟩ : MethodName) ∈ BW := BW_in (List.mem_of_getElem? (i := 707) (by decide +kernel)) rfl
theorem bw_708 : Cond.code (⟨"ClassMaker$Tape", "scanToken", "(I)I"⟩ : MethodName) prog_11_method_6_code 4 (some .int) ∈ BW := BW_in (List.mem_of_getElem? (i := 708) (by decide +kernel)) rfl
theorem bw_709 : Cond.methodLink "ClassMaker$Tape" 46 (⟨"ClassMaker$Tape", "isLetter", "(C)Z"⟩ : MethodName) ∈ BW := BW_in (List.mem_of_getElem? (i := 709) (by decide +kernel)) rfl
theorem bw_710 : Cond.static (⟨"ClassMaker$Tape", "isLetter", "(C)Z"⟩ : MethodName) ∈ BW := BW_in (List.mem_of_getElem? (i := 710) (by decide +kernel)) rfl
theorem bw_711 : Cond.code (⟨"ClassMaker$Tape", "isLetter", "(C)Z"⟩ : MethodName) prog_11_method_9_code 1 (some .boolean) ∈ BW := BW_in (List.mem_of_getElem? (i := 711) (by decide +kernel)) rfl
theorem bw_712 : Cond.methodLink "ClassMaker$Tape" 50 (⟨"ClassMaker$Tape", "wordCode", "(II)I"⟩ : MethodName) ∈ BW := BW_in (List.mem_of_getElem? (i := 712) (by decide +kernel)) rfl
theorem bw_714 : Cond.instanceMethod (⟨"ClassMaker$Tape", "wordCode", "(II)I"⟩ : MethodName) ∈ BW := BW_in (List.mem_of_getElem? (i := 714) (by decide +kernel)) rfl
theorem bw_715 : Cond.code (⟨"ClassMaker$Tape", "wordCode", "(II)I"⟩ : MethodName) prog_11_method_8_code 7 (some .int) ∈ BW := BW_in (List.mem_of_getElem? (i := 715) (by decide +kernel)) rfl
theorem bw_717 : Cond.methodLink "ClassMaker$Tape" 61 (⟨"java/lang/String", "length", "()I"⟩ : MethodName) ∈ BW := BW_in (List.mem_of_getElem? (i := 717) (by decide +kernel)) rfl
theorem bw_718 : Cond.instanceMethod (⟨"java/lang/String", "length", "()I"⟩ : MethodName) ∈ BW := BW_in (List.mem_of_getElem? (i := 718) (by decide +kernel)) rfl
theorem bw_719 : Cond.selects "java/lang/String" (⟨"java/lang/String", "length", "()I"⟩ : MethodName) (⟨"java/lang/String", "length", "()I"⟩ : MethodName) ∈ BW := BW_in (List.mem_of_getElem? (i := 719) (by decide +kernel)) rfl
theorem bw_720 : Cond.code (⟨"java/lang/String", "length", "()I"⟩ : MethodName) prog_21_method_54_code 1 (some .int) ∈ BW := BW_in (List.mem_of_getElem? (i := 720) (by decide +kernel)) rfl
theorem bw_721 : Cond.methodLink "java/lang/String" 335 (⟨"java/lang/String", "coder", "()B"⟩ : MethodName) ∈ BW := BW_in (List.mem_of_getElem? (i := 721) (by decide +kernel)) rfl
theorem bw_722 : Cond.instanceMethod (⟨"java/lang/String", "coder", "()B"⟩ : MethodName) ∈ BW := BW_in (List.mem_of_getElem? (i := 722) (by decide +kernel)) rfl
theorem bw_723 : Cond.selects "java/lang/String" (⟨"java/lang/String", "coder", "()B"⟩ : MethodName) (⟨"java/lang/String", "coder", "()B"⟩ : MethodName) ∈ BW := BW_in (List.mem_of_getElem? (i := 723) (by decide +kernel)) rfl
theorem bw_724 : Cond.code (⟨"java/lang/String", "coder", "()B"⟩ : MethodName) prog_21_method_152_code 1 (some .byte) ∈ BW := BW_in (List.mem_of_getElem? (i := 724) (by decide +kernel)) rfl
theorem bw_725 : Cond.fieldLink "java/lang/String" 38 "java/lang/String" "COMPACT_STRINGS" "Z" ∈ BW := BW_in (List.mem_of_getElem? (i := 725) (by decide +kernel)) rfl
theorem bw_727 : Cond.methodLink "ClassMaker$Tape" 66 (⟨"java/lang/String", "charAt", "(I)C"⟩ : MethodName) ∈ BW := BW_in (List.mem_of_getElem? (i := 727) (by decide +kernel)) rfl
theorem bw_728 : Cond.instanceMethod (⟨"java/lang/String", "charAt", "(I)C"⟩ : MethodName) ∈ BW := BW_in (List.mem_of_getElem? (i := 728) (by decide +kernel)) rfl
theorem bw_729 : Cond.selects "java/lang/String" (⟨"java/lang/String", "charAt", "(I)C"⟩ : MethodName) (⟨"java/lang/String", "charAt", "(I)C"⟩ : MethodName) ∈ BW := BW_in (List.mem_of_getElem? (i := 729) (by decide +kernel)) rfl
theorem bw_730 : Cond.code (⟨"java/lang/String", "charAt", "(I)C"⟩ : MethodName) prog_21_method_56_code 2 (some .char) ∈ BW := BW_in (List.mem_of_getElem? (i := 730) (by decide +kernel)) rfl
theorem bw_731 : Cond.methodLink "java/lang/String" 492 (⟨"java/lang/String", "isLatin1", "()Z"⟩ : MethodName) ∈ BW := BW_in (List.mem_of_getElem? (i := 731) (by decide +kernel)) rfl
theorem bw_732 : Cond.instanceMethod (⟨"java/lang/String", "isLatin1", "()Z"⟩ : MethodName) ∈ BW := BW_in (List.mem_of_getElem? (i := 732) (by decide +kernel)) rfl
theorem bw_733 : Cond.selects "java/lang/String" (⟨"java/lang/String", "isLatin1", "()Z"⟩ : MethodName) (⟨"java/lang/String", "isLatin1", "()Z"⟩ : MethodName) ∈ BW := BW_in (List.mem_of_getElem? (i := 733) (by decide +kernel)) rfl
theorem bw_734 : Cond.code (⟨"java/lang/String", "isLatin1", "()Z"⟩ : MethodName) prog_21_method_154_code 1 (some .boolean) ∈ BW := BW_in (List.mem_of_getElem? (i := 734) (by decide +kernel)) rfl
theorem bw_735 : Cond.methodLink "java/lang/String" 495 (⟨"java/lang/StringLatin1", "charAt", "([BI)C"⟩ : MethodName) ∈ BW := BW_in (List.mem_of_getElem? (i := 735) (by decide +kernel)) rfl
theorem bw_736 : Cond.static (⟨"java/lang/StringLatin1", "charAt", "([BI)C"⟩ : MethodName) ∈ BW := BW_in (List.mem_of_getElem? (i := 736) (by decide +kernel)) rfl
theorem bw_737 : Cond.code (⟨"java/lang/StringLatin1", "charAt", "([BI)C"⟩ : MethodName) prog_22_method_2_code 2 (some .char) ∈ BW := BW_in (List.mem_of_getElem? (i := 737) (by decide +kernel)) rfl
theorem bw_738 : Cond.methodLink "java/lang/StringLatin1" 9 (⟨"java/lang/String", "checkIndex", "(II)V"⟩ : MethodName) ∈ BW := BW_in (List.mem_of_getElem? (i := 738) (by decide +kernel)) rfl
theorem bw_739 : Cond.static (⟨"java/lang/String", "checkIndex", "(II)V"⟩ : MethodName) ∈ BW := BW_in (List.mem_of_getElem? (i := 739) (by decide +kernel)) rfl
theorem bw_740 : Cond.code (⟨"java/lang/String", "checkIndex", "(II)V"⟩ : MethodName) prog_21_method_155_code 2 none ∈ BW := BW_in (List.mem_of_getElem? (i := 740) (by decide +kernel)) rfl
theorem bw_741 : Cond.fieldLink "java/lang/String" 1053 "jdk/internal/util/Preconditions" "SIOOBE_FORMATTER" "Ljava/util/function/BiFunction;" ∈ BW := BW_in (List.mem_of_getElem? (i := 741) (by decide +kernel)) rfl
theorem bw_743 : Cond.methodLink "java/lang/String" 1059 (⟨"jdk/internal/util/Preconditions", "checkIndex", "(IILjava/util/function/BiFunction;)I"⟩ : MethodName) ∈ BW := BW_in (List.mem_of_getElem? (i := 743) (by decide +kernel)) rfl
theorem bw_744 : Cond.static (⟨"jdk/internal/util/Preconditions", "checkIndex", "(IILjava/util/function/BiFunction;)I"⟩ : MethodName) ∈ BW := BW_in (List.mem_of_getElem? (i := 744) (by decide +kernel)) rfl
theorem bw_745 : Cond.code (⟨"jdk/internal/util/Preconditions", "checkIndex", "(IILjava/util/function/BiFunction;)I"⟩ : MethodName) prog_30_method_11_code 3 (some .int) ∈ BW := BW_in (List.mem_of_getElem? (i := 745) (by decide +kernel)) rfl
theorem bw_765 : Cond.methodLink "ClassMaker$Tape" 42 (⟨"ClassMaker$Tape", "add", "(III)V"⟩ : MethodName) ∈ BW := BW_in (List.mem_of_getElem? (i := 765) (by decide +kernel)) rfl
theorem bw_767 : Cond.instanceMethod (⟨"ClassMaker$Tape", "add", "(III)V"⟩ : MethodName) ∈ BW := BW_in (List.mem_of_getElem? (i := 767) (by decide +kernel)) rfl
theorem bw_768 : Cond.code (⟨"ClassMaker$Tape", "add", "(III)V"⟩ : MethodName) prog_11_method_5_code 4 none ∈ BW := BW_in (List.mem_of_getElem? (i := 768) (by decide +kernel)) rfl
theorem bw_769 : Cond.methodLink "ClassMaker$Tape" 53 (⟨"ClassMaker$Tape", "isDigit", "(C)Z"⟩ : MethodName) ∈ BW := BW_in (List.mem_of_getElem? (i := 769) (by decide +kernel)) rfl
theorem bw_770 : Cond.static (⟨"ClassMaker$Tape", "isDigit", "(C)Z"⟩ : MethodName) ∈ BW := BW_in (List.mem_of_getElem? (i := 770) (by decide +kernel)) rfl
theorem bw_771 : Cond.code (⟨"ClassMaker$Tape", "isDigit", "(C)Z"⟩ : MethodName) prog_11_method_10_code 1 (some .boolean) ∈ BW := BW_in (List.mem_of_getElem? (i := 771) (by decide +kernel)) rfl
theorem bw_772 : Cond.methodLink "ClassMaker$Tape" 56 (⟨"ClassMaker$Tape", "scanNumber", "(I)I"⟩ : MethodName) ∈ BW := BW_in (List.mem_of_getElem? (i := 772) (by decide +kernel)) rfl
theorem bw_774 : Cond.instanceMethod (⟨"ClassMaker$Tape", "scanNumber", "(I)I"⟩ : MethodName) ∈ BW := BW_in (List.mem_of_getElem? (i := 774) (by decide +kernel)) rfl
theorem bw_775 : Cond.code (⟨"ClassMaker$Tape", "scanNumber", "(I)I"⟩ : MethodName) prog_11_method_7_code 4 (some .int) ∈ BW := BW_in (List.mem_of_getElem? (i := 775) (by decide +kernel)) rfl
theorem bw_776 : Cond.methodLink "ClassMaker$Tape" 36 (⟨"java/lang/Math", "max", "(II)I"⟩ : MethodName) ∈ BW := BW_in (List.mem_of_getElem? (i := 776) (by decide +kernel)) rfl
theorem bw_777 : Cond.static (⟨"java/lang/Math", "max", "(II)I"⟩ : MethodName) ∈ BW := BW_in (List.mem_of_getElem? (i := 777) (by decide +kernel)) rfl
theorem bw_778 : Cond.code (⟨"java/lang/Math", "max", "(II)I"⟩ : MethodName) prog_19_method_65_code 2 (some .int) ∈ BW := BW_in (List.mem_of_getElem? (i := 778) (by decide +kernel)) rfl
theorem bw_779 : Cond.methodLink "ClassMaker$Parser" 39 (⟨"ClassMaker$Parser", "next", "()V"⟩ : MethodName) ∈ BW := BW_in (List.mem_of_getElem? (i := 779) (by decide +kernel)) rfl
theorem bw_781 : Cond.instanceMethod (⟨"ClassMaker$Parser", "next", "()V"⟩ : MethodName) ∈ BW := BW_in (List.mem_of_getElem? (i := 781) (by decide +kernel)) rfl
theorem bw_782 : Cond.code (⟨"ClassMaker$Parser", "next", "()V"⟩ : MethodName) prog_8_method_3_code 1 none ∈ BW := BW_in (List.mem_of_getElem? (i := 782) (by decide +kernel)) rfl
theorem bw_783 : Cond.methodLink "ClassMaker$Parser" 45 (⟨"ClassMaker$Parser", "readStatement", "(I)Z"⟩ : MethodName) ∈ BW := BW_in (List.mem_of_getElem? (i := 783) (by decide +kernel)) rfl
theorem bw_785 : Cond.instanceMethod (⟨"ClassMaker$Parser", "readStatement", "(I)Z"⟩ : MethodName) ∈ BW := BW_in (List.mem_of_getElem? (i := 785) (by decide +kernel)) rfl
theorem bw_786 : Cond.code (⟨"ClassMaker$Parser", "readStatement", "(I)Z"⟩ : MethodName) prog_8_method_5_code 3 (some .boolean) ∈ BW := BW_in (List.mem_of_getElem? (i := 786) (by decide +kernel)) rfl
theorem bw_788 : Cond.methodLink "ClassMaker$Parser" 72 (⟨"ClassMaker$Parser", "refuse", "(I)Z"⟩ : MethodName) ∈ BW := BW_in (List.mem_of_getElem? (i := 788) (by decide +kernel)) rfl
theorem bw_790 : Cond.instanceMethod (⟨"ClassMaker$Parser", "refuse", "(I)Z"⟩ : MethodName) ∈ BW := BW_in (List.mem_of_getElem? (i := 790) (by decide +kernel)) rfl
theorem bw_791 : Cond.code (⟨"ClassMaker$Parser", "refuse", "(I)Z"⟩ : MethodName) prog_8_method_4_code 2 (some .boolean) ∈ BW := BW_in (List.mem_of_getElem? (i := 791) (by decide +kernel)) rfl
theorem bw_792 : Cond.methodLink "ClassMaker$Parser" 81 (⟨"ClassMaker$Parser", "readBody", "(II)Z"⟩ : MethodName) ∈ BW := BW_in (List.mem_of_getElem? (i := 792) (by decide +kernel)) rfl
theorem bw_794 : Cond.instanceMethod (⟨"ClassMaker$Parser", "readBody", "(II)Z"⟩ : MethodName) ∈ BW := BW_in (List.mem_of_getElem? (i := 794) (by decide +kernel)) rfl
theorem bw_795 : Cond.code (⟨"ClassMaker$Parser", "readBody", "(II)Z"⟩ : MethodName) prog_8_method_6_code 3 (some .boolean) ∈ BW := BW_in (List.mem_of_getElem? (i := 795) (by decide +kernel)) rfl
theorem bw_796 : Cond.methodLink "ClassMaker$Parser" 88 (⟨"ClassMaker$Parser", "readTerms", "(I)Z"⟩ : MethodName) ∈ BW := BW_in (List.mem_of_getElem? (i := 796) (by decide +kernel)) rfl
theorem bw_798 : Cond.instanceMethod (⟨"ClassMaker$Parser", "readTerms", "(I)Z"⟩ : MethodName) ∈ BW := BW_in (List.mem_of_getElem? (i := 798) (by decide +kernel)) rfl
theorem bw_799 : Cond.code (⟨"ClassMaker$Parser", "readTerms", "(I)Z"⟩ : MethodName) prog_8_method_12_code 3 (some .boolean) ∈ BW := BW_in (List.mem_of_getElem? (i := 799) (by decide +kernel)) rfl
theorem bw_800 : Cond.methodLink "ClassMaker$Parser" 107 (⟨"ClassMaker$Parser", "readTerm", "(I)Z"⟩ : MethodName) ∈ BW := BW_in (List.mem_of_getElem? (i := 800) (by decide +kernel)) rfl
theorem bw_802 : Cond.instanceMethod (⟨"ClassMaker$Parser", "readTerm", "(I)Z"⟩ : MethodName) ∈ BW := BW_in (List.mem_of_getElem? (i := 802) (by decide +kernel)) rfl
theorem bw_803 : Cond.code (⟨"ClassMaker$Parser", "readTerm", "(I)Z"⟩ : MethodName) prog_8_method_13_code 3 (some .boolean) ∈ BW := BW_in (List.mem_of_getElem? (i := 803) (by decide +kernel)) rfl
theorem bw_804 : Cond.methodLink "ClassMaker$Parser" 85 (⟨"ClassMaker$Parser", "readCode", "(I)Z"⟩ : MethodName) ∈ BW := BW_in (List.mem_of_getElem? (i := 804) (by decide +kernel)) rfl
theorem bw_806 : Cond.instanceMethod (⟨"ClassMaker$Parser", "readCode", "(I)Z"⟩ : MethodName) ∈ BW := BW_in (List.mem_of_getElem? (i := 806) (by decide +kernel)) rfl
theorem bw_807 : Cond.code (⟨"ClassMaker$Parser", "readCode", "(I)Z"⟩ : MethodName) prog_8_method_7_code 2 (some .boolean) ∈ BW := BW_in (List.mem_of_getElem? (i := 807) (by decide +kernel)) rfl
theorem bw_808 : Cond.methodLink "ClassMaker$Parser" 91 (⟨"ClassMaker$Parser", "readWeight", "(I)Z"⟩ : MethodName) ∈ BW := BW_in (List.mem_of_getElem? (i := 808) (by decide +kernel)) rfl
theorem bw_810 : Cond.instanceMethod (⟨"ClassMaker$Parser", "readWeight", "(I)Z"⟩ : MethodName) ∈ BW := BW_in (List.mem_of_getElem? (i := 810) (by decide +kernel)) rfl
theorem bw_811 : Cond.code (⟨"ClassMaker$Parser", "readWeight", "(I)Z"⟩ : MethodName) prog_8_method_9_code 2 (some .boolean) ∈ BW := BW_in (List.mem_of_getElem? (i := 811) (by decide +kernel)) rfl
theorem bw_812 : Cond.methodLink "ClassMaker$Parser" 97 (⟨"ClassMaker$Parser", "readNumber", "(I)Z"⟩ : MethodName) ∈ BW := BW_in (List.mem_of_getElem? (i := 812) (by decide +kernel)) rfl
theorem bw_814 : Cond.instanceMethod (⟨"ClassMaker$Parser", "readNumber", "(I)Z"⟩ : MethodName) ∈ BW := BW_in (List.mem_of_getElem? (i := 814) (by decide +kernel)) rfl
theorem bw_815 : Cond.code (⟨"ClassMaker$Parser", "readNumber", "(I)Z"⟩ : MethodName) prog_8_method_8_code 2 (some .boolean) ∈ BW := BW_in (List.mem_of_getElem? (i := 815) (by decide +kernel)) rfl
theorem bw_816 : Cond.methodLink "ClassMaker$Parser" 94 (⟨"ClassMaker$Parser", "readTrait", "(I)Z"⟩ : MethodName) ∈ BW := BW_in (List.mem_of_getElem? (i := 816) (by decide +kernel)) rfl
theorem bw_818 : Cond.instanceMethod (⟨"ClassMaker$Parser", "readTrait", "(I)Z"⟩ : MethodName) ∈ BW := BW_in (List.mem_of_getElem? (i := 818) (by decide +kernel)) rfl
theorem bw_819 : Cond.code (⟨"ClassMaker$Parser", "readTrait", "(I)Z"⟩ : MethodName) prog_8_method_10_code 2 (some .boolean) ∈ BW := BW_in (List.mem_of_getElem? (i := 819) (by decide +kernel)) rfl
theorem bw_820 : Cond.methodLink "ClassMaker$Parser" 100 (⟨"ClassMaker$Parser", "readHow", "(I)Z"⟩ : MethodName) ∈ BW := BW_in (List.mem_of_getElem? (i := 820) (by decide +kernel)) rfl
theorem bw_822 : Cond.instanceMethod (⟨"ClassMaker$Parser", "readHow", "(I)Z"⟩ : MethodName) ∈ BW := BW_in (List.mem_of_getElem? (i := 822) (by decide +kernel)) rfl
theorem bw_823 : Cond.code (⟨"ClassMaker$Parser", "readHow", "(I)Z"⟩ : MethodName) prog_8_method_11_code 2 (some .boolean) ∈ BW := BW_in (List.mem_of_getElem? (i := 823) (by decide +kernel)) rfl
theorem bw_833 : Cond.methodLink "ClassMaker" 180 (⟨"ClassMaker", "isDay", "(I)Z"⟩ : MethodName) ∈ BW := BW_in (List.mem_of_getElem? (i := 833) (by decide +kernel)) rfl
theorem bw_835 : Cond.instanceMethod (⟨"ClassMaker", "isDay", "(I)Z"⟩ : MethodName) ∈ BW := BW_in (List.mem_of_getElem? (i := 835) (by decide +kernel)) rfl
theorem bw_836 : Cond.code (⟨"ClassMaker", "isDay", "(I)Z"⟩ : MethodName) prog_1_method_43_code 2 (some .boolean) ∈ BW := BW_in (List.mem_of_getElem? (i := 836) (by decide +kernel)) rfl
theorem bw_837 : Cond.methodLink "ClassMaker" 183 (⟨"ClassMaker$Rules", "takesTerms", "(II)Z"⟩ : MethodName) ∈ BW := BW_in (List.mem_of_getElem? (i := 837) (by decide +kernel)) rfl
theorem bw_838 : Cond.instanceMethod (⟨"ClassMaker$Rules", "takesTerms", "(II)Z"⟩ : MethodName) ∈ BW := BW_in (List.mem_of_getElem? (i := 838) (by decide +kernel)) rfl
theorem bw_839 : Cond.selects "ClassMaker$Rules" (⟨"ClassMaker$Rules", "takesTerms", "(II)Z"⟩ : MethodName) (⟨"ClassMaker$Rules", "takesTerms", "(II)Z"⟩ : MethodName) ∈ BW := BW_in (List.mem_of_getElem? (i := 839) (by decide +kernel)) rfl
theorem bw_840 : Cond.code (⟨"ClassMaker$Rules", "takesTerms", "(II)Z"⟩ : MethodName) prog_9_method_3_code 3 (some .boolean) ∈ BW := BW_in (List.mem_of_getElem? (i := 840) (by decide +kernel)) rfl
theorem bw_841 : Cond.methodLink "ClassMaker" 186 (⟨"ClassMaker$Judge", "prepare", "(LClassMaker$Rules;I)V"⟩ : MethodName) ∈ BW := BW_in (List.mem_of_getElem? (i := 841) (by decide +kernel)) rfl
theorem bw_842 : Cond.instanceMethod (⟨"ClassMaker$Judge", "prepare", "(LClassMaker$Rules;I)V"⟩ : MethodName) ∈ BW := BW_in (List.mem_of_getElem? (i := 842) (by decide +kernel)) rfl
theorem bw_843 : Cond.selects "ClassMaker$Judge" (⟨"ClassMaker$Judge", "prepare", "(LClassMaker$Rules;I)V"⟩ : MethodName) (⟨"ClassMaker$Judge", "prepare", "(LClassMaker$Rules;I)V"⟩ : MethodName) ∈ BW := BW_in (List.mem_of_getElem? (i := 843) (by decide +kernel)) rfl
theorem bw_844 : Cond.code (⟨"ClassMaker$Judge", "prepare", "(LClassMaker$Rules;I)V"⟩ : MethodName) prog_6_method_2_code 5 none ∈ BW := BW_in (List.mem_of_getElem? (i := 844) (by decide +kernel)) rfl
theorem bw_845 : Cond.methodLink "ClassMaker$Judge" 38 (⟨"ClassMaker$Rules", "twinsHow", "()I"⟩ : MethodName) ∈ BW := BW_in (List.mem_of_getElem? (i := 845) (by decide +kernel)) rfl
theorem bw_846 : Cond.instanceMethod (⟨"ClassMaker$Rules", "twinsHow", "()I"⟩ : MethodName) ∈ BW := BW_in (List.mem_of_getElem? (i := 846) (by decide +kernel)) rfl
theorem bw_847 : Cond.selects "ClassMaker$Rules" (⟨"ClassMaker$Rules", "twinsHow", "()I"⟩ : MethodName) (⟨"ClassMaker$Rules", "twinsHow", "()I"⟩ : MethodName) ∈ BW := BW_in (List.mem_of_getElem? (i := 847) (by decide +kernel)) rfl
theorem bw_848 : Cond.code (⟨"ClassMaker$Rules", "twinsHow", "()I"⟩ : MethodName) prog_9_method_4_code 3 (some .int) ∈ BW := BW_in (List.mem_of_getElem? (i := 848) (by decide +kernel)) rfl
theorem bw_849 : Cond.methodLink "ClassMaker$Judge" 46 (⟨"ClassMaker$Marks", "learn", "(I)V"⟩ : MethodName) ∈ BW := BW_in (List.mem_of_getElem? (i := 849) (by decide +kernel)) rfl
theorem bw_850 : Cond.instanceMethod (⟨"ClassMaker$Marks", "learn", "(I)V"⟩ : MethodName) ∈ BW := BW_in (List.mem_of_getElem? (i := 850) (by decide +kernel)) rfl
theorem bw_851 : Cond.selects "ClassMaker$Marks" (⟨"ClassMaker$Marks", "learn", "(I)V"⟩ : MethodName) (⟨"ClassMaker$Marks", "learn", "(I)V"⟩ : MethodName) ∈ BW := BW_in (List.mem_of_getElem? (i := 851) (by decide +kernel)) rfl
theorem bw_852 : Cond.code (⟨"ClassMaker$Marks", "learn", "(I)V"⟩ : MethodName) prog_7_method_3_code 3 none ∈ BW := BW_in (List.mem_of_getElem? (i := 852) (by decide +kernel)) rfl
theorem bw_853 : Cond.methodLink "ClassMaker$Marks" 34 (⟨"java/util/Arrays", "fill", "([II)V"⟩ : MethodName) ∈ BW := BW_in (List.mem_of_getElem? (i := 853) (by decide +kernel)) rfl
theorem bw_854 : Cond.methodLink "ClassMaker$Judge" 52 (⟨"ClassMaker$Rules", "uses", "(I)Z"⟩ : MethodName) ∈ BW := BW_in (List.mem_of_getElem? (i := 854) (by decide +kernel)) rfl
theorem bw_855 : Cond.instanceMethod (⟨"ClassMaker$Rules", "uses", "(I)Z"⟩ : MethodName) ∈ BW := BW_in (List.mem_of_getElem? (i := 855) (by decide +kernel)) rfl
theorem bw_856 : Cond.selects "ClassMaker$Rules" (⟨"ClassMaker$Rules", "uses", "(I)Z"⟩ : MethodName) (⟨"ClassMaker$Rules", "uses", "(I)Z"⟩ : MethodName) ∈ BW := BW_in (List.mem_of_getElem? (i := 856) (by decide +kernel)) rfl
theorem bw_857 : Cond.code (⟨"ClassMaker$Rules", "uses", "(I)Z"⟩ : MethodName) prog_9_method_5_code 3 (some .boolean) ∈ BW := BW_in (List.mem_of_getElem? (i := 857) (by decide +kernel)) rfl
theorem bw_858 : Cond.methodLink "ClassMaker$Rules" 47 (⟨"ClassMaker$Rules", "termsUse", "(II)Z"⟩ : MethodName) ∈ BW := BW_in (List.mem_of_getElem? (i := 858) (by decide +kernel)) rfl
theorem bw_860 : Cond.instanceMethod (⟨"ClassMaker$Rules", "termsUse", "(II)Z"⟩ : MethodName) ∈ BW := BW_in (List.mem_of_getElem? (i := 860) (by decide +kernel)) rfl
theorem bw_861 : Cond.code (⟨"ClassMaker$Rules", "termsUse", "(II)Z"⟩ : MethodName) prog_9_method_6_code 4 (some .boolean) ∈ BW := BW_in (List.mem_of_getElem? (i := 861) (by decide +kernel)) rfl
theorem bw_862 : Cond.methodLink "ClassMaker$Judge" 61 (⟨"ClassMaker$Judge", "traitOf", "(II)I"⟩ : MethodName) ∈ BW := BW_in (List.mem_of_getElem? (i := 862) (by decide +kernel)) rfl
theorem bw_864 : Cond.instanceMethod (⟨"ClassMaker$Judge", "traitOf", "(II)I"⟩ : MethodName) ∈ BW := BW_in (List.mem_of_getElem? (i := 864) (by decide +kernel)) rfl
theorem bw_865 : Cond.code (⟨"ClassMaker$Judge", "traitOf", "(II)I"⟩ : MethodName) prog_6_method_3_code 3 (some .int) ∈ BW := BW_in (List.mem_of_getElem? (i := 865) (by decide +kernel)) rfl
theorem bw_866 : Cond.methodLink "ClassMaker$Judge" 79 (⟨"ClassMaker$Marks", "level", "(II)I"⟩ : MethodName) ∈ BW := BW_in (List.mem_of_getElem? (i := 866) (by decide +kernel)) rfl
theorem bw_867 : Cond.instanceMethod (⟨"ClassMaker$Marks", "level", "(II)I"⟩ : MethodName) ∈ BW := BW_in (List.mem_of_getElem? (i := 867) (by decide +kernel)) rfl
theorem bw_868 : Cond.selects "ClassMaker$Marks" (⟨"ClassMaker$Marks", "level", "(II)I"⟩ : MethodName) (⟨"ClassMaker$Marks", "level", "(II)I"⟩ : MethodName) ∈ BW := BW_in (List.mem_of_getElem? (i := 868) (by decide +kernel)) rfl
theorem bw_869 : Cond.code (⟨"ClassMaker$Marks", "level", "(II)I"⟩ : MethodName) prog_7_method_6_code 4 (some .int) ∈ BW := BW_in (List.mem_of_getElem? (i := 869) (by decide +kernel)) rfl
theorem bw_870 : Cond.methodLink "ClassMaker$Marks" 44 (⟨"ClassMaker$Marks", "overall", "(II)I"⟩ : MethodName) ∈ BW := BW_in (List.mem_of_getElem? (i := 870) (by decide +kernel)) rfl
theorem bw_871 : Cond.instanceMethod (⟨"ClassMaker$Marks", "overall", "(II)I"⟩ : MethodName) ∈ BW := BW_in (List.mem_of_getElem? (i := 871) (by decide +kernel)) rfl
theorem bw_872 : Cond.selects "ClassMaker$Marks" (⟨"ClassMaker$Marks", "overall", "(II)I"⟩ : MethodName) (⟨"ClassMaker$Marks", "overall", "(II)I"⟩ : MethodName) ∈ BW := BW_in (List.mem_of_getElem? (i := 872) (by decide +kernel)) rfl
theorem bw_873 : Cond.code (⟨"ClassMaker$Marks", "overall", "(II)I"⟩ : MethodName) prog_7_method_5_code 7 (some .int) ∈ BW := BW_in (List.mem_of_getElem? (i := 873) (by decide +kernel)) rfl
theorem bw_874 : Cond.methodLink "ClassMaker$Marks" 40 (⟨"ClassMaker$Marks", "scale", "(III)I"⟩ : MethodName) ∈ BW := BW_in (List.mem_of_getElem? (i := 874) (by decide +kernel)) rfl
theorem bw_875 : Cond.instanceMethod (⟨"ClassMaker$Marks", "scale", "(III)I"⟩ : MethodName) ∈ BW := BW_in (List.mem_of_getElem? (i := 875) (by decide +kernel)) rfl
theorem bw_876 : Cond.selects "ClassMaker$Marks" (⟨"ClassMaker$Marks", "scale", "(III)I"⟩ : MethodName) (⟨"ClassMaker$Marks", "scale", "(III)I"⟩ : MethodName) ∈ BW := BW_in (List.mem_of_getElem? (i := 876) (by decide +kernel)) rfl
theorem bw_877 : Cond.code (⟨"ClassMaker$Marks", "scale", "(III)I"⟩ : MethodName) prog_7_method_4_code 9 (some .int) ∈ BW := BW_in (List.mem_of_getElem? (i := 877) (by decide +kernel)) rfl
theorem bw_878 : Cond.methodLink "ClassMaker$Judge" 85 (⟨"ClassMaker$Facts", "toldWishes", "(I)I"⟩ : MethodName) ∈ BW := BW_in (List.mem_of_getElem? (i := 878) (by decide +kernel)) rfl
theorem bw_879 : Cond.instanceMethod (⟨"ClassMaker$Facts", "toldWishes", "(I)I"⟩ : MethodName) ∈ BW := BW_in (List.mem_of_getElem? (i := 879) (by decide +kernel)) rfl
theorem bw_880 : Cond.selects "ClassMaker$Facts" (⟨"ClassMaker$Facts", "toldWishes", "(I)I"⟩ : MethodName) (⟨"ClassMaker$Facts", "toldWishes", "(I)I"⟩ : MethodName) ∈ BW := BW_in (List.mem_of_getElem? (i := 880) (by decide +kernel)) rfl
theorem bw_881 : Cond.code (⟨"ClassMaker$Facts", "toldWishes", "(I)I"⟩ : MethodName) prog_3_method_7_code 4 (some .int) ∈ BW := BW_in (List.mem_of_getElem? (i := 881) (by decide +kernel)) rfl
theorem bw_882 : Cond.methodLink "ClassMaker$Judge" 88 (⟨"ClassMaker$Facts", "naming", "(I)I"⟩ : MethodName) ∈ BW := BW_in (List.mem_of_getElem? (i := 882) (by decide +kernel)) rfl
theorem bw_883 : Cond.instanceMethod (⟨"ClassMaker$Facts", "naming", "(I)I"⟩ : MethodName) ∈ BW := BW_in (List.mem_of_getElem? (i := 883) (by decide +kernel)) rfl
theorem bw_884 : Cond.selects "ClassMaker$Facts" (⟨"ClassMaker$Facts", "naming", "(I)I"⟩ : MethodName) (⟨"ClassMaker$Facts", "naming", "(I)I"⟩ : MethodName) ∈ BW := BW_in (List.mem_of_getElem? (i := 884) (by decide +kernel)) rfl
theorem bw_885 : Cond.code (⟨"ClassMaker$Facts", "naming", "(I)I"⟩ : MethodName) prog_3_method_6_code 4 (some .int) ∈ BW := BW_in (List.mem_of_getElem? (i := 885) (by decide +kernel)) rfl
theorem bw_886 : Cond.methodLink "ClassMaker$Judge" 65 (⟨"ClassMaker$Facts", "wishedOnes", "(I)I"⟩ : MethodName) ∈ BW := BW_in (List.mem_of_getElem? (i := 886) (by decide +kernel)) rfl
theorem bw_887 : Cond.instanceMethod (⟨"ClassMaker$Facts", "wishedOnes", "(I)I"⟩ : MethodName) ∈ BW := BW_in (List.mem_of_getElem? (i := 887) (by decide +kernel)) rfl
theorem bw_888 : Cond.selects "ClassMaker$Facts" (⟨"ClassMaker$Facts", "wishedOnes", "(I)I"⟩ : MethodName) (⟨"ClassMaker$Facts", "wishedOnes", "(I)I"⟩ : MethodName) ∈ BW := BW_in (List.mem_of_getElem? (i := 888) (by decide +kernel)) rfl
theorem bw_889 : Cond.code (⟨"ClassMaker$Facts", "wishedOnes", "(I)I"⟩ : MethodName) prog_3_method_8_code 5 (some .int) ∈ BW := BW_in (List.mem_of_getElem? (i := 889) (by decide +kernel)) rfl
theorem bw_890 : Cond.methodLink "ClassMaker$Judge" 70 (⟨"ClassMaker$Judge", "holders", "(I)I"⟩ : MethodName) ∈ BW := BW_in (List.mem_of_getElem? (i := 890) (by decide +kernel)) rfl
theorem bw_892 : Cond.instanceMethod (⟨"ClassMaker$Judge", "holders", "(I)I"⟩ : MethodName) ∈ BW := BW_in (List.mem_of_getElem? (i := 892) (by decide +kernel)) rfl
theorem bw_893 : Cond.code (⟨"ClassMaker$Judge", "holders", "(I)I"⟩ : MethodName) prog_6_method_4_code 4 (some .int) ∈ BW := BW_in (List.mem_of_getElem? (i := 893) (by decide +kernel)) rfl
theorem bw_894 : Cond.methodLink "ClassMaker$Judge" 91 (⟨"ClassMaker$Judge", "meets", "(II)Z"⟩ : MethodName) ∈ BW := BW_in (List.mem_of_getElem? (i := 894) (by decide +kernel)) rfl
theorem bw_895 : Cond.instanceMethod (⟨"ClassMaker$Judge", "meets", "(II)Z"⟩ : MethodName) ∈ BW := BW_in (List.mem_of_getElem? (i := 895) (by decide +kernel)) rfl
theorem bw_896 : Cond.selects "ClassMaker$Judge" (⟨"ClassMaker$Judge", "meets", "(II)Z"⟩ : MethodName) (⟨"ClassMaker$Judge", "meets", "(II)Z"⟩ : MethodName) ∈ BW := BW_in (List.mem_of_getElem? (i := 896) (by decide +kernel)) rfl
theorem bw_897 : Cond.code (⟨"ClassMaker$Judge", "meets", "(II)Z"⟩ : MethodName) prog_6_method_5_code 5 (some .boolean) ∈ BW := BW_in (List.mem_of_getElem? (i := 897) (by decide +kernel)) rfl
theorem bw_898 : Cond.methodLink "ClassMaker$Judge" 98 (⟨"ClassMaker$Judge", "meetsTerm", "(II)Z"⟩ : MethodName) ∈ BW := BW_in (List.mem_of_getElem? (i := 898) (by decide +kernel)) rfl
theorem bw_900 : Cond.instanceMethod (⟨"ClassMaker$Judge", "meetsTerm", "(II)Z"⟩ : MethodName) ∈ BW := BW_in (List.mem_of_getElem? (i := 900) (by decide +kernel)) rfl
theorem bw_901 : Cond.code (⟨"ClassMaker$Judge", "meetsTerm", "(II)Z"⟩ : MethodName) prog_6_method_6_code 7 (some .boolean) ∈ BW := BW_in (List.mem_of_getElem? (i := 901) (by decide +kernel)) rfl
theorem bw_902 : Cond.methodLink "ClassMaker" 190 (⟨"ClassMaker$Judge", "meets", "(II)Z"⟩ : MethodName) ∈ BW := BW_in (List.mem_of_getElem? (i := 902) (by decide +kernel)) rfl
theorem bw_908 : Cond.methodLink "ClassMaker" 195 (⟨"ClassMaker$Book", "write", "([III)V"⟩ : MethodName) ∈ BW := BW_in (List.mem_of_getElem? (i := 908) (by decide +kernel)) rfl
theorem bw_909 : Cond.instanceMethod (⟨"ClassMaker$Book", "write", "([III)V"⟩ : MethodName) ∈ BW := BW_in (List.mem_of_getElem? (i := 909) (by decide +kernel)) rfl
theorem bw_910 : Cond.selects "ClassMaker$Book" (⟨"ClassMaker$Book", "write", "([III)V"⟩ : MethodName) (⟨"ClassMaker$Book", "write", "([III)V"⟩ : MethodName) ∈ BW := BW_in (List.mem_of_getElem? (i := 910) (by decide +kernel)) rfl
theorem bw_911 : Cond.code (⟨"ClassMaker$Book", "write", "([III)V"⟩ : MethodName) prog_2_method_2_code 5 none ∈ BW := BW_in (List.mem_of_getElem? (i := 911) (by decide +kernel)) rfl
theorem bw_916 : Cond.methodLink "ClassMaker" 199 (⟨"ClassMaker", "bestPlan", "(I)I"⟩ : MethodName) ∈ BW := BW_in (List.mem_of_getElem? (i := 916) (by decide +kernel)) rfl
theorem bw_918 : Cond.instanceMethod (⟨"ClassMaker", "bestPlan", "(I)I"⟩ : MethodName) ∈ BW := BW_in (List.mem_of_getElem? (i := 918) (by decide +kernel)) rfl
theorem bw_919 : Cond.code (⟨"ClassMaker", "bestPlan", "(I)I"⟩ : MethodName) prog_1_method_48_code 2 (some .int) ∈ BW := BW_in (List.mem_of_getElem? (i := 919) (by decide +kernel)) rfl
theorem bw_920 : Cond.methodLink "ClassMaker" 374 (⟨"ClassMaker", "searchBest", "(I)I"⟩ : MethodName) ∈ BW := BW_in (List.mem_of_getElem? (i := 920) (by decide +kernel)) rfl
theorem bw_922 : Cond.instanceMethod (⟨"ClassMaker", "searchBest", "(I)I"⟩ : MethodName) ∈ BW := BW_in (List.mem_of_getElem? (i := 922) (by decide +kernel)) rfl
theorem bw_923 : Cond.code (⟨"ClassMaker", "searchBest", "(I)I"⟩ : MethodName) prog_1_method_49_code 4 (some .int) ∈ BW := BW_in (List.mem_of_getElem? (i := 923) (by decide +kernel)) rfl
theorem bw_924 : Cond.methodLink "ClassMaker" 380 (⟨"ClassMaker$Facts", "cameBy", "(I)I"⟩ : MethodName) ∈ BW := BW_in (List.mem_of_getElem? (i := 924) (by decide +kernel)) rfl
theorem bw_925 : Cond.instanceMethod (⟨"ClassMaker$Facts", "cameBy", "(I)I"⟩ : MethodName) ∈ BW := BW_in (List.mem_of_getElem? (i := 925) (by decide +kernel)) rfl
theorem bw_926 : Cond.selects "ClassMaker$Facts" (⟨"ClassMaker$Facts", "cameBy", "(I)I"⟩ : MethodName) (⟨"ClassMaker$Facts", "cameBy", "(I)I"⟩ : MethodName) ∈ BW := BW_in (List.mem_of_getElem? (i := 926) (by decide +kernel)) rfl
theorem bw_927 : Cond.code (⟨"ClassMaker$Facts", "cameBy", "(I)I"⟩ : MethodName) prog_3_method_5_code 4 (some .int) ∈ BW := BW_in (List.mem_of_getElem? (i := 927) (by decide +kernel)) rfl
theorem bw_928 : Cond.methodLink "ClassMaker" 243 (⟨"ClassMaker$Search", "begin", "()V"⟩ : MethodName) ∈ BW := BW_in (List.mem_of_getElem? (i := 928) (by decide +kernel)) rfl
theorem bw_929 : Cond.instanceMethod (⟨"ClassMaker$Search", "begin", "()V"⟩ : MethodName) ∈ BW := BW_in (List.mem_of_getElem? (i := 929) (by decide +kernel)) rfl
theorem bw_930 : Cond.selects "ClassMaker$Search" (⟨"ClassMaker$Search", "begin", "()V"⟩ : MethodName) (⟨"ClassMaker$Search", "begin", "()V"⟩ : MethodName) ∈ BW := BW_in (List.mem_of_getElem? (i := 930) (by decide +kernel)) rfl
theorem bw_931 : Cond.code (⟨"ClassMaker$Search", "begin", "()V"⟩ : MethodName) prog_10_method_2_code 1 none ∈ BW := BW_in (List.mem_of_getElem? (i := 931) (by decide +kernel)) rfl
theorem bw_932 : Cond.methodLink "ClassMaker" 246 (⟨"ClassMaker$Search", "\x61dmit", "(II)V"⟩ : MethodName) ∈ BW := BW_in (List.mem_of_getElem? (i := 932) (by decide +kernel)) rfl
theorem bw_933 : Cond.instanceMethod (⟨"ClassMaker$Search", "\x61dmit", "(II)V"⟩ : MethodName) ∈ BW := BW_in (List.mem_of_getElem? (i := 933) (by decide +kernel)) rfl
theorem bw_934 : Cond.selects "ClassMaker$Search" (⟨"ClassMaker$Search", "\x61dmit", "(II)V"⟩ : MethodName) (⟨"ClassMaker$Search", "\x61dmit", "(II)V"⟩ : MethodName) ∈ BW := BW_in (List.mem_of_getElem? (i := 934) (by decide +kernel)) rfl
theorem bw_935 : Cond.code (⟨"ClassMaker$Search", "\x61dmit", "(II)V"⟩ : MethodName) prog_10_method_3_code 3 none ∈ BW := BW_in (List.mem_of_getElem? (i := 935) (by decide +kernel)) rfl
theorem bw_936 : Cond.methodLink "ClassMaker" 249 (⟨"ClassMaker$Search", "run", "()V"⟩ : MethodName) ∈ BW := BW_in (List.mem_of_getElem? (i := 936) (by decide +kernel)) rfl
theorem bw_937 : Cond.instanceMethod (⟨"ClassMaker$Search", "run", "()V"⟩ : MethodName) ∈ BW := BW_in (List.mem_of_getElem? (i := 937) (by decide +kernel)) rfl
theorem bw_938 : Cond.selects "ClassMaker$Search" (⟨"ClassMaker$Search", "run", "()V"⟩ : MethodName) (⟨"ClassMaker$Search", "run", "()V"⟩ : MethodName) ∈ BW := BW_in (List.mem_of_getElem? (i := 938) (by decide +kernel)) rfl
theorem bw_939 : Cond.code (⟨"ClassMaker$Search", "run", "()V"⟩ : MethodName) prog_10_method_4_code 1 none ∈ BW := BW_in (List.mem_of_getElem? (i := 939) (by decide +kernel)) rfl
theorem bw_940 : Cond.methodLink "ClassMaker$Search" 66 (⟨"ClassMaker$Search", "readSets", "()V"⟩ : MethodName) ∈ BW := BW_in (List.mem_of_getElem? (i := 940) (by decide +kernel)) rfl
theorem bw_942 : Cond.instanceMethod (⟨"ClassMaker$Search", "readSets", "()V"⟩ : MethodName) ∈ BW := BW_in (List.mem_of_getElem? (i := 942) (by decide +kernel)) rfl
theorem bw_943 : Cond.code (⟨"ClassMaker$Search", "readSets", "()V"⟩ : MethodName) prog_10_method_7_code 4 none ∈ BW := BW_in (List.mem_of_getElem? (i := 943) (by decide +kernel)) rfl
theorem bw_944 : Cond.methodLink "ClassMaker$Search" 103 (⟨"ClassMaker$Judge", "mayStand", "(II)Z"⟩ : MethodName) ∈ BW := BW_in (List.mem_of_getElem? (i := 944) (by decide +kernel)) rfl
theorem bw_945 : Cond.instanceMethod (⟨"ClassMaker$Judge", "mayStand", "(II)Z"⟩ : MethodName) ∈ BW := BW_in (List.mem_of_getElem? (i := 945) (by decide +kernel)) rfl
theorem bw_946 : Cond.selects "ClassMaker$Judge" (⟨"ClassMaker$Judge", "mayStand", "(II)Z"⟩ : MethodName) (⟨"ClassMaker$Judge", "mayStand", "(II)Z"⟩ : MethodName) ∈ BW := BW_in (List.mem_of_getElem? (i := 946) (by decide +kernel)) rfl
theorem bw_947 : Cond.code (⟨"ClassMaker$Judge", "mayStand", "(II)Z"⟩ : MethodName) prog_6_method_19_code 3 (some .boolean) ∈ BW := BW_in (List.mem_of_getElem? (i := 947) (by decide +kernel)) rfl
theorem bw_948 : Cond.methodLink "ClassMaker$Judge" 123 (⟨"java/lang/Integer", "bitCount", "(I)I"⟩ : MethodName) ∈ BW := BW_in (List.mem_of_getElem? (i := 948) (by decide +kernel)) rfl
theorem bw_949 : Cond.static (⟨"java/lang/Integer", "bitCount", "(I)I"⟩ : MethodName) ∈ BW := BW_in (List.mem_of_getElem? (i := 949) (by decide +kernel)) rfl
theorem bw_950 : Cond.code (⟨"java/lang/Integer", "bitCount", "(I)I"⟩ : MethodName) prog_18_method_49_code 1 (some .int) ∈ BW := BW_in (List.mem_of_getElem? (i := 950) (by decide +kernel)) rfl
theorem bw_954 : Cond.methodLink "ClassMaker$Judge" 190 (⟨"ClassMaker$Judge", "hasNoPair", "(I)Z"⟩ : MethodName) ∈ BW := BW_in (List.mem_of_getElem? (i := 954) (by decide +kernel)) rfl
theorem bw_956 : Cond.instanceMethod (⟨"ClassMaker$Judge", "hasNoPair", "(I)Z"⟩ : MethodName) ∈ BW := BW_in (List.mem_of_getElem? (i := 956) (by decide +kernel)) rfl
theorem bw_957 : Cond.code (⟨"ClassMaker$Judge", "hasNoPair", "(I)Z"⟩ : MethodName) prog_6_method_20_code 4 (some .boolean) ∈ BW := BW_in (List.mem_of_getElem? (i := 957) (by decide +kernel)) rfl
theorem bw_958 : Cond.methodLink "ClassMaker$Judge" 193 (⟨"ClassMaker$Judge", "fitsStatements", "(I)Z"⟩ : MethodName) ∈ BW := BW_in (List.mem_of_getElem? (i := 958) (by decide +kernel)) rfl
theorem bw_960 : Cond.instanceMethod (⟨"ClassMaker$Judge", "fitsStatements", "(I)Z"⟩ : MethodName) ∈ BW := BW_in (List.mem_of_getElem? (i := 960) (by decide +kernel)) rfl
theorem bw_961 : Cond.code (⟨"ClassMaker$Judge", "fitsStatements", "(I)Z"⟩ : MethodName) prog_6_method_21_code 4 (some .boolean) ∈ BW := BW_in (List.mem_of_getElem? (i := 961) (by decide +kernel)) rfl
theorem bw_962 : Cond.methodLink "ClassMaker$Judge" 202 (⟨"ClassMaker$Judge", "holdsTwo", "(II)Z"⟩ : MethodName) ∈ BW := BW_in (List.mem_of_getElem? (i := 962) (by decide +kernel)) rfl
theorem bw_963 : Cond.static (⟨"ClassMaker$Judge", "holdsTwo", "(II)Z"⟩ : MethodName) ∈ BW := BW_in (List.mem_of_getElem? (i := 963) (by decide +kernel)) rfl
theorem bw_964 : Cond.code (⟨"ClassMaker$Judge", "holdsTwo", "(II)Z"⟩ : MethodName) prog_6_method_22_code 3 (some .boolean) ∈ BW := BW_in (List.mem_of_getElem? (i := 964) (by decide +kernel)) rfl
theorem bw_965 : Cond.methodLink "ClassMaker$Search" 109 (⟨"ClassMaker$Judge", "lackIn", "(I)I"⟩ : MethodName) ∈ BW := BW_in (List.mem_of_getElem? (i := 965) (by decide +kernel)) rfl
theorem bw_966 : Cond.instanceMethod (⟨"ClassMaker$Judge", "lackIn", "(I)I"⟩ : MethodName) ∈ BW := BW_in (List.mem_of_getElem? (i := 966) (by decide +kernel)) rfl
theorem bw_967 : Cond.selects "ClassMaker$Judge" (⟨"ClassMaker$Judge", "lackIn", "(I)I"⟩ : MethodName) (⟨"ClassMaker$Judge", "lackIn", "(I)I"⟩ : MethodName) ∈ BW := BW_in (List.mem_of_getElem? (i := 967) (by decide +kernel)) rfl
theorem bw_968 : Cond.code (⟨"ClassMaker$Judge", "lackIn", "(I)I"⟩ : MethodName) prog_6_method_15_code 4 (some .int) ∈ BW := BW_in (List.mem_of_getElem? (i := 968) (by decide +kernel)) rfl
theorem bw_969 : Cond.methodLink "ClassMaker$Judge" 157 (⟨"java/lang/Math", "max", "(II)I"⟩ : MethodName) ∈ BW := BW_in (List.mem_of_getElem? (i := 969) (by decide +kernel)) rfl
theorem bw_970 : Cond.methodLink "ClassMaker$Search" 119 (⟨"ClassMaker$Judge", "addedHarm", "(II)I"⟩ : MethodName) ∈ BW := BW_in (List.mem_of_getElem? (i := 970) (by decide +kernel)) rfl
theorem bw_971 : Cond.instanceMethod (⟨"ClassMaker$Judge", "addedHarm", "(II)I"⟩ : MethodName) ∈ BW := BW_in (List.mem_of_getElem? (i := 971) (by decide +kernel)) rfl
theorem bw_972 : Cond.selects "ClassMaker$Judge" (⟨"ClassMaker$Judge", "addedHarm", "(II)I"⟩ : MethodName) (⟨"ClassMaker$Judge", "addedHarm", "(II)I"⟩ : MethodName) ∈ BW := BW_in (List.mem_of_getElem? (i := 972) (by decide +kernel)) rfl
theorem bw_973 : Cond.code (⟨"ClassMaker$Judge", "addedHarm", "(II)I"⟩ : MethodName) prog_6_method_10_code 3 (some .int) ∈ BW := BW_in (List.mem_of_getElem? (i := 973) (by decide +kernel)) rfl
theorem bw_974 : Cond.methodLink "ClassMaker$Judge" 134 (⟨"ClassMaker$Judge", "leftIn", "(I)I"⟩ : MethodName) ∈ BW := BW_in (List.mem_of_getElem? (i := 974) (by decide +kernel)) rfl
theorem bw_976 : Cond.instanceMethod (⟨"ClassMaker$Judge", "leftIn", "(I)I"⟩ : MethodName) ∈ BW := BW_in (List.mem_of_getElem? (i := 976) (by decide +kernel)) rfl
theorem bw_977 : Cond.code (⟨"ClassMaker$Judge", "leftIn", "(I)I"⟩ : MethodName) prog_6_method_11_code 4 (some .int) ∈ BW := BW_in (List.mem_of_getElem? (i := 977) (by decide +kernel)) rfl
theorem bw_978 : Cond.methodLink "ClassMaker$Judge" 137 (⟨"ClassMaker$Judge", "regretIn", "(I)I"⟩ : MethodName) ∈ BW := BW_in (List.mem_of_getElem? (i := 978) (by decide +kernel)) rfl
theorem bw_980 : Cond.instanceMethod (⟨"ClassMaker$Judge", "regretIn", "(I)I"⟩ : MethodName) ∈ BW := BW_in (List.mem_of_getElem? (i := 980) (by decide +kernel)) rfl
theorem bw_981 : Cond.code (⟨"ClassMaker$Judge", "regretIn", "(I)I"⟩ : MethodName) prog_6_method_12_code 5 (some .int) ∈ BW := BW_in (List.mem_of_getElem? (i := 981) (by decide +kernel)) rfl
theorem bw_982 : Cond.methodLink "ClassMaker$Search" 69 (⟨"ClassMaker$Search", "readTwins", "()V"⟩ : MethodName) ∈ BW := BW_in (List.mem_of_getElem? (i := 982) (by decide +kernel)) rfl
theorem bw_984 : Cond.instanceMethod (⟨"ClassMaker$Search", "readTwins", "()V"⟩ : MethodName) ∈ BW := BW_in (List.mem_of_getElem? (i := 984) (by decide +kernel)) rfl
theorem bw_985 : Cond.code (⟨"ClassMaker$Search", "readTwins", "()V"⟩ : MethodName) prog_10_method_8_code 3 none ∈ BW := BW_in (List.mem_of_getElem? (i := 985) (by decide +kernel)) rfl
theorem bw_986 : Cond.methodLink "ClassMaker$Search" 123 (⟨"ClassMaker$Judge", "joins", "(II)Z"⟩ : MethodName) ∈ BW := BW_in (List.mem_of_getElem? (i := 986) (by decide +kernel)) rfl
theorem bw_987 : Cond.instanceMethod (⟨"ClassMaker$Judge", "joins", "(II)Z"⟩ : MethodName) ∈ BW := BW_in (List.mem_of_getElem? (i := 987) (by decide +kernel)) rfl
theorem bw_988 : Cond.selects "ClassMaker$Judge" (⟨"ClassMaker$Judge", "joins", "(II)Z"⟩ : MethodName) (⟨"ClassMaker$Judge", "joins", "(II)Z"⟩ : MethodName) ∈ BW := BW_in (List.mem_of_getElem? (i := 988) (by decide +kernel)) rfl
theorem bw_989 : Cond.code (⟨"ClassMaker$Judge", "joins", "(II)Z"⟩ : MethodName) prog_6_method_24_code 3 (some .boolean) ∈ BW := BW_in (List.mem_of_getElem? (i := 989) (by decide +kernel)) rfl
theorem bw_990 : Cond.methodLink "ClassMaker$Search" 72 (⟨"ClassMaker$Search", "readSpreads", "()V"⟩ : MethodName) ∈ BW := BW_in (List.mem_of_getElem? (i := 990) (by decide +kernel)) rfl
theorem bw_992 : Cond.instanceMethod (⟨"ClassMaker$Search", "readSpreads", "()V"⟩ : MethodName) ∈ BW := BW_in (List.mem_of_getElem? (i := 992) (by decide +kernel)) rfl
theorem bw_993 : Cond.code (⟨"ClassMaker$Search", "readSpreads", "()V"⟩ : MethodName) prog_10_method_9_code 3 none ∈ BW := BW_in (List.mem_of_getElem? (i := 993) (by decide +kernel)) rfl
theorem bw_994 : Cond.methodLink "ClassMaker$Search" 75 (⟨"java/util/Arrays", "fill", "([II)V"⟩ : MethodName) ∈ BW := BW_in (List.mem_of_getElem? (i := 994) (by decide +kernel)) rfl
theorem bw_995 : Cond.methodLink "ClassMaker$Search" 129 (⟨"ClassMaker$Judge", "isSpread", "(I)Z"⟩ : MethodName) ∈ BW := BW_in (List.mem_of_getElem? (i := 995) (by decide +kernel)) rfl
theorem bw_996 : Cond.instanceMethod (⟨"ClassMaker$Judge", "isSpread", "(I)Z"⟩ : MethodName) ∈ BW := BW_in (List.mem_of_getElem? (i := 996) (by decide +kernel)) rfl
theorem bw_997 : Cond.selects "ClassMaker$Judge" (⟨"ClassMaker$Judge", "isSpread", "(I)Z"⟩ : MethodName) (⟨"ClassMaker$Judge", "isSpread", "(I)Z"⟩ : MethodName) ∈ BW := BW_in (List.mem_of_getElem? (i := 997) (by decide +kernel)) rfl
theorem bw_998 : Cond.code (⟨"ClassMaker$Judge", "isSpread", "(I)Z"⟩ : MethodName) prog_6_method_8_code 2 (some .boolean) ∈ BW := BW_in (List.mem_of_getElem? (i := 998) (by decide +kernel)) rfl
theorem bw_999 : Cond.methodLink "ClassMaker$Search" 136 (⟨"ClassMaker$Judge", "weightOf", "(II)I"⟩ : MethodName) ∈ BW := BW_in (List.mem_of_getElem? (i := 999) (by decide +kernel)) rfl
theorem bw_1000 : Cond.instanceMethod (⟨"ClassMaker$Judge", "weightOf", "(II)I"⟩ : MethodName) ∈ BW := BW_in (List.mem_of_getElem? (i := 1000) (by decide +kernel)) rfl
theorem bw_1001 : Cond.selects "ClassMaker$Judge" (⟨"ClassMaker$Judge", "weightOf", "(II)I"⟩ : MethodName) (⟨"ClassMaker$Judge", "weightOf", "(II)I"⟩ : MethodName) ∈ BW := BW_in (List.mem_of_getElem? (i := 1001) (by decide +kernel)) rfl
theorem bw_1002 : Cond.code (⟨"ClassMaker$Judge", "weightOf", "(II)I"⟩ : MethodName) prog_6_method_7_code 3 (some .int) ∈ BW := BW_in (List.mem_of_getElem? (i := 1002) (by decide +kernel)) rfl
theorem bw_1003 : Cond.methodLink "ClassMaker$Search" 90 (⟨"ClassMaker$Search", "assign", "(LClassMaker$Search;I)V"⟩ : MethodName) ∈ BW := BW_in (List.mem_of_getElem? (i := 1003) (by decide +kernel)) rfl
theorem bw_1004 : Cond.static (⟨"ClassMaker$Search", "assign", "(LClassMaker$Search;I)V"⟩ : MethodName) ∈ BW := BW_in (List.mem_of_getElem? (i := 1004) (by decide +kernel)) rfl
theorem bw_1005 : Cond.code (⟨"ClassMaker$Search", "assign", "(LClassMaker$Search;I)V"⟩ : MethodName) prog_10_method_10_code 3 none ∈ BW := BW_in (List.mem_of_getElem? (i := 1005) (by decide +kernel)) rfl
theorem bw_1006 : Cond.methodLink "ClassMaker$Search" 139 (⟨"ClassMaker$Search", "weigh", "()V"⟩ : MethodName) ∈ BW := BW_in (List.mem_of_getElem? (i := 1006) (by decide +kernel)) rfl
theorem bw_1008 : Cond.instanceMethod (⟨"ClassMaker$Search", "weigh", "()V"⟩ : MethodName) ∈ BW := BW_in (List.mem_of_getElem? (i := 1008) (by decide +kernel)) rfl
theorem bw_1009 : Cond.code (⟨"ClassMaker$Search", "weigh", "()V"⟩ : MethodName) prog_10_method_16_code 5 none ∈ BW := BW_in (List.mem_of_getElem? (i := 1009) (by decide +kernel)) rfl
theorem bw_1010 : Cond.methodLink "ClassMaker$Search" 165 (⟨"ClassMaker$Search", "spreadOf", "(I)I"⟩ : MethodName) ∈ BW := BW_in (List.mem_of_getElem? (i := 1010) (by decide +kernel)) rfl
theorem bw_1012 : Cond.instanceMethod (⟨"ClassMaker$Search", "spreadOf", "(I)I"⟩ : MethodName) ∈ BW := BW_in (List.mem_of_getElem? (i := 1012) (by decide +kernel)) rfl
theorem bw_1013 : Cond.code (⟨"ClassMaker$Search", "spreadOf", "(I)I"⟩ : MethodName) prog_10_method_17_code 5 (some .int) ∈ BW := BW_in (List.mem_of_getElem? (i := 1013) (by decide +kernel)) rfl
theorem bw_1014 : Cond.methodLink "ClassMaker$Search" 174 (⟨"java/lang/Math", "min", "(II)I"⟩ : MethodName) ∈ BW := BW_in (List.mem_of_getElem? (i := 1014) (by decide +kernel)) rfl
theorem bw_1015 : Cond.static (⟨"java/lang/Math", "min", "(II)I"⟩ : MethodName) ∈ BW := BW_in (List.mem_of_getElem? (i := 1015) (by decide +kernel)) rfl
theorem bw_1016 : Cond.code (⟨"java/lang/Math", "min", "(II)I"⟩ : MethodName) prog_19_method_69_code 2 (some .int) ∈ BW := BW_in (List.mem_of_getElem? (i := 1016) (by decide +kernel)) rfl
theorem bw_1017 : Cond.methodLink "ClassMaker$Search" 179 (⟨"java/lang/Math", "max", "(II)I"⟩ : MethodName) ∈ BW := BW_in (List.mem_of_getElem? (i := 1017) (by decide +kernel)) rfl
theorem bw_1018 : Cond.methodLink "ClassMaker$Search" 168 (⟨"java/lang/System", "arraycopy", "(Ljava/lang/Object;ILjava/lang/Object;II)V"⟩ : MethodName) ∈ BW := BW_in (List.mem_of_getElem? (i := 1018) (by decide +kernel)) rfl
theorem bw_1019 : Cond.static (⟨"java/lang/System", "arraycopy", "(Ljava/lang/Object;ILjava/lang/Object;II)V"⟩ : MethodName) ∈ BW := BW_in (List.mem_of_getElem? (i := 1019) (by decide +kernel)) rfl
theorem bw_1020 : Cond.native (⟨"java/lang/System", "arraycopy", "(Ljava/lang/Object;ILjava/lang/Object;II)V"⟩ : MethodName) ∈ BW := BW_in (List.mem_of_getElem? (i := 1020) (by decide +kernel)) rfl
theorem bw_1021 : Cond.methodLink "ClassMaker$Search" 142 (⟨"ClassMaker$Search", "isPerfect", "()Z"⟩ : MethodName) ∈ BW := BW_in (List.mem_of_getElem? (i := 1021) (by decide +kernel)) rfl
theorem bw_1023 : Cond.instanceMethod (⟨"ClassMaker$Search", "isPerfect", "()Z"⟩ : MethodName) ∈ BW := BW_in (List.mem_of_getElem? (i := 1023) (by decide +kernel)) rfl
theorem bw_1024 : Cond.code (⟨"ClassMaker$Search", "isPerfect", "()Z"⟩ : MethodName) prog_10_method_11_code 1 (some .boolean) ∈ BW := BW_in (List.mem_of_getElem? (i := 1024) (by decide +kernel)) rfl
theorem bw_1025 : Cond.methodLink "ClassMaker$Search" 146 (⟨"ClassMaker$Search", "isRepeat", "(I)Z"⟩ : MethodName) ∈ BW := BW_in (List.mem_of_getElem? (i := 1025) (by decide +kernel)) rfl
theorem bw_1027 : Cond.instanceMethod (⟨"ClassMaker$Search", "isRepeat", "(I)Z"⟩ : MethodName) ∈ BW := BW_in (List.mem_of_getElem? (i := 1027) (by decide +kernel)) rfl
theorem bw_1028 : Cond.code (⟨"ClassMaker$Search", "isRepeat", "(I)Z"⟩ : MethodName) prog_10_method_12_code 3 (some .boolean) ∈ BW := BW_in (List.mem_of_getElem? (i := 1028) (by decide +kernel)) rfl
theorem bw_1029 : Cond.methodLink "ClassMaker$Search" 149 (⟨"ClassMaker$Search", "mayJoin", "(II)Z"⟩ : MethodName) ∈ BW := BW_in (List.mem_of_getElem? (i := 1029) (by decide +kernel)) rfl
theorem bw_1031 : Cond.instanceMethod (⟨"ClassMaker$Search", "mayJoin", "(II)Z"⟩ : MethodName) ∈ BW := BW_in (List.mem_of_getElem? (i := 1031) (by decide +kernel)) rfl
theorem bw_1032 : Cond.code (⟨"ClassMaker$Search", "mayJoin", "(II)Z"⟩ : MethodName) prog_10_method_14_code 4 (some .boolean) ∈ BW := BW_in (List.mem_of_getElem? (i := 1032) (by decide +kernel)) rfl
theorem bw_1033 : Cond.methodLink "ClassMaker$Search" 162 (⟨"ClassMaker$Search", "movesOf", "(II)I"⟩ : MethodName) ∈ BW := BW_in (List.mem_of_getElem? (i := 1033) (by decide +kernel)) rfl
theorem bw_1035 : Cond.instanceMethod (⟨"ClassMaker$Search", "movesOf", "(II)I"⟩ : MethodName) ∈ BW := BW_in (List.mem_of_getElem? (i := 1035) (by decide +kernel)) rfl
theorem bw_1036 : Cond.code (⟨"ClassMaker$Search", "movesOf", "(II)I"⟩ : MethodName) prog_10_method_13_code 3 (some .int) ∈ BW := BW_in (List.mem_of_getElem? (i := 1036) (by decide +kernel)) rfl
theorem bw_1037 : Cond.methodLink "ClassMaker$Search" 152 (⟨"ClassMaker$Search", "put", "(III)V"⟩ : MethodName) ∈ BW := BW_in (List.mem_of_getElem? (i := 1037) (by decide +kernel)) rfl
theorem bw_1039 : Cond.instanceMethod (⟨"ClassMaker$Search", "put", "(III)V"⟩ : MethodName) ∈ BW := BW_in (List.mem_of_getElem? (i := 1039) (by decide +kernel)) rfl
theorem bw_1040 : Cond.code (⟨"ClassMaker$Search", "put", "(III)V"⟩ : MethodName) prog_10_method_15_code 5 none ∈ BW := BW_in (List.mem_of_getElem? (i := 1040) (by decide +kernel)) rfl
theorem bw_1045 : Cond.methodLink "ClassMaker" 203 (⟨"ClassMaker$Search", "seatOf", "(I)I"⟩ : MethodName) ∈ BW := BW_in (List.mem_of_getElem? (i := 1045) (by decide +kernel)) rfl
theorem bw_1046 : Cond.instanceMethod (⟨"ClassMaker$Search", "seatOf", "(I)I"⟩ : MethodName) ∈ BW := BW_in (List.mem_of_getElem? (i := 1046) (by decide +kernel)) rfl
theorem bw_1047 : Cond.selects "ClassMaker$Search" (⟨"ClassMaker$Search", "seatOf", "(I)I"⟩ : MethodName) (⟨"ClassMaker$Search", "seatOf", "(I)I"⟩ : MethodName) ∈ BW := BW_in (List.mem_of_getElem? (i := 1047) (by decide +kernel)) rfl
theorem bw_1048 : Cond.code (⟨"ClassMaker$Search", "seatOf", "(I)I"⟩ : MethodName) prog_10_method_5_code 3 (some .int) ∈ BW := BW_in (List.mem_of_getElem? (i := 1048) (by decide +kernel)) rfl
theorem bw_1053 : Cond.methodLink "ClassMaker" 206 (⟨"ClassMaker", "takeSearched", "()V"⟩ : MethodName) ∈ BW := BW_in (List.mem_of_getElem? (i := 1053) (by decide +kernel)) rfl
theorem bw_1055 : Cond.instanceMethod (⟨"ClassMaker", "takeSearched", "()V"⟩ : MethodName) ∈ BW := BW_in (List.mem_of_getElem? (i := 1055) (by decide +kernel)) rfl
theorem bw_1056 : Cond.code (⟨"ClassMaker", "takeSearched", "()V"⟩ : MethodName) prog_1_method_50_code 2 none ∈ BW := BW_in (List.mem_of_getElem? (i := 1056) (by decide +kernel)) rfl
theorem bw_1061 : Cond.methodLink "ClassMaker" 209 (⟨"ClassMaker$Hand", "starts", "()Z"⟩ : MethodName) ∈ BW := BW_in (List.mem_of_getElem? (i := 1061) (by decide +kernel)) rfl
theorem bw_1062 : Cond.instanceMethod (⟨"ClassMaker$Hand", "starts", "()Z"⟩ : MethodName) ∈ BW := BW_in (List.mem_of_getElem? (i := 1062) (by decide +kernel)) rfl
theorem bw_1063 : Cond.selects "ClassMaker$Hand" (⟨"ClassMaker$Hand", "starts", "()Z"⟩ : MethodName) (⟨"ClassMaker$Hand", "starts", "()Z"⟩ : MethodName) ∈ BW := BW_in (List.mem_of_getElem? (i := 1063) (by decide +kernel)) rfl
theorem bw_1064 : Cond.code (⟨"ClassMaker$Hand", "starts", "()Z"⟩ : MethodName) prog_4_method_2_code 3 (some .boolean) ∈ BW := BW_in (List.mem_of_getElem? (i := 1064) (by decide +kernel)) rfl
theorem bw_1065 : Cond.methodLink "ClassMaker$Hand" 26 (⟨"java/util/Arrays", "fill", "([II)V"⟩ : MethodName) ∈ BW := BW_in (List.mem_of_getElem? (i := 1065) (by decide +kernel)) rfl
theorem bw_1066 : Cond.methodLink "ClassMaker$Hand" 38 (⟨"ClassMaker$Hand", "firstClass", "(I)I"⟩ : MethodName) ∈ BW := BW_in (List.mem_of_getElem? (i := 1066) (by decide +kernel)) rfl
theorem bw_1068 : Cond.instanceMethod (⟨"ClassMaker$Hand", "firstClass", "(I)I"⟩ : MethodName) ∈ BW := BW_in (List.mem_of_getElem? (i := 1068) (by decide +kernel)) rfl
theorem bw_1069 : Cond.code (⟨"ClassMaker$Hand", "firstClass", "(I)I"⟩ : MethodName) prog_4_method_3_code 6 (some .int) ∈ BW := BW_in (List.mem_of_getElem? (i := 1069) (by decide +kernel)) rfl
theorem bw_1070 : Cond.methodLink "ClassMaker$Hand" 63 (⟨"ClassMaker$Judge", "isSound", "([I)Z"⟩ : MethodName) ∈ BW := BW_in (List.mem_of_getElem? (i := 1070) (by decide +kernel)) rfl
theorem bw_1071 : Cond.instanceMethod (⟨"ClassMaker$Judge", "isSound", "([I)Z"⟩ : MethodName) ∈ BW := BW_in (List.mem_of_getElem? (i := 1071) (by decide +kernel)) rfl
theorem bw_1072 : Cond.selects "ClassMaker$Judge" (⟨"ClassMaker$Judge", "isSound", "([I)Z"⟩ : MethodName) (⟨"ClassMaker$Judge", "isSound", "([I)Z"⟩ : MethodName) ∈ BW := BW_in (List.mem_of_getElem? (i := 1072) (by decide +kernel)) rfl
theorem bw_1073 : Cond.code (⟨"ClassMaker$Judge", "isSound", "([I)Z"⟩ : MethodName) prog_6_method_17_code 4 (some .boolean) ∈ BW := BW_in (List.mem_of_getElem? (i := 1073) (by decide +kernel)) rfl
theorem bw_1074 : Cond.methodLink "ClassMaker$Judge" 170 (⟨"ClassMaker$Judge", "mayStand", "(II)Z"⟩ : MethodName) ∈ BW := BW_in (List.mem_of_getElem? (i := 1074) (by decide +kernel)) rfl
theorem bw_1075 : Cond.methodLink "ClassMaker$Judge" 173 (⟨"ClassMaker$Judge", "isWhole", "(II)Z"⟩ : MethodName) ∈ BW := BW_in (List.mem_of_getElem? (i := 1075) (by decide +kernel)) rfl
theorem bw_1077 : Cond.instanceMethod (⟨"ClassMaker$Judge", "isWhole", "(II)Z"⟩ : MethodName) ∈ BW := BW_in (List.mem_of_getElem? (i := 1077) (by decide +kernel)) rfl
theorem bw_1078 : Cond.code (⟨"ClassMaker$Judge", "isWhole", "(II)Z"⟩ : MethodName) prog_6_method_23_code 4 (some .boolean) ∈ BW := BW_in (List.mem_of_getElem? (i := 1078) (by decide +kernel)) rfl
theorem bw_1079 : Cond.methodLink "ClassMaker$Hand" 51 (⟨"ClassMaker$Judge", "harmOf", "([I)I"⟩ : MethodName) ∈ BW := BW_in (List.mem_of_getElem? (i := 1079) (by decide +kernel)) rfl
theorem bw_1080 : Cond.instanceMethod (⟨"ClassMaker$Judge", "harmOf", "([I)I"⟩ : MethodName) ∈ BW := BW_in (List.mem_of_getElem? (i := 1080) (by decide +kernel)) rfl
theorem bw_1081 : Cond.selects "ClassMaker$Judge" (⟨"ClassMaker$Judge", "harmOf", "([I)I"⟩ : MethodName) (⟨"ClassMaker$Judge", "harmOf", "([I)I"⟩ : MethodName) ∈ BW := BW_in (List.mem_of_getElem? (i := 1081) (by decide +kernel)) rfl
theorem bw_1082 : Cond.code (⟨"ClassMaker$Judge", "harmOf", "([I)I"⟩ : MethodName) prog_6_method_14_code 4 (some .int) ∈ BW := BW_in (List.mem_of_getElem? (i := 1082) (by decide +kernel)) rfl
theorem bw_1083 : Cond.methodLink "ClassMaker$Judge" 163 (⟨"ClassMaker$Judge", "harmBy", "(I[I)I"⟩ : MethodName) ∈ BW := BW_in (List.mem_of_getElem? (i := 1083) (by decide +kernel)) rfl
theorem bw_1084 : Cond.instanceMethod (⟨"ClassMaker$Judge", "harmBy", "(I[I)I"⟩ : MethodName) ∈ BW := BW_in (List.mem_of_getElem? (i := 1084) (by decide +kernel)) rfl
theorem bw_1085 : Cond.selects "ClassMaker$Judge" (⟨"ClassMaker$Judge", "harmBy", "(I[I)I"⟩ : MethodName) (⟨"ClassMaker$Judge", "harmBy", "(I[I)I"⟩ : MethodName) ∈ BW := BW_in (List.mem_of_getElem? (i := 1085) (by decide +kernel)) rfl
theorem bw_1086 : Cond.code (⟨"ClassMaker$Judge", "harmBy", "(I[I)I"⟩ : MethodName) prog_6_method_13_code 7 (some .int) ∈ BW := BW_in (List.mem_of_getElem? (i := 1086) (by decide +kernel)) rfl
theorem bw_1087 : Cond.methodLink "ClassMaker$Judge" 143 (⟨"ClassMaker$Judge", "isSpread", "(I)Z"⟩ : MethodName) ∈ BW := BW_in (List.mem_of_getElem? (i := 1087) (by decide +kernel)) rfl
theorem bw_1088 : Cond.methodLink "ClassMaker$Judge" 146 (⟨"ClassMaker$Judge", "weightIn", "(II)I"⟩ : MethodName) ∈ BW := BW_in (List.mem_of_getElem? (i := 1088) (by decide +kernel)) rfl
theorem bw_1090 : Cond.instanceMethod (⟨"ClassMaker$Judge", "weightIn", "(II)I"⟩ : MethodName) ∈ BW := BW_in (List.mem_of_getElem? (i := 1090) (by decide +kernel)) rfl
theorem bw_1091 : Cond.code (⟨"ClassMaker$Judge", "weightIn", "(II)I"⟩ : MethodName) prog_6_method_9_code 5 (some .int) ∈ BW := BW_in (List.mem_of_getElem? (i := 1091) (by decide +kernel)) rfl
theorem bw_1092 : Cond.methodLink "ClassMaker$Judge" 128 (⟨"ClassMaker$Judge", "weightOf", "(II)I"⟩ : MethodName) ∈ BW := BW_in (List.mem_of_getElem? (i := 1092) (by decide +kernel)) rfl
theorem bw_1093 : Cond.methodLink "ClassMaker$Judge" 152 (⟨"java/lang/Math", "min", "(II)I"⟩ : MethodName) ∈ BW := BW_in (List.mem_of_getElem? (i := 1093) (by decide +kernel)) rfl
theorem bw_1094 : Cond.methodLink "ClassMaker$Judge" 160 (⟨"ClassMaker$Judge", "addedHarm", "(II)I"⟩ : MethodName) ∈ BW := BW_in (List.mem_of_getElem? (i := 1094) (by decide +kernel)) rfl
theorem bw_1095 : Cond.methodLink "ClassMaker$Hand" 42 (⟨"ClassMaker$Judge", "lackOf", "([I)I"⟩ : MethodName) ∈ BW := BW_in (List.mem_of_getElem? (i := 1095) (by decide +kernel)) rfl
theorem bw_1096 : Cond.instanceMethod (⟨"ClassMaker$Judge", "lackOf", "([I)I"⟩ : MethodName) ∈ BW := BW_in (List.mem_of_getElem? (i := 1096) (by decide +kernel)) rfl
theorem bw_1097 : Cond.selects "ClassMaker$Judge" (⟨"ClassMaker$Judge", "lackOf", "([I)I"⟩ : MethodName) (⟨"ClassMaker$Judge", "lackOf", "([I)I"⟩ : MethodName) ∈ BW := BW_in (List.mem_of_getElem? (i := 1097) (by decide +kernel)) rfl
theorem bw_1098 : Cond.code (⟨"ClassMaker$Judge", "lackOf", "([I)I"⟩ : MethodName) prog_6_method_16_code 4 (some .int) ∈ BW := BW_in (List.mem_of_getElem? (i := 1098) (by decide +kernel)) rfl
theorem bw_1099 : Cond.methodLink "ClassMaker$Judge" 167 (⟨"ClassMaker$Judge", "lackIn", "(I)I"⟩ : MethodName) ∈ BW := BW_in (List.mem_of_getElem? (i := 1099) (by decide +kernel)) rfl
theorem bw_1100 : Cond.methodLink "ClassMaker" 213 (⟨"ClassMaker$Hand", "improve", "()V"⟩ : MethodName) ∈ BW := BW_in (List.mem_of_getElem? (i := 1100) (by decide +kernel)) rfl
theorem bw_1101 : Cond.instanceMethod (⟨"ClassMaker$Hand", "improve", "()V"⟩ : MethodName) ∈ BW := BW_in (List.mem_of_getElem? (i := 1101) (by decide +kernel)) rfl
theorem bw_1102 : Cond.selects "ClassMaker$Hand" (⟨"ClassMaker$Hand", "improve", "()V"⟩ : MethodName) (⟨"ClassMaker$Hand", "improve", "()V"⟩ : MethodName) ∈ BW := BW_in (List.mem_of_getElem? (i := 1102) (by decide +kernel)) rfl
theorem bw_1103 : Cond.code (⟨"ClassMaker$Hand", "improve", "()V"⟩ : MethodName) prog_4_method_4_code 1 none ∈ BW := BW_in (List.mem_of_getElem? (i := 1103) (by decide +kernel)) rfl
theorem bw_1105 : Cond.methodLink "ClassMaker$Hand" 68 (⟨"ClassMaker$Hand", "stepsByMove", "()Z"⟩ : MethodName) ∈ BW := BW_in (List.mem_of_getElem? (i := 1105) (by decide +kernel)) rfl
theorem bw_1107 : Cond.instanceMethod (⟨"ClassMaker$Hand", "stepsByMove", "()Z"⟩ : MethodName) ∈ BW := BW_in (List.mem_of_getElem? (i := 1107) (by decide +kernel)) rfl
theorem bw_1108 : Cond.code (⟨"ClassMaker$Hand", "stepsByMove", "()Z"⟩ : MethodName) prog_4_method_5_code 4 (some .boolean) ∈ BW := BW_in (List.mem_of_getElem? (i := 1108) (by decide +kernel)) rfl
theorem bw_1109 : Cond.methodLink "ClassMaker$Hand" 75 (⟨"ClassMaker$Hand", "moveBetters", "(III)Z"⟩ : MethodName) ∈ BW := BW_in (List.mem_of_getElem? (i := 1109) (by decide +kernel)) rfl
theorem bw_1111 : Cond.instanceMethod (⟨"ClassMaker$Hand", "moveBetters", "(III)Z"⟩ : MethodName) ∈ BW := BW_in (List.mem_of_getElem? (i := 1111) (by decide +kernel)) rfl
theorem bw_1112 : Cond.code (⟨"ClassMaker$Hand", "moveBetters", "(III)Z"⟩ : MethodName) prog_4_method_7_code 6 (some .boolean) ∈ BW := BW_in (List.mem_of_getElem? (i := 1112) (by decide +kernel)) rfl
theorem bw_1113 : Cond.methodLink "ClassMaker$Hand" 72 (⟨"ClassMaker$Hand", "stepsBySwap", "()Z"⟩ : MethodName) ∈ BW := BW_in (List.mem_of_getElem? (i := 1113) (by decide +kernel)) rfl
theorem bw_1115 : Cond.instanceMethod (⟨"ClassMaker$Hand", "stepsBySwap", "()Z"⟩ : MethodName) ∈ BW := BW_in (List.mem_of_getElem? (i := 1115) (by decide +kernel)) rfl
theorem bw_1116 : Cond.code (⟨"ClassMaker$Hand", "stepsBySwap", "()Z"⟩ : MethodName) prog_4_method_6_code 5 (some .boolean) ∈ BW := BW_in (List.mem_of_getElem? (i := 1116) (by decide +kernel)) rfl
theorem bw_1125 : Cond.methodLink "ClassMaker" 228 (⟨"ClassMaker", "gatherList", "()V"⟩ : MethodName) ∈ BW := BW_in (List.mem_of_getElem? (i := 1125) (by decide +kernel)) rfl
theorem bw_1127 : Cond.instanceMethod (⟨"ClassMaker", "gatherList", "()V"⟩ : MethodName) ∈ BW := BW_in (List.mem_of_getElem? (i := 1127) (by decide +kernel)) rfl
theorem bw_1128 : Cond.code (⟨"ClassMaker", "gatherList", "()V"⟩ : MethodName) prog_1_method_47_code 3 none ∈ BW := BW_in (List.mem_of_getElem? (i := 1128) (by decide +kernel)) rfl
theorem bw_1129 : Cond.methodLink "ClassMaker" 231 (⟨"ClassMaker$Judge", "allows", "([I)Z"⟩ : MethodName) ∈ BW := BW_in (List.mem_of_getElem? (i := 1129) (by decide +kernel)) rfl
theorem bw_1130 : Cond.instanceMethod (⟨"ClassMaker$Judge", "allows", "([I)Z"⟩ : MethodName) ∈ BW := BW_in (List.mem_of_getElem? (i := 1130) (by decide +kernel)) rfl
theorem bw_1131 : Cond.selects "ClassMaker$Judge" (⟨"ClassMaker$Judge", "allows", "([I)Z"⟩ : MethodName) (⟨"ClassMaker$Judge", "allows", "([I)Z"⟩ : MethodName) ∈ BW := BW_in (List.mem_of_getElem? (i := 1131) (by decide +kernel)) rfl
theorem bw_1132 : Cond.code (⟨"ClassMaker$Judge", "allows", "([I)Z"⟩ : MethodName) prog_6_method_18_code 2 (some .boolean) ∈ BW := BW_in (List.mem_of_getElem? (i := 1132) (by decide +kernel)) rfl
theorem bw_1133 : Cond.methodLink "ClassMaker$Judge" 176 (⟨"ClassMaker$Judge", "lackOf", "([I)I"⟩ : MethodName) ∈ BW := BW_in (List.mem_of_getElem? (i := 1133) (by decide +kernel)) rfl
theorem bw_1134 : Cond.methodLink "ClassMaker$Judge" 180 (⟨"ClassMaker$Judge", "isSound", "([I)Z"⟩ : MethodName) ∈ BW := BW_in (List.mem_of_getElem? (i := 1134) (by decide +kernel)) rfl
theorem bw_1135 : Cond.methodLink "ClassMaker" 235 (⟨"ClassMaker$Judge", "harmOf", "([I)I"⟩ : MethodName) ∈ BW := BW_in (List.mem_of_getElem? (i := 1135) (by decide +kernel)) rfl
theorem bw_1140 : Cond.methodLink "ClassMaker" 239 (⟨"ClassMaker", "countListed", "()I"⟩ : MethodName) ∈ BW := BW_in (List.mem_of_getElem? (i := 1140) (by decide +kernel)) rfl
theorem bw_1142 : Cond.instanceMethod (⟨"ClassMaker", "countListed", "()I"⟩ : MethodName) ∈ BW := BW_in (List.mem_of_getElem? (i := 1142) (by decide +kernel)) rfl
theorem bw_1143 : Cond.code (⟨"ClassMaker", "countListed", "()I"⟩ : MethodName) prog_1_method_46_code 3 (some .int) ∈ BW := BW_in (List.mem_of_getElem? (i := 1143) (by decide +kernel)) rfl
theorem bw_1152 : Cond.methodLink "ClassMaker" 258 (⟨"ClassMaker$Book", "seatAt", "(II)I"⟩ : MethodName) ∈ BW := BW_in (List.mem_of_getElem? (i := 1152) (by decide +kernel)) rfl
theorem bw_1153 : Cond.instanceMethod (⟨"ClassMaker$Book", "seatAt", "(II)I"⟩ : MethodName) ∈ BW := BW_in (List.mem_of_getElem? (i := 1153) (by decide +kernel)) rfl
theorem bw_1154 : Cond.selects "ClassMaker$Book" (⟨"ClassMaker$Book", "seatAt", "(II)I"⟩ : MethodName) (⟨"ClassMaker$Book", "seatAt", "(II)I"⟩ : MethodName) ∈ BW := BW_in (List.mem_of_getElem? (i := 1154) (by decide +kernel)) rfl
theorem bw_1155 : Cond.code (⟨"ClassMaker$Book", "seatAt", "(II)I"⟩ : MethodName) prog_2_method_3_code 5 (some .int) ∈ BW := BW_in (List.mem_of_getElem? (i := 1155) (by decide +kernel)) rfl
theorem bw_1160 : Cond.methodLink "ClassMaker" 262 (⟨"ClassMaker$Facts", "bestWish", "(II)I"⟩ : MethodName) ∈ BW := BW_in (List.mem_of_getElem? (i := 1160) (by decide +kernel)) rfl
theorem bw_1161 : Cond.instanceMethod (⟨"ClassMaker$Facts", "bestWish", "(II)I"⟩ : MethodName) ∈ BW := BW_in (List.mem_of_getElem? (i := 1161) (by decide +kernel)) rfl
theorem bw_1162 : Cond.selects "ClassMaker$Facts" (⟨"ClassMaker$Facts", "bestWish", "(II)I"⟩ : MethodName) (⟨"ClassMaker$Facts", "bestWish", "(II)I"⟩ : MethodName) ∈ BW := BW_in (List.mem_of_getElem? (i := 1162) (by decide +kernel)) rfl
theorem bw_1163 : Cond.code (⟨"ClassMaker$Facts", "bestWish", "(II)I"⟩ : MethodName) prog_3_method_9_code 5 (some .int) ∈ BW := BW_in (List.mem_of_getElem? (i := 1163) (by decide +kernel)) rfl
theorem bw_1168 : Cond.methodLink "ClassMaker" 265 (⟨"ClassMaker$Judge", "harmBy", "(I[I)I"⟩ : MethodName) ∈ BW := BW_in (List.mem_of_getElem? (i := 1168) (by decide +kernel)) rfl
theorem bw_1173 : Cond.methodLink "ClassMaker" 269 (⟨"ClassMaker$Judge", "lackOf", "([I)I"⟩ : MethodName) ∈ BW := BW_in (List.mem_of_getElem? (i := 1173) (by decide +kernel)) rfl
theorem bw_1178 : Cond.methodLink "ClassMaker" 272 (⟨"ClassMaker", "searchSwaps", "(I)I"⟩ : MethodName) ∈ BW := BW_in (List.mem_of_getElem? (i := 1178) (by decide +kernel)) rfl
theorem bw_1180 : Cond.instanceMethod (⟨"ClassMaker", "searchSwaps", "(I)I"⟩ : MethodName) ∈ BW := BW_in (List.mem_of_getElem? (i := 1180) (by decide +kernel)) rfl
theorem bw_1181 : Cond.code (⟨"ClassMaker", "searchSwaps", "(I)I"⟩ : MethodName) prog_1_method_51_code 5 (some .int) ∈ BW := BW_in (List.mem_of_getElem? (i := 1181) (by decide +kernel)) rfl
theorem bw_1182 : Cond.methodLink "ClassMaker" 386 (⟨"ClassMaker", "bettersBoth", "(II)Z"⟩ : MethodName) ∈ BW := BW_in (List.mem_of_getElem? (i := 1182) (by decide +kernel)) rfl
theorem bw_1184 : Cond.instanceMethod (⟨"ClassMaker", "bettersBoth", "(II)Z"⟩ : MethodName) ∈ BW := BW_in (List.mem_of_getElem? (i := 1184) (by decide +kernel)) rfl
theorem bw_1185 : Cond.code (⟨"ClassMaker", "bettersBoth", "(II)Z"⟩ : MethodName) prog_1_method_52_code 9 (some .boolean) ∈ BW := BW_in (List.mem_of_getElem? (i := 1185) (by decide +kernel)) rfl
theorem bw_1194 : Cond.methodLink "ClassMaker" 289 (⟨"ClassMaker$Facts", "naming", "(I)I"⟩ : MethodName) ∈ BW := BW_in (List.mem_of_getElem? (i := 1194) (by decide +kernel)) rfl
theorem bw_1199 : Cond.methodLink "ClassMaker" 292 (⟨"ClassMaker$Facts", "reach", "(I)I"⟩ : MethodName) ∈ BW := BW_in (List.mem_of_getElem? (i := 1199) (by decide +kernel)) rfl
theorem bw_1200 : Cond.instanceMethod (⟨"ClassMaker$Facts", "reach", "(I)I"⟩ : MethodName) ∈ BW := BW_in (List.mem_of_getElem? (i := 1200) (by decide +kernel)) rfl
theorem bw_1201 : Cond.selects "ClassMaker$Facts" (⟨"ClassMaker$Facts", "reach", "(I)I"⟩ : MethodName) (⟨"ClassMaker$Facts", "reach", "(I)I"⟩ : MethodName) ∈ BW := BW_in (List.mem_of_getElem? (i := 1201) (by decide +kernel)) rfl
theorem bw_1202 : Cond.code (⟨"ClassMaker$Facts", "reach", "(I)I"⟩ : MethodName) prog_3_method_10_code 6 (some .int) ∈ BW := BW_in (List.mem_of_getElem? (i := 1202) (by decide +kernel)) rfl
theorem bw_1203 : Cond.methodLink "ClassMaker$Facts" 68 (⟨"ClassMaker$Facts", "wishedOnes", "(I)I"⟩ : MethodName) ∈ BW := BW_in (List.mem_of_getElem? (i := 1203) (by decide +kernel)) rfl
theorem bw_1208 : Cond.methodLink "ClassMaker" 295 (⟨"ClassMaker$Helpers", "add", "(I)I"⟩ : MethodName) ∈ BW := BW_in (List.mem_of_getElem? (i := 1208) (by decide +kernel)) rfl
theorem bw_1209 : Cond.instanceMethod (⟨"ClassMaker$Helpers", "add", "(I)I"⟩ : MethodName) ∈ BW := BW_in (List.mem_of_getElem? (i := 1209) (by decide +kernel)) rfl
theorem bw_1210 : Cond.selects "ClassMaker$Helpers" (⟨"ClassMaker$Helpers", "add", "(I)I"⟩ : MethodName) (⟨"ClassMaker$Helpers", "add", "(I)I"⟩ : MethodName) ∈ BW := BW_in (List.mem_of_getElem? (i := 1210) (by decide +kernel)) rfl
theorem bw_1211 : Cond.code (⟨"ClassMaker$Helpers", "add", "(I)I"⟩ : MethodName) prog_5_method_2_code 2 (some .int) ∈ BW := BW_in (List.mem_of_getElem? (i := 1211) (by decide +kernel)) rfl
theorem bw_1216 : Cond.methodLink "ClassMaker" 298 (⟨"ClassMaker$Marks", "learn", "(I)V"⟩ : MethodName) ∈ BW := BW_in (List.mem_of_getElem? (i := 1216) (by decide +kernel)) rfl
theorem bw_1217 : Cond.methodLink "ClassMaker" 301 (⟨"ClassMaker$Helpers", "clear", "()V"⟩ : MethodName) ∈ BW := BW_in (List.mem_of_getElem? (i := 1217) (by decide +kernel)) rfl
theorem bw_1218 : Cond.instanceMethod (⟨"ClassMaker$Helpers", "clear", "()V"⟩ : MethodName) ∈ BW := BW_in (List.mem_of_getElem? (i := 1218) (by decide +kernel)) rfl
theorem bw_1219 : Cond.selects "ClassMaker$Helpers" (⟨"ClassMaker$Helpers", "clear", "()V"⟩ : MethodName) (⟨"ClassMaker$Helpers", "clear", "()V"⟩ : MethodName) ∈ BW := BW_in (List.mem_of_getElem? (i := 1219) (by decide +kernel)) rfl
theorem bw_1220 : Cond.code (⟨"ClassMaker$Helpers", "clear", "()V"⟩ : MethodName) prog_5_method_3_code 1 none ∈ BW := BW_in (List.mem_of_getElem? (i := 1220) (by decide +kernel)) rfl
theorem bw_1221 : Cond.methodLink "ClassMaker$Helpers" 31 (⟨"java/util/Arrays", "fill", "([II)V"⟩ : MethodName) ∈ BW := BW_in (List.mem_of_getElem? (i := 1221) (by decide +kernel)) rfl
theorem bw_1222 : Cond.methodLink "ClassMaker" 304 (⟨"ClassMaker$Marks", "level", "(II)I"⟩ : MethodName) ∈ BW := BW_in (List.mem_of_getElem? (i := 1222) (by decide +kernel)) rfl
theorem bw_1223 : Cond.methodLink "ClassMaker" 307 (⟨"ClassMaker$Helpers", "addNeed", "(II)V"⟩ : MethodName) ∈ BW := BW_in (List.mem_of_getElem? (i := 1223) (by decide +kernel)) rfl
theorem bw_1224 : Cond.instanceMethod (⟨"ClassMaker$Helpers", "addNeed", "(II)V"⟩ : MethodName) ∈ BW := BW_in (List.mem_of_getElem? (i := 1224) (by decide +kernel)) rfl
theorem bw_1225 : Cond.selects "ClassMaker$Helpers" (⟨"ClassMaker$Helpers", "addNeed", "(II)V"⟩ : MethodName) (⟨"ClassMaker$Helpers", "addNeed", "(II)V"⟩ : MethodName) ∈ BW := BW_in (List.mem_of_getElem? (i := 1225) (by decide +kernel)) rfl
theorem bw_1226 : Cond.code (⟨"ClassMaker$Helpers", "addNeed", "(II)V"⟩ : MethodName) prog_5_method_4_code 3 none ∈ BW := BW_in (List.mem_of_getElem? (i := 1226) (by decide +kernel)) rfl
theorem bw_1227 : Cond.methodLink "ClassMaker" 310 (⟨"ClassMaker$Helpers", "divide", "(I)V"⟩ : MethodName) ∈ BW := BW_in (List.mem_of_getElem? (i := 1227) (by decide +kernel)) rfl
theorem bw_1228 : Cond.instanceMethod (⟨"ClassMaker$Helpers", "divide", "(I)V"⟩ : MethodName) ∈ BW := BW_in (List.mem_of_getElem? (i := 1228) (by decide +kernel)) rfl
theorem bw_1229 : Cond.selects "ClassMaker$Helpers" (⟨"ClassMaker$Helpers", "divide", "(I)V"⟩ : MethodName) (⟨"ClassMaker$Helpers", "divide", "(I)V"⟩ : MethodName) ∈ BW := BW_in (List.mem_of_getElem? (i := 1229) (by decide +kernel)) rfl
theorem bw_1230 : Cond.code (⟨"ClassMaker$Helpers", "divide", "(I)V"⟩ : MethodName) prog_5_method_5_code 5 none ∈ BW := BW_in (List.mem_of_getElem? (i := 1230) (by decide +kernel)) rfl
theorem bw_1231 : Cond.methodLink "ClassMaker$Helpers" 37 (⟨"ClassMaker$Helpers", "lackOfWay", "(II)I"⟩ : MethodName) ∈ BW := BW_in (List.mem_of_getElem? (i := 1231) (by decide +kernel)) rfl
theorem bw_1233 : Cond.instanceMethod (⟨"ClassMaker$Helpers", "lackOfWay", "(II)I"⟩ : MethodName) ∈ BW := BW_in (List.mem_of_getElem? (i := 1233) (by decide +kernel)) rfl
theorem bw_1234 : Cond.code (⟨"ClassMaker$Helpers", "lackOfWay", "(II)I"⟩ : MethodName) prog_5_method_6_code 6 (some .int) ∈ BW := BW_in (List.mem_of_getElem? (i := 1234) (by decide +kernel)) rfl
theorem bw_1235 : Cond.methodLink "ClassMaker$Helpers" 44 (⟨"java/lang/System", "arraycopy", "(Ljava/lang/Object;ILjava/lang/Object;II)V"⟩ : MethodName) ∈ BW := BW_in (List.mem_of_getElem? (i := 1235) (by decide +kernel)) rfl
theorem bw_1236 : Cond.methodLink "ClassMaker$Helpers" 50 (⟨"java/lang/Math", "max", "(II)I"⟩ : MethodName) ∈ BW := BW_in (List.mem_of_getElem? (i := 1236) (by decide +kernel)) rfl
theorem bw_1245 : Cond.methodLink "ClassMaker" 325 (⟨"ClassMaker", "partPairs", "()V"⟩ : MethodName) ∈ BW := BW_in (List.mem_of_getElem? (i := 1245) (by decide +kernel)) rfl
theorem bw_1247 : Cond.instanceMethod (⟨"ClassMaker", "partPairs", "()V"⟩ : MethodName) ∈ BW := BW_in (List.mem_of_getElem? (i := 1247) (by decide +kernel)) rfl
theorem bw_1248 : Cond.code (⟨"ClassMaker", "partPairs", "()V"⟩ : MethodName) prog_1_method_53_code 3 none ∈ BW := BW_in (List.mem_of_getElem? (i := 1248) (by decide +kernel)) rfl
theorem bw_1249 : Cond.methodLink "ClassMaker" 389 (⟨"ClassMaker$Facts", "wentBadly", "(I)Z"⟩ : MethodName) ∈ BW := BW_in (List.mem_of_getElem? (i := 1249) (by decide +kernel)) rfl
theorem bw_1250 : Cond.instanceMethod (⟨"ClassMaker$Facts", "wentBadly", "(I)Z"⟩ : MethodName) ∈ BW := BW_in (List.mem_of_getElem? (i := 1250) (by decide +kernel)) rfl
theorem bw_1251 : Cond.selects "ClassMaker$Facts" (⟨"ClassMaker$Facts", "wentBadly", "(I)Z"⟩ : MethodName) (⟨"ClassMaker$Facts", "wentBadly", "(I)Z"⟩ : MethodName) ∈ BW := BW_in (List.mem_of_getElem? (i := 1251) (by decide +kernel)) rfl
theorem bw_1252 : Cond.code (⟨"ClassMaker$Facts", "wentBadly", "(I)Z"⟩ : MethodName) prog_3_method_11_code 2 (some .boolean) ∈ BW := BW_in (List.mem_of_getElem? (i := 1252) (by decide +kernel)) rfl
theorem bw_1253 : Cond.methodLink "ClassMaker" 392 (⟨"ClassMaker$Facts", "addRegret", "(II)V"⟩ : MethodName) ∈ BW := BW_in (List.mem_of_getElem? (i := 1253) (by decide +kernel)) rfl
theorem bw_1254 : Cond.instanceMethod (⟨"ClassMaker$Facts", "addRegret", "(II)V"⟩ : MethodName) ∈ BW := BW_in (List.mem_of_getElem? (i := 1254) (by decide +kernel)) rfl
theorem bw_1255 : Cond.selects "ClassMaker$Facts" (⟨"ClassMaker$Facts", "addRegret", "(II)V"⟩ : MethodName) (⟨"ClassMaker$Facts", "addRegret", "(II)V"⟩ : MethodName) ∈ BW := BW_in (List.mem_of_getElem? (i := 1255) (by decide +kernel)) rfl
theorem bw_1256 : Cond.code (⟨"ClassMaker$Facts", "addRegret", "(II)V"⟩ : MethodName) prog_3_method_12_code 4 none ∈ BW := BW_in (List.mem_of_getElem? (i := 1256) (by decide +kernel)) rfl
theorem bw_1257 : Cond.methodLink "ClassMaker$Facts" 72 (⟨"java/lang/Math", "min", "(II)I"⟩ : MethodName) ∈ BW := BW_in (List.mem_of_getElem? (i := 1257) (by decide +kernel)) rfl
theorem bw_1258 : Cond.methodLink "ClassMaker" 328 (⟨"ClassMaker", "settle", "()I"⟩ : MethodName) ∈ BW := BW_in (List.mem_of_getElem? (i := 1258) (by decide +kernel)) rfl
theorem bw_1260 : Cond.instanceMethod (⟨"ClassMaker", "settle", "()I"⟩ : MethodName) ∈ BW := BW_in (List.mem_of_getElem? (i := 1260) (by decide +kernel)) rfl
theorem bw_1261 : Cond.code (⟨"ClassMaker", "settle", "()I"⟩ : MethodName) prog_1_method_54_code 4 (some .int) ∈ BW := BW_in (List.mem_of_getElem? (i := 1261) (by decide +kernel)) rfl
theorem bw_1262 : Cond.methodLink "ClassMaker" 395 (⟨"java/lang/Math", "min", "(II)I"⟩ : MethodName) ∈ BW := BW_in (List.mem_of_getElem? (i := 1262) (by decide +kernel)) rfl
theorem bw_1271 : Cond.methodLink "ClassMaker" 337 (⟨"ClassMaker$Marks", "overall", "(II)I"⟩ : MethodName) ∈ BW := BW_in (List.mem_of_getElem? (i := 1271) (by decide +kernel)) rfl
theorem bw_1272 : Cond.methodLink "ClassMaker" 340 (⟨"ClassMaker$Marks", "scale", "(III)I"⟩ : MethodName) ∈ BW := BW_in (List.mem_of_getElem? (i := 1272) (by decide +kernel)) rfl
theorem bw_1277 : Cond.methodLink "ClassMaker" 368 (⟨"ClassMaker", "countClass", "(I)I"⟩ : MethodName) ∈ BW := BW_in (List.mem_of_getElem? (i := 1277) (by decide +kernel)) rfl
theorem bw_1279 : Cond.instanceMethod (⟨"ClassMaker", "countClass", "(I)I"⟩ : MethodName) ∈ BW := BW_in (List.mem_of_getElem? (i := 1279) (by decide +kernel)) rfl
theorem bw_1280 : Cond.code (⟨"ClassMaker", "countClass", "(I)I"⟩ : MethodName) prog_1_method_41_code 2 (some .int) ∈ BW := BW_in (List.mem_of_getElem? (i := 1280) (by decide +kernel)) rfl
theorem bw_1281 : Cond.methodLink "ClassMaker" 361 (⟨"java/lang/Integer", "bitCount", "(I)I"⟩ : MethodName) ∈ BW := BW_in (List.mem_of_getElem? (i := 1281) (by decide +kernel)) rfl
theorem bw_1361 : Cond.methodLink "ClassMaker$Search" 94 (⟨"ClassMaker$Search", "seatOf", "(I)I"⟩ : MethodName) ∈ BW := BW_in (List.mem_of_getElem? (i := 1361) (by decide +kernel)) rfl
theorem bw_1376 : Cond.fieldLink "ClassMakerModel" 139 "ClassMakerModel" "thrown" "I" ∈ BW := BW_in (List.mem_of_getElem? (i := 1376) (by decide +kernel)) rfl
theorem bw_1377 : Cond.fieldLink "ClassMakerModel" 142 "ClassMakerModel" "children" "I" ∈ BW := BW_in (List.mem_of_getElem? (i := 1377) (by decide +kernel)) rfl
theorem bw_1378 : Cond.fieldLink "ClassMakerModel" 7 "ClassMakerModel" "sex" "[I" ∈ BW := BW_in (List.mem_of_getElem? (i := 1378) (by decide +kernel)) rfl
theorem bw_1379 : Cond.fieldLink "ClassMakerModel" 13 "ClassMakerModel" "month" "[I" ∈ BW := BW_in (List.mem_of_getElem? (i := 1379) (by decide +kernel)) rfl
theorem bw_1380 : Cond.fieldLink "ClassMakerModel" 16 "ClassMakerModel" "tags" "[I" ∈ BW := BW_in (List.mem_of_getElem? (i := 1380) (by decide +kernel)) rfl
theorem bw_1381 : Cond.fieldLink "ClassMakerModel" 19 "ClassMakerModel" "came" "[I" ∈ BW := BW_in (List.mem_of_getElem? (i := 1381) (by decide +kernel)) rfl
theorem bw_1382 : Cond.fieldLink "ClassMakerModel" 22 "ClassMakerModel" "owed" "[I" ∈ BW := BW_in (List.mem_of_getElem? (i := 1382) (by decide +kernel)) rfl
theorem bw_1383 : Cond.fieldLink "ClassMakerModel" 25 "ClassMakerModel" "wishes" "[I" ∈ BW := BW_in (List.mem_of_getElem? (i := 1383) (by decide +kernel)) rfl
theorem bw_1384 : Cond.fieldLink "ClassMakerModel" 28 "ClassMakerModel" "regrets" "[I" ∈ BW := BW_in (List.mem_of_getElem? (i := 1384) (by decide +kernel)) rfl
theorem bw_1385 : Cond.fieldLink "ClassMakerModel" 31 "ClassMakerModel" "bars" "[Z" ∈ BW := BW_in (List.mem_of_getElem? (i := 1385) (by decide +kernel)) rfl
theorem bw_1386 : Cond.fieldLink "ClassMakerModel" 35 "ClassMakerModel" "areTwins" "[Z" ∈ BW := BW_in (List.mem_of_getElem? (i := 1386) (by decide +kernel)) rfl
theorem bw_1387 : Cond.fieldLink "ClassMakerModel" 38 "ClassMakerModel" "nots" "[Z" ∈ BW := BW_in (List.mem_of_getElem? (i := 1387) (by decide +kernel)) rfl
theorem bw_1388 : Cond.fieldLink "ClassMakerModel" 41 "ClassMakerModel" "classes" "I" ∈ BW := BW_in (List.mem_of_getElem? (i := 1388) (by decide +kernel)) rfl
theorem bw_1389 : Cond.fieldLink "ClassMakerModel" 45 "ClassMakerModel" "rooms" "[I" ∈ BW := BW_in (List.mem_of_getElem? (i := 1389) (by decide +kernel)) rfl
theorem bw_1390 : Cond.fieldLink "ClassMakerModel" 153 "ClassMakerModel" "now" "I" ∈ BW := BW_in (List.mem_of_getElem? (i := 1390) (by decide +kernel)) rfl
theorem bw_1391 : Cond.fieldLink "ClassMakerModel" 168 "ClassMakerModel" "marks" "I" ∈ BW := BW_in (List.mem_of_getElem? (i := 1391) (by decide +kernel)) rfl
theorem bw_1392 : Cond.fieldLink "ClassMakerModel" 48 "ClassMakerModel" "markOf" "[I" ∈ BW := BW_in (List.mem_of_getElem? (i := 1392) (by decide +kernel)) rfl
theorem bw_1393 : Cond.fieldLink "ClassMakerModel" 51 "ClassMakerModel" "markChild" "[I" ∈ BW := BW_in (List.mem_of_getElem? (i := 1393) (by decide +kernel)) rfl
theorem bw_1394 : Cond.fieldLink "ClassMakerModel" 54 "ClassMakerModel" "markSort" "[I" ∈ BW := BW_in (List.mem_of_getElem? (i := 1394) (by decide +kernel)) rfl
theorem bw_1395 : Cond.fieldLink "ClassMakerModel" 57 "ClassMakerModel" "markValue" "[I" ∈ BW := BW_in (List.mem_of_getElem? (i := 1395) (by decide +kernel)) rfl
theorem bw_1396 : Cond.fieldLink "ClassMakerModel" 60 "ClassMakerModel" "markDay" "[I" ∈ BW := BW_in (List.mem_of_getElem? (i := 1396) (by decide +kernel)) rfl
theorem bw_1397 : Cond.fieldLink "ClassMakerModel" 307 "ClassMakerModel" "statements" "I" ∈ BW := BW_in (List.mem_of_getElem? (i := 1397) (by decide +kernel)) rfl
theorem bw_1398 : Cond.fieldLink "ClassMakerModel" 283 "ClassMakerModel" "reading" "I" ∈ BW := BW_in (List.mem_of_getElem? (i := 1398) (by decide +kernel)) rfl
theorem bw_1399 : Cond.fieldLink "ClassMakerModel" 63 "ClassMakerModel" "sorts" "[I" ∈ BW := BW_in (List.mem_of_getElem? (i := 1399) (by decide +kernel)) rfl
theorem bw_1400 : Cond.fieldLink "ClassMakerModel" 66 "ClassMakerModel" "numbers" "[I" ∈ BW := BW_in (List.mem_of_getElem? (i := 1400) (by decide +kernel)) rfl
theorem bw_1401 : Cond.fieldLink "ClassMakerModel" 69 "ClassMakerModel" "facts" "[I" ∈ BW := BW_in (List.mem_of_getElem? (i := 1401) (by decide +kernel)) rfl
theorem bw_1402 : Cond.fieldLink "ClassMakerModel" 72 "ClassMakerModel" "terms" "[I" ∈ BW := BW_in (List.mem_of_getElem? (i := 1402) (by decide +kernel)) rfl
theorem bw_1403 : Cond.fieldLink "ClassMakerModel" 75 "ClassMakerModel" "termNot" "[Z" ∈ BW := BW_in (List.mem_of_getElem? (i := 1403) (by decide +kernel)) rfl
theorem bw_1404 : Cond.fieldLink "ClassMakerModel" 78 "ClassMakerModel" "termFact" "[I" ∈ BW := BW_in (List.mem_of_getElem? (i := 1404) (by decide +kernel)) rfl
theorem bw_1405 : Cond.fieldLink "ClassMakerModel" 81 "ClassMakerModel" "termSign" "[I" ∈ BW := BW_in (List.mem_of_getElem? (i := 1405) (by decide +kernel)) rfl
theorem bw_1406 : Cond.fieldLink "ClassMakerModel" 84 "ClassMakerModel" "termValue" "[I" ∈ BW := BW_in (List.mem_of_getElem? (i := 1406) (by decide +kernel)) rfl
theorem bw_1407 : Cond.fieldLink "ClassMakerModel" 87 "ClassMakerModel" "tape" "[B" ∈ BW := BW_in (List.mem_of_getElem? (i := 1407) (by decide +kernel)) rfl
theorem bw_1408 : Cond.fieldLink "ClassMakerModel" 210 "ClassMakerModel" "taped" "I" ∈ BW := BW_in (List.mem_of_getElem? (i := 1408) (by decide +kernel)) rfl
theorem bw_1409 : Cond.fieldLink "ClassMakerModel" 245 "ClassMakerModel" "faultKind" "I" ∈ BW := BW_in (List.mem_of_getElem? (i := 1409) (by decide +kernel)) rfl
theorem bw_1410 : Cond.fieldLink "ClassMakerModel" 91 "ClassMakerModel" "faultPlace" "I" ∈ BW := BW_in (List.mem_of_getElem? (i := 1410) (by decide +kernel)) rfl
theorem bw_1411 : Cond.fieldLink "ClassMakerModel" 216 "ClassMakerModel" "from" "I" ∈ BW := BW_in (List.mem_of_getElem? (i := 1411) (by decide +kernel)) rfl
theorem bw_1412 : Cond.fieldLink "ClassMakerModel" 213 "ClassMakerModel" "over" "I" ∈ BW := BW_in (List.mem_of_getElem? (i := 1412) (by decide +kernel)) rfl
theorem bw_1413 : Cond.fieldLink "ClassMakerModel" 232 "ClassMakerModel" "value" "I" ∈ BW := BW_in (List.mem_of_getElem? (i := 1413) (by decide +kernel)) rfl
theorem bw_1414 : Cond.fieldLink "ClassMakerModel" 223 "ClassMakerModel" "token" "I" ∈ BW := BW_in (List.mem_of_getElem? (i := 1414) (by decide +kernel)) rfl
theorem bw_1415 : Cond.fieldLink "ClassMakerModel" 94 "ClassMakerModel" "told" "[I" ∈ BW := BW_in (List.mem_of_getElem? (i := 1415) (by decide +kernel)) rfl
theorem bw_1416 : Cond.fieldLink "ClassMakerModel" 97 "ClassMakerModel" "holding" "[Z" ∈ BW := BW_in (List.mem_of_getElem? (i := 1416) (by decide +kernel)) rfl
theorem bw_1417 : Cond.fieldLink "ClassMakerModel" 100 "ClassMakerModel" "plan" "[I" ∈ BW := BW_in (List.mem_of_getElem? (i := 1417) (by decide +kernel)) rfl
theorem bw_1418 : Cond.fieldLink "ClassMakerModel" 103 "ClassMakerModel" "best" "[I" ∈ BW := BW_in (List.mem_of_getElem? (i := 1418) (by decide +kernel)) rfl
theorem bw_1419 : Cond.fieldLink "ClassMakerModel" 156 "ClassMakerModel" "isFresh" "Z" ∈ BW := BW_in (List.mem_of_getElem? (i := 1419) (by decide +kernel)) rfl
theorem bw_1420 : Cond.fieldLink "ClassMakerModel" 346 "ClassMakerModel" "freshDay" "I" ∈ BW := BW_in (List.mem_of_getElem? (i := 1420) (by decide +kernel)) rfl
theorem bw_1421 : Cond.fieldLink "ClassMakerModel" 349 "ClassMakerModel" "bestHarm" "I" ∈ BW := BW_in (List.mem_of_getElem? (i := 1421) (by decide +kernel)) rfl
theorem bw_1422 : Cond.fieldLink "ClassMakerModel" 387 "ClassMakerModel" "bestMoves" "I" ∈ BW := BW_in (List.mem_of_getElem? (i := 1422) (by decide +kernel)) rfl
theorem bw_1423 : Cond.fieldLink "ClassMakerModel" 106 "ClassMakerModel" "list" "[I" ∈ BW := BW_in (List.mem_of_getElem? (i := 1423) (by decide +kernel)) rfl
theorem bw_1424 : Cond.fieldLink "ClassMakerModel" 109 "ClassMakerModel" "steps" "I" ∈ BW := BW_in (List.mem_of_getElem? (i := 1424) (by decide +kernel)) rfl
theorem bw_1425 : Cond.fieldLink "ClassMakerModel" 112 "ClassMakerModel" "led" "[Z" ∈ BW := BW_in (List.mem_of_getElem? (i := 1425) (by decide +kernel)) rfl
theorem bw_1426 : Cond.fieldLink "ClassMakerModel" 396 "ClassMakerModel" "helpers" "I" ∈ BW := BW_in (List.mem_of_getElem? (i := 1426) (by decide +kernel)) rfl
theorem bw_1427 : Cond.fieldLink "ClassMakerModel" 115 "ClassMakerModel" "hours" "[I" ∈ BW := BW_in (List.mem_of_getElem? (i := 1427) (by decide +kernel)) rfl
theorem bw_1428 : Cond.fieldLink "ClassMakerModel" 118 "ClassMakerModel" "helps" "[I" ∈ BW := BW_in (List.mem_of_getElem? (i := 1428) (by decide +kernel)) rfl
theorem bw_1429 : Cond.fieldLink "ClassMakerModel" 121 "ClassMakerModel" "words" "[I" ∈ BW := BW_in (List.mem_of_getElem? (i := 1429) (by decide +kernel)) rfl
theorem bw_1430 : Cond.fieldLink "ClassMakerModel" 124 "ClassMakerModel" "doubts" "[I" ∈ BW := BW_in (List.mem_of_getElem? (i := 1430) (by decide +kernel)) rfl
theorem bw_1431 : Cond.fieldLink "ClassMakerModel" 405 "ClassMakerModel" "years" "I" ∈ BW := BW_in (List.mem_of_getElem? (i := 1431) (by decide +kernel)) rfl
theorem bw_1432 : Cond.fieldLink "ClassMakerModel" 409 "ClassMakerModel" "entries" "I" ∈ BW := BW_in (List.mem_of_getElem? (i := 1432) (by decide +kernel)) rfl
theorem bw_1433 : Cond.fieldLink "ClassMakerModel" 127 "ClassMakerModel" "entryChild" "[I" ∈ BW := BW_in (List.mem_of_getElem? (i := 1433) (by decide +kernel)) rfl
theorem bw_1434 : Cond.fieldLink "ClassMakerModel" 130 "ClassMakerModel" "entryDay" "[I" ∈ BW := BW_in (List.mem_of_getElem? (i := 1434) (by decide +kernel)) rfl
theorem bw_1435 : Cond.fieldLink "ClassMakerModel" 133 "ClassMakerModel" "entryClass" "[I" ∈ BW := BW_in (List.mem_of_getElem? (i := 1435) (by decide +kernel)) rfl
theorem bw_1436 : Cond.fieldLink "ClassMakerModel" 136 "ClassMakerModel" "written" "[I" ∈ BW := BW_in (List.mem_of_getElem? (i := 1436) (by decide +kernel)) rfl
theorem bw_1568 : Cond.methodLink "ClassMakerModel" 145 (⟨"ClassMakerModel", "within", "(III)Z"⟩ : MethodName) ∈ BW := BW_in (List.mem_of_getElem? (i := 1568) (by decide +kernel)) rfl
theorem bw_1569 : Cond.static (⟨"ClassMakerModel", "within", "(III)Z"⟩ : MethodName) ∈ BW := BW_in (List.mem_of_getElem? (i := 1569) (by decide +kernel)) rfl
theorem bw_1570 : Cond.code (⟨"ClassMakerModel", "within", "(III)Z"⟩ : MethodName) prog_13_method_3_code 3 (some .boolean) ∈ BW := BW_in (List.mem_of_getElem? (i := 1570) (by decide +kernel)) rfl
theorem bw_1575 : Cond.methodLink "ClassMakerModel" 149 (⟨"ClassMakerModel", "isChild", "(I)Z"⟩ : MethodName) ∈ BW := BW_in (List.mem_of_getElem? (i := 1575) (by decide +kernel)) rfl
theorem bw_1577 : Cond.instanceMethod (⟨"ClassMakerModel", "isChild", "(I)Z"⟩ : MethodName) ∈ BW := BW_in (List.mem_of_getElem? (i := 1577) (by decide +kernel)) rfl
theorem bw_1578 : Cond.code (⟨"ClassMakerModel", "isChild", "(I)Z"⟩ : MethodName) prog_13_method_4_code 2 (some .boolean) ∈ BW := BW_in (List.mem_of_getElem? (i := 1578) (by decide +kernel)) rfl
theorem bw_1579 : Cond.methodLink "ClassMakerModel" 160 (⟨"ClassMakerModel", "areTwo", "(II)Z"⟩ : MethodName) ∈ BW := BW_in (List.mem_of_getElem? (i := 1579) (by decide +kernel)) rfl
theorem bw_1581 : Cond.instanceMethod (⟨"ClassMakerModel", "areTwo", "(II)Z"⟩ : MethodName) ∈ BW := BW_in (List.mem_of_getElem? (i := 1581) (by decide +kernel)) rfl
theorem bw_1582 : Cond.code (⟨"ClassMakerModel", "areTwo", "(II)Z"⟩ : MethodName) prog_13_method_5_code 3 (some .boolean) ∈ BW := BW_in (List.mem_of_getElem? (i := 1582) (by decide +kernel)) rfl
theorem bw_1587 : Cond.methodLink "ClassMakerModel" 164 (⟨"ClassMakerModel", "turns", "([ZIIZ)Z"⟩ : MethodName) ∈ BW := BW_in (List.mem_of_getElem? (i := 1587) (by decide +kernel)) rfl
theorem bw_1589 : Cond.instanceMethod (⟨"ClassMakerModel", "turns", "([ZIIZ)Z"⟩ : MethodName) ∈ BW := BW_in (List.mem_of_getElem? (i := 1589) (by decide +kernel)) rfl
theorem bw_1590 : Cond.code (⟨"ClassMakerModel", "turns", "([ZIIZ)Z"⟩ : MethodName) prog_13_method_8_code 5 (some .boolean) ∈ BW := BW_in (List.mem_of_getElem? (i := 1590) (by decide +kernel)) rfl
theorem bw_1615 : Cond.methodLink "ClassMakerModel" 178 (⟨"ClassMakerModel", "together", "(III)I"⟩ : MethodName) ∈ BW := BW_in (List.mem_of_getElem? (i := 1615) (by decide +kernel)) rfl
theorem bw_1617 : Cond.instanceMethod (⟨"ClassMakerModel", "together", "(III)I"⟩ : MethodName) ∈ BW := BW_in (List.mem_of_getElem? (i := 1617) (by decide +kernel)) rfl
theorem bw_1618 : Cond.code (⟨"ClassMakerModel", "together", "(III)I"⟩ : MethodName) prog_13_method_17_code 8 (some .int) ∈ BW := BW_in (List.mem_of_getElem? (i := 1618) (by decide +kernel)) rfl
theorem bw_1619 : Cond.methodLink "ClassMakerModel" 175 (⟨"ClassMakerModel", "scaledOf", "(IIII)I"⟩ : MethodName) ∈ BW := BW_in (List.mem_of_getElem? (i := 1619) (by decide +kernel)) rfl
theorem bw_1621 : Cond.instanceMethod (⟨"ClassMakerModel", "scaledOf", "(IIII)I"⟩ : MethodName) ∈ BW := BW_in (List.mem_of_getElem? (i := 1621) (by decide +kernel)) rfl
theorem bw_1622 : Cond.code (⟨"ClassMakerModel", "scaledOf", "(IIII)I"⟩ : MethodName) prog_13_method_16_code 10 (some .int) ∈ BW := BW_in (List.mem_of_getElem? (i := 1622) (by decide +kernel)) rfl
theorem bw_1623 : Cond.methodLink "ClassMakerModel" 171 (⟨"ClassMakerModel", "raw", "(IIII)I"⟩ : MethodName) ∈ BW := BW_in (List.mem_of_getElem? (i := 1623) (by decide +kernel)) rfl
theorem bw_1625 : Cond.instanceMethod (⟨"ClassMakerModel", "raw", "(IIII)I"⟩ : MethodName) ∈ BW := BW_in (List.mem_of_getElem? (i := 1625) (by decide +kernel)) rfl
theorem bw_1626 : Cond.code (⟨"ClassMakerModel", "raw", "(IIII)I"⟩ : MethodName) prog_13_method_15_code 7 (some .int) ∈ BW := BW_in (List.mem_of_getElem? (i := 1626) (by decide +kernel)) rfl
theorem bw_1639 : Cond.methodLink "ClassMakerModel" 262 (⟨"ClassMakerModel", "next", "()V"⟩ : MethodName) ∈ BW := BW_in (List.mem_of_getElem? (i := 1639) (by decide +kernel)) rfl
theorem bw_1641 : Cond.instanceMethod (⟨"ClassMakerModel", "next", "()V"⟩ : MethodName) ∈ BW := BW_in (List.mem_of_getElem? (i := 1641) (by decide +kernel)) rfl
theorem bw_1642 : Cond.code (⟨"ClassMakerModel", "next", "()V"⟩ : MethodName) prog_13_method_26_code 2 none ∈ BW := BW_in (List.mem_of_getElem? (i := 1642) (by decide +kernel)) rfl
theorem bw_1643 : Cond.methodLink "ClassMakerModel" 219 (⟨"ClassMakerModel", "byteAt", "(I)I"⟩ : MethodName) ∈ BW := BW_in (List.mem_of_getElem? (i := 1643) (by decide +kernel)) rfl
theorem bw_1645 : Cond.instanceMethod (⟨"ClassMakerModel", "byteAt", "(I)I"⟩ : MethodName) ∈ BW := BW_in (List.mem_of_getElem? (i := 1645) (by decide +kernel)) rfl
theorem bw_1646 : Cond.code (⟨"ClassMakerModel", "byteAt", "(I)I"⟩ : MethodName) prog_13_method_23_code 2 (some .int) ∈ BW := BW_in (List.mem_of_getElem? (i := 1646) (by decide +kernel)) rfl
theorem bw_1647 : Cond.methodLink "ClassMakerModel" 226 (⟨"ClassMakerModel", "isSmall", "(I)Z"⟩ : MethodName) ∈ BW := BW_in (List.mem_of_getElem? (i := 1647) (by decide +kernel)) rfl
theorem bw_1648 : Cond.static (⟨"ClassMakerModel", "isSmall", "(I)Z"⟩ : MethodName) ∈ BW := BW_in (List.mem_of_getElem? (i := 1648) (by decide +kernel)) rfl
theorem bw_1649 : Cond.code (⟨"ClassMakerModel", "isSmall", "(I)Z"⟩ : MethodName) prog_13_method_24_code 1 (some .boolean) ∈ BW := BW_in (List.mem_of_getElem? (i := 1649) (by decide +kernel)) rfl
theorem bw_1650 : Cond.methodLink "ClassMakerModel" 229 (⟨"ClassMakerModel", "isDigit", "(I)Z"⟩ : MethodName) ∈ BW := BW_in (List.mem_of_getElem? (i := 1650) (by decide +kernel)) rfl
theorem bw_1651 : Cond.static (⟨"ClassMakerModel", "isDigit", "(I)Z"⟩ : MethodName) ∈ BW := BW_in (List.mem_of_getElem? (i := 1651) (by decide +kernel)) rfl
theorem bw_1652 : Cond.code (⟨"ClassMakerModel", "isDigit", "(I)Z"⟩ : MethodName) prog_13_method_25_code 1 (some .boolean) ∈ BW := BW_in (List.mem_of_getElem? (i := 1652) (by decide +kernel)) rfl
theorem bw_1653 : Cond.methodLink "ClassMakerModel" 303 (⟨"ClassMakerModel", "statement", "()Z"⟩ : MethodName) ∈ BW := BW_in (List.mem_of_getElem? (i := 1653) (by decide +kernel)) rfl
theorem bw_1655 : Cond.instanceMethod (⟨"ClassMakerModel", "statement", "()Z"⟩ : MethodName) ∈ BW := BW_in (List.mem_of_getElem? (i := 1655) (by decide +kernel)) rfl
theorem bw_1656 : Cond.code (⟨"ClassMakerModel", "statement", "()Z"⟩ : MethodName) prog_13_method_36_code 3 (some .boolean) ∈ BW := BW_in (List.mem_of_getElem? (i := 1656) (by decide +kernel)) rfl
theorem bw_1657 : Cond.methodLink "ClassMakerModel" 280 (⟨"ClassMakerModel", "sortHere", "()I"⟩ : MethodName) ∈ BW := BW_in (List.mem_of_getElem? (i := 1657) (by decide +kernel)) rfl
theorem bw_1659 : Cond.instanceMethod (⟨"ClassMakerModel", "sortHere", "()I"⟩ : MethodName) ∈ BW := BW_in (List.mem_of_getElem? (i := 1659) (by decide +kernel)) rfl
theorem bw_1660 : Cond.code (⟨"ClassMakerModel", "sortHere", "()I"⟩ : MethodName) prog_13_method_31_code 2 (some .int) ∈ BW := BW_in (List.mem_of_getElem? (i := 1660) (by decide +kernel)) rfl
theorem bw_1661 : Cond.methodLink "ClassMakerModel" 256 (⟨"ClassMakerModel", "sortWord", "(I)Ljava/lang/String;"⟩ : MethodName) ∈ BW := BW_in (List.mem_of_getElem? (i := 1661) (by decide +kernel)) rfl
theorem bw_1662 : Cond.static (⟨"ClassMakerModel", "sortWord", "(I)Ljava/lang/String;"⟩ : MethodName) ∈ BW := BW_in (List.mem_of_getElem? (i := 1662) (by decide +kernel)) rfl
theorem bw_1663 : Cond.code (⟨"ClassMakerModel", "sortWord", "(I)Ljava/lang/String;"⟩ : MethodName) prog_13_method_19_code 1 (some (.object "java/lang/String")) ∈ BW := BW_in (List.mem_of_getElem? (i := 1663) (by decide +kernel)) rfl
theorem bw_1673 : Cond.methodLink "ClassMakerModel" 252 (⟨"ClassMakerModel", "isWord", "(Ljava/lang/String;)Z"⟩ : MethodName) ∈ BW := BW_in (List.mem_of_getElem? (i := 1673) (by decide +kernel)) rfl
theorem bw_1675 : Cond.instanceMethod (⟨"ClassMakerModel", "isWord", "(Ljava/lang/String;)Z"⟩ : MethodName) ∈ BW := BW_in (List.mem_of_getElem? (i := 1675) (by decide +kernel)) rfl
theorem bw_1676 : Cond.code (⟨"ClassMakerModel", "isWord", "(Ljava/lang/String;)Z"⟩ : MethodName) prog_13_method_27_code 4 (some .boolean) ∈ BW := BW_in (List.mem_of_getElem? (i := 1676) (by decide +kernel)) rfl
theorem bw_1677 : Cond.methodLink "ClassMakerModel" 235 (⟨"java/lang/String", "length", "()I"⟩ : MethodName) ∈ BW := BW_in (List.mem_of_getElem? (i := 1677) (by decide +kernel)) rfl
theorem bw_1678 : Cond.methodLink "ClassMakerModel" 241 (⟨"java/lang/String", "charAt", "(I)C"⟩ : MethodName) ∈ BW := BW_in (List.mem_of_getElem? (i := 1678) (by decide +kernel)) rfl
theorem bw_1679 : Cond.methodLink "ClassMakerModel" 259 (⟨"ClassMakerModel", "wrong", "(I)Z"⟩ : MethodName) ∈ BW := BW_in (List.mem_of_getElem? (i := 1679) (by decide +kernel)) rfl
theorem bw_1681 : Cond.instanceMethod (⟨"ClassMakerModel", "wrong", "(I)Z"⟩ : MethodName) ∈ BW := BW_in (List.mem_of_getElem? (i := 1681) (by decide +kernel)) rfl
theorem bw_1682 : Cond.code (⟨"ClassMakerModel", "wrong", "(I)Z"⟩ : MethodName) prog_13_method_29_code 2 (some .boolean) ∈ BW := BW_in (List.mem_of_getElem? (i := 1682) (by decide +kernel)) rfl
theorem bw_1683 : Cond.methodLink "ClassMakerModel" 286 (⟨"ClassMakerModel", "isBody", "(II)Z"⟩ : MethodName) ∈ BW := BW_in (List.mem_of_getElem? (i := 1683) (by decide +kernel)) rfl
theorem bw_1685 : Cond.instanceMethod (⟨"ClassMakerModel", "isBody", "(II)Z"⟩ : MethodName) ∈ BW := BW_in (List.mem_of_getElem? (i := 1685) (by decide +kernel)) rfl
theorem bw_1686 : Cond.code (⟨"ClassMakerModel", "isBody", "(II)Z"⟩ : MethodName) prog_13_method_37_code 3 (some .boolean) ∈ BW := BW_in (List.mem_of_getElem? (i := 1686) (by decide +kernel)) rfl
theorem bw_1687 : Cond.methodLink "ClassMakerModel" 265 (⟨"ClassMakerModel", "isSign", "(I)Z"⟩ : MethodName) ∈ BW := BW_in (List.mem_of_getElem? (i := 1687) (by decide +kernel)) rfl
theorem bw_1689 : Cond.instanceMethod (⟨"ClassMakerModel", "isSign", "(I)Z"⟩ : MethodName) ∈ BW := BW_in (List.mem_of_getElem? (i := 1689) (by decide +kernel)) rfl
theorem bw_1690 : Cond.code (⟨"ClassMakerModel", "isSign", "(I)Z"⟩ : MethodName) prog_13_method_28_code 2 (some .boolean) ∈ BW := BW_in (List.mem_of_getElem? (i := 1690) (by decide +kernel)) rfl
theorem bw_1691 : Cond.methodLink "ClassMakerModel" 292 (⟨"ClassMakerModel", "takesTerms", "(I)Z"⟩ : MethodName) ∈ BW := BW_in (List.mem_of_getElem? (i := 1691) (by decide +kernel)) rfl
theorem bw_1693 : Cond.instanceMethod (⟨"ClassMakerModel", "takesTerms", "(I)Z"⟩ : MethodName) ∈ BW := BW_in (List.mem_of_getElem? (i := 1693) (by decide +kernel)) rfl
theorem bw_1694 : Cond.code (⟨"ClassMakerModel", "takesTerms", "(I)Z"⟩ : MethodName) prog_13_method_34_code 4 (some .boolean) ∈ BW := BW_in (List.mem_of_getElem? (i := 1694) (by decide +kernel)) rfl
theorem bw_1697 : Cond.methodLink "ClassMakerModel" 272 (⟨"ClassMakerModel", "factHere", "()I"⟩ : MethodName) ∈ BW := BW_in (List.mem_of_getElem? (i := 1697) (by decide +kernel)) rfl
theorem bw_1699 : Cond.instanceMethod (⟨"ClassMakerModel", "factHere", "()I"⟩ : MethodName) ∈ BW := BW_in (List.mem_of_getElem? (i := 1699) (by decide +kernel)) rfl
theorem bw_1700 : Cond.code (⟨"ClassMakerModel", "factHere", "()I"⟩ : MethodName) prog_13_method_30_code 2 (some .int) ∈ BW := BW_in (List.mem_of_getElem? (i := 1700) (by decide +kernel)) rfl
theorem bw_1701 : Cond.methodLink "ClassMakerModel" 248 (⟨"ClassMakerModel", "factWord", "(I)Ljava/lang/String;"⟩ : MethodName) ∈ BW := BW_in (List.mem_of_getElem? (i := 1701) (by decide +kernel)) rfl
theorem bw_1702 : Cond.static (⟨"ClassMakerModel", "factWord", "(I)Ljava/lang/String;"⟩ : MethodName) ∈ BW := BW_in (List.mem_of_getElem? (i := 1702) (by decide +kernel)) rfl
theorem bw_1703 : Cond.code (⟨"ClassMakerModel", "factWord", "(I)Ljava/lang/String;"⟩ : MethodName) prog_13_method_20_code 1 (some (.object "java/lang/String")) ∈ BW := BW_in (List.mem_of_getElem? (i := 1703) (by decide +kernel)) rfl
theorem bw_1711 : Cond.methodLink "ClassMakerModel" 275 (⟨"ClassMakerModel", "takesTerm", "(I)Z"⟩ : MethodName) ∈ BW := BW_in (List.mem_of_getElem? (i := 1711) (by decide +kernel)) rfl
theorem bw_1713 : Cond.instanceMethod (⟨"ClassMakerModel", "takesTerm", "(I)Z"⟩ : MethodName) ∈ BW := BW_in (List.mem_of_getElem? (i := 1713) (by decide +kernel)) rfl
theorem bw_1714 : Cond.code (⟨"ClassMakerModel", "takesTerm", "(I)Z"⟩ : MethodName) prog_13_method_35_code 2 (some .boolean) ∈ BW := BW_in (List.mem_of_getElem? (i := 1714) (by decide +kernel)) rfl
theorem bw_1716 : Cond.methodLink "ClassMakerModel" 289 (⟨"ClassMakerModel", "takesSign", "(I)Z"⟩ : MethodName) ∈ BW := BW_in (List.mem_of_getElem? (i := 1716) (by decide +kernel)) rfl
theorem bw_1718 : Cond.instanceMethod (⟨"ClassMakerModel", "takesSign", "(I)Z"⟩ : MethodName) ∈ BW := BW_in (List.mem_of_getElem? (i := 1718) (by decide +kernel)) rfl
theorem bw_1719 : Cond.code (⟨"ClassMakerModel", "takesSign", "(I)Z"⟩ : MethodName) prog_13_method_33_code 2 (some .boolean) ∈ BW := BW_in (List.mem_of_getElem? (i := 1719) (by decide +kernel)) rfl
theorem bw_1720 : Cond.methodLink "ClassMakerModel" 295 (⟨"ClassMakerModel", "takesNumber", "(I)Z"⟩ : MethodName) ∈ BW := BW_in (List.mem_of_getElem? (i := 1720) (by decide +kernel)) rfl
theorem bw_1722 : Cond.instanceMethod (⟨"ClassMakerModel", "takesNumber", "(I)Z"⟩ : MethodName) ∈ BW := BW_in (List.mem_of_getElem? (i := 1722) (by decide +kernel)) rfl
theorem bw_1723 : Cond.code (⟨"ClassMakerModel", "takesNumber", "(I)Z"⟩ : MethodName) prog_13_method_32_code 2 (some .boolean) ∈ BW := BW_in (List.mem_of_getElem? (i := 1723) (by decide +kernel)) rfl
theorem bw_1735 : Cond.methodLink "ClassMakerModel" 322 (⟨"ClassMakerModel", "learns", "(I)V"⟩ : MethodName) ∈ BW := BW_in (List.mem_of_getElem? (i := 1735) (by decide +kernel)) rfl
theorem bw_1737 : Cond.instanceMethod (⟨"ClassMakerModel", "learns", "(I)V"⟩ : MethodName) ∈ BW := BW_in (List.mem_of_getElem? (i := 1737) (by decide +kernel)) rfl
theorem bw_1738 : Cond.code (⟨"ClassMakerModel", "learns", "(I)V"⟩ : MethodName) prog_13_method_43_code 4 none ∈ BW := BW_in (List.mem_of_getElem? (i := 1738) (by decide +kernel)) rfl
theorem bw_1739 : Cond.methodLink "ClassMakerModel" 310 (⟨"ClassMakerModel", "orFive", "(I)I"⟩ : MethodName) ∈ BW := BW_in (List.mem_of_getElem? (i := 1739) (by decide +kernel)) rfl
theorem bw_1740 : Cond.static (⟨"ClassMakerModel", "orFive", "(I)I"⟩ : MethodName) ∈ BW := BW_in (List.mem_of_getElem? (i := 1740) (by decide +kernel)) rfl
theorem bw_1741 : Cond.code (⟨"ClassMakerModel", "orFive", "(I)I"⟩ : MethodName) prog_13_method_42_code 1 (some .int) ∈ BW := BW_in (List.mem_of_getElem? (i := 1741) (by decide +kernel)) rfl
theorem bw_1742 : Cond.methodLink "ClassMakerModel" 313 (⟨"ClassMakerModel", "wishesOf", "(I)I"⟩ : MethodName) ∈ BW := BW_in (List.mem_of_getElem? (i := 1742) (by decide +kernel)) rfl
theorem bw_1744 : Cond.instanceMethod (⟨"ClassMakerModel", "wishesOf", "(I)I"⟩ : MethodName) ∈ BW := BW_in (List.mem_of_getElem? (i := 1744) (by decide +kernel)) rfl
theorem bw_1745 : Cond.code (⟨"ClassMakerModel", "wishesOf", "(I)I"⟩ : MethodName) prog_13_method_41_code 4 (some .int) ∈ BW := BW_in (List.mem_of_getElem? (i := 1745) (by decide +kernel)) rfl
theorem bw_1746 : Cond.methodLink "ClassMakerModel" 316 (⟨"ClassMakerModel", "namedBy", "(I)I"⟩ : MethodName) ∈ BW := BW_in (List.mem_of_getElem? (i := 1746) (by decide +kernel)) rfl
theorem bw_1748 : Cond.instanceMethod (⟨"ClassMakerModel", "namedBy", "(I)I"⟩ : MethodName) ∈ BW := BW_in (List.mem_of_getElem? (i := 1748) (by decide +kernel)) rfl
theorem bw_1749 : Cond.code (⟨"ClassMakerModel", "namedBy", "(I)I"⟩ : MethodName) prog_13_method_40_code 4 (some .int) ∈ BW := BW_in (List.mem_of_getElem? (i := 1749) (by decide +kernel)) rfl
theorem bw_1750 : Cond.methodLink "ClassMakerModel" 319 (⟨"ClassMakerModel", "allHold", "(II)Z"⟩ : MethodName) ∈ BW := BW_in (List.mem_of_getElem? (i := 1750) (by decide +kernel)) rfl
theorem bw_1752 : Cond.instanceMethod (⟨"ClassMakerModel", "allHold", "(II)Z"⟩ : MethodName) ∈ BW := BW_in (List.mem_of_getElem? (i := 1752) (by decide +kernel)) rfl
theorem bw_1753 : Cond.code (⟨"ClassMakerModel", "allHold", "(II)Z"⟩ : MethodName) prog_13_method_44_code 7 (some .boolean) ∈ BW := BW_in (List.mem_of_getElem? (i := 1753) (by decide +kernel)) rfl
theorem bw_1758 : Cond.methodLink "ClassMakerModel" 364 (⟨"ClassMakerModel", "bests", "(I)I"⟩ : MethodName) ∈ BW := BW_in (List.mem_of_getElem? (i := 1758) (by decide +kernel)) rfl
theorem bw_1760 : Cond.instanceMethod (⟨"ClassMakerModel", "bests", "(I)I"⟩ : MethodName) ∈ BW := BW_in (List.mem_of_getElem? (i := 1760) (by decide +kernel)) rfl
theorem bw_1761 : Cond.code (⟨"ClassMakerModel", "bests", "(I)I"⟩ : MethodName) prog_13_method_56_code 4 (some .int) ∈ BW := BW_in (List.mem_of_getElem? (i := 1761) (by decide +kernel)) rfl
theorem bw_1762 : Cond.methodLink "ClassMakerModel" 343 (⟨"ClassMakerModel", "cameBy", "(I)I"⟩ : MethodName) ∈ BW := BW_in (List.mem_of_getElem? (i := 1762) (by decide +kernel)) rfl
theorem bw_1764 : Cond.instanceMethod (⟨"ClassMakerModel", "cameBy", "(I)I"⟩ : MethodName) ∈ BW := BW_in (List.mem_of_getElem? (i := 1764) (by decide +kernel)) rfl
theorem bw_1765 : Cond.code (⟨"ClassMakerModel", "cameBy", "(I)I"⟩ : MethodName) prog_13_method_54_code 4 (some .int) ∈ BW := BW_in (List.mem_of_getElem? (i := 1765) (by decide +kernel)) rfl
theorem bw_1767 : Cond.methodLink "ClassMakerModel" 352 (⟨"ClassMakerModel", "isSound", "()Z"⟩ : MethodName) ∈ BW := BW_in (List.mem_of_getElem? (i := 1767) (by decide +kernel)) rfl
theorem bw_1769 : Cond.instanceMethod (⟨"ClassMakerModel", "isSound", "()Z"⟩ : MethodName) ∈ BW := BW_in (List.mem_of_getElem? (i := 1769) (by decide +kernel)) rfl
theorem bw_1770 : Cond.code (⟨"ClassMakerModel", "isSound", "()Z"⟩ : MethodName) prog_13_method_48_code 5 (some .boolean) ∈ BW := BW_in (List.mem_of_getElem? (i := 1770) (by decide +kernel)) rfl
theorem bw_1771 : Cond.methodLink "ClassMakerModel" 326 (⟨"ClassMakerModel", "inClass", "(I)I"⟩ : MethodName) ∈ BW := BW_in (List.mem_of_getElem? (i := 1771) (by decide +kernel)) rfl
theorem bw_1773 : Cond.instanceMethod (⟨"ClassMakerModel", "inClass", "(I)I"⟩ : MethodName) ∈ BW := BW_in (List.mem_of_getElem? (i := 1773) (by decide +kernel)) rfl
theorem bw_1774 : Cond.code (⟨"ClassMakerModel", "inClass", "(I)I"⟩ : MethodName) prog_13_method_46_code 4 (some .int) ∈ BW := BW_in (List.mem_of_getElem? (i := 1774) (by decide +kernel)) rfl
theorem bw_1775 : Cond.methodLink "ClassMakerModel" 329 (⟨"ClassMakerModel", "isMet", "(I)Z"⟩ : MethodName) ∈ BW := BW_in (List.mem_of_getElem? (i := 1775) (by decide +kernel)) rfl
theorem bw_1777 : Cond.instanceMethod (⟨"ClassMakerModel", "isMet", "(I)Z"⟩ : MethodName) ∈ BW := BW_in (List.mem_of_getElem? (i := 1777) (by decide +kernel)) rfl
theorem bw_1778 : Cond.code (⟨"ClassMakerModel", "isMet", "(I)Z"⟩ : MethodName) prog_13_method_49_code 4 (some .boolean) ∈ BW := BW_in (List.mem_of_getElem? (i := 1778) (by decide +kernel)) rfl
theorem bw_1779 : Cond.methodLink "ClassMakerModel" 332 (⟨"ClassMakerModel", "holdIn", "(II)I"⟩ : MethodName) ∈ BW := BW_in (List.mem_of_getElem? (i := 1779) (by decide +kernel)) rfl
theorem bw_1781 : Cond.instanceMethod (⟨"ClassMakerModel", "holdIn", "(II)I"⟩ : MethodName) ∈ BW := BW_in (List.mem_of_getElem? (i := 1781) (by decide +kernel)) rfl
theorem bw_1782 : Cond.code (⟨"ClassMakerModel", "holdIn", "(II)I"⟩ : MethodName) prog_13_method_47_code 5 (some .int) ∈ BW := BW_in (List.mem_of_getElem? (i := 1782) (by decide +kernel)) rfl
theorem bw_1783 : Cond.methodLink "ClassMakerModel" 355 (⟨"ClassMakerModel", "lack", "()I"⟩ : MethodName) ∈ BW := BW_in (List.mem_of_getElem? (i := 1783) (by decide +kernel)) rfl
theorem bw_1785 : Cond.instanceMethod (⟨"ClassMakerModel", "lack", "()I"⟩ : MethodName) ∈ BW := BW_in (List.mem_of_getElem? (i := 1785) (by decide +kernel)) rfl
theorem bw_1786 : Cond.code (⟨"ClassMakerModel", "lack", "()I"⟩ : MethodName) prog_13_method_50_code 5 (some .int) ∈ BW := BW_in (List.mem_of_getElem? (i := 1786) (by decide +kernel)) rfl
theorem bw_1787 : Cond.methodLink "ClassMakerModel" 358 (⟨"ClassMakerModel", "allHarm", "()I"⟩ : MethodName) ∈ BW := BW_in (List.mem_of_getElem? (i := 1787) (by decide +kernel)) rfl
theorem bw_1789 : Cond.instanceMethod (⟨"ClassMakerModel", "allHarm", "()I"⟩ : MethodName) ∈ BW := BW_in (List.mem_of_getElem? (i := 1789) (by decide +kernel)) rfl
theorem bw_1790 : Cond.code (⟨"ClassMakerModel", "allHarm", "()I"⟩ : MethodName) prog_13_method_53_code 3 (some .int) ∈ BW := BW_in (List.mem_of_getElem? (i := 1790) (by decide +kernel)) rfl
theorem bw_1791 : Cond.methodLink "ClassMakerModel" 340 (⟨"ClassMakerModel", "harmOf", "(I)I"⟩ : MethodName) ∈ BW := BW_in (List.mem_of_getElem? (i := 1791) (by decide +kernel)) rfl
theorem bw_1793 : Cond.instanceMethod (⟨"ClassMakerModel", "harmOf", "(I)I"⟩ : MethodName) ∈ BW := BW_in (List.mem_of_getElem? (i := 1793) (by decide +kernel)) rfl
theorem bw_1794 : Cond.code (⟨"ClassMakerModel", "harmOf", "(I)I"⟩ : MethodName) prog_13_method_52_code 8 (some .int) ∈ BW := BW_in (List.mem_of_getElem? (i := 1794) (by decide +kernel)) rfl
theorem bw_1795 : Cond.methodLink "ClassMakerModel" 337 (⟨"ClassMakerModel", "servedIn", "(I)I"⟩ : MethodName) ∈ BW := BW_in (List.mem_of_getElem? (i := 1795) (by decide +kernel)) rfl
theorem bw_1797 : Cond.instanceMethod (⟨"ClassMakerModel", "servedIn", "(I)I"⟩ : MethodName) ∈ BW := BW_in (List.mem_of_getElem? (i := 1797) (by decide +kernel)) rfl
theorem bw_1798 : Cond.code (⟨"ClassMakerModel", "servedIn", "(I)I"⟩ : MethodName) prog_13_method_51_code 4 (some .int) ∈ BW := BW_in (List.mem_of_getElem? (i := 1798) (by decide +kernel)) rfl
theorem bw_1799 : Cond.methodLink "ClassMakerModel" 361 (⟨"ClassMakerModel", "counts", "()Z"⟩ : MethodName) ∈ BW := BW_in (List.mem_of_getElem? (i := 1799) (by decide +kernel)) rfl
theorem bw_1801 : Cond.instanceMethod (⟨"ClassMakerModel", "counts", "()Z"⟩ : MethodName) ∈ BW := BW_in (List.mem_of_getElem? (i := 1801) (by decide +kernel)) rfl
theorem bw_1802 : Cond.code (⟨"ClassMakerModel", "counts", "()Z"⟩ : MethodName) prog_13_method_55_code 2 (some .boolean) ∈ BW := BW_in (List.mem_of_getElem? (i := 1802) (by decide +kernel)) rfl
theorem bw_1815 : Cond.methodLink "ClassMakerModel" 367 (⟨"ClassMakerModel", "softest", "(IZ)I"⟩ : MethodName) ∈ BW := BW_in (List.mem_of_getElem? (i := 1815) (by decide +kernel)) rfl
theorem bw_1817 : Cond.instanceMethod (⟨"ClassMakerModel", "softest", "(IZ)I"⟩ : MethodName) ∈ BW := BW_in (List.mem_of_getElem? (i := 1817) (by decide +kernel)) rfl
theorem bw_1818 : Cond.code (⟨"ClassMakerModel", "softest", "(IZ)I"⟩ : MethodName) prog_13_method_62_code 7 (some .int) ∈ BW := BW_in (List.mem_of_getElem? (i := 1818) (by decide +kernel)) rfl
theorem bw_1819 : Cond.methodLink "ClassMakerModel" 371 (⟨"ClassMakerModel", "betters", "()Z"⟩ : MethodName) ∈ BW := BW_in (List.mem_of_getElem? (i := 1819) (by decide +kernel)) rfl
theorem bw_1821 : Cond.instanceMethod (⟨"ClassMakerModel", "betters", "()Z"⟩ : MethodName) ∈ BW := BW_in (List.mem_of_getElem? (i := 1821) (by decide +kernel)) rfl
theorem bw_1822 : Cond.code (⟨"ClassMakerModel", "betters", "()Z"⟩ : MethodName) prog_13_method_65_code 6 (some .boolean) ∈ BW := BW_in (List.mem_of_getElem? (i := 1822) (by decide +kernel)) rfl
theorem bw_1823 : Cond.methodLink "ClassMakerModel" 374 (⟨"ClassMakerModel", "isBetter", "(II)Z"⟩ : MethodName) ∈ BW := BW_in (List.mem_of_getElem? (i := 1823) (by decide +kernel)) rfl
theorem bw_1825 : Cond.instanceMethod (⟨"ClassMakerModel", "isBetter", "(II)Z"⟩ : MethodName) ∈ BW := BW_in (List.mem_of_getElem? (i := 1825) (by decide +kernel)) rfl
theorem bw_1826 : Cond.code (⟨"ClassMakerModel", "isBetter", "(II)Z"⟩ : MethodName) prog_13_method_64_code 4 (some .boolean) ∈ BW := BW_in (List.mem_of_getElem? (i := 1826) (by decide +kernel)) rfl
theorem bw_1827 : Cond.methodLink "ClassMakerModel" 377 (⟨"ClassMakerModel", "swaps", "(II)V"⟩ : MethodName) ∈ BW := BW_in (List.mem_of_getElem? (i := 1827) (by decide +kernel)) rfl
theorem bw_1829 : Cond.instanceMethod (⟨"ClassMakerModel", "swaps", "(II)V"⟩ : MethodName) ∈ BW := BW_in (List.mem_of_getElem? (i := 1829) (by decide +kernel)) rfl
theorem bw_1830 : Cond.code (⟨"ClassMakerModel", "swaps", "(II)V"⟩ : MethodName) prog_13_method_66_code 4 none ∈ BW := BW_in (List.mem_of_getElem? (i := 1830) (by decide +kernel)) rfl
theorem bw_1839 : Cond.methodLink "ClassMakerModel" 381 (⟨"ClassMakerModel", "looks", "()V"⟩ : MethodName) ∈ BW := BW_in (List.mem_of_getElem? (i := 1839) (by decide +kernel)) rfl
theorem bw_1841 : Cond.instanceMethod (⟨"ClassMakerModel", "looks", "()V"⟩ : MethodName) ∈ BW := BW_in (List.mem_of_getElem? (i := 1841) (by decide +kernel)) rfl
theorem bw_1842 : Cond.code (⟨"ClassMakerModel", "looks", "()V"⟩ : MethodName) prog_13_method_60_code 2 none ∈ BW := BW_in (List.mem_of_getElem? (i := 1842) (by decide +kernel)) rfl
theorem bw_1847 : Cond.methodLink "ClassMakerModel" 384 (⟨"ClassMakerModel", "listed", "()I"⟩ : MethodName) ∈ BW := BW_in (List.mem_of_getElem? (i := 1847) (by decide +kernel)) rfl
theorem bw_1849 : Cond.instanceMethod (⟨"ClassMakerModel", "listed", "()I"⟩ : MethodName) ∈ BW := BW_in (List.mem_of_getElem? (i := 1849) (by decide +kernel)) rfl
theorem bw_1850 : Cond.code (⟨"ClassMakerModel", "listed", "()I"⟩ : MethodName) prog_13_method_59_code 3 (some .int) ∈ BW := BW_in (List.mem_of_getElem? (i := 1850) (by decide +kernel)) rfl
theorem bw_1871 : Cond.methodLink "ClassMakerModel" 390 (⟨"ClassMakerModel", "isGain", "(II)Z"⟩ : MethodName) ∈ BW := BW_in (List.mem_of_getElem? (i := 1871) (by decide +kernel)) rfl
theorem bw_1873 : Cond.instanceMethod (⟨"ClassMakerModel", "isGain", "(II)Z"⟩ : MethodName) ∈ BW := BW_in (List.mem_of_getElem? (i := 1873) (by decide +kernel)) rfl
theorem bw_1874 : Cond.code (⟨"ClassMakerModel", "isGain", "(II)Z"⟩ : MethodName) prog_13_method_74_code 6 (some .boolean) ∈ BW := BW_in (List.mem_of_getElem? (i := 1874) (by decide +kernel)) rfl
theorem bw_1891 : Cond.methodLink "ClassMakerModel" 393 (⟨"ClassMakerModel", "leads", "(I)V"⟩ : MethodName) ∈ BW := BW_in (List.mem_of_getElem? (i := 1891) (by decide +kernel)) rfl
theorem bw_1893 : Cond.instanceMethod (⟨"ClassMakerModel", "leads", "(I)V"⟩ : MethodName) ∈ BW := BW_in (List.mem_of_getElem? (i := 1893) (by decide +kernel)) rfl
theorem bw_1894 : Cond.code (⟨"ClassMakerModel", "leads", "(I)V"⟩ : MethodName) prog_13_method_79_code 4 none ∈ BW := BW_in (List.mem_of_getElem? (i := 1894) (by decide +kernel)) rfl
theorem bw_1903 : Cond.methodLink "ClassMakerModel" 399 (⟨"ClassMakerModel", "lacking", "(I)I"⟩ : MethodName) ∈ BW := BW_in (List.mem_of_getElem? (i := 1903) (by decide +kernel)) rfl
theorem bw_1905 : Cond.instanceMethod (⟨"ClassMakerModel", "lacking", "(I)I"⟩ : MethodName) ∈ BW := BW_in (List.mem_of_getElem? (i := 1905) (by decide +kernel)) rfl
theorem bw_1906 : Cond.code (⟨"ClassMakerModel", "lacking", "(I)I"⟩ : MethodName) prog_13_method_82_code 7 (some .int) ∈ BW := BW_in (List.mem_of_getElem? (i := 1906) (by decide +kernel)) rfl
theorem bw_1915 : Cond.methodLink "ClassMakerModel" 402 (⟨"ClassMakerModel", "isLow", "(I)Z"⟩ : MethodName) ∈ BW := BW_in (List.mem_of_getElem? (i := 1915) (by decide +kernel)) rfl
theorem bw_1917 : Cond.instanceMethod (⟨"ClassMakerModel", "isLow", "(I)Z"⟩ : MethodName) ∈ BW := BW_in (List.mem_of_getElem? (i := 1917) (by decide +kernel)) rfl
theorem bw_1918 : Cond.code (⟨"ClassMakerModel", "isLow", "(I)Z"⟩ : MethodName) prog_13_method_85_code 2 (some .boolean) ∈ BW := BW_in (List.mem_of_getElem? (i := 1918) (by decide +kernel)) rfl
theorem bw_1936 : Cond.methodLink "ClassMakerModel" 412 (⟨"ClassMakerModel", "many", "([ZI)I"⟩ : MethodName) ∈ BW := BW_in (List.mem_of_getElem? (i := 1936) (by decide +kernel)) rfl
theorem bw_1938 : Cond.instanceMethod (⟨"ClassMakerModel", "many", "([ZI)I"⟩ : MethodName) ∈ BW := BW_in (List.mem_of_getElem? (i := 1938) (by decide +kernel)) rfl
theorem bw_1939 : Cond.code (⟨"ClassMakerModel", "many", "([ZI)I"⟩ : MethodName) prog_13_method_90_code 5 (some .int) ∈ BW := BW_in (List.mem_of_getElem? (i := 1939) (by decide +kernel)) rfl
theorem bw_1961 : Cond.fieldLink "java/lang/String" 9 "java/lang/String" "value" "[B" ∈ BW := BW_in (List.mem_of_getElem? (i := 1961) (by decide +kernel)) rfl
theorem bw_1962 : Cond.fieldLink "java/lang/String" 15 "java/lang/String" "coder" "B" ∈ BW := BW_in (List.mem_of_getElem? (i := 1962) (by decide +kernel)) rfl
