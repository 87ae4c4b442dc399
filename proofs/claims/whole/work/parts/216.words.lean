theorem gw_p0 : Cond.selects "GateHouse$Table" ⟨"GateHouse$Table", "remove", "(I)V"⟩ ⟨"GateHouse$Table", "remove", "(I)V"⟩ ∈ gG := gG_of 0 (by decide +kernel) rfl
theorem gw_p1 : Cond.selects "java/lang/Throwable" ⟨"java/lang/Throwable", "fillInStackTrace", "(I)Ljava/lang/Throwable;"⟩ ⟨"java/lang/Throwable", "fillInStackTrace", "(I)Ljava/lang/Throwable;"⟩ ∈ gG := gG_of 1 (by decide +kernel) rfl
theorem gw_p2 : Cond.selects "GateHouse$TextReader" ⟨"GateHouse$TextReader", "step", "()V"⟩ ⟨"GateHouse$TextReader", "step", "()V"⟩ ∈ gG := gG_of 2 (by decide +kernel) rfl
theorem gw_p3 : Cond.selects "GateHouse$TextReader" ⟨"GateHouse$TextReader", "readRun", "()V"⟩ ⟨"GateHouse$TextReader", "readRun", "()V"⟩ ∈ gG := gG_of 3 (by decide +kernel) rfl
theorem gw_p4 : Cond.selects "GateHouse$TextReader" ⟨"GateHouse$TextReader", "readAddress", "()V"⟩ ⟨"GateHouse$TextReader", "readAddress", "()V"⟩ ∈ gG := gG_of 4 (by decide +kernel) rfl
theorem gw_p5 : Cond.selects "GateHouse$TextReader" ⟨"GateHouse$TextReader", "groupBetween", "(II)I"⟩ ⟨"GateHouse$TextReader", "groupBetween", "(II)I"⟩ ∈ gG := gG_of 5 (by decide +kernel) rfl
theorem gw_p6 : Cond.selects "GateHouse$TextReader" ⟨"GateHouse$TextReader", "numberBetween", "(II)I"⟩ ⟨"GateHouse$TextReader", "numberBetween", "(II)I"⟩ ∈ gG := gG_of 6 (by decide +kernel) rfl
theorem gw_p7 : Cond.selects "GateHouse$TextReader" ⟨"GateHouse$TextReader", "take", "(LGateHouse$RuleList;)I"⟩ ⟨"GateHouse$TextReader", "take", "(LGateHouse$RuleList;)I"⟩ ∈ gG := gG_of 7 (by decide +kernel) rfl
theorem gw_p8 : Cond.selects "GateHouse$TextReader" ⟨"GateHouse$TextReader", "isWord", "(Ljava/lang/String;)Z"⟩ ⟨"GateHouse$TextReader", "isWord", "(Ljava/lang/String;)Z"⟩ ∈ gG := gG_of 8 (by decide +kernel) rfl
theorem gw_p9 : Cond.selects "GateHouse$TextReader" ⟨"GateHouse$TextReader", "go", "(I)I"⟩ ⟨"GateHouse$TextReader", "go", "(I)I"⟩ ∈ gG := gG_of 9 (by decide +kernel) rfl
theorem gw_p10 : Cond.selects "GateHouse$TextReader" ⟨"GateHouse$TextReader", "takeRule", "(LGateHouse$RuleList;)I"⟩ ⟨"GateHouse$TextReader", "takeRule", "(LGateHouse$RuleList;)I"⟩ ∈ gG := gG_of 10 (by decide +kernel) rfl
theorem gw_p11 : Cond.selects "GateHouse$TextReader" ⟨"GateHouse$TextReader", "actionHere", "()I"⟩ ⟨"GateHouse$TextReader", "actionHere", "()I"⟩ ∈ gG := gG_of 11 (by decide +kernel) rfl
theorem gw_p12 : Cond.selects "GateHouse$TextReader" ⟨"GateHouse$TextReader", "takePolicy", "(LGateHouse$RuleList;)I"⟩ ⟨"GateHouse$TextReader", "takePolicy", "(LGateHouse$RuleList;)I"⟩ ∈ gG := gG_of 12 (by decide +kernel) rfl
theorem gw_p13 : Cond.selects "GateHouse$TextReader" ⟨"GateHouse$TextReader", "takeValue", "(LGateHouse$Rule;)I"⟩ ⟨"GateHouse$TextReader", "takeValue", "(LGateHouse$Rule;)I"⟩ ∈ gG := gG_of 13 (by decide +kernel) rfl
theorem gw_p14 : Cond.selects "GateHouse$TextReader" ⟨"GateHouse$TextReader", "takeProtocol", "(LGateHouse$Rule;)I"⟩ ⟨"GateHouse$TextReader", "takeProtocol", "(LGateHouse$Rule;)I"⟩ ∈ gG := gG_of 14 (by decide +kernel) rfl
theorem gw_p15 : Cond.selects "GateHouse$TextReader" ⟨"GateHouse$TextReader", "isValue", "()Z"⟩ ⟨"GateHouse$TextReader", "isValue", "()Z"⟩ ∈ gG := gG_of 15 (by decide +kernel) rfl
theorem gw_p16 : Cond.selects "GateHouse$TextReader" ⟨"GateHouse$TextReader", "isAddressPart", "()Z"⟩ ⟨"GateHouse$TextReader", "isAddressPart", "()Z"⟩ ∈ gG := gG_of 16 (by decide +kernel) rfl
theorem gw_p17 : Cond.selects "GateHouse$TextReader" ⟨"GateHouse$TextReader", "top", "()J"⟩ ⟨"GateHouse$TextReader", "top", "()J"⟩ ∈ gG := gG_of 17 (by decide +kernel) rfl
theorem gw_p18 : Cond.selects "GateHouse$TextReader" ⟨"GateHouse$TextReader", "takePart", "(LGateHouse$RuleList;)I"⟩ ⟨"GateHouse$TextReader", "takePart", "(LGateHouse$RuleList;)I"⟩ ∈ gG := gG_of 18 (by decide +kernel) rfl
theorem gw_p19 : Cond.selects "GateHouse$TextReader" ⟨"GateHouse$TextReader", "partHere", "()I"⟩ ⟨"GateHouse$TextReader", "partHere", "()I"⟩ ∈ gG := gG_of 19 (by decide +kernel) rfl
theorem gw_p20 : Cond.selects "GateHouse$TextReader" ⟨"GateHouse$TextReader", "takeLastValue", "(LGateHouse$Rule;)I"⟩ ⟨"GateHouse$TextReader", "takeLastValue", "(LGateHouse$Rule;)I"⟩ ∈ gG := gG_of 20 (by decide +kernel) rfl
theorem gw_p21 : Cond.selects "GateHouse$TextReader" ⟨"GateHouse$TextReader", "takeBits", "(LGateHouse$Rule;)I"⟩ ⟨"GateHouse$TextReader", "takeBits", "(LGateHouse$Rule;)I"⟩ ∈ gG := gG_of 21 (by decide +kernel) rfl
theorem gw_p22 : Cond.selects "GateHouse$TextReader" ⟨"GateHouse$TextReader", "takeState", "(LGateHouse$Rule;)I"⟩ ⟨"GateHouse$TextReader", "takeState", "(LGateHouse$Rule;)I"⟩ ∈ gG := gG_of 22 (by decide +kernel) rfl
theorem gw_p23 : Cond.selects "GateHouse$TextReader" ⟨"GateHouse$TextReader", "stateHere", "()I"⟩ ⟨"GateHouse$TextReader", "stateHere", "()I"⟩ ∈ gG := gG_of 23 (by decide +kernel) rfl
theorem gw_p24 : Cond.selects "GateHouse" ⟨"GateHouse", "placeDraft", "(I)V"⟩ ⟨"GateHouse", "placeDraft", "(I)V"⟩ ∈ gG := gG_of 24 (by decide +kernel) rfl
theorem gw_p25 : Cond.selects "GateHouse$Search" ⟨"GateHouse$Search", "prepare", "(LGateHouse$RuleList;ILGateHouse$RuleList;I)V"⟩ ⟨"GateHouse$Search", "prepare", "(LGateHouse$RuleList;ILGateHouse$RuleList;I)V"⟩ ∈ gG := gG_of 25 (by decide +kernel) rfl
theorem gw_p26 : Cond.selects "GateHouse$Search" ⟨"GateHouse$Search", "addCuts", "(LGateHouse$RuleList;I)V"⟩ ⟨"GateHouse$Search", "addCuts", "(LGateHouse$RuleList;I)V"⟩ ∈ gG := gG_of 26 (by decide +kernel) rfl
theorem gw_p27 : Cond.selects "GateHouse$Search" ⟨"GateHouse$Search", "addCut", "(IJ)V"⟩ ⟨"GateHouse$Search", "addCut", "(IJ)V"⟩ ∈ gG := gG_of 27 (by decide +kernel) rfl
theorem gw_p28 : Cond.selects "GateHouse$Search" ⟨"GateHouse$Search", "clearMet", "()V"⟩ ⟨"GateHouse$Search", "clearMet", "()V"⟩ ∈ gG := gG_of 28 (by decide +kernel) rfl
theorem gw_p29 : Cond.selects "GateHouse$Search" ⟨"GateHouse$Search", "addMet", "(LGateHouse$RuleList;II)V"⟩ ⟨"GateHouse$Search", "addMet", "(LGateHouse$RuleList;II)V"⟩ ∈ gG := gG_of 29 (by decide +kernel) rfl
theorem gw_p30 : Cond.selects "GateHouse$Search" ⟨"GateHouse$Search", "addMetBy", "(LGateHouse$Rule;II)V"⟩ ⟨"GateHouse$Search", "addMetBy", "(LGateHouse$Rule;II)V"⟩ ∈ gG := gG_of 30 (by decide +kernel) rfl
theorem gw_p31 : Cond.selects "GateHouse$Search" ⟨"GateHouse$Search", "differ", "(II)Z"⟩ ⟨"GateHouse$Search", "differ", "(II)Z"⟩ ∈ gG := gG_of 31 (by decide +kernel) rfl
theorem gw_p32 : Cond.selects "GateHouse$Search" ⟨"GateHouse$Search", "descend", "(III)Z"⟩ ⟨"GateHouse$Search", "descend", "(III)Z"⟩ ∈ gG := gG_of 32 (by decide +kernel) rfl
theorem gw_p33 : Cond.selects "GateHouse$Search" ⟨"GateHouse$Search", "settle", "(III)I"⟩ ⟨"GateHouse$Search", "settle", "(III)I"⟩ ∈ gG := gG_of 33 (by decide +kernel) rfl
theorem gw_p34 : Cond.selects "GateHouse$Search" ⟨"GateHouse$Search", "actionOf", "(I)I"⟩ ⟨"GateHouse$Search", "actionOf", "(I)I"⟩ ∈ gG := gG_of 34 (by decide +kernel) rfl
theorem gw_p35 : Cond.selects "GateHouse$Search" ⟨"GateHouse$Search", "goThrough", "(III)Z"⟩ ⟨"GateHouse$Search", "goThrough", "(III)Z"⟩ ∈ gG := gG_of 35 (by decide +kernel) rfl
theorem gw_p36 : Cond.selects "GateHouse" ⟨"GateHouse", "keepPoint", "()V"⟩ ⟨"GateHouse", "keepPoint", "()V"⟩ ∈ gG := gG_of 36 (by decide +kernel) rfl
theorem gw_p37 : Cond.selects "GateHouse" ⟨"GateHouse", "judge", "(Z)I"⟩ ⟨"GateHouse", "judge", "(Z)I"⟩ ∈ gG := gG_of 37 (by decide +kernel) rfl
theorem gw_p38 : Cond.selects "GateHouse$Table" ⟨"GateHouse$Table", "leastNeeded", "()I"⟩ ⟨"GateHouse$Table", "leastNeeded", "()I"⟩ ∈ gG := gG_of 38 (by decide +kernel) rfl
theorem gw_p39 : Cond.selects "GateHouseModel" ⟨"GateHouseModel", "four", "(I)V"⟩ ⟨"GateHouseModel", "four", "(I)V"⟩ ∈ gG := gG_of 39 (by decide +kernel) rfl
theorem gw_p40 : Cond.selects "GateHouseModel" ⟨"GateHouseModel", "throwsIf", "(ZI)Z"⟩ ⟨"GateHouseModel", "throwsIf", "(ZI)Z"⟩ ∈ gG := gG_of 40 (by decide +kernel) rfl
theorem gw_p41 : Cond.selects "GateHouseModel" ⟨"GateHouseModel", "next", "()V"⟩ ⟨"GateHouseModel", "next", "()V"⟩ ∈ gG := gG_of 41 (by decide +kernel) rfl
theorem gw_p42 : Cond.selects "GateHouseModel" ⟨"GateHouseModel", "byteAt", "(I)I"⟩ ⟨"GateHouseModel", "byteAt", "(I)I"⟩ ∈ gG := gG_of 42 (by decide +kernel) rfl
theorem gw_p43 : Cond.selects "GateHouseModel" ⟨"GateHouseModel", "readWord", "()V"⟩ ⟨"GateHouseModel", "readWord", "()V"⟩ ∈ gG := gG_of 43 (by decide +kernel) rfl
theorem gw_p44 : Cond.selects "GateHouseModel" ⟨"GateHouseModel", "isAt", "(II)Z"⟩ ⟨"GateHouseModel", "isAt", "(II)Z"⟩ ∈ gG := gG_of 44 (by decide +kernel) rfl
theorem gw_p45 : Cond.selects "GateHouseModel" ⟨"GateHouseModel", "readNumber", "()V"⟩ ⟨"GateHouseModel", "readNumber", "()V"⟩ ∈ gG := gG_of 45 (by decide +kernel) rfl
theorem gw_p46 : Cond.selects "GateHouseModel" ⟨"GateHouseModel", "readAddress", "()V"⟩ ⟨"GateHouseModel", "readAddress", "()V"⟩ ∈ gG := gG_of 46 (by decide +kernel) rfl
theorem gw_p47 : Cond.selects "GateHouseModel" ⟨"GateHouseModel", "text", "()Z"⟩ ⟨"GateHouseModel", "text", "()Z"⟩ ∈ gG := gG_of 47 (by decide +kernel) rfl
theorem gw_p48 : Cond.selects "GateHouseModel" ⟨"GateHouseModel", "isWord", "(I)Z"⟩ ⟨"GateHouseModel", "isWord", "(I)Z"⟩ ∈ gG := gG_of 48 (by decide +kernel) rfl
theorem gw_p49 : Cond.selects "GateHouseModel" ⟨"GateHouseModel", "isLate", "()Z"⟩ ⟨"GateHouseModel", "isLate", "()Z"⟩ ∈ gG := gG_of 49 (by decide +kernel) rfl
theorem gw_p50 : Cond.selects "GateHouseModel" ⟨"GateHouseModel", "isAction", "()Z"⟩ ⟨"GateHouseModel", "isAction", "()Z"⟩ ∈ gG := gG_of 50 (by decide +kernel) rfl
theorem gw_p51 : Cond.selects "GateHouseModel" ⟨"GateHouseModel", "cant", "()Z"⟩ ⟨"GateHouseModel", "cant", "()Z"⟩ ∈ gG := gG_of 51 (by decide +kernel) rfl
theorem gw_p52 : Cond.selects "GateHouseModel" ⟨"GateHouseModel", "wrong", "(I)Z"⟩ ⟨"GateHouseModel", "wrong", "(I)Z"⟩ ∈ gG := gG_of 52 (by decide +kernel) rfl
theorem gw_p53 : Cond.selects "GateHouseModel" ⟨"GateHouseModel", "mustSign", "(I)Z"⟩ ⟨"GateHouseModel", "mustSign", "(I)Z"⟩ ∈ gG := gG_of 53 (by decide +kernel) rfl
theorem gw_p54 : Cond.selects "GateHouseModel" ⟨"GateHouseModel", "isSign", "(I)Z"⟩ ⟨"GateHouseModel", "isSign", "(I)Z"⟩ ∈ gG := gG_of 54 (by decide +kernel) rfl
theorem gw_p55 : Cond.selects "GateHouseModel" ⟨"GateHouseModel", "rule", "(I)Z"⟩ ⟨"GateHouseModel", "rule", "(I)Z"⟩ ∈ gG := gG_of 55 (by decide +kernel) rfl
theorem gw_p56 : Cond.selects "GateHouseModel" ⟨"GateHouseModel", "readStates", "(I)Z"⟩ ⟨"GateHouseModel", "readStates", "(I)Z"⟩ ∈ gG := gG_of 56 (by decide +kernel) rfl
theorem gw_p57 : Cond.selects "GateHouseModel" ⟨"GateHouseModel", "readAddresses", "(I)Z"⟩ ⟨"GateHouseModel", "readAddresses", "(I)Z"⟩ ∈ gG := gG_of 57 (by decide +kernel) rfl
theorem gw_p58 : Cond.selects "GateHouseModel" ⟨"GateHouseModel", "readRange", "(II)Z"⟩ ⟨"GateHouseModel", "readRange", "(II)Z"⟩ ∈ gG := gG_of 58 (by decide +kernel) rfl
theorem gw_p59 : Cond.selects "GateHouseModel" ⟨"GateHouseModel", "copyList", "(II)V"⟩ ⟨"GateHouseModel", "copyList", "(II)V"⟩ ∈ gG := gG_of 59 (by decide +kernel) rfl
theorem gw_p60 : Cond.selects "GateHouseModel" ⟨"GateHouseModel", "copyRule", "(II)V"⟩ ⟨"GateHouseModel", "copyRule", "(II)V"⟩ ∈ gG := gG_of 60 (by decide +kernel) rfl
theorem gw_p61 : Cond.selects "GateHouseModel" ⟨"GateHouseModel", "forgetTold", "()V"⟩ ⟨"GateHouseModel", "forgetTold", "()V"⟩ ∈ gG := gG_of 61 (by decide +kernel) rfl
theorem gw_p62 : Cond.selects "GateHouseModel" ⟨"GateHouseModel", "noList", "(I)Z"⟩ ⟨"GateHouseModel", "noList", "(I)Z"⟩ ∈ gG := gG_of 62 (by decide +kernel) rfl
theorem gw_p63 : Cond.selects "GateHouseModel" ⟨"GateHouseModel", "putWord", "(I)V"⟩ ⟨"GateHouseModel", "putWord", "(I)V"⟩ ∈ gG := gG_of 63 (by decide +kernel) rfl
theorem gw_p64 : Cond.selects "GateHouseModel" ⟨"GateHouseModel", "put", "(I)V"⟩ ⟨"GateHouseModel", "put", "(I)V"⟩ ∈ gG := gG_of 64 (by decide +kernel) rfl
theorem gw_p65 : Cond.selects "GateHouseModel" ⟨"GateHouseModel", "writePart", "(II)V"⟩ ⟨"GateHouseModel", "writePart", "(II)V"⟩ ∈ gG := gG_of 65 (by decide +kernel) rfl
theorem gw_p66 : Cond.selects "GateHouseModel" ⟨"GateHouseModel", "putValue", "(IJ)V"⟩ ⟨"GateHouseModel", "putValue", "(IJ)V"⟩ ∈ gG := gG_of 66 (by decide +kernel) rfl
theorem gw_p67 : Cond.selects "GateHouseModel" ⟨"GateHouseModel", "putNumber", "(J)V"⟩ ⟨"GateHouseModel", "putNumber", "(J)V"⟩ ∈ gG := gG_of 67 (by decide +kernel) rfl
theorem gw_p68 : Cond.selects "GateHouseModel" ⟨"GateHouseModel", "writeStates", "(I)V"⟩ ⟨"GateHouseModel", "writeStates", "(I)V"⟩ ∈ gG := gG_of 68 (by decide +kernel) rfl
theorem gw_p69 : Cond.selects "GateHouseModel" ⟨"GateHouseModel", "point", "(IIIIII)V"⟩ ⟨"GateHouseModel", "point", "(IIIIII)V"⟩ ∈ gG := gG_of 69 (by decide +kernel) rfl
theorem gw_p70 : Cond.selects "GateHouseModel" ⟨"GateHouseModel", "first", "(II)I"⟩ ⟨"GateHouseModel", "first", "(II)I"⟩ ∈ gG := gG_of 70 (by decide +kernel) rfl
theorem gw_p71 : Cond.selects "GateHouseModel" ⟨"GateHouseModel", "looks", "(II)Z"⟩ ⟨"GateHouseModel", "looks", "(II)Z"⟩ ∈ gG := gG_of 71 (by decide +kernel) rfl
theorem gw_p72 : Cond.selects "GateHouseModel" ⟨"GateHouseModel", "forgetVain", "()V"⟩ ⟨"GateHouseModel", "forgetVain", "()V"⟩ ∈ gG := gG_of 72 (by decide +kernel) rfl
theorem gw_p73 : Cond.selects "GateHouseModel" ⟨"GateHouseModel", "goesOn", "(III)Z"⟩ ⟨"GateHouseModel", "goesOn", "(III)Z"⟩ ∈ gG := gG_of 73 (by decide +kernel) rfl
theorem gw_p74 : Cond.selects "GateHouseModel" ⟨"GateHouseModel", "cut", "(III)I"⟩ ⟨"GateHouseModel", "cut", "(III)I"⟩ ∈ gG := gG_of 74 (by decide +kernel) rfl
theorem gw_p75 : Cond.selects "GateHouseModel" ⟨"GateHouseModel", "isAll", "(II)Z"⟩ ⟨"GateHouseModel", "isAll", "(II)Z"⟩ ∈ gG := gG_of 75 (by decide +kernel) rfl
theorem gw_p76 : Cond.selects "GateHouseModel" ⟨"GateHouseModel", "lowest", "(I)J"⟩ ⟨"GateHouseModel", "lowest", "(I)J"⟩ ∈ gG := gG_of 76 (by decide +kernel) rfl
theorem gw_p77 : Cond.selects "GateHouseModel" ⟨"GateHouseModel", "highest", "(I)J"⟩ ⟨"GateHouseModel", "highest", "(I)J"⟩ ∈ gG := gG_of 77 (by decide +kernel) rfl
theorem gw_p78 : Cond.selects "GateHouseModel" ⟨"GateHouseModel", "statesAsked", "()I"⟩ ⟨"GateHouseModel", "statesAsked", "()I"⟩ ∈ gG := gG_of 78 (by decide +kernel) rfl
theorem gw_p79 : Cond.selects "GateHouseModel" ⟨"GateHouseModel", "stateOf", "(II)I"⟩ ⟨"GateHouseModel", "stateOf", "(II)I"⟩ ∈ gG := gG_of 79 (by decide +kernel) rfl
theorem gw_p80 : Cond.selects "GateHouseModel" ⟨"GateHouseModel", "actionOf", "(III)I"⟩ ⟨"GateHouseModel", "actionOf", "(III)I"⟩ ∈ gG := gG_of 80 (by decide +kernel) rfl
theorem gw_p81 : Cond.selects "GateHouseModel" ⟨"GateHouseModel", "isHopeless", "(III)Z"⟩ ⟨"GateHouseModel", "isHopeless", "(III)Z"⟩ ∈ gG := gG_of 81 (by decide +kernel) rfl
theorem gw_p82 : Cond.selects "GateHouseModel" ⟨"GateHouseModel", "tells", "(III)I"⟩ ⟨"GateHouseModel", "tells", "(III)I"⟩ ∈ gG := gG_of 82 (by decide +kernel) rfl
theorem gw_p83 : Cond.selects "GateHouseModel" ⟨"GateHouseModel", "left", "(IIIJ)I"⟩ ⟨"GateHouseModel", "left", "(IIIJ)I"⟩ ∈ gG := gG_of 83 (by decide +kernel) rfl
theorem gw_p84 : Cond.selects "GateHouseModel" ⟨"GateHouseModel", "holds", "(IIJ)Z"⟩ ⟨"GateHouseModel", "holds", "(IIJ)Z"⟩ ∈ gG := gG_of 84 (by decide +kernel) rfl
theorem gw_p85 : Cond.selects "GateHouseModel" ⟨"GateHouseModel", "turn", "(IIIJJ)J"⟩ ⟨"GateHouseModel", "turn", "(IIIJJ)J"⟩ ∈ gG := gG_of 85 (by decide +kernel) rfl
theorem gw_p86 : Cond.selects "GateHouseModel" ⟨"GateHouseModel", "areAlike", "(II)Z"⟩ ⟨"GateHouseModel", "areAlike", "(II)Z"⟩ ∈ gG := gG_of 86 (by decide +kernel) rfl
theorem gw_p87 : Cond.selects "GateHouseModel" ⟨"GateHouseModel", "goes", "(I)V"⟩ ⟨"GateHouseModel", "goes", "(I)V"⟩ ∈ gG := gG_of 87 (by decide +kernel) rfl
theorem gw_p88 : Cond.selects "GateHouseModel" ⟨"GateHouseModel", "comes", "(IIIIIII)I"⟩ ⟨"GateHouseModel", "comes", "(IIIIIII)I"⟩ ∈ gG := gG_of 88 (by decide +kernel) rfl
theorem gw_p89 : Cond.selects "GateHouseModel" ⟨"GateHouseModel", "find", "(IIIII)I"⟩ ⟨"GateHouseModel", "find", "(IIIII)I"⟩ ∈ gG := gG_of 89 (by decide +kernel) rfl
theorem gw_p90 : Cond.selects "GateHouseModel" ⟨"GateHouseModel", "side", "(IIIIII)I"⟩ ⟨"GateHouseModel", "side", "(IIIIII)I"⟩ ∈ gG := gG_of 90 (by decide +kernel) rfl
theorem gw_p91 : Cond.selects "GateHouseModel" ⟨"GateHouseModel", "phase", "(III)I"⟩ ⟨"GateHouseModel", "phase", "(III)I"⟩ ∈ gG := gG_of 91 (by decide +kernel) rfl
theorem gw_p92 : Cond.selects "GateHouseModel" ⟨"GateHouseModel", "steps", "(IIII)V"⟩ ⟨"GateHouseModel", "steps", "(IIII)V"⟩ ∈ gG := gG_of 92 (by decide +kernel) rfl
theorem gw_p93 : Cond.selects "GateHouseModel" ⟨"GateHouseModel", "begins", "(IIIII)Z"⟩ ⟨"GateHouseModel", "begins", "(IIIII)Z"⟩ ∈ gG := gG_of 93 (by decide +kernel) rfl
theorem gw_p94 : Cond.selects "GateHouseModel" ⟨"GateHouseModel", "faulty", "(II)I"⟩ ⟨"GateHouseModel", "faulty", "(II)I"⟩ ∈ gG := gG_of 94 (by decide +kernel) rfl
theorem gw_p95 : Cond.selects "GateHouseModel" ⟨"GateHouseModel", "two", "(I)I"⟩ ⟨"GateHouseModel", "two", "(I)I"⟩ ∈ gG := gG_of 95 (by decide +kernel) rfl
theorem gw_p96 : Cond.selects "GateHouseModel" ⟨"GateHouseModel", "summed", "(III)I"⟩ ⟨"GateHouseModel", "summed", "(III)I"⟩ ∈ gG := gG_of 96 (by decide +kernel) rfl
theorem gw_p97 : Cond.selects "GateHouseModel" ⟨"GateHouseModel", "isLong", "(III)Z"⟩ ⟨"GateHouseModel", "isLong", "(III)Z"⟩ ∈ gG := gG_of 97 (by decide +kernel) rfl
theorem gw_p98 : Cond.selects "GateHouseModel" ⟨"GateHouseModel", "readsTale", "(II)Z"⟩ ⟨"GateHouseModel", "readsTale", "(II)Z"⟩ ∈ gG := gG_of 98 (by decide +kernel) rfl
theorem gw_p99 : Cond.selects "GateHouseModel" ⟨"GateHouseModel", "address", "(I)I"⟩ ⟨"GateHouseModel", "address", "(I)I"⟩ ∈ gG := gG_of 99 (by decide +kernel) rfl
theorem gw_p100 : Cond.selects "GateHouseModel" ⟨"GateHouseModel", "putTwo", "(I)V"⟩ ⟨"GateHouseModel", "putTwo", "(I)V"⟩ ∈ gG := gG_of 100 (by decide +kernel) rfl
theorem gw_p101 : Cond.selects "GateHouseModel" ⟨"GateHouseModel", "sumAt", "(IIII)V"⟩ ⟨"GateHouseModel", "sumAt", "(IIII)V"⟩ ∈ gG := gG_of 101 (by decide +kernel) rfl
theorem gw_p102 : Cond.selects "GateHouseModel" ⟨"GateHouseModel", "outTwo", "(I)I"⟩ ⟨"GateHouseModel", "outTwo", "(I)I"⟩ ∈ gG := gG_of 102 (by decide +kernel) rfl
theorem gw_0 : (Jvm.Cond.initialized "GateHouseLaw") ∈ gG := gG_of 103 (by decide +kernel) rfl
theorem gw_1 : (Jvm.Cond.initialized "GateHouse") ∈ gG := gG_of 104 (by decide +kernel) rfl
theorem gw_2 : (Jvm.Cond.initialized "GateHouse$Octets") ∈ gG := gG_of 105 (by decide +kernel) rfl
theorem gw_3 : (Jvm.Cond.initialized "GateHouse$RuleList") ∈ gG := gG_of 106 (by decide +kernel) rfl
theorem gw_4 : (Jvm.Cond.initialized "GateHouse$Rule") ∈ gG := gG_of 107 (by decide +kernel) rfl
theorem gw_5 : (Jvm.Cond.initialized "GateHouse$TextReader") ∈ gG := gG_of 108 (by decide +kernel) rfl
theorem gw_6 : (Jvm.Cond.initialized "GateHouse$Search") ∈ gG := gG_of 109 (by decide +kernel) rfl
theorem gw_7 : (Jvm.Cond.initialized "GateHouse$Table") ∈ gG := gG_of 110 (by decide +kernel) rfl
theorem gw_8 : (Jvm.Cond.initialized "GateHouse$Connection") ∈ gG := gG_of 111 (by decide +kernel) rfl
theorem gw_9 : (Jvm.Cond.initialized "GateHouse$Packet") ∈ gG := gG_of 112 (by decide +kernel) rfl
theorem gw_10 : (Jvm.Cond.initialized "GateHouseModel") ∈ gG := gG_of 113 (by decide +kernel) rfl
theorem gw_11 : (Jvm.Cond.initialized "java/lang/String") ∈ gG := gG_of 114 (by decide +kernel) rfl
theorem gw_12 : (Jvm.Cond.initialized "java/lang/StringLatin1") ∈ gG := gG_of 115 (by decide +kernel) rfl
theorem gw_13 : (Jvm.Cond.initialized "jdk/internal/util/Preconditions") ∈ gG := gG_of 116 (by decide +kernel) rfl
theorem gw_14 : (Jvm.Cond.initialized "java/lang/StringUTF16") ∈ gG := gG_of 117 (by decide +kernel) rfl
theorem gw_15 : (Jvm.Cond.initialized "java/lang/Throwable") ∈ gG := gG_of 118 (by decide +kernel) rfl
theorem gw_16 : (Jvm.Cond.initialized "java/lang/Exception") ∈ gG := gG_of 119 (by decide +kernel) rfl
theorem gw_17 : (Jvm.Cond.initialized "java/lang/RuntimeException") ∈ gG := gG_of 120 (by decide +kernel) rfl
theorem gw_18 : (Jvm.Cond.initialized "java/lang/IndexOutOfBoundsException") ∈ gG := gG_of 121 (by decide +kernel) rfl
theorem gw_19 : (Jvm.Cond.initialized "java/util/NoSuchElementException") ∈ gG := gG_of 122 (by decide +kernel) rfl
theorem gw_20 : (Jvm.Cond.initialized "GateHouse$ListWriter") ∈ gG := gG_of 123 (by decide +kernel) rfl
theorem gw_21 : (Jvm.Cond.initialized "java/lang/IllegalArgumentException") ∈ gG := gG_of 124 (by decide +kernel) rfl
theorem gw_22 : (Jvm.Cond.initialized "java/lang/Math") ∈ gG := gG_of 125 (by decide +kernel) rfl
theorem gw_23 : (Jvm.Cond.initialized "GateHouse$Phases") ∈ gG := gG_of 126 (by decide +kernel) rfl
theorem gw_24 : (Jvm.Cond.initialized "GateHouse$Wire") ∈ gG := gG_of 127 (by decide +kernel) rfl
theorem gw_25 : (Jvm.Cond.classLink "GateHouseLaw" (8 : Nat) "GateHouse") ∈ gG := gG_of 128 (by decide +kernel) rfl
theorem gw_26 : (Jvm.Cond.instantiable "GateHouse" (14 : Nat)) ∈ gG := gG_of 129 (by decide +kernel) rfl
theorem gw_27 : (Jvm.Cond.methodLink "GateHouseLaw" (64 : Nat) ({ cls := "GateHouse", name := "<init>", desc := "()V" } : Jvm.MethodName)) ∈ gG := gG_of 130 (by decide +kernel) rfl
theorem gw_28 : (Jvm.Cond.instanceMethod ({ cls := "GateHouse", name := "<init>", desc := "()V" } : Jvm.MethodName)) ∈ gG := gG_of 131 (by decide +kernel) rfl
set_option maxRecDepth 20000 in
theorem gw_29 : (Jvm.Cond.code ({ cls := "GateHouse", name := "<init>", desc := "()V" } : Jvm.MethodName) prog_1_method_1_code (2 : Nat) (Option.none : Option Jvm.ClassFile.FieldType)) ∈ gG := gG_of 132 (rfl) rfl
theorem gw_30 : (Jvm.Cond.methodLink "GateHouse" (1 : Nat) ({ cls := "java/lang/Object", name := "<init>", desc := "()V" } : Jvm.MethodName)) ∈ gG := gG_of 133 (by decide +kernel) rfl
theorem gw_31 : (Jvm.Cond.instanceMethod ({ cls := "java/lang/Object", name := "<init>", desc := "()V" } : Jvm.MethodName)) ∈ gG := gG_of 134 (by decide +kernel) rfl
set_option maxRecDepth 20000 in
theorem gw_32 : (Jvm.Cond.code ({ cls := "java/lang/Object", name := "<init>", desc := "()V" } : Jvm.MethodName) object_method_1_code (1 : Nat) (Option.none : Option Jvm.ClassFile.FieldType)) ∈ gG := gG_of 135 (rfl) rfl
theorem gw_33 : (Jvm.Cond.classLink "GateHouse" (7 : Nat) "GateHouse$Octets") ∈ gG := gG_of 136 (by decide +kernel) rfl
theorem gw_34 : (Jvm.Cond.instantiable "GateHouse$Octets" (2 : Nat)) ∈ gG := gG_of 137 (by decide +kernel) rfl
theorem gw_35 : (Jvm.Cond.methodLink "GateHouse" (11 : Nat) ({ cls := "GateHouse$Octets", name := "<init>", desc := "(I)V" } : Jvm.MethodName)) ∈ gG := gG_of 138 (by decide +kernel) rfl
theorem gw_36 : (Jvm.Cond.instanceMethod ({ cls := "GateHouse$Octets", name := "<init>", desc := "(I)V" } : Jvm.MethodName)) ∈ gG := gG_of 139 (by decide +kernel) rfl
set_option maxRecDepth 20000 in
theorem gw_37 : (Jvm.Cond.code ({ cls := "GateHouse$Octets", name := "<init>", desc := "(I)V" } : Jvm.MethodName) prog_4_method_1_code (2 : Nat) (Option.none : Option Jvm.ClassFile.FieldType)) ∈ gG := gG_of 140 (rfl) rfl
theorem gw_38 : (Jvm.Cond.methodLink "GateHouse$Octets" (1 : Nat) ({ cls := "java/lang/Object", name := "<init>", desc := "()V" } : Jvm.MethodName)) ∈ gG := gG_of 141 (by decide +kernel) rfl
theorem gw_39 : (Jvm.Cond.fieldLink "GateHouse$Octets" (7 : Nat) "GateHouse$Octets" "bytes" "[B") ∈ gG := gG_of 142 (by decide +kernel) rfl
theorem gw_40 : (Jvm.Cond.fieldLink "GateHouse$Octets" (13 : Nat) "GateHouse$Octets" "size" "I") ∈ gG := gG_of 143 (by decide +kernel) rfl
theorem gw_41 : (Jvm.Cond.fieldLink "GateHouse$Wire" (9 : Nat) "GateHouse$Octets" "size" "I") ∈ gG := gG_of 144 (by decide +kernel) rfl
theorem gw_42 : (Jvm.Cond.fieldLink "GateHouse" (83 : Nat) "GateHouse$Octets" "size" "I") ∈ gG := gG_of 145 (by decide +kernel) rfl
theorem gw_43 : (Jvm.Cond.fieldLink "GateHouse$TextReader" (174 : Nat) "GateHouse$Octets" "size" "I") ∈ gG := gG_of 146 (by decide +kernel) rfl
theorem gw_49 : (Jvm.Cond.arrayClass Jvm.ClassFile.FieldType.byte) ∈ gG := gG_of 152 (by decide +kernel) rfl
theorem gw_50 : (Jvm.Cond.classLink "GateHouse" (21 : Nat) "GateHouse$RuleList") ∈ gG := gG_of 153 (by decide +kernel) rfl
theorem gw_52 : (Jvm.Cond.instantiable "GateHouse$RuleList" (4 : Nat)) ∈ gG := gG_of 155 (by decide +kernel) rfl
theorem gw_53 : (Jvm.Cond.methodLink "GateHouse" (27 : Nat) ({ cls := "GateHouse$RuleList", name := "<init>", desc := "()V" } : Jvm.MethodName)) ∈ gG := gG_of 156 (by decide +kernel) rfl
theorem gw_54 : (Jvm.Cond.instanceMethod ({ cls := "GateHouse$RuleList", name := "<init>", desc := "()V" } : Jvm.MethodName)) ∈ gG := gG_of 157 (by decide +kernel) rfl
set_option maxRecDepth 20000 in
theorem gw_55 : (Jvm.Cond.code ({ cls := "GateHouse$RuleList", name := "<init>", desc := "()V" } : Jvm.MethodName) prog_8_method_1_code (2 : Nat) (Option.none : Option Jvm.ClassFile.FieldType)) ∈ gG := gG_of 158 (rfl) rfl
theorem gw_56 : (Jvm.Cond.methodLink "GateHouse$RuleList" (3 : Nat) ({ cls := "java/lang/Object", name := "<init>", desc := "()V" } : Jvm.MethodName)) ∈ gG := gG_of 159 (by decide +kernel) rfl
theorem gw_57 : (Jvm.Cond.classLink "GateHouse$RuleList" (9 : Nat) "GateHouse$Rule") ∈ gG := gG_of 160 (by decide +kernel) rfl
theorem gw_59 : (Jvm.Cond.instantiable "GateHouse$Rule" (5 : Nat)) ∈ gG := gG_of 162 (by decide +kernel) rfl
theorem gw_60 : (Jvm.Cond.methodLink "GateHouse$RuleList" (17 : Nat) ({ cls := "GateHouse$Rule", name := "<init>", desc := "()V" } : Jvm.MethodName)) ∈ gG := gG_of 163 (by decide +kernel) rfl
theorem gw_61 : (Jvm.Cond.instanceMethod ({ cls := "GateHouse$Rule", name := "<init>", desc := "()V" } : Jvm.MethodName)) ∈ gG := gG_of 164 (by decide +kernel) rfl
set_option maxRecDepth 20000 in
theorem gw_62 : (Jvm.Cond.code ({ cls := "GateHouse$Rule", name := "<init>", desc := "()V" } : Jvm.MethodName) prog_7_method_1_code (1 : Nat) (Option.none : Option Jvm.ClassFile.FieldType)) ∈ gG := gG_of 165 (rfl) rfl
theorem gw_63 : (Jvm.Cond.methodLink "GateHouse$Rule" (3 : Nat) ({ cls := "java/lang/Object", name := "<init>", desc := "()V" } : Jvm.MethodName)) ∈ gG := gG_of 166 (by decide +kernel) rfl
theorem gw_64 : (Jvm.Cond.fieldLink "GateHouse$Rule" (9 : Nat) "GateHouse$Rule" "low" "[J") ∈ gG := gG_of 167 (by decide +kernel) rfl
theorem gw_65 : (Jvm.Cond.fieldLink "GateHouse$ListWriter" (67 : Nat) "GateHouse$Rule" "low" "[J") ∈ gG := gG_of 168 (by decide +kernel) rfl
theorem gw_66 : (Jvm.Cond.fieldLink "GateHouse$Search" (95 : Nat) "GateHouse$Rule" "low" "[J") ∈ gG := gG_of 169 (by decide +kernel) rfl
theorem gw_67 : (Jvm.Cond.fieldLink "GateHouse$Rule" (15 : Nat) "GateHouse$Rule" "high" "[J") ∈ gG := gG_of 170 (by decide +kernel) rfl
theorem gw_68 : (Jvm.Cond.fieldLink "GateHouse$ListWriter" (75 : Nat) "GateHouse$Rule" "high" "[J") ∈ gG := gG_of 171 (by decide +kernel) rfl
theorem gw_69 : (Jvm.Cond.fieldLink "GateHouse$Search" (102 : Nat) "GateHouse$Rule" "high" "[J") ∈ gG := gG_of 172 (by decide +kernel) rfl
theorem gw_70 : (Jvm.Cond.fieldLink "GateHouse$Rule" (18 : Nat) "GateHouse$Rule" "states" "I") ∈ gG := gG_of 173 (by decide +kernel) rfl
theorem gw_71 : (Jvm.Cond.fieldLink "GateHouse$TextReader" (117 : Nat) "GateHouse$Rule" "states" "I") ∈ gG := gG_of 174 (by decide +kernel) rfl
theorem gw_72 : (Jvm.Cond.fieldLink "GateHouse$Rule" (22 : Nat) "GateHouse$Rule" "action" "I") ∈ gG := gG_of 175 (by decide +kernel) rfl
theorem gw_73 : (Jvm.Cond.fieldLink "GateHouse$ListWriter" (44 : Nat) "GateHouse$Rule" "action" "I") ∈ gG := gG_of 176 (by decide +kernel) rfl
theorem gw_74 : (Jvm.Cond.fieldLink "GateHouse$RuleList" (50 : Nat) "GateHouse$Rule" "action" "I") ∈ gG := gG_of 177 (by decide +kernel) rfl
theorem gw_75 : (Jvm.Cond.fieldLink "GateHouse$Search" (116 : Nat) "GateHouse$Rule" "action" "I") ∈ gG := gG_of 178 (by decide +kernel) rfl
theorem gw_76 : (Jvm.Cond.fieldLink "GateHouse$Rule" (25 : Nat) "GateHouse$Rule" "told" "I") ∈ gG := gG_of 179 (by decide +kernel) rfl
theorem gw_77 : (Jvm.Cond.fieldLink "GateHouse$RuleList" (47 : Nat) "GateHouse$Rule" "told" "I") ∈ gG := gG_of 180 (by decide +kernel) rfl
theorem gw_89 : (Jvm.Cond.arrayClass Jvm.ClassFile.FieldType.long) ∈ gG := gG_of 192 (by decide +kernel) rfl
theorem gw_90 : (Jvm.Cond.fieldLink "GateHouse$RuleList" (11 : Nat) "GateHouse$RuleList" "row" "[LGateHouse$Rule;") ∈ gG := gG_of 193 (by decide +kernel) rfl
theorem gw_91 : (Jvm.Cond.fieldLink "GateHouse$RuleList" (18 : Nat) "GateHouse$RuleList" "size" "I") ∈ gG := gG_of 194 (by decide +kernel) rfl
theorem gw_92 : (Jvm.Cond.fieldLink "GateHouse$Search" (46 : Nat) "GateHouse$RuleList" "size" "I") ∈ gG := gG_of 195 (by decide +kernel) rfl
theorem gw_93 : (Jvm.Cond.fieldLink "GateHouse$ListWriter" (33 : Nat) "GateHouse$RuleList" "size" "I") ∈ gG := gG_of 196 (by decide +kernel) rfl
theorem gw_94 : (Jvm.Cond.fieldLink "GateHouse$TextReader" (75 : Nat) "GateHouse$RuleList" "size" "I") ∈ gG := gG_of 197 (by decide +kernel) rfl
theorem gw_95 : (Jvm.Cond.fieldLink "GateHouse" (103 : Nat) "GateHouse$RuleList" "size" "I") ∈ gG := gG_of 198 (by decide +kernel) rfl
theorem gw_96 : (Jvm.Cond.fieldLink "GateHouse$RuleList" (22 : Nat) "GateHouse$RuleList" "policy" "I") ∈ gG := gG_of 199 (by decide +kernel) rfl
theorem gw_97 : (Jvm.Cond.fieldLink "GateHouse$ListWriter" (17 : Nat) "GateHouse$RuleList" "policy" "I") ∈ gG := gG_of 200 (by decide +kernel) rfl
theorem gw_98 : (Jvm.Cond.fieldLink "GateHouse$Search" (59 : Nat) "GateHouse$RuleList" "policy" "I") ∈ gG := gG_of 201 (by decide +kernel) rfl
theorem gw_99 : (Jvm.Cond.fieldLink "GateHouse$TextReader" (106 : Nat) "GateHouse$RuleList" "policy" "I") ∈ gG := gG_of 202 (by decide +kernel) rfl
theorem gw_100 : (Jvm.Cond.fieldLink "GateHouse" (262 : Nat) "GateHouse$RuleList" "policy" "I") ∈ gG := gG_of 203 (by decide +kernel) rfl
theorem gw_101 : (Jvm.Cond.fieldLink "GateHouse$RuleList" (25 : Nat) "GateHouse$RuleList" "policyTold" "I") ∈ gG := gG_of 204 (by decide +kernel) rfl
theorem gw_102 : (Jvm.Cond.fieldLink "GateHouse" (265 : Nat) "GateHouse$RuleList" "policyTold" "I") ∈ gG := gG_of 205 (by decide +kernel) rfl
theorem gw_112 : (Jvm.Cond.classLink "GateHouse" (32 : Nat) "GateHouse$TextReader") ∈ gG := gG_of 215 (by decide +kernel) rfl
theorem gw_113 : (Jvm.Cond.instantiable "GateHouse$TextReader" (11 : Nat)) ∈ gG := gG_of 216 (by decide +kernel) rfl
theorem gw_114 : (Jvm.Cond.methodLink "GateHouse" (34 : Nat) ({ cls := "GateHouse$TextReader", name := "<init>", desc := "(LGateHouse$Octets;)V" } : Jvm.MethodName)) ∈ gG := gG_of 217 (by decide +kernel) rfl
theorem gw_115 : (Jvm.Cond.instanceMethod ({ cls := "GateHouse$TextReader", name := "<init>", desc := "(LGateHouse$Octets;)V" } : Jvm.MethodName)) ∈ gG := gG_of 218 (by decide +kernel) rfl
set_option maxRecDepth 20000 in
theorem gw_116 : (Jvm.Cond.code ({ cls := "GateHouse$TextReader", name := "<init>", desc := "(LGateHouse$Octets;)V" } : Jvm.MethodName) prog_11_method_1_code (2 : Nat) (Option.none : Option Jvm.ClassFile.FieldType)) ∈ gG := gG_of 219 (rfl) rfl
theorem gw_117 : (Jvm.Cond.methodLink "GateHouse$TextReader" (3 : Nat) ({ cls := "java/lang/Object", name := "<init>", desc := "()V" } : Jvm.MethodName)) ∈ gG := gG_of 220 (by decide +kernel) rfl
theorem gw_118 : (Jvm.Cond.fieldLink "GateHouse$TextReader" (9 : Nat) "GateHouse$TextReader" "text" "LGateHouse$Octets;") ∈ gG := gG_of 221 (by decide +kernel) rfl
theorem gw_119 : (Jvm.Cond.fieldLink "GateHouse$TextReader" (15 : Nat) "GateHouse$TextReader" "faultKind" "I") ∈ gG := gG_of 222 (by decide +kernel) rfl
theorem gw_120 : (Jvm.Cond.fieldLink "GateHouse" (96 : Nat) "GateHouse$TextReader" "faultKind" "I") ∈ gG := gG_of 223 (by decide +kernel) rfl
theorem gw_121 : (Jvm.Cond.fieldLink "GateHouse$TextReader" (19 : Nat) "GateHouse$TextReader" "faultPlace" "I") ∈ gG := gG_of 224 (by decide +kernel) rfl
theorem gw_122 : (Jvm.Cond.fieldLink "GateHouse" (97 : Nat) "GateHouse$TextReader" "faultPlace" "I") ∈ gG := gG_of 225 (by decide +kernel) rfl
theorem gw_123 : (Jvm.Cond.fieldLink "GateHouse$TextReader" (22 : Nat) "GateHouse$TextReader" "kind" "I") ∈ gG := gG_of 226 (by decide +kernel) rfl
theorem gw_124 : (Jvm.Cond.fieldLink "GateHouse$TextReader" (25 : Nat) "GateHouse$TextReader" "start" "I") ∈ gG := gG_of 227 (by decide +kernel) rfl
theorem gw_125 : (Jvm.Cond.fieldLink "GateHouse$TextReader" (28 : Nat) "GateHouse$TextReader" "next" "I") ∈ gG := gG_of 228 (by decide +kernel) rfl
theorem gw_126 : (Jvm.Cond.fieldLink "GateHouse$TextReader" (31 : Nat) "GateHouse$TextReader" "value" "J") ∈ gG := gG_of 229 (by decide +kernel) rfl
theorem gw_127 : (Jvm.Cond.fieldLink "GateHouse$TextReader" (35 : Nat) "GateHouse$TextReader" "awaited" "I") ∈ gG := gG_of 230 (by decide +kernel) rfl
theorem gw_128 : (Jvm.Cond.fieldLink "GateHouse$TextReader" (38 : Nat) "GateHouse$TextReader" "seen" "I") ∈ gG := gG_of 231 (by decide +kernel) rfl
theorem gw_129 : (Jvm.Cond.fieldLink "GateHouse$TextReader" (41 : Nat) "GateHouse$TextReader" "part" "I") ∈ gG := gG_of 232 (by decide +kernel) rfl
theorem gw_130 : (Jvm.Cond.fieldLink "GateHouse$TextReader" (44 : Nat) "GateHouse$TextReader" "from" "J") ∈ gG := gG_of 233 (by decide +kernel) rfl
theorem gw_154 : (Jvm.Cond.classLink "GateHouse" (41 : Nat) "GateHouse$Search") ∈ gG := gG_of 257 (by decide +kernel) rfl
theorem gw_155 : (Jvm.Cond.instantiable "GateHouse$Search" (9 : Nat)) ∈ gG := gG_of 258 (by decide +kernel) rfl
theorem gw_156 : (Jvm.Cond.methodLink "GateHouse" (43 : Nat) ({ cls := "GateHouse$Search", name := "<init>", desc := "()V" } : Jvm.MethodName)) ∈ gG := gG_of 259 (by decide +kernel) rfl
theorem gw_157 : (Jvm.Cond.instanceMethod ({ cls := "GateHouse$Search", name := "<init>", desc := "()V" } : Jvm.MethodName)) ∈ gG := gG_of 260 (by decide +kernel) rfl
set_option maxRecDepth 20000 in
theorem gw_158 : (Jvm.Cond.code ({ cls := "GateHouse$Search", name := "<init>", desc := "()V" } : Jvm.MethodName) prog_9_method_1_code (1 : Nat) (Option.none : Option Jvm.ClassFile.FieldType)) ∈ gG := gG_of 261 (rfl) rfl
theorem gw_159 : (Jvm.Cond.methodLink "GateHouse$Search" (5 : Nat) ({ cls := "java/lang/Object", name := "<init>", desc := "()V" } : Jvm.MethodName)) ∈ gG := gG_of 262 (by decide +kernel) rfl
theorem gw_160 : (Jvm.Cond.classLink "GateHouse$Search" (15 : Nat) "[[J") ∈ gG := gG_of 263 (by decide +kernel) rfl
theorem gw_162 : (Jvm.Cond.classLink "GateHouse$Search" (20 : Nat) "[[I") ∈ gG := gG_of 265 (by decide +kernel) rfl
theorem gw_164 : (Jvm.Cond.fieldLink "GateHouse$Search" (11 : Nat) "GateHouse$Search" "point" "[J") ∈ gG := gG_of 267 (by decide +kernel) rfl
theorem gw_165 : (Jvm.Cond.fieldLink "GateHouse" (268 : Nat) "GateHouse$Search" "point" "[J") ∈ gG := gG_of 268 (by decide +kernel) rfl
theorem gw_166 : (Jvm.Cond.fieldLink "GateHouse$Search" (17 : Nat) "GateHouse$Search" "cut" "[[J") ∈ gG := gG_of 269 (by decide +kernel) rfl
theorem gw_167 : (Jvm.Cond.fieldLink "GateHouse$Search" (22 : Nat) "GateHouse$Search" "met" "[[I") ∈ gG := gG_of 270 (by decide +kernel) rfl
theorem gw_168 : (Jvm.Cond.fieldLink "GateHouse$Search" (25 : Nat) "GateHouse$Search" "cuts" "[I") ∈ gG := gG_of 271 (by decide +kernel) rfl
theorem gw_169 : (Jvm.Cond.fieldLink "GateHouse$Search" (29 : Nat) "GateHouse$Search" "wholeFrom" "[I") ∈ gG := gG_of 272 (by decide +kernel) rfl
theorem gw_170 : (Jvm.Cond.fieldLink "GateHouse$Search" (32 : Nat) "GateHouse$Search" "ofAction" "[I") ∈ gG := gG_of 273 (by decide +kernel) rfl
theorem gw_171 : (Jvm.Cond.fieldLink "GateHouse$Search" (35 : Nat) "GateHouse$Search" "twins" "I") ∈ gG := gG_of 274 (by decide +kernel) rfl
theorem gw_172 : (Jvm.Cond.fieldLink "GateHouse$Search" (39 : Nat) "GateHouse$Search" "inVain" "[J") ∈ gG := gG_of 275 (by decide +kernel) rfl
theorem gw_173 : (Jvm.Cond.fieldLink "GateHouse$Search" (42 : Nat) "GateHouse$Search" "turn" "J") ∈ gG := gG_of 276 (by decide +kernel) rfl
theorem gw_193 : (Jvm.Cond.arrayClass Jvm.ClassFile.FieldType.int) ∈ gG := gG_of 296 (by decide +kernel) rfl
theorem gw_194 : (Jvm.Cond.classLink "GateHouse" (48 : Nat) "GateHouse$Table") ∈ gG := gG_of 297 (by decide +kernel) rfl
theorem gw_195 : (Jvm.Cond.instantiable "GateHouse$Table" (6 : Nat)) ∈ gG := gG_of 298 (by decide +kernel) rfl
theorem gw_196 : (Jvm.Cond.methodLink "GateHouse" (50 : Nat) ({ cls := "GateHouse$Table", name := "<init>", desc := "()V" } : Jvm.MethodName)) ∈ gG := gG_of 299 (by decide +kernel) rfl
theorem gw_197 : (Jvm.Cond.instanceMethod ({ cls := "GateHouse$Table", name := "<init>", desc := "()V" } : Jvm.MethodName)) ∈ gG := gG_of 300 (by decide +kernel) rfl
set_option maxRecDepth 20000 in
theorem gw_198 : (Jvm.Cond.code ({ cls := "GateHouse$Table", name := "<init>", desc := "()V" } : Jvm.MethodName) prog_10_method_1_code (2 : Nat) (Option.none : Option Jvm.ClassFile.FieldType)) ∈ gG := gG_of 301 (rfl) rfl
theorem gw_199 : (Jvm.Cond.methodLink "GateHouse$Table" (3 : Nat) ({ cls := "java/lang/Object", name := "<init>", desc := "()V" } : Jvm.MethodName)) ∈ gG := gG_of 302 (by decide +kernel) rfl
theorem gw_200 : (Jvm.Cond.classLink "GateHouse$Table" (11 : Nat) "GateHouse$Connection") ∈ gG := gG_of 303 (by decide +kernel) rfl
theorem gw_202 : (Jvm.Cond.instantiable "GateHouse$Connection" (9 : Nat)) ∈ gG := gG_of 305 (by decide +kernel) rfl
theorem gw_203 : (Jvm.Cond.methodLink "GateHouse$Table" (17 : Nat) ({ cls := "GateHouse$Connection", name := "<init>", desc := "()V" } : Jvm.MethodName)) ∈ gG := gG_of 306 (by decide +kernel) rfl
theorem gw_204 : (Jvm.Cond.instanceMethod ({ cls := "GateHouse$Connection", name := "<init>", desc := "()V" } : Jvm.MethodName)) ∈ gG := gG_of 307 (by decide +kernel) rfl
set_option maxRecDepth 20000 in
theorem gw_205 : (Jvm.Cond.code ({ cls := "GateHouse$Connection", name := "<init>", desc := "()V" } : Jvm.MethodName) prog_2_method_1_code (1 : Nat) (Option.none : Option Jvm.ClassFile.FieldType)) ∈ gG := gG_of 308 (rfl) rfl
theorem gw_206 : (Jvm.Cond.methodLink "GateHouse$Connection" (3 : Nat) ({ cls := "java/lang/Object", name := "<init>", desc := "()V" } : Jvm.MethodName)) ∈ gG := gG_of 309 (by decide +kernel) rfl
theorem gw_207 : (Jvm.Cond.fieldLink "GateHouse$Connection" (9 : Nat) "GateHouse$Connection" "proto" "I") ∈ gG := gG_of 310 (by decide +kernel) rfl
theorem gw_208 : (Jvm.Cond.fieldLink "GateHouse$Connection" (15 : Nat) "GateHouse$Connection" "src" "J") ∈ gG := gG_of 311 (by decide +kernel) rfl
theorem gw_209 : (Jvm.Cond.fieldLink "GateHouse$Connection" (19 : Nat) "GateHouse$Connection" "dst" "J") ∈ gG := gG_of 312 (by decide +kernel) rfl
theorem gw_210 : (Jvm.Cond.fieldLink "GateHouse$Connection" (22 : Nat) "GateHouse$Connection" "sport" "J") ∈ gG := gG_of 313 (by decide +kernel) rfl
theorem gw_211 : (Jvm.Cond.fieldLink "GateHouse$Connection" (25 : Nat) "GateHouse$Connection" "dport" "J") ∈ gG := gG_of 314 (by decide +kernel) rfl
theorem gw_212 : (Jvm.Cond.fieldLink "GateHouse$Connection" (28 : Nat) "GateHouse$Connection" "phase" "I") ∈ gG := gG_of 315 (by decide +kernel) rfl
theorem gw_213 : (Jvm.Cond.fieldLink "GateHouse$Connection" (31 : Nat) "GateHouse$Connection" "answered" "Z") ∈ gG := gG_of 316 (by decide +kernel) rfl
theorem gw_214 : (Jvm.Cond.fieldLink "GateHouse$Table" (60 : Nat) "GateHouse$Connection" "answered" "Z") ∈ gG := gG_of 317 (by decide +kernel) rfl
theorem gw_215 : (Jvm.Cond.fieldLink "GateHouse$Connection" (35 : Nat) "GateHouse$Connection" "firstFin" "I") ∈ gG := gG_of 318 (by decide +kernel) rfl
theorem gw_216 : (Jvm.Cond.fieldLink "GateHouse$Connection" (38 : Nat) "GateHouse$Connection" "due" "I") ∈ gG := gG_of 319 (by decide +kernel) rfl
theorem gw_217 : (Jvm.Cond.fieldLink "GateHouse$Table" (39 : Nat) "GateHouse$Connection" "due" "I") ∈ gG := gG_of 320 (by decide +kernel) rfl
theorem gw_237 : (Jvm.Cond.fieldLink "GateHouse$Table" (13 : Nat) "GateHouse$Table" "row" "[LGateHouse$Connection;") ∈ gG := gG_of 340 (by decide +kernel) rfl
theorem gw_238 : (Jvm.Cond.fieldLink "GateHouse$Table" (18 : Nat) "GateHouse$Table" "size" "I") ∈ gG := gG_of 341 (by decide +kernel) rfl
theorem gw_239 : (Jvm.Cond.fieldLink "GateHouse" (226 : Nat) "GateHouse$Table" "size" "I") ∈ gG := gG_of 342 (by decide +kernel) rfl
theorem gw_240 : (Jvm.Cond.fieldLink "GateHouse$Table" (22 : Nat) "GateHouse$Table" "most" "I") ∈ gG := gG_of 343 (by decide +kernel) rfl
theorem gw_241 : (Jvm.Cond.fieldLink "GateHouse" (240 : Nat) "GateHouse$Table" "most" "I") ∈ gG := gG_of 344 (by decide +kernel) rfl
theorem gw_242 : (Jvm.Cond.fieldLink "GateHouse$Table" (25 : Nat) "GateHouse$Table" "time" "I") ∈ gG := gG_of 345 (by decide +kernel) rfl
theorem gw_243 : (Jvm.Cond.fieldLink "GateHouse" (237 : Nat) "GateHouse$Table" "time" "I") ∈ gG := gG_of 346 (by decide +kernel) rfl
theorem gw_244 : (Jvm.Cond.fieldLink "GateHouse$Table" (28 : Nat) "GateHouse$Table" "pushedOut" "I") ∈ gG := gG_of 347 (by decide +kernel) rfl
theorem gw_245 : (Jvm.Cond.fieldLink "GateHouse" (243 : Nat) "GateHouse$Table" "pushedOut" "I") ∈ gG := gG_of 348 (by decide +kernel) rfl
theorem gw_246 : (Jvm.Cond.fieldLink "GateHouse$Table" (31 : Nat) "GateHouse$Table" "refused" "I") ∈ gG := gG_of 349 (by decide +kernel) rfl
theorem gw_247 : (Jvm.Cond.fieldLink "GateHouse" (246 : Nat) "GateHouse$Table" "refused" "I") ∈ gG := gG_of 350 (by decide +kernel) rfl
theorem gw_261 : (Jvm.Cond.classLink "GateHouse" (55 : Nat) "GateHouse$Packet") ∈ gG := gG_of 364 (by decide +kernel) rfl
theorem gw_262 : (Jvm.Cond.instantiable "GateHouse$Packet" (2 : Nat)) ∈ gG := gG_of 365 (by decide +kernel) rfl
theorem gw_263 : (Jvm.Cond.methodLink "GateHouse" (57 : Nat) ({ cls := "GateHouse$Packet", name := "<init>", desc := "()V" } : Jvm.MethodName)) ∈ gG := gG_of 366 (by decide +kernel) rfl
theorem gw_264 : (Jvm.Cond.instanceMethod ({ cls := "GateHouse$Packet", name := "<init>", desc := "()V" } : Jvm.MethodName)) ∈ gG := gG_of 367 (by decide +kernel) rfl
set_option maxRecDepth 20000 in
theorem gw_265 : (Jvm.Cond.code ({ cls := "GateHouse$Packet", name := "<init>", desc := "()V" } : Jvm.MethodName) prog_5_method_1_code (1 : Nat) (Option.none : Option Jvm.ClassFile.FieldType)) ∈ gG := gG_of 368 (rfl) rfl
theorem gw_266 : (Jvm.Cond.methodLink "GateHouse$Packet" (3 : Nat) ({ cls := "java/lang/Object", name := "<init>", desc := "()V" } : Jvm.MethodName)) ∈ gG := gG_of 369 (by decide +kernel) rfl
theorem gw_267 : (Jvm.Cond.fieldLink "GateHouse$Packet" (9 : Nat) "GateHouse$Packet" "field" "[J") ∈ gG := gG_of 370 (by decide +kernel) rfl
theorem gw_268 : (Jvm.Cond.fieldLink "GateHouse$Connection" (41 : Nat) "GateHouse$Packet" "field" "[J") ∈ gG := gG_of 371 (by decide +kernel) rfl
theorem gw_269 : (Jvm.Cond.fieldLink "GateHouse$Wire" (46 : Nat) "GateHouse$Packet" "field" "[J") ∈ gG := gG_of 372 (by decide +kernel) rfl
theorem gw_270 : (Jvm.Cond.fieldLink "GateHouse$Rule" (31 : Nat) "GateHouse$Packet" "field" "[J") ∈ gG := gG_of 373 (by decide +kernel) rfl
theorem gw_271 : (Jvm.Cond.fieldLink "GateHouse" (211 : Nat) "GateHouse$Packet" "field" "[J") ∈ gG := gG_of 374 (by decide +kernel) rfl
theorem gw_272 : (Jvm.Cond.fieldLink "GateHouse$Packet" (15 : Nat) "GateHouse$Packet" "flags" "I") ∈ gG := gG_of 375 (by decide +kernel) rfl
theorem gw_273 : (Jvm.Cond.fieldLink "GateHouse$Connection" (57 : Nat) "GateHouse$Packet" "flags" "I") ∈ gG := gG_of 376 (by decide +kernel) rfl
theorem gw_274 : (Jvm.Cond.fieldLink "GateHouse$Wire" (59 : Nat) "GateHouse$Packet" "flags" "I") ∈ gG := gG_of 377 (by decide +kernel) rfl
theorem gw_275 : (Jvm.Cond.fieldLink "GateHouse$Table" (85 : Nat) "GateHouse$Packet" "flags" "I") ∈ gG := gG_of 378 (by decide +kernel) rfl
theorem gw_276 : (Jvm.Cond.fieldLink "GateHouse" (185 : Nat) "GateHouse$Packet" "flags" "I") ∈ gG := gG_of 379 (by decide +kernel) rfl
theorem gw_282 : (Jvm.Cond.fieldLink "GateHouse" (14 : Nat) "GateHouse" "tape" "LGateHouse$Octets;") ∈ gG := gG_of 385 (by decide +kernel) rfl
theorem gw_283 : (Jvm.Cond.fieldLink "GateHouse" (18 : Nat) "GateHouse" "out" "LGateHouse$Octets;") ∈ gG := gG_of 386 (by decide +kernel) rfl
theorem gw_284 : (Jvm.Cond.fieldLink "GateHouse" (23 : Nat) "GateHouse" "lists" "[LGateHouse$RuleList;") ∈ gG := gG_of 387 (by decide +kernel) rfl
theorem gw_285 : (Jvm.Cond.fieldLink "GateHouse" (37 : Nat) "GateHouse" "reader" "LGateHouse$TextReader;") ∈ gG := gG_of 388 (by decide +kernel) rfl
theorem gw_286 : (Jvm.Cond.fieldLink "GateHouse" (44 : Nat) "GateHouse" "search" "LGateHouse$Search;") ∈ gG := gG_of 389 (by decide +kernel) rfl
theorem gw_287 : (Jvm.Cond.fieldLink "GateHouse" (51 : Nat) "GateHouse" "table" "LGateHouse$Table;") ∈ gG := gG_of 390 (by decide +kernel) rfl
theorem gw_288 : (Jvm.Cond.fieldLink "GateHouse" (58 : Nat) "GateHouse" "latest" "LGateHouse$Packet;") ∈ gG := gG_of 391 (by decide +kernel) rfl
theorem gw_289 : (Jvm.Cond.fieldLink "GateHouse" (62 : Nat) "GateHouse" "told" "LGateHouse$Packet;") ∈ gG := gG_of 392 (by decide +kernel) rfl
theorem gw_290 : (Jvm.Cond.fieldLink "GateHouse" (65 : Nat) "GateHouse" "probe" "LGateHouse$Packet;") ∈ gG := gG_of 393 (by decide +kernel) rfl
theorem gw_291 : (Jvm.Cond.fieldLink "GateHouse" (68 : Nat) "GateHouse" "point" "[J") ∈ gG := gG_of 394 (by decide +kernel) rfl
theorem gw_292 : (Jvm.Cond.fieldLink "GateHouse" (28 : Nat) "GateHouse" "draft" "LGateHouse$RuleList;") ∈ gG := gG_of 395 (by decide +kernel) rfl
theorem gw_293 : (Jvm.Cond.fieldLink "GateHouse" (72 : Nat) "GateHouse" "hasPoint" "Z") ∈ gG := gG_of 396 (by decide +kernel) rfl
theorem gw_294 : (Jvm.Cond.fieldLink "GateHouse" (76 : Nat) "GateHouse" "faultKind" "I") ∈ gG := gG_of 397 (by decide +kernel) rfl
theorem gw_295 : (Jvm.Cond.fieldLink "GateHouse" (80 : Nat) "GateHouse" "came" "I") ∈ gG := gG_of 398 (by decide +kernel) rfl
theorem gw_325 : (Jvm.Cond.methodLink "GateHouseLaw" (68 : Nat) ({ cls := "GateHouse", name := "feed", desc := "(IIIII)I" } : Jvm.MethodName)) ∈ gG := gG_of 428 (by decide +kernel) rfl
theorem gw_326 : (Jvm.Cond.instanceMethod ({ cls := "GateHouse", name := "feed", desc := "(IIIII)I" } : Jvm.MethodName)) ∈ gG := gG_of 429 (by decide +kernel) rfl
theorem gw_327 : (Jvm.Cond.selects "GateHouse" ({ cls := "GateHouse", name := "feed", desc := "(IIIII)I" } : Jvm.MethodName) ({ cls := "GateHouse", name := "feed", desc := "(IIIII)I" } : Jvm.MethodName)) ∈ gG := gG_of 430 (by decide +kernel) rfl
set_option maxRecDepth 20000 in
theorem gw_328 : (Jvm.Cond.code ({ cls := "GateHouse", name := "feed", desc := "(IIIII)I" } : Jvm.MethodName) prog_1_method_2_code (6 : Nat) (Option.some Jvm.ClassFile.FieldType.int)) ∈ gG := gG_of 431 (rfl) rfl
theorem gw_329 : (Jvm.Cond.methodLink "GateHouse" (86 : Nat) ({ cls := "GateHouse$Octets", name := "addQuad", desc := "(I)V" } : Jvm.MethodName)) ∈ gG := gG_of 432 (by decide +kernel) rfl
theorem gw_330 : (Jvm.Cond.instanceMethod ({ cls := "GateHouse$Octets", name := "addQuad", desc := "(I)V" } : Jvm.MethodName)) ∈ gG := gG_of 433 (by decide +kernel) rfl
theorem gw_331 : (Jvm.Cond.selects "GateHouse$Octets" ({ cls := "GateHouse$Octets", name := "addQuad", desc := "(I)V" } : Jvm.MethodName) ({ cls := "GateHouse$Octets", name := "addQuad", desc := "(I)V" } : Jvm.MethodName)) ∈ gG := gG_of 434 (by decide +kernel) rfl
set_option maxRecDepth 20000 in
theorem gw_332 : (Jvm.Cond.code ({ cls := "GateHouse$Octets", name := "addQuad", desc := "(I)V" } : Jvm.MethodName) prog_4_method_7_code (2 : Nat) (Option.none : Option Jvm.ClassFile.FieldType)) ∈ gG := gG_of 435 (rfl) rfl
theorem gw_333 : (Jvm.Cond.methodLink "GateHouse$Octets" (30 : Nat) ({ cls := "GateHouse$Octets", name := "addPair", desc := "(I)V" } : Jvm.MethodName)) ∈ gG := gG_of 436 (by decide +kernel) rfl
theorem gw_334 : (Jvm.Cond.instanceMethod ({ cls := "GateHouse$Octets", name := "addPair", desc := "(I)V" } : Jvm.MethodName)) ∈ gG := gG_of 437 (by decide +kernel) rfl
theorem gw_335 : (Jvm.Cond.selects "GateHouse$Octets" ({ cls := "GateHouse$Octets", name := "addPair", desc := "(I)V" } : Jvm.MethodName) ({ cls := "GateHouse$Octets", name := "addPair", desc := "(I)V" } : Jvm.MethodName)) ∈ gG := gG_of 438 (by decide +kernel) rfl
set_option maxRecDepth 20000 in
theorem gw_336 : (Jvm.Cond.code ({ cls := "GateHouse$Octets", name := "addPair", desc := "(I)V" } : Jvm.MethodName) prog_4_method_6_code (2 : Nat) (Option.none : Option Jvm.ClassFile.FieldType)) ∈ gG := gG_of 439 (rfl) rfl
theorem gw_337 : (Jvm.Cond.methodLink "GateHouse$Octets" (26 : Nat) ({ cls := "GateHouse$Octets", name := "add", desc := "(I)V" } : Jvm.MethodName)) ∈ gG := gG_of 440 (by decide +kernel) rfl
theorem gw_338 : (Jvm.Cond.instanceMethod ({ cls := "GateHouse$Octets", name := "add", desc := "(I)V" } : Jvm.MethodName)) ∈ gG := gG_of 441 (by decide +kernel) rfl
theorem gw_339 : (Jvm.Cond.selects "GateHouse$Octets" ({ cls := "GateHouse$Octets", name := "add", desc := "(I)V" } : Jvm.MethodName) ({ cls := "GateHouse$Octets", name := "add", desc := "(I)V" } : Jvm.MethodName)) ∈ gG := gG_of 442 (by decide +kernel) rfl
set_option maxRecDepth 20000 in
theorem gw_340 : (Jvm.Cond.code ({ cls := "GateHouse$Octets", name := "add", desc := "(I)V" } : Jvm.MethodName) prog_4_method_5_code (2 : Nat) (Option.none : Option Jvm.ClassFile.FieldType)) ∈ gG := gG_of 443 (rfl) rfl
theorem gw_341 : (Jvm.Cond.methodLink "GateHouseLaw" (73 : Nat) ({ cls := "GateHouse", name := "end", desc := "(I)Z" } : Jvm.MethodName)) ∈ gG := gG_of 444 (by decide +kernel) rfl
theorem gw_342 : (Jvm.Cond.instanceMethod ({ cls := "GateHouse", name := "end", desc := "(I)Z" } : Jvm.MethodName)) ∈ gG := gG_of 445 (by decide +kernel) rfl
theorem gw_343 : (Jvm.Cond.selects "GateHouse" ({ cls := "GateHouse", name := "end", desc := "(I)Z" } : Jvm.MethodName) ({ cls := "GateHouse", name := "end", desc := "(I)Z" } : Jvm.MethodName)) ∈ gG := gG_of 446 (by decide +kernel) rfl
set_option maxRecDepth 20000 in
theorem gw_344 : (Jvm.Cond.code ({ cls := "GateHouse", name := "end", desc := "(I)Z" } : Jvm.MethodName) prog_1_method_3_code (2 : Nat) (Option.some Jvm.ClassFile.FieldType.boolean)) ∈ gG := gG_of 447 (rfl) rfl
theorem gw_345 : (Jvm.Cond.methodLink "GateHouseLaw" (87 : Nat) ({ cls := "GateHouse", name := "fault", desc := "()I" } : Jvm.MethodName)) ∈ gG := gG_of 448 (by decide +kernel) rfl
theorem gw_346 : (Jvm.Cond.instanceMethod ({ cls := "GateHouse", name := "fault", desc := "()I" } : Jvm.MethodName)) ∈ gG := gG_of 449 (by decide +kernel) rfl
theorem gw_347 : (Jvm.Cond.selects "GateHouse" ({ cls := "GateHouse", name := "fault", desc := "()I" } : Jvm.MethodName) ({ cls := "GateHouse", name := "fault", desc := "()I" } : Jvm.MethodName)) ∈ gG := gG_of 450 (by decide +kernel) rfl
set_option maxRecDepth 20000 in
theorem gw_348 : (Jvm.Cond.code ({ cls := "GateHouse", name := "fault", desc := "()I" } : Jvm.MethodName) prog_1_method_5_code (1 : Nat) (Option.some Jvm.ClassFile.FieldType.int)) ∈ gG := gG_of 451 (rfl) rfl
theorem gw_349 : (Jvm.Cond.methodLink "GateHouseLaw" (121 : Nat) ({ cls := "GateHouse", name := "now", desc := "(I)Z" } : Jvm.MethodName)) ∈ gG := gG_of 452 (by decide +kernel) rfl
theorem gw_350 : (Jvm.Cond.instanceMethod ({ cls := "GateHouse", name := "now", desc := "(I)Z" } : Jvm.MethodName)) ∈ gG := gG_of 453 (by decide +kernel) rfl
theorem gw_351 : (Jvm.Cond.selects "GateHouse" ({ cls := "GateHouse", name := "now", desc := "(I)Z" } : Jvm.MethodName) ({ cls := "GateHouse", name := "now", desc := "(I)Z" } : Jvm.MethodName)) ∈ gG := gG_of 454 (by decide +kernel) rfl
set_option maxRecDepth 20000 in
theorem gw_352 : (Jvm.Cond.code ({ cls := "GateHouse", name := "now", desc := "(I)Z" } : Jvm.MethodName) prog_1_method_15_code (2 : Nat) (Option.some Jvm.ClassFile.FieldType.boolean)) ∈ gG := gG_of 455 (rfl) rfl
theorem gw_353 : (Jvm.Cond.methodLink "GateHouse" (176 : Nat) ({ cls := "GateHouse$Table", name := "setTime", desc := "(I)Z" } : Jvm.MethodName)) ∈ gG := gG_of 456 (by decide +kernel) rfl
theorem gw_354 : (Jvm.Cond.instanceMethod ({ cls := "GateHouse$Table", name := "setTime", desc := "(I)Z" } : Jvm.MethodName)) ∈ gG := gG_of 457 (by decide +kernel) rfl
theorem gw_355 : (Jvm.Cond.selects "GateHouse$Table" ({ cls := "GateHouse$Table", name := "setTime", desc := "(I)Z" } : Jvm.MethodName) ({ cls := "GateHouse$Table", name := "setTime", desc := "(I)Z" } : Jvm.MethodName)) ∈ gG := gG_of 458 (by decide +kernel) rfl
set_option maxRecDepth 20000 in
theorem gw_356 : (Jvm.Cond.code ({ cls := "GateHouse$Table", name := "setTime", desc := "(I)Z" } : Jvm.MethodName) prog_10_method_3_code (3 : Nat) (Option.some Jvm.ClassFile.FieldType.boolean)) ∈ gG := gG_of 459 (rfl) rfl
theorem gw_357 : (Jvm.Cond.constant "GateHouse$Table" (34 : Nat) (1000000000 : Int32)) ∈ gG := gG_of 460 (by decide +kernel) rfl
theorem gw_358 : (Jvm.Cond.methodLink "GateHouse$Table" (35 : Nat) ({ cls := "GateHouse$Table", name := "at", desc := "(I)LGateHouse$Connection;" } : Jvm.MethodName)) ∈ gG := gG_of 461 (by decide +kernel) rfl
theorem gw_359 : (Jvm.Cond.instanceMethod ({ cls := "GateHouse$Table", name := "at", desc := "(I)LGateHouse$Connection;" } : Jvm.MethodName)) ∈ gG := gG_of 462 (by decide +kernel) rfl
theorem gw_360 : (Jvm.Cond.selects "GateHouse$Table" ({ cls := "GateHouse$Table", name := "at", desc := "(I)LGateHouse$Connection;" } : Jvm.MethodName) ({ cls := "GateHouse$Table", name := "at", desc := "(I)LGateHouse$Connection;" } : Jvm.MethodName)) ∈ gG := gG_of 463 (by decide +kernel) rfl
set_option maxRecDepth 20000 in
theorem gw_361 : (Jvm.Cond.code ({ cls := "GateHouse$Table", name := "at", desc := "(I)LGateHouse$Connection;" } : Jvm.MethodName) prog_10_method_2_code (2 : Nat) (Option.some (Jvm.ClassFile.FieldType.object "GateHouse$Connection"))) ∈ gG := gG_of 464 (rfl) rfl
theorem gw_362 : (Jvm.Cond.methodLink "GateHouse$Table" (42 : Nat) ({ cls := "GateHouse$Table", name := "remove", desc := "(I)V" } : Jvm.MethodName)) ∈ gG := gG_of 465 (by decide +kernel) rfl
theorem gw_364 : (Jvm.Cond.instanceMethod ({ cls := "GateHouse$Table", name := "remove", desc := "(I)V" } : Jvm.MethodName)) ∈ gG := gG_of 467 (by decide +kernel) rfl
set_option maxRecDepth 20000 in
theorem gw_365 : (Jvm.Cond.code ({ cls := "GateHouse$Table", name := "remove", desc := "(I)V" } : Jvm.MethodName) prog_10_method_11_code (4 : Nat) (Option.none : Option Jvm.ClassFile.FieldType)) ∈ gG := gG_of 468 (rfl) rfl
theorem gw_366 : (Jvm.Cond.methodLink "GateHouseLaw" (125 : Nat) ({ cls := "GateHouse", name := "room", desc := "(I)Z" } : Jvm.MethodName)) ∈ gG := gG_of 469 (by decide +kernel) rfl
theorem gw_367 : (Jvm.Cond.instanceMethod ({ cls := "GateHouse", name := "room", desc := "(I)Z" } : Jvm.MethodName)) ∈ gG := gG_of 470 (by decide +kernel) rfl
theorem gw_368 : (Jvm.Cond.selects "GateHouse" ({ cls := "GateHouse", name := "room", desc := "(I)Z" } : Jvm.MethodName) ({ cls := "GateHouse", name := "room", desc := "(I)Z" } : Jvm.MethodName)) ∈ gG := gG_of 471 (by decide +kernel) rfl
set_option maxRecDepth 20000 in
theorem gw_369 : (Jvm.Cond.code ({ cls := "GateHouse", name := "room", desc := "(I)Z" } : Jvm.MethodName) prog_1_method_16_code (2 : Nat) (Option.some Jvm.ClassFile.FieldType.boolean)) ∈ gG := gG_of 472 (rfl) rfl
theorem gw_370 : (Jvm.Cond.methodLink "GateHouse" (180 : Nat) ({ cls := "GateHouse$Table", name := "setRoom", desc := "(I)Z" } : Jvm.MethodName)) ∈ gG := gG_of 473 (by decide +kernel) rfl
theorem gw_371 : (Jvm.Cond.instanceMethod ({ cls := "GateHouse$Table", name := "setRoom", desc := "(I)Z" } : Jvm.MethodName)) ∈ gG := gG_of 474 (by decide +kernel) rfl
theorem gw_372 : (Jvm.Cond.selects "GateHouse$Table" ({ cls := "GateHouse$Table", name := "setRoom", desc := "(I)Z" } : Jvm.MethodName) ({ cls := "GateHouse$Table", name := "setRoom", desc := "(I)Z" } : Jvm.MethodName)) ∈ gG := gG_of 475 (by decide +kernel) rfl
set_option maxRecDepth 20000 in
theorem gw_373 : (Jvm.Cond.code ({ cls := "GateHouse$Table", name := "setRoom", desc := "(I)Z" } : Jvm.MethodName) prog_10_method_4_code (2 : Nat) (Option.some Jvm.ClassFile.FieldType.boolean)) ∈ gG := gG_of 476 (rfl) rfl
theorem gw_374 : (Jvm.Cond.methodLink "GateHouseLaw" (143 : Nat) ({ cls := "GateHouse", name := "count", desc := "(I)I" } : Jvm.MethodName)) ∈ gG := gG_of 477 (by decide +kernel) rfl
theorem gw_375 : (Jvm.Cond.instanceMethod ({ cls := "GateHouse", name := "count", desc := "(I)I" } : Jvm.MethodName)) ∈ gG := gG_of 478 (by decide +kernel) rfl
theorem gw_376 : (Jvm.Cond.selects "GateHouse" ({ cls := "GateHouse", name := "count", desc := "(I)I" } : Jvm.MethodName) ({ cls := "GateHouse", name := "count", desc := "(I)I" } : Jvm.MethodName)) ∈ gG := gG_of 479 (by decide +kernel) rfl
set_option maxRecDepth 20000 in
theorem gw_377 : (Jvm.Cond.code ({ cls := "GateHouse", name := "count", desc := "(I)I" } : Jvm.MethodName) prog_1_method_21_code (2 : Nat) (Option.some Jvm.ClassFile.FieldType.int)) ∈ gG := gG_of 480 (rfl) rfl
theorem gw_378 : (Jvm.Cond.methodLink "GateHouseLaw" (78 : Nat) ({ cls := "GateHouseLaw", name := "load", desc := "(LGateHouse;I[J)I" } : Jvm.MethodName)) ∈ gG := gG_of 481 (by decide +kernel) rfl
theorem gw_379 : (Jvm.Cond.static ({ cls := "GateHouseLaw", name := "load", desc := "(LGateHouse;I[J)I" } : Jvm.MethodName)) ∈ gG := gG_of 482 (by decide +kernel) rfl
set_option maxRecDepth 20000 in
theorem gw_380 : (Jvm.Cond.codeWith ({ cls := "GateHouseLaw", name := "load", desc := "(LGateHouse;I[J)I" } : Jvm.MethodName) method_3_code (4 : Nat) (Option.some Jvm.ClassFile.FieldType.int) [((0 : Nat), (9 : Nat), (12 : Nat), (13 : Nat))]) ∈ gG := gG_of 483 (rfl) rfl
theorem gw_381 : (Jvm.Cond.classLink "GateHouseLaw" (13 : Nat) "java/lang/IndexOutOfBoundsException") ∈ gG := gG_of 484 (by decide +kernel) rfl
theorem gw_382 : (Jvm.Cond.methodLink "GateHouseLaw" (7 : Nat) ({ cls := "GateHouse", name := "load", desc := "(I)I" } : Jvm.MethodName)) ∈ gG := gG_of 485 (by decide +kernel) rfl
theorem gw_383 : (Jvm.Cond.instanceMethod ({ cls := "GateHouse", name := "load", desc := "(I)I" } : Jvm.MethodName)) ∈ gG := gG_of 486 (by decide +kernel) rfl
theorem gw_384 : (Jvm.Cond.selects "GateHouse" ({ cls := "GateHouse", name := "load", desc := "(I)I" } : Jvm.MethodName) ({ cls := "GateHouse", name := "load", desc := "(I)I" } : Jvm.MethodName)) ∈ gG := gG_of 487 (by decide +kernel) rfl
set_option maxRecDepth 20000 in
theorem gw_385 : (Jvm.Cond.code ({ cls := "GateHouse", name := "load", desc := "(I)I" } : Jvm.MethodName) prog_1_method_4_code (3 : Nat) (Option.some Jvm.ClassFile.FieldType.int)) ∈ gG := gG_of 488 (rfl) rfl
theorem gw_386 : (Jvm.Cond.methodLink "GateHouse" (89 : Nat) ({ cls := "GateHouse", name := "checkList", desc := "(I)V" } : Jvm.MethodName)) ∈ gG := gG_of 489 (by decide +kernel) rfl
theorem gw_387 : (Jvm.Cond.static ({ cls := "GateHouse", name := "checkList", desc := "(I)V" } : Jvm.MethodName)) ∈ gG := gG_of 490 (by decide +kernel) rfl
set_option maxRecDepth 20000 in
theorem gw_388 : (Jvm.Cond.code ({ cls := "GateHouse", name := "checkList", desc := "(I)V" } : Jvm.MethodName) prog_1_method_22_code (1 : Nat) (Option.none : Option Jvm.ClassFile.FieldType)) ∈ gG := gG_of 491 (rfl) rfl
theorem gw_389 : (Jvm.Cond.classLink "GateHouse" (249 : Nat) "java/lang/IndexOutOfBoundsException") ∈ gG := gG_of 492 (by decide +kernel) rfl
theorem gw_390 : (Jvm.Cond.instantiable "java/lang/IndexOutOfBoundsException" (6 : Nat)) ∈ gG := gG_of 493 (by decide +kernel) rfl
theorem gw_398 : (Jvm.Cond.selects "java/lang/IndexOutOfBoundsException" ({ cls := "java/lang/Throwable", name := "fillInStackTrace", desc := "(I)Ljava/lang/Throwable;" } : Jvm.MethodName) ({ cls := "java/lang/Throwable", name := "fillInStackTrace", desc := "(I)Ljava/lang/Throwable;" } : Jvm.MethodName)) ∈ gG := gG_of 501 (by decide +kernel) rfl
theorem gw_399 : (Jvm.Cond.selects "java/lang/IndexOutOfBoundsException" ({ cls := "java/lang/Throwable", name := "fillInStackTrace", desc := "()Ljava/lang/Throwable;" } : Jvm.MethodName) ({ cls := "java/lang/Throwable", name := "fillInStackTrace", desc := "()Ljava/lang/Throwable;" } : Jvm.MethodName)) ∈ gG := gG_of 502 (by decide +kernel) rfl
theorem gw_410 : (Jvm.Cond.fieldLink "java/lang/Throwable" (198 : Nat) "java/lang/Throwable" "backtrace" "Ljava/lang/Object;") ∈ gG := gG_of 513 (by decide +kernel) rfl
theorem gw_412 : (Jvm.Cond.instanceMethod ({ cls := "java/lang/Throwable", name := "<init>", desc := "()V" } : Jvm.MethodName)) ∈ gG := gG_of 515 (by decide +kernel) rfl
set_option maxRecDepth 20000 in
theorem gw_413 : (Jvm.Cond.code ({ cls := "java/lang/Throwable", name := "<init>", desc := "()V" } : Jvm.MethodName) prog_23_method_1_code (1 : Nat) (Option.none : Option Jvm.ClassFile.FieldType)) ∈ gG := gG_of 516 (rfl) rfl
theorem gw_414 : (Jvm.Cond.methodLink "java/lang/Throwable" (1 : Nat) ({ cls := "java/lang/Object", name := "<init>", desc := "()V" } : Jvm.MethodName)) ∈ gG := gG_of 517 (by decide +kernel) rfl
theorem gw_415 : (Jvm.Cond.fieldLink "java/lang/Throwable" (13 : Nat) "java/lang/Throwable" "UNASSIGNED_STACK" "[Ljava/lang/StackTraceElement;") ∈ gG := gG_of 518 (by decide +kernel) rfl
theorem gw_417 : (Jvm.Cond.fieldLink "java/lang/Throwable" (20 : Nat) "java/lang/Throwable" "SUPPRESSED_SENTINEL" "Ljava/util/List;") ∈ gG := gG_of 520 (by decide +kernel) rfl
theorem gw_419 : (Jvm.Cond.methodLink "java/lang/Throwable" (27 : Nat) ({ cls := "java/lang/Throwable", name := "fillInStackTrace", desc := "()Ljava/lang/Throwable;" } : Jvm.MethodName)) ∈ gG := gG_of 522 (by decide +kernel) rfl
theorem gw_420 : (Jvm.Cond.instanceMethod ({ cls := "java/lang/Throwable", name := "fillInStackTrace", desc := "()Ljava/lang/Throwable;" } : Jvm.MethodName)) ∈ gG := gG_of 523 (by decide +kernel) rfl
theorem gw_422 : (Jvm.Cond.selects "java/lang/IllegalArgumentException" ({ cls := "java/lang/Throwable", name := "fillInStackTrace", desc := "()Ljava/lang/Throwable;" } : Jvm.MethodName) ({ cls := "java/lang/Throwable", name := "fillInStackTrace", desc := "()Ljava/lang/Throwable;" } : Jvm.MethodName)) ∈ gG := gG_of 525 (by decide +kernel) rfl
theorem gw_423 : (Jvm.Cond.selects "java/util/NoSuchElementException" ({ cls := "java/lang/Throwable", name := "fillInStackTrace", desc := "()Ljava/lang/Throwable;" } : Jvm.MethodName) ({ cls := "java/lang/Throwable", name := "fillInStackTrace", desc := "()Ljava/lang/Throwable;" } : Jvm.MethodName)) ∈ gG := gG_of 526 (by decide +kernel) rfl
theorem gw_425 : (Jvm.Cond.methodLink "java/lang/Throwable" (202 : Nat) ({ cls := "java/lang/Throwable", name := "fillInStackTrace", desc := "(I)Ljava/lang/Throwable;" } : Jvm.MethodName)) ∈ gG := gG_of 528 (by decide +kernel) rfl
theorem gw_427 : (Jvm.Cond.instanceMethod ({ cls := "java/lang/Throwable", name := "fillInStackTrace", desc := "(I)Ljava/lang/Throwable;" } : Jvm.MethodName)) ∈ gG := gG_of 530 (by decide +kernel) rfl
theorem gw_428 : (Jvm.Cond.instantiable "java/lang/Throwable" (6 : Nat)) ∈ gG := gG_of 531 (by decide +kernel) rfl
theorem gw_431 : (Jvm.Cond.methodLink "GateHouse" (253 : Nat) ({ cls := "java/lang/IndexOutOfBoundsException", name := "<init>", desc := "(Ljava/lang/String;)V" } : Jvm.MethodName)) ∈ gG := gG_of 534 (by decide +kernel) rfl
theorem gw_432 : (Jvm.Cond.instanceMethod ({ cls := "java/lang/IndexOutOfBoundsException", name := "<init>", desc := "(Ljava/lang/String;)V" } : Jvm.MethodName)) ∈ gG := gG_of 535 (by decide +kernel) rfl
set_option maxRecDepth 20000 in
theorem gw_433 : (Jvm.Cond.code ({ cls := "java/lang/IndexOutOfBoundsException", name := "<init>", desc := "(Ljava/lang/String;)V" } : Jvm.MethodName) prog_17_method_2_code (2 : Nat) (Option.none : Option Jvm.ClassFile.FieldType)) ∈ gG := gG_of 536 (rfl) rfl
theorem gw_434 : (Jvm.Cond.methodLink "java/lang/IndexOutOfBoundsException" (7 : Nat) ({ cls := "java/lang/RuntimeException", name := "<init>", desc := "(Ljava/lang/String;)V" } : Jvm.MethodName)) ∈ gG := gG_of 537 (by decide +kernel) rfl
theorem gw_435 : (Jvm.Cond.instanceMethod ({ cls := "java/lang/RuntimeException", name := "<init>", desc := "(Ljava/lang/String;)V" } : Jvm.MethodName)) ∈ gG := gG_of 538 (by decide +kernel) rfl
set_option maxRecDepth 20000 in
theorem gw_436 : (Jvm.Cond.code ({ cls := "java/lang/RuntimeException", name := "<init>", desc := "(Ljava/lang/String;)V" } : Jvm.MethodName) prog_19_method_2_code (2 : Nat) (Option.none : Option Jvm.ClassFile.FieldType)) ∈ gG := gG_of 539 (rfl) rfl
theorem gw_437 : (Jvm.Cond.methodLink "java/lang/RuntimeException" (7 : Nat) ({ cls := "java/lang/Exception", name := "<init>", desc := "(Ljava/lang/String;)V" } : Jvm.MethodName)) ∈ gG := gG_of 540 (by decide +kernel) rfl
theorem gw_438 : (Jvm.Cond.instanceMethod ({ cls := "java/lang/Exception", name := "<init>", desc := "(Ljava/lang/String;)V" } : Jvm.MethodName)) ∈ gG := gG_of 541 (by decide +kernel) rfl
set_option maxRecDepth 20000 in
theorem gw_439 : (Jvm.Cond.code ({ cls := "java/lang/Exception", name := "<init>", desc := "(Ljava/lang/String;)V" } : Jvm.MethodName) prog_15_method_2_code (2 : Nat) (Option.none : Option Jvm.ClassFile.FieldType)) ∈ gG := gG_of 542 (rfl) rfl
theorem gw_440 : (Jvm.Cond.methodLink "java/lang/Exception" (7 : Nat) ({ cls := "java/lang/Throwable", name := "<init>", desc := "(Ljava/lang/String;)V" } : Jvm.MethodName)) ∈ gG := gG_of 543 (by decide +kernel) rfl
theorem gw_441 : (Jvm.Cond.instanceMethod ({ cls := "java/lang/Throwable", name := "<init>", desc := "(Ljava/lang/String;)V" } : Jvm.MethodName)) ∈ gG := gG_of 544 (by decide +kernel) rfl
set_option maxRecDepth 20000 in
theorem gw_442 : (Jvm.Cond.code ({ cls := "java/lang/Throwable", name := "<init>", desc := "(Ljava/lang/String;)V" } : Jvm.MethodName) prog_23_method_2_code (2 : Nat) (Option.none : Option Jvm.ClassFile.FieldType)) ∈ gG := gG_of 545 (rfl) rfl
theorem gw_443 : (Jvm.Cond.fieldLink "java/lang/Throwable" (198 : Nat) "java/lang/Throwable" "backtrace" "Ljava/lang/Object;") ∈ gG := gG_of 546 (by decide +kernel) rfl
theorem gw_444 : (Jvm.Cond.fieldLink "java/lang/Throwable" (31 : Nat) "java/lang/Throwable" "detailMessage" "Ljava/lang/String;") ∈ gG := gG_of 547 (by decide +kernel) rfl
theorem gw_445 : (Jvm.Cond.fieldLink "java/lang/Throwable" (7 : Nat) "java/lang/Throwable" "cause" "Ljava/lang/Throwable;") ∈ gG := gG_of 548 (by decide +kernel) rfl
theorem gw_446 : (Jvm.Cond.fieldLink "java/lang/Throwable" (17 : Nat) "java/lang/Throwable" "stackTrace" "[Ljava/lang/StackTraceElement;") ∈ gG := gG_of 549 (by decide +kernel) rfl
theorem gw_447 : (Jvm.Cond.fieldLink "java/lang/Throwable" (24 : Nat) "java/lang/Throwable" "suppressedExceptions" "Ljava/util/List;") ∈ gG := gG_of 550 (by decide +kernel) rfl
theorem gw_456 : (Jvm.Cond.methodLink "GateHouse" (92 : Nat) ({ cls := "GateHouse$TextReader", name := "read", desc := "(LGateHouse$RuleList;)Z" } : Jvm.MethodName)) ∈ gG := gG_of 559 (by decide +kernel) rfl
theorem gw_457 : (Jvm.Cond.instanceMethod ({ cls := "GateHouse$TextReader", name := "read", desc := "(LGateHouse$RuleList;)Z" } : Jvm.MethodName)) ∈ gG := gG_of 560 (by decide +kernel) rfl
theorem gw_458 : (Jvm.Cond.selects "GateHouse$TextReader" ({ cls := "GateHouse$TextReader", name := "read", desc := "(LGateHouse$RuleList;)Z" } : Jvm.MethodName) ({ cls := "GateHouse$TextReader", name := "read", desc := "(LGateHouse$RuleList;)Z" } : Jvm.MethodName)) ∈ gG := gG_of 561 (by decide +kernel) rfl
set_option maxRecDepth 20000 in
theorem gw_459 : (Jvm.Cond.code ({ cls := "GateHouse$TextReader", name := "read", desc := "(LGateHouse$RuleList;)Z" } : Jvm.MethodName) prog_11_method_2_code (3 : Nat) (Option.some Jvm.ClassFile.FieldType.boolean)) ∈ gG := gG_of 562 (rfl) rfl
theorem gw_460 : (Jvm.Cond.methodLink "GateHouse$TextReader" (47 : Nat) ({ cls := "GateHouse$RuleList", name := "clear", desc := "()V" } : Jvm.MethodName)) ∈ gG := gG_of 563 (by decide +kernel) rfl
theorem gw_461 : (Jvm.Cond.instanceMethod ({ cls := "GateHouse$RuleList", name := "clear", desc := "()V" } : Jvm.MethodName)) ∈ gG := gG_of 564 (by decide +kernel) rfl
theorem gw_462 : (Jvm.Cond.selects "GateHouse$RuleList" ({ cls := "GateHouse$RuleList", name := "clear", desc := "()V" } : Jvm.MethodName) ({ cls := "GateHouse$RuleList", name := "clear", desc := "()V" } : Jvm.MethodName)) ∈ gG := gG_of 565 (by decide +kernel) rfl
set_option maxRecDepth 20000 in
theorem gw_463 : (Jvm.Cond.code ({ cls := "GateHouse$RuleList", name := "clear", desc := "()V" } : Jvm.MethodName) prog_8_method_3_code (1 : Nat) (Option.none : Option Jvm.ClassFile.FieldType)) ∈ gG := gG_of 566 (rfl) rfl
theorem gw_464 : (Jvm.Cond.methodLink "GateHouse$TextReader" (52 : Nat) ({ cls := "GateHouse$TextReader", name := "step", desc := "()V" } : Jvm.MethodName)) ∈ gG := gG_of 567 (by decide +kernel) rfl
theorem gw_466 : (Jvm.Cond.instanceMethod ({ cls := "GateHouse$TextReader", name := "step", desc := "()V" } : Jvm.MethodName)) ∈ gG := gG_of 569 (by decide +kernel) rfl
set_option maxRecDepth 20000 in
theorem gw_467 : (Jvm.Cond.code ({ cls := "GateHouse$TextReader", name := "step", desc := "()V" } : Jvm.MethodName) prog_11_method_20_code (1 : Nat) (Option.none : Option Jvm.ClassFile.FieldType)) ∈ gG := gG_of 570 (rfl) rfl
theorem gw_468 : (Jvm.Cond.methodLink "GateHouse$TextReader" (166 : Nat) ({ cls := "GateHouse$Octets", name := "at", desc := "(I)I" } : Jvm.MethodName)) ∈ gG := gG_of 571 (by decide +kernel) rfl
theorem gw_469 : (Jvm.Cond.instanceMethod ({ cls := "GateHouse$Octets", name := "at", desc := "(I)I" } : Jvm.MethodName)) ∈ gG := gG_of 572 (by decide +kernel) rfl
theorem gw_470 : (Jvm.Cond.selects "GateHouse$Octets" ({ cls := "GateHouse$Octets", name := "at", desc := "(I)I" } : Jvm.MethodName) ({ cls := "GateHouse$Octets", name := "at", desc := "(I)I" } : Jvm.MethodName)) ∈ gG := gG_of 573 (by decide +kernel) rfl
set_option maxRecDepth 20000 in
theorem gw_471 : (Jvm.Cond.code ({ cls := "GateHouse$Octets", name := "at", desc := "(I)I" } : Jvm.MethodName) prog_4_method_2_code (2 : Nat) (Option.some Jvm.ClassFile.FieldType.int)) ∈ gG := gG_of 574 (rfl) rfl
theorem gw_472 : (Jvm.Cond.methodLink "GateHouse$TextReader" (175 : Nat) ({ cls := "GateHouse$TextReader", name := "isLetterOrDigit", desc := "(I)Z" } : Jvm.MethodName)) ∈ gG := gG_of 575 (by decide +kernel) rfl
theorem gw_473 : (Jvm.Cond.static ({ cls := "GateHouse$TextReader", name := "isLetterOrDigit", desc := "(I)Z" } : Jvm.MethodName)) ∈ gG := gG_of 576 (by decide +kernel) rfl
set_option maxRecDepth 20000 in
theorem gw_474 : (Jvm.Cond.code ({ cls := "GateHouse$TextReader", name := "isLetterOrDigit", desc := "(I)Z" } : Jvm.MethodName) prog_11_method_26_code (1 : Nat) (Option.some Jvm.ClassFile.FieldType.boolean)) ∈ gG := gG_of 577 (rfl) rfl
theorem gw_475 : (Jvm.Cond.methodLink "GateHouse$TextReader" (185 : Nat) ({ cls := "GateHouse$TextReader", name := "isDigit", desc := "(I)Z" } : Jvm.MethodName)) ∈ gG := gG_of 578 (by decide +kernel) rfl
theorem gw_476 : (Jvm.Cond.static ({ cls := "GateHouse$TextReader", name := "isDigit", desc := "(I)Z" } : Jvm.MethodName)) ∈ gG := gG_of 579 (by decide +kernel) rfl
set_option maxRecDepth 20000 in
theorem gw_477 : (Jvm.Cond.code ({ cls := "GateHouse$TextReader", name := "isDigit", desc := "(I)Z" } : Jvm.MethodName) prog_11_method_25_code (1 : Nat) (Option.some Jvm.ClassFile.FieldType.boolean)) ∈ gG := gG_of 580 (rfl) rfl
theorem gw_478 : (Jvm.Cond.methodLink "GateHouse$TextReader" (179 : Nat) ({ cls := "GateHouse$TextReader", name := "readRun", desc := "()V" } : Jvm.MethodName)) ∈ gG := gG_of 581 (by decide +kernel) rfl
theorem gw_480 : (Jvm.Cond.instanceMethod ({ cls := "GateHouse$TextReader", name := "readRun", desc := "()V" } : Jvm.MethodName)) ∈ gG := gG_of 583 (by decide +kernel) rfl
set_option maxRecDepth 20000 in
theorem gw_481 : (Jvm.Cond.code ({ cls := "GateHouse$TextReader", name := "readRun", desc := "()V" } : Jvm.MethodName) prog_11_method_21_code (3 : Nat) (Option.none : Option Jvm.ClassFile.FieldType)) ∈ gG := gG_of 584 (rfl) rfl
theorem gw_482 : (Jvm.Cond.methodLink "GateHouse$TextReader" (188 : Nat) ({ cls := "GateHouse$TextReader", name := "readAddress", desc := "()V" } : Jvm.MethodName)) ∈ gG := gG_of 585 (by decide +kernel) rfl
theorem gw_484 : (Jvm.Cond.instanceMethod ({ cls := "GateHouse$TextReader", name := "readAddress", desc := "()V" } : Jvm.MethodName)) ∈ gG := gG_of 587 (by decide +kernel) rfl
set_option maxRecDepth 20000 in
theorem gw_485 : (Jvm.Cond.code ({ cls := "GateHouse$TextReader", name := "readAddress", desc := "()V" } : Jvm.MethodName) prog_11_method_22_code (5 : Nat) (Option.none : Option Jvm.ClassFile.FieldType)) ∈ gG := gG_of 588 (rfl) rfl
theorem gw_486 : (Jvm.Cond.methodLink "GateHouse$TextReader" (195 : Nat) ({ cls := "GateHouse$TextReader", name := "groupBetween", desc := "(II)I" } : Jvm.MethodName)) ∈ gG := gG_of 589 (by decide +kernel) rfl
theorem gw_488 : (Jvm.Cond.instanceMethod ({ cls := "GateHouse$TextReader", name := "groupBetween", desc := "(II)I" } : Jvm.MethodName)) ∈ gG := gG_of 591 (by decide +kernel) rfl
set_option maxRecDepth 20000 in
theorem gw_489 : (Jvm.Cond.code ({ cls := "GateHouse$TextReader", name := "groupBetween", desc := "(II)I" } : Jvm.MethodName) prog_11_method_23_code (4 : Nat) (Option.some Jvm.ClassFile.FieldType.int)) ∈ gG := gG_of 592 (rfl) rfl
theorem gw_490 : (Jvm.Cond.methodLink "GateHouse$TextReader" (191 : Nat) ({ cls := "GateHouse$TextReader", name := "numberBetween", desc := "(II)I" } : Jvm.MethodName)) ∈ gG := gG_of 593 (by decide +kernel) rfl
theorem gw_492 : (Jvm.Cond.instanceMethod ({ cls := "GateHouse$TextReader", name := "numberBetween", desc := "(II)I" } : Jvm.MethodName)) ∈ gG := gG_of 595 (by decide +kernel) rfl
set_option maxRecDepth 20000 in
theorem gw_493 : (Jvm.Cond.code ({ cls := "GateHouse$TextReader", name := "numberBetween", desc := "(II)I" } : Jvm.MethodName) prog_11_method_24_code (5 : Nat) (Option.some Jvm.ClassFile.FieldType.int)) ∈ gG := gG_of 596 (rfl) rfl
theorem gw_494 : (Jvm.Cond.constantLong "GateHouse$TextReader" (198 : Nat) (256 : Int64)) ∈ gG := gG_of 597 (by decide +kernel) rfl
theorem gw_495 : (Jvm.Cond.methodLink "GateHouse$TextReader" (182 : Nat) ({ cls := "GateHouse$TextReader", name := "isSign", desc := "(I)Z" } : Jvm.MethodName)) ∈ gG := gG_of 598 (by decide +kernel) rfl
theorem gw_496 : (Jvm.Cond.static ({ cls := "GateHouse$TextReader", name := "isSign", desc := "(I)Z" } : Jvm.MethodName)) ∈ gG := gG_of 599 (by decide +kernel) rfl
set_option maxRecDepth 20000 in
theorem gw_497 : (Jvm.Cond.code ({ cls := "GateHouse$TextReader", name := "isSign", desc := "(I)Z" } : Jvm.MethodName) prog_11_method_27_code (1 : Nat) (Option.some Jvm.ClassFile.FieldType.boolean)) ∈ gG := gG_of 600 (rfl) rfl
theorem gw_498 : (Jvm.Cond.methodLink "GateHouse$TextReader" (55 : Nat) ({ cls := "GateHouse$TextReader", name := "take", desc := "(LGateHouse$RuleList;)I" } : Jvm.MethodName)) ∈ gG := gG_of 601 (by decide +kernel) rfl
theorem gw_500 : (Jvm.Cond.instanceMethod ({ cls := "GateHouse$TextReader", name := "take", desc := "(LGateHouse$RuleList;)I" } : Jvm.MethodName)) ∈ gG := gG_of 603 (by decide +kernel) rfl
set_option maxRecDepth 20000 in
theorem gw_501 : (Jvm.Cond.code ({ cls := "GateHouse$TextReader", name := "take", desc := "(LGateHouse$RuleList;)I" } : Jvm.MethodName) prog_11_method_3_code (2 : Nat) (Option.some Jvm.ClassFile.FieldType.int)) ∈ gG := gG_of 604 (rfl) rfl
theorem gw_503 : (Jvm.Cond.methodLink "GateHouse$TextReader" (61 : Nat) ({ cls := "GateHouse$TextReader", name := "isWord", desc := "(Ljava/lang/String;)Z" } : Jvm.MethodName)) ∈ gG := gG_of 606 (by decide +kernel) rfl
theorem gw_505 : (Jvm.Cond.instanceMethod ({ cls := "GateHouse$TextReader", name := "isWord", desc := "(Ljava/lang/String;)Z" } : Jvm.MethodName)) ∈ gG := gG_of 608 (by decide +kernel) rfl
set_option maxRecDepth 20000 in
theorem gw_506 : (Jvm.Cond.code ({ cls := "GateHouse$TextReader", name := "isWord", desc := "(Ljava/lang/String;)Z" } : Jvm.MethodName) prog_11_method_19_code (3 : Nat) (Option.some Jvm.ClassFile.FieldType.boolean)) ∈ gG := gG_of 609 (rfl) rfl
theorem gw_507 : (Jvm.Cond.methodLink "GateHouse$TextReader" (161 : Nat) ({ cls := "java/lang/String", name := "length", desc := "()I" } : Jvm.MethodName)) ∈ gG := gG_of 610 (by decide +kernel) rfl
theorem gw_508 : (Jvm.Cond.instanceMethod ({ cls := "java/lang/String", name := "length", desc := "()I" } : Jvm.MethodName)) ∈ gG := gG_of 611 (by decide +kernel) rfl
theorem gw_509 : (Jvm.Cond.selects "java/lang/String" ({ cls := "java/lang/String", name := "length", desc := "()I" } : Jvm.MethodName) ({ cls := "java/lang/String", name := "length", desc := "()I" } : Jvm.MethodName)) ∈ gG := gG_of 612 (by decide +kernel) rfl
set_option maxRecDepth 20000 in
theorem gw_510 : (Jvm.Cond.code ({ cls := "java/lang/String", name := "length", desc := "()I" } : Jvm.MethodName) prog_20_method_54_code (1 : Nat) (Option.some Jvm.ClassFile.FieldType.int)) ∈ gG := gG_of 613 (rfl) rfl
theorem gw_511 : (Jvm.Cond.methodLink "java/lang/String" (335 : Nat) ({ cls := "java/lang/String", name := "coder", desc := "()B" } : Jvm.MethodName)) ∈ gG := gG_of 614 (by decide +kernel) rfl
theorem gw_512 : (Jvm.Cond.instanceMethod ({ cls := "java/lang/String", name := "coder", desc := "()B" } : Jvm.MethodName)) ∈ gG := gG_of 615 (by decide +kernel) rfl
theorem gw_513 : (Jvm.Cond.selects "java/lang/String" ({ cls := "java/lang/String", name := "coder", desc := "()B" } : Jvm.MethodName) ({ cls := "java/lang/String", name := "coder", desc := "()B" } : Jvm.MethodName)) ∈ gG := gG_of 616 (by decide +kernel) rfl
set_option maxRecDepth 20000 in
theorem gw_514 : (Jvm.Cond.code ({ cls := "java/lang/String", name := "coder", desc := "()B" } : Jvm.MethodName) prog_20_method_152_code (1 : Nat) (Option.some Jvm.ClassFile.FieldType.byte)) ∈ gG := gG_of 617 (rfl) rfl
theorem gw_515 : (Jvm.Cond.fieldLink "java/lang/String" (38 : Nat) "java/lang/String" "COMPACT_STRINGS" "Z") ∈ gG := gG_of 618 (by decide +kernel) rfl
theorem gw_517 : (Jvm.Cond.methodLink "GateHouse$TextReader" (170 : Nat) ({ cls := "java/lang/String", name := "charAt", desc := "(I)C" } : Jvm.MethodName)) ∈ gG := gG_of 620 (by decide +kernel) rfl
theorem gw_518 : (Jvm.Cond.instanceMethod ({ cls := "java/lang/String", name := "charAt", desc := "(I)C" } : Jvm.MethodName)) ∈ gG := gG_of 621 (by decide +kernel) rfl
theorem gw_519 : (Jvm.Cond.selects "java/lang/String" ({ cls := "java/lang/String", name := "charAt", desc := "(I)C" } : Jvm.MethodName) ({ cls := "java/lang/String", name := "charAt", desc := "(I)C" } : Jvm.MethodName)) ∈ gG := gG_of 622 (by decide +kernel) rfl
set_option maxRecDepth 20000 in
theorem gw_520 : (Jvm.Cond.code ({ cls := "java/lang/String", name := "charAt", desc := "(I)C" } : Jvm.MethodName) prog_20_method_56_code (2 : Nat) (Option.some Jvm.ClassFile.FieldType.char)) ∈ gG := gG_of 623 (rfl) rfl
theorem gw_521 : (Jvm.Cond.methodLink "java/lang/String" (492 : Nat) ({ cls := "java/lang/String", name := "isLatin1", desc := "()Z" } : Jvm.MethodName)) ∈ gG := gG_of 624 (by decide +kernel) rfl
theorem gw_522 : (Jvm.Cond.instanceMethod ({ cls := "java/lang/String", name := "isLatin1", desc := "()Z" } : Jvm.MethodName)) ∈ gG := gG_of 625 (by decide +kernel) rfl
theorem gw_523 : (Jvm.Cond.selects "java/lang/String" ({ cls := "java/lang/String", name := "isLatin1", desc := "()Z" } : Jvm.MethodName) ({ cls := "java/lang/String", name := "isLatin1", desc := "()Z" } : Jvm.MethodName)) ∈ gG := gG_of 626 (by decide +kernel) rfl
set_option maxRecDepth 20000 in
theorem gw_524 : (Jvm.Cond.code ({ cls := "java/lang/String", name := "isLatin1", desc := "()Z" } : Jvm.MethodName) prog_20_method_154_code (1 : Nat) (Option.some Jvm.ClassFile.FieldType.boolean)) ∈ gG := gG_of 627 (rfl) rfl
theorem gw_525 : (Jvm.Cond.methodLink "java/lang/String" (495 : Nat) ({ cls := "java/lang/StringLatin1", name := "charAt", desc := "([BI)C" } : Jvm.MethodName)) ∈ gG := gG_of 628 (by decide +kernel) rfl
theorem gw_526 : (Jvm.Cond.static ({ cls := "java/lang/StringLatin1", name := "charAt", desc := "([BI)C" } : Jvm.MethodName)) ∈ gG := gG_of 629 (by decide +kernel) rfl
set_option maxRecDepth 20000 in
theorem gw_527 : (Jvm.Cond.code ({ cls := "java/lang/StringLatin1", name := "charAt", desc := "([BI)C" } : Jvm.MethodName) prog_21_method_2_code (2 : Nat) (Option.some Jvm.ClassFile.FieldType.char)) ∈ gG := gG_of 630 (rfl) rfl
theorem gw_528 : (Jvm.Cond.methodLink "java/lang/StringLatin1" (9 : Nat) ({ cls := "java/lang/String", name := "checkIndex", desc := "(II)V" } : Jvm.MethodName)) ∈ gG := gG_of 631 (by decide +kernel) rfl
theorem gw_529 : (Jvm.Cond.static ({ cls := "java/lang/String", name := "checkIndex", desc := "(II)V" } : Jvm.MethodName)) ∈ gG := gG_of 632 (by decide +kernel) rfl
set_option maxRecDepth 20000 in
theorem gw_530 : (Jvm.Cond.code ({ cls := "java/lang/String", name := "checkIndex", desc := "(II)V" } : Jvm.MethodName) prog_20_method_155_code (2 : Nat) (Option.none : Option Jvm.ClassFile.FieldType)) ∈ gG := gG_of 633 (rfl) rfl
theorem gw_531 : (Jvm.Cond.fieldLink "java/lang/String" (1053 : Nat) "jdk/internal/util/Preconditions" "SIOOBE_FORMATTER" "Ljava/util/function/BiFunction;") ∈ gG := gG_of 634 (by decide +kernel) rfl
theorem gw_533 : (Jvm.Cond.methodLink "java/lang/String" (1059 : Nat) ({ cls := "jdk/internal/util/Preconditions", name := "checkIndex", desc := "(IILjava/util/function/BiFunction;)I" } : Jvm.MethodName)) ∈ gG := gG_of 636 (by decide +kernel) rfl
theorem gw_534 : (Jvm.Cond.static ({ cls := "jdk/internal/util/Preconditions", name := "checkIndex", desc := "(IILjava/util/function/BiFunction;)I" } : Jvm.MethodName)) ∈ gG := gG_of 637 (by decide +kernel) rfl
set_option maxRecDepth 20000 in
theorem gw_535 : (Jvm.Cond.code ({ cls := "jdk/internal/util/Preconditions", name := "checkIndex", desc := "(IILjava/util/function/BiFunction;)I" } : Jvm.MethodName) prog_25_method_11_code (3 : Nat) (Option.some Jvm.ClassFile.FieldType.int)) ∈ gG := gG_of 638 (rfl) rfl
theorem gw_536 : (Jvm.Cond.methodLink "java/lang/String" (498 : Nat) ({ cls := "java/lang/StringUTF16", name := "charAt", desc := "([BI)C" } : Jvm.MethodName)) ∈ gG := gG_of 639 (by decide +kernel) rfl
theorem gw_537 : (Jvm.Cond.static ({ cls := "java/lang/StringUTF16", name := "charAt", desc := "([BI)C" } : Jvm.MethodName)) ∈ gG := gG_of 640 (by decide +kernel) rfl
set_option maxRecDepth 20000 in
theorem gw_538 : (Jvm.Cond.code ({ cls := "java/lang/StringUTF16", name := "charAt", desc := "([BI)C" } : Jvm.MethodName) prog_22_method_83_code (2 : Nat) (Option.some Jvm.ClassFile.FieldType.char)) ∈ gG := gG_of 641 (rfl) rfl
theorem gw_539 : (Jvm.Cond.methodLink "java/lang/StringUTF16" (67 : Nat) ({ cls := "java/lang/StringUTF16", name := "checkIndex", desc := "(I[B)V" } : Jvm.MethodName)) ∈ gG := gG_of 642 (by decide +kernel) rfl
theorem gw_540 : (Jvm.Cond.static ({ cls := "java/lang/StringUTF16", name := "checkIndex", desc := "(I[B)V" } : Jvm.MethodName)) ∈ gG := gG_of 643 (by decide +kernel) rfl
set_option maxRecDepth 20000 in
theorem gw_541 : (Jvm.Cond.code ({ cls := "java/lang/StringUTF16", name := "checkIndex", desc := "(I[B)V" } : Jvm.MethodName) prog_22_method_91_code (2 : Nat) (Option.none : Option Jvm.ClassFile.FieldType)) ∈ gG := gG_of 644 (rfl) rfl
theorem gw_542 : (Jvm.Cond.methodLink "java/lang/StringUTF16" (48 : Nat) ({ cls := "java/lang/StringUTF16", name := "length", desc := "([B)I" } : Jvm.MethodName)) ∈ gG := gG_of 645 (by decide +kernel) rfl
theorem gw_543 : (Jvm.Cond.static ({ cls := "java/lang/StringUTF16", name := "length", desc := "([B)I" } : Jvm.MethodName)) ∈ gG := gG_of 646 (by decide +kernel) rfl
set_option maxRecDepth 20000 in
theorem gw_544 : (Jvm.Cond.code ({ cls := "java/lang/StringUTF16", name := "length", desc := "([B)I" } : Jvm.MethodName) prog_22_method_6_code (1 : Nat) (Option.some Jvm.ClassFile.FieldType.int)) ∈ gG := gG_of 647 (rfl) rfl
theorem gw_545 : (Jvm.Cond.methodLink "java/lang/StringUTF16" (414 : Nat) ({ cls := "java/lang/String", name := "checkIndex", desc := "(II)V" } : Jvm.MethodName)) ∈ gG := gG_of 648 (by decide +kernel) rfl
theorem gw_546 : (Jvm.Cond.methodLink "java/lang/StringUTF16" (71 : Nat) ({ cls := "java/lang/StringUTF16", name := "getChar", desc := "([BI)C" } : Jvm.MethodName)) ∈ gG := gG_of 649 (by decide +kernel) rfl
theorem gw_547 : (Jvm.Cond.static ({ cls := "java/lang/StringUTF16", name := "getChar", desc := "([BI)C" } : Jvm.MethodName)) ∈ gG := gG_of 650 (by decide +kernel) rfl
set_option maxRecDepth 20000 in
theorem gw_548 : (Jvm.Cond.code ({ cls := "java/lang/StringUTF16", name := "getChar", desc := "([BI)C" } : Jvm.MethodName) prog_22_method_5_code (2 : Nat) (Option.some Jvm.ClassFile.FieldType.char)) ∈ gG := gG_of 651 (rfl) rfl
theorem gw_549 : (Jvm.Cond.fieldLink "java/lang/StringUTF16" (44 : Nat) "java/lang/StringUTF16" "$assertionsDisabled" "Z") ∈ gG := gG_of 652 (by decide +kernel) rfl
theorem gw_551 : (Jvm.Cond.fieldLink "java/lang/StringUTF16" (59 : Nat) "java/lang/StringUTF16" "HI_BYTE_SHIFT" "I") ∈ gG := gG_of 654 (by decide +kernel) rfl
theorem gw_553 : (Jvm.Cond.fieldLink "java/lang/StringUTF16" (63 : Nat) "java/lang/StringUTF16" "LO_BYTE_SHIFT" "I") ∈ gG := gG_of 656 (by decide +kernel) rfl
theorem gw_555 : (Jvm.Cond.methodLink "GateHouse$TextReader" (65 : Nat) ({ cls := "GateHouse$TextReader", name := "go", desc := "(I)I" } : Jvm.MethodName)) ∈ gG := gG_of 658 (by decide +kernel) rfl
theorem gw_557 : (Jvm.Cond.instanceMethod ({ cls := "GateHouse$TextReader", name := "go", desc := "(I)I" } : Jvm.MethodName)) ∈ gG := gG_of 660 (by decide +kernel) rfl
set_option maxRecDepth 20000 in
theorem gw_558 : (Jvm.Cond.code ({ cls := "GateHouse$TextReader", name := "go", desc := "(I)I" } : Jvm.MethodName) prog_11_method_4_code (2 : Nat) (Option.some Jvm.ClassFile.FieldType.int)) ∈ gG := gG_of 661 (rfl) rfl
theorem gw_559 : (Jvm.Cond.methodLink "GateHouse$TextReader" (69 : Nat) ({ cls := "GateHouse$TextReader", name := "takeRule", desc := "(LGateHouse$RuleList;)I" } : Jvm.MethodName)) ∈ gG := gG_of 662 (by decide +kernel) rfl
theorem gw_561 : (Jvm.Cond.instanceMethod ({ cls := "GateHouse$TextReader", name := "takeRule", desc := "(LGateHouse$RuleList;)I" } : Jvm.MethodName)) ∈ gG := gG_of 664 (by decide +kernel) rfl
set_option maxRecDepth 20000 in
theorem gw_562 : (Jvm.Cond.code ({ cls := "GateHouse$TextReader", name := "takeRule", desc := "(LGateHouse$RuleList;)I" } : Jvm.MethodName) prog_11_method_6_code (3 : Nat) (Option.some Jvm.ClassFile.FieldType.int)) ∈ gG := gG_of 665 (rfl) rfl
theorem gw_563 : (Jvm.Cond.methodLink "GateHouse$TextReader" (102 : Nat) ({ cls := "GateHouse$TextReader", name := "actionHere", desc := "()I" } : Jvm.MethodName)) ∈ gG := gG_of 666 (by decide +kernel) rfl
theorem gw_565 : (Jvm.Cond.instanceMethod ({ cls := "GateHouse$TextReader", name := "actionHere", desc := "()I" } : Jvm.MethodName)) ∈ gG := gG_of 668 (by decide +kernel) rfl
set_option maxRecDepth 20000 in
theorem gw_566 : (Jvm.Cond.code ({ cls := "GateHouse$TextReader", name := "actionHere", desc := "()I" } : Jvm.MethodName) prog_11_method_16_code (2 : Nat) (Option.some Jvm.ClassFile.FieldType.int)) ∈ gG := gG_of 669 (rfl) rfl
theorem gw_568 : (Jvm.Cond.static ({ cls := "GateHouse", name := "actionWord", desc := "(I)Ljava/lang/String;" } : Jvm.MethodName)) ∈ gG := gG_of 671 (by decide +kernel) rfl
set_option maxRecDepth 20000 in
theorem gw_569 : (Jvm.Cond.code ({ cls := "GateHouse", name := "actionWord", desc := "(I)Ljava/lang/String;" } : Jvm.MethodName) prog_1_method_29_code (1 : Nat) (Option.some (Jvm.ClassFile.FieldType.object "java/lang/String"))) ∈ gG := gG_of 672 (rfl) rfl
theorem gw_573 : (Jvm.Cond.methodLink "GateHouse$TextReader" (78 : Nat) ({ cls := "GateHouse$RuleList", name := "at", desc := "(I)LGateHouse$Rule;" } : Jvm.MethodName)) ∈ gG := gG_of 676 (by decide +kernel) rfl
theorem gw_574 : (Jvm.Cond.instanceMethod ({ cls := "GateHouse$RuleList", name := "at", desc := "(I)LGateHouse$Rule;" } : Jvm.MethodName)) ∈ gG := gG_of 677 (by decide +kernel) rfl
theorem gw_575 : (Jvm.Cond.selects "GateHouse$RuleList" ({ cls := "GateHouse$RuleList", name := "at", desc := "(I)LGateHouse$Rule;" } : Jvm.MethodName) ({ cls := "GateHouse$RuleList", name := "at", desc := "(I)LGateHouse$Rule;" } : Jvm.MethodName)) ∈ gG := gG_of 678 (by decide +kernel) rfl
set_option maxRecDepth 20000 in
theorem gw_576 : (Jvm.Cond.code ({ cls := "GateHouse$RuleList", name := "at", desc := "(I)LGateHouse$Rule;" } : Jvm.MethodName) prog_8_method_2_code (2 : Nat) (Option.some (Jvm.ClassFile.FieldType.object "GateHouse$Rule"))) ∈ gG := gG_of 679 (rfl) rfl
theorem gw_577 : (Jvm.Cond.methodLink "GateHouse$TextReader" (108 : Nat) ({ cls := "GateHouse$Rule", name := "matchAll", desc := "(I)V" } : Jvm.MethodName)) ∈ gG := gG_of 680 (by decide +kernel) rfl
theorem gw_578 : (Jvm.Cond.instanceMethod ({ cls := "GateHouse$Rule", name := "matchAll", desc := "(I)V" } : Jvm.MethodName)) ∈ gG := gG_of 681 (by decide +kernel) rfl
theorem gw_579 : (Jvm.Cond.selects "GateHouse$Rule" ({ cls := "GateHouse$Rule", name := "matchAll", desc := "(I)V" } : Jvm.MethodName) ({ cls := "GateHouse$Rule", name := "matchAll", desc := "(I)V" } : Jvm.MethodName)) ∈ gG := gG_of 682 (by decide +kernel) rfl
set_option maxRecDepth 20000 in
theorem gw_580 : (Jvm.Cond.code ({ cls := "GateHouse$Rule", name := "matchAll", desc := "(I)V" } : Jvm.MethodName) prog_7_method_2_code (3 : Nat) (Option.none : Option Jvm.ClassFile.FieldType)) ∈ gG := gG_of 683 (rfl) rfl
theorem gw_583 : (Jvm.Cond.methodLink "GateHouse$TextReader" (72 : Nat) ({ cls := "GateHouse$TextReader", name := "takePolicy", desc := "(LGateHouse$RuleList;)I" } : Jvm.MethodName)) ∈ gG := gG_of 686 (by decide +kernel) rfl
theorem gw_585 : (Jvm.Cond.instanceMethod ({ cls := "GateHouse$TextReader", name := "takePolicy", desc := "(LGateHouse$RuleList;)I" } : Jvm.MethodName)) ∈ gG := gG_of 688 (by decide +kernel) rfl
set_option maxRecDepth 20000 in
theorem gw_586 : (Jvm.Cond.code ({ cls := "GateHouse$TextReader", name := "takePolicy", desc := "(LGateHouse$RuleList;)I" } : Jvm.MethodName) prog_11_method_5_code (3 : Nat) (Option.some Jvm.ClassFile.FieldType.int)) ∈ gG := gG_of 689 (rfl) rfl
theorem gw_587 : (Jvm.Cond.methodLink "GateHouse$TextReader" (82 : Nat) ({ cls := "GateHouse$TextReader", name := "takeValue", desc := "(LGateHouse$Rule;)I" } : Jvm.MethodName)) ∈ gG := gG_of 690 (by decide +kernel) rfl
theorem gw_589 : (Jvm.Cond.instanceMethod ({ cls := "GateHouse$TextReader", name := "takeValue", desc := "(LGateHouse$Rule;)I" } : Jvm.MethodName)) ∈ gG := gG_of 692 (by decide +kernel) rfl
set_option maxRecDepth 20000 in
theorem gw_590 : (Jvm.Cond.code ({ cls := "GateHouse$TextReader", name := "takeValue", desc := "(LGateHouse$Rule;)I" } : Jvm.MethodName) prog_11_method_8_code (2 : Nat) (Option.some Jvm.ClassFile.FieldType.int)) ∈ gG := gG_of 693 (rfl) rfl
theorem gw_591 : (Jvm.Cond.methodLink "GateHouse$TextReader" (120 : Nat) ({ cls := "GateHouse$TextReader", name := "takeProtocol", desc := "(LGateHouse$Rule;)I" } : Jvm.MethodName)) ∈ gG := gG_of 694 (by decide +kernel) rfl
theorem gw_593 : (Jvm.Cond.instanceMethod ({ cls := "GateHouse$TextReader", name := "takeProtocol", desc := "(LGateHouse$Rule;)I" } : Jvm.MethodName)) ∈ gG := gG_of 696 (by decide +kernel) rfl
set_option maxRecDepth 20000 in
theorem gw_594 : (Jvm.Cond.code ({ cls := "GateHouse$TextReader", name := "takeProtocol", desc := "(LGateHouse$Rule;)I" } : Jvm.MethodName) prog_11_method_9_code (3 : Nat) (Option.some Jvm.ClassFile.FieldType.int)) ∈ gG := gG_of 697 (rfl) rfl
theorem gw_598 : (Jvm.Cond.methodLink "GateHouse$TextReader" (130 : Nat) ({ cls := "GateHouse$Rule", name := "setRange", desc := "(IJJ)V" } : Jvm.MethodName)) ∈ gG := gG_of 701 (by decide +kernel) rfl
theorem gw_599 : (Jvm.Cond.instanceMethod ({ cls := "GateHouse$Rule", name := "setRange", desc := "(IJJ)V" } : Jvm.MethodName)) ∈ gG := gG_of 702 (by decide +kernel) rfl
theorem gw_600 : (Jvm.Cond.selects "GateHouse$Rule" ({ cls := "GateHouse$Rule", name := "setRange", desc := "(IJJ)V" } : Jvm.MethodName) ({ cls := "GateHouse$Rule", name := "setRange", desc := "(IJJ)V" } : Jvm.MethodName)) ∈ gG := gG_of 703 (by decide +kernel) rfl
set_option maxRecDepth 20000 in
theorem gw_601 : (Jvm.Cond.code ({ cls := "GateHouse$Rule", name := "setRange", desc := "(IJJ)V" } : Jvm.MethodName) prog_7_method_4_code (6 : Nat) (Option.none : Option Jvm.ClassFile.FieldType)) ∈ gG := gG_of 704 (rfl) rfl
theorem gw_602 : (Jvm.Cond.methodLink "GateHouse$TextReader" (123 : Nat) ({ cls := "GateHouse$TextReader", name := "isValue", desc := "()Z" } : Jvm.MethodName)) ∈ gG := gG_of 705 (by decide +kernel) rfl
theorem gw_604 : (Jvm.Cond.instanceMethod ({ cls := "GateHouse$TextReader", name := "isValue", desc := "()Z" } : Jvm.MethodName)) ∈ gG := gG_of 707 (by decide +kernel) rfl
set_option maxRecDepth 20000 in
theorem gw_605 : (Jvm.Cond.code ({ cls := "GateHouse$TextReader", name := "isValue", desc := "()Z" } : Jvm.MethodName) prog_11_method_14_code (1 : Nat) (Option.some Jvm.ClassFile.FieldType.boolean)) ∈ gG := gG_of 708 (rfl) rfl
theorem gw_606 : (Jvm.Cond.methodLink "GateHouse$TextReader" (86 : Nat) ({ cls := "GateHouse$TextReader", name := "isAddressPart", desc := "()Z" } : Jvm.MethodName)) ∈ gG := gG_of 709 (by decide +kernel) rfl
theorem gw_608 : (Jvm.Cond.instanceMethod ({ cls := "GateHouse$TextReader", name := "isAddressPart", desc := "()Z" } : Jvm.MethodName)) ∈ gG := gG_of 711 (by decide +kernel) rfl
set_option maxRecDepth 20000 in
theorem gw_609 : (Jvm.Cond.code ({ cls := "GateHouse$TextReader", name := "isAddressPart", desc := "()Z" } : Jvm.MethodName) prog_11_method_13_code (1 : Nat) (Option.some Jvm.ClassFile.FieldType.boolean)) ∈ gG := gG_of 712 (rfl) rfl
theorem gw_610 : (Jvm.Cond.methodLink "GateHouse$TextReader" (126 : Nat) ({ cls := "GateHouse$TextReader", name := "top", desc := "()J" } : Jvm.MethodName)) ∈ gG := gG_of 713 (by decide +kernel) rfl
theorem gw_612 : (Jvm.Cond.instanceMethod ({ cls := "GateHouse$TextReader", name := "top", desc := "()J" } : Jvm.MethodName)) ∈ gG := gG_of 715 (by decide +kernel) rfl
set_option maxRecDepth 20000 in
theorem gw_613 : (Jvm.Cond.code ({ cls := "GateHouse$TextReader", name := "top", desc := "()J" } : Jvm.MethodName) prog_11_method_15_code (1 : Nat) (Option.some Jvm.ClassFile.FieldType.long)) ∈ gG := gG_of 716 (rfl) rfl
theorem gw_615 : (Jvm.Cond.methodLink "GateHouse$TextReader" (90 : Nat) ({ cls := "GateHouse$TextReader", name := "takePart", desc := "(LGateHouse$RuleList;)I" } : Jvm.MethodName)) ∈ gG := gG_of 718 (by decide +kernel) rfl
theorem gw_617 : (Jvm.Cond.instanceMethod ({ cls := "GateHouse$TextReader", name := "takePart", desc := "(LGateHouse$RuleList;)I" } : Jvm.MethodName)) ∈ gG := gG_of 720 (by decide +kernel) rfl
set_option maxRecDepth 20000 in
theorem gw_618 : (Jvm.Cond.code ({ cls := "GateHouse$TextReader", name := "takePart", desc := "(LGateHouse$RuleList;)I" } : Jvm.MethodName) prog_11_method_7_code (2 : Nat) (Option.some Jvm.ClassFile.FieldType.int)) ∈ gG := gG_of 721 (rfl) rfl
theorem gw_619 : (Jvm.Cond.methodLink "GateHouse$TextReader" (114 : Nat) ({ cls := "GateHouse$TextReader", name := "partHere", desc := "()I" } : Jvm.MethodName)) ∈ gG := gG_of 722 (by decide +kernel) rfl
theorem gw_621 : (Jvm.Cond.instanceMethod ({ cls := "GateHouse$TextReader", name := "partHere", desc := "()I" } : Jvm.MethodName)) ∈ gG := gG_of 724 (by decide +kernel) rfl
set_option maxRecDepth 20000 in
theorem gw_622 : (Jvm.Cond.code ({ cls := "GateHouse$TextReader", name := "partHere", desc := "()I" } : Jvm.MethodName) prog_11_method_17_code (2 : Nat) (Option.some Jvm.ClassFile.FieldType.int)) ∈ gG := gG_of 725 (rfl) rfl
theorem gw_624 : (Jvm.Cond.static ({ cls := "GateHouse", name := "partWord", desc := "(I)Ljava/lang/String;" } : Jvm.MethodName)) ∈ gG := gG_of 727 (by decide +kernel) rfl
set_option maxRecDepth 20000 in
theorem gw_625 : (Jvm.Cond.code ({ cls := "GateHouse", name := "partWord", desc := "(I)Ljava/lang/String;" } : Jvm.MethodName) prog_1_method_30_code (1 : Nat) (Option.some (Jvm.ClassFile.FieldType.object "java/lang/String"))) ∈ gG := gG_of 728 (rfl) rfl
theorem gw_633 : (Jvm.Cond.methodLink "GateHouse$TextReader" (93 : Nat) ({ cls := "GateHouse$TextReader", name := "takeLastValue", desc := "(LGateHouse$Rule;)I" } : Jvm.MethodName)) ∈ gG := gG_of 736 (by decide +kernel) rfl
theorem gw_635 : (Jvm.Cond.instanceMethod ({ cls := "GateHouse$TextReader", name := "takeLastValue", desc := "(LGateHouse$Rule;)I" } : Jvm.MethodName)) ∈ gG := gG_of 738 (by decide +kernel) rfl
set_option maxRecDepth 20000 in
theorem gw_636 : (Jvm.Cond.code ({ cls := "GateHouse$TextReader", name := "takeLastValue", desc := "(LGateHouse$Rule;)I" } : Jvm.MethodName) prog_11_method_10_code (2 : Nat) (Option.some Jvm.ClassFile.FieldType.int)) ∈ gG := gG_of 739 (rfl) rfl
theorem gw_637 : (Jvm.Cond.methodLink "GateHouse$TextReader" (96 : Nat) ({ cls := "GateHouse$TextReader", name := "takeBits", desc := "(LGateHouse$Rule;)I" } : Jvm.MethodName)) ∈ gG := gG_of 740 (by decide +kernel) rfl
theorem gw_639 : (Jvm.Cond.instanceMethod ({ cls := "GateHouse$TextReader", name := "takeBits", desc := "(LGateHouse$Rule;)I" } : Jvm.MethodName)) ∈ gG := gG_of 742 (by decide +kernel) rfl
set_option maxRecDepth 20000 in
theorem gw_640 : (Jvm.Cond.code ({ cls := "GateHouse$TextReader", name := "takeBits", desc := "(LGateHouse$Rule;)I" } : Jvm.MethodName) prog_11_method_11_code (4 : Nat) (Option.some Jvm.ClassFile.FieldType.int)) ∈ gG := gG_of 743 (rfl) rfl
theorem gw_641 : (Jvm.Cond.constantLong "GateHouse$TextReader" (140 : Nat) (32 : Int64)) ∈ gG := gG_of 744 (by decide +kernel) rfl
theorem gw_642 : (Jvm.Cond.constantLong "GateHouse$TextReader" (142 : Nat) (-1 : Int64)) ∈ gG := gG_of 745 (by decide +kernel) rfl
theorem gw_643 : (Jvm.Cond.methodLink "GateHouse$TextReader" (99 : Nat) ({ cls := "GateHouse$TextReader", name := "takeState", desc := "(LGateHouse$Rule;)I" } : Jvm.MethodName)) ∈ gG := gG_of 746 (by decide +kernel) rfl
theorem gw_645 : (Jvm.Cond.instanceMethod ({ cls := "GateHouse$TextReader", name := "takeState", desc := "(LGateHouse$Rule;)I" } : Jvm.MethodName)) ∈ gG := gG_of 748 (by decide +kernel) rfl
set_option maxRecDepth 20000 in
theorem gw_646 : (Jvm.Cond.code ({ cls := "GateHouse$TextReader", name := "takeState", desc := "(LGateHouse$Rule;)I" } : Jvm.MethodName) prog_11_method_12_code (3 : Nat) (Option.some Jvm.ClassFile.FieldType.int)) ∈ gG := gG_of 749 (rfl) rfl
theorem gw_647 : (Jvm.Cond.methodLink "GateHouse$TextReader" (144 : Nat) ({ cls := "GateHouse$TextReader", name := "stateHere", desc := "()I" } : Jvm.MethodName)) ∈ gG := gG_of 750 (by decide +kernel) rfl
theorem gw_649 : (Jvm.Cond.instanceMethod ({ cls := "GateHouse$TextReader", name := "stateHere", desc := "()I" } : Jvm.MethodName)) ∈ gG := gG_of 752 (by decide +kernel) rfl
set_option maxRecDepth 20000 in
theorem gw_650 : (Jvm.Cond.code ({ cls := "GateHouse$TextReader", name := "stateHere", desc := "()I" } : Jvm.MethodName) prog_11_method_18_code (2 : Nat) (Option.some Jvm.ClassFile.FieldType.int)) ∈ gG := gG_of 753 (rfl) rfl
theorem gw_652 : (Jvm.Cond.static ({ cls := "GateHouse", name := "stateWord", desc := "(I)Ljava/lang/String;" } : Jvm.MethodName)) ∈ gG := gG_of 755 (by decide +kernel) rfl
set_option maxRecDepth 20000 in
theorem gw_653 : (Jvm.Cond.code ({ cls := "GateHouse", name := "stateWord", desc := "(I)Ljava/lang/String;" } : Jvm.MethodName) prog_1_method_31_code (1 : Nat) (Option.some (Jvm.ClassFile.FieldType.object "java/lang/String"))) ∈ gG := gG_of 756 (rfl) rfl
theorem gw_658 : (Jvm.Cond.methodLink "GateHouse" (100 : Nat) ({ cls := "GateHouse", name := "placeDraft", desc := "(I)V" } : Jvm.MethodName)) ∈ gG := gG_of 761 (by decide +kernel) rfl
theorem gw_660 : (Jvm.Cond.instanceMethod ({ cls := "GateHouse", name := "placeDraft", desc := "(I)V" } : Jvm.MethodName)) ∈ gG := gG_of 763 (by decide +kernel) rfl
set_option maxRecDepth 20000 in
theorem gw_661 : (Jvm.Cond.code ({ cls := "GateHouse", name := "placeDraft", desc := "(I)V" } : Jvm.MethodName) prog_1_method_26_code (3 : Nat) (Option.none : Option Jvm.ClassFile.FieldType)) ∈ gG := gG_of 764 (rfl) rfl
theorem gw_662 : (Jvm.Cond.methodLink "GateHouseLaw" (91 : Nat) ({ cls := "GateHouseLaw", name := "rules", desc := "(LGateHouse;I[J)I" } : Jvm.MethodName)) ∈ gG := gG_of 765 (by decide +kernel) rfl
theorem gw_663 : (Jvm.Cond.static ({ cls := "GateHouseLaw", name := "rules", desc := "(LGateHouse;I[J)I" } : Jvm.MethodName)) ∈ gG := gG_of 766 (by decide +kernel) rfl
set_option maxRecDepth 20000 in
theorem gw_664 : (Jvm.Cond.codeWith ({ cls := "GateHouseLaw", name := "rules", desc := "(LGateHouse;I[J)I" } : Jvm.MethodName) method_4_code (4 : Nat) (Option.some Jvm.ClassFile.FieldType.int) [((0 : Nat), (9 : Nat), (12 : Nat), (13 : Nat))]) ∈ gG := gG_of 767 (rfl) rfl
theorem gw_665 : (Jvm.Cond.methodLink "GateHouseLaw" (15 : Nat) ({ cls := "GateHouse", name := "rules", desc := "(I)I" } : Jvm.MethodName)) ∈ gG := gG_of 768 (by decide +kernel) rfl
theorem gw_666 : (Jvm.Cond.instanceMethod ({ cls := "GateHouse", name := "rules", desc := "(I)I" } : Jvm.MethodName)) ∈ gG := gG_of 769 (by decide +kernel) rfl
theorem gw_667 : (Jvm.Cond.selects "GateHouse" ({ cls := "GateHouse", name := "rules", desc := "(I)I" } : Jvm.MethodName) ({ cls := "GateHouse", name := "rules", desc := "(I)I" } : Jvm.MethodName)) ∈ gG := gG_of 770 (by decide +kernel) rfl
set_option maxRecDepth 20000 in
theorem gw_668 : (Jvm.Cond.code ({ cls := "GateHouse", name := "rules", desc := "(I)I" } : Jvm.MethodName) prog_1_method_6_code (2 : Nat) (Option.some Jvm.ClassFile.FieldType.int)) ∈ gG := gG_of 771 (rfl) rfl
theorem gw_669 : (Jvm.Cond.methodLink "GateHouseLaw" (94 : Nat) ({ cls := "GateHouseLaw", name := "rule", desc := "(LGateHouse;III[J)I" } : Jvm.MethodName)) ∈ gG := gG_of 772 (by decide +kernel) rfl
theorem gw_670 : (Jvm.Cond.static ({ cls := "GateHouseLaw", name := "rule", desc := "(LGateHouse;III[J)I" } : Jvm.MethodName)) ∈ gG := gG_of 773 (by decide +kernel) rfl
set_option maxRecDepth 20000 in
theorem gw_671 : (Jvm.Cond.codeWith ({ cls := "GateHouseLaw", name := "rule", desc := "(LGateHouse;III[J)I" } : Jvm.MethodName) method_5_code (6 : Nat) (Option.some Jvm.ClassFile.FieldType.int) [((0 : Nat), (12 : Nat), (15 : Nat), (13 : Nat)), ((0 : Nat), (12 : Nat), (19 : Nat), (22 : Nat))]) ∈ gG := gG_of 774 (rfl) rfl
theorem gw_672 : (Jvm.Cond.classLink "GateHouseLaw" (22 : Nat) "java/util/NoSuchElementException") ∈ gG := gG_of 775 (by decide +kernel) rfl
theorem gw_673 : (Jvm.Cond.methodLink "GateHouseLaw" (18 : Nat) ({ cls := "GateHouse", name := "rule", desc := "(III)I" } : Jvm.MethodName)) ∈ gG := gG_of 776 (by decide +kernel) rfl
theorem gw_674 : (Jvm.Cond.instanceMethod ({ cls := "GateHouse", name := "rule", desc := "(III)I" } : Jvm.MethodName)) ∈ gG := gG_of 777 (by decide +kernel) rfl
theorem gw_675 : (Jvm.Cond.selects "GateHouse" ({ cls := "GateHouse", name := "rule", desc := "(III)I" } : Jvm.MethodName) ({ cls := "GateHouse", name := "rule", desc := "(III)I" } : Jvm.MethodName)) ∈ gG := gG_of 778 (by decide +kernel) rfl
set_option maxRecDepth 20000 in
theorem gw_676 : (Jvm.Cond.code ({ cls := "GateHouse", name := "rule", desc := "(III)I" } : Jvm.MethodName) prog_1_method_7_code (5 : Nat) (Option.some Jvm.ClassFile.FieldType.int)) ∈ gG := gG_of 779 (rfl) rfl
theorem gw_677 : (Jvm.Cond.methodLink "GateHouse" (104 : Nat) ({ cls := "GateHouse", name := "policyPart", desc := "(LGateHouse$RuleList;I)I" } : Jvm.MethodName)) ∈ gG := gG_of 780 (by decide +kernel) rfl
theorem gw_678 : (Jvm.Cond.static ({ cls := "GateHouse", name := "policyPart", desc := "(LGateHouse$RuleList;I)I" } : Jvm.MethodName)) ∈ gG := gG_of 781 (by decide +kernel) rfl
set_option maxRecDepth 20000 in
theorem gw_679 : (Jvm.Cond.code ({ cls := "GateHouse", name := "policyPart", desc := "(LGateHouse$RuleList;I)I" } : Jvm.MethodName) prog_1_method_25_code (2 : Nat) (Option.some Jvm.ClassFile.FieldType.int)) ∈ gG := gG_of 782 (rfl) rfl
theorem gw_680 : (Jvm.Cond.classLink "GateHouse" (112 : Nat) "java/util/NoSuchElementException") ∈ gG := gG_of 783 (by decide +kernel) rfl
theorem gw_681 : (Jvm.Cond.instantiable "java/util/NoSuchElementException" (6 : Nat)) ∈ gG := gG_of 784 (by decide +kernel) rfl
theorem gw_683 : (Jvm.Cond.selects "java/util/NoSuchElementException" ({ cls := "java/lang/Throwable", name := "fillInStackTrace", desc := "(I)Ljava/lang/Throwable;" } : Jvm.MethodName) ({ cls := "java/lang/Throwable", name := "fillInStackTrace", desc := "(I)Ljava/lang/Throwable;" } : Jvm.MethodName)) ∈ gG := gG_of 786 (by decide +kernel) rfl
theorem gw_690 : (Jvm.Cond.methodLink "GateHouse" (116 : Nat) ({ cls := "java/util/NoSuchElementException", name := "<init>", desc := "(Ljava/lang/String;)V" } : Jvm.MethodName)) ∈ gG := gG_of 793 (by decide +kernel) rfl
theorem gw_691 : (Jvm.Cond.instanceMethod ({ cls := "java/util/NoSuchElementException", name := "<init>", desc := "(Ljava/lang/String;)V" } : Jvm.MethodName)) ∈ gG := gG_of 794 (by decide +kernel) rfl
set_option maxRecDepth 20000 in
theorem gw_692 : (Jvm.Cond.code ({ cls := "java/util/NoSuchElementException", name := "<init>", desc := "(Ljava/lang/String;)V" } : Jvm.MethodName) prog_24_method_4_code (2 : Nat) (Option.none : Option Jvm.ClassFile.FieldType)) ∈ gG := gG_of 795 (rfl) rfl
theorem gw_693 : (Jvm.Cond.methodLink "java/util/NoSuchElementException" (13 : Nat) ({ cls := "java/lang/RuntimeException", name := "<init>", desc := "(Ljava/lang/String;)V" } : Jvm.MethodName)) ∈ gG := gG_of 796 (by decide +kernel) rfl
theorem gw_696 : (Jvm.Cond.methodLink "GateHouse" (108 : Nat) ({ cls := "GateHouse", name := "checkRule", desc := "(LGateHouse$RuleList;I)V" } : Jvm.MethodName)) ∈ gG := gG_of 799 (by decide +kernel) rfl
theorem gw_697 : (Jvm.Cond.static ({ cls := "GateHouse", name := "checkRule", desc := "(LGateHouse$RuleList;I)V" } : Jvm.MethodName)) ∈ gG := gG_of 800 (by decide +kernel) rfl
set_option maxRecDepth 20000 in
theorem gw_698 : (Jvm.Cond.code ({ cls := "GateHouse", name := "checkRule", desc := "(LGateHouse$RuleList;I)V" } : Jvm.MethodName) prog_1_method_23_code (2 : Nat) (Option.none : Option Jvm.ClassFile.FieldType)) ∈ gG := gG_of 801 (rfl) rfl
theorem gw_701 : (Jvm.Cond.methodLink "GateHouse" (119 : Nat) ({ cls := "GateHouse$RuleList", name := "at", desc := "(I)LGateHouse$Rule;" } : Jvm.MethodName)) ∈ gG := gG_of 804 (by decide +kernel) rfl
theorem gw_702 : (Jvm.Cond.methodLink "GateHouse" (123 : Nat) ({ cls := "GateHouse$Rule", name := "part", desc := "(I)I" } : Jvm.MethodName)) ∈ gG := gG_of 805 (by decide +kernel) rfl
theorem gw_703 : (Jvm.Cond.instanceMethod ({ cls := "GateHouse$Rule", name := "part", desc := "(I)I" } : Jvm.MethodName)) ∈ gG := gG_of 806 (by decide +kernel) rfl
theorem gw_704 : (Jvm.Cond.selects "GateHouse$Rule" ({ cls := "GateHouse$Rule", name := "part", desc := "(I)I" } : Jvm.MethodName) ({ cls := "GateHouse$Rule", name := "part", desc := "(I)I" } : Jvm.MethodName)) ∈ gG := gG_of 807 (by decide +kernel) rfl
set_option maxRecDepth 20000 in
theorem gw_705 : (Jvm.Cond.code ({ cls := "GateHouse$Rule", name := "part", desc := "(I)I" } : Jvm.MethodName) prog_7_method_9_code (3 : Nat) (Option.some Jvm.ClassFile.FieldType.int)) ∈ gG := gG_of 808 (rfl) rfl
theorem gw_706 : (Jvm.Cond.methodLink "GateHouseLaw" (98 : Nat) ({ cls := "GateHouseLaw", name := "write", desc := "(LGateHouse;I[J)I" } : Jvm.MethodName)) ∈ gG := gG_of 809 (by decide +kernel) rfl
theorem gw_707 : (Jvm.Cond.static ({ cls := "GateHouseLaw", name := "write", desc := "(LGateHouse;I[J)I" } : Jvm.MethodName)) ∈ gG := gG_of 810 (by decide +kernel) rfl
set_option maxRecDepth 20000 in
theorem gw_708 : (Jvm.Cond.codeWith ({ cls := "GateHouseLaw", name := "write", desc := "(LGateHouse;I[J)I" } : Jvm.MethodName) method_6_code (4 : Nat) (Option.some Jvm.ClassFile.FieldType.int) [((0 : Nat), (9 : Nat), (12 : Nat), (13 : Nat))]) ∈ gG := gG_of 811 (rfl) rfl
theorem gw_709 : (Jvm.Cond.methodLink "GateHouseLaw" (24 : Nat) ({ cls := "GateHouse", name := "write", desc := "(I)I" } : Jvm.MethodName)) ∈ gG := gG_of 812 (by decide +kernel) rfl
theorem gw_710 : (Jvm.Cond.instanceMethod ({ cls := "GateHouse", name := "write", desc := "(I)I" } : Jvm.MethodName)) ∈ gG := gG_of 813 (by decide +kernel) rfl
theorem gw_711 : (Jvm.Cond.selects "GateHouse" ({ cls := "GateHouse", name := "write", desc := "(I)I" } : Jvm.MethodName) ({ cls := "GateHouse", name := "write", desc := "(I)I" } : Jvm.MethodName)) ∈ gG := gG_of 814 (by decide +kernel) rfl
set_option maxRecDepth 20000 in
theorem gw_712 : (Jvm.Cond.code ({ cls := "GateHouse", name := "write", desc := "(I)I" } : Jvm.MethodName) prog_1_method_8_code (2 : Nat) (Option.some Jvm.ClassFile.FieldType.int)) ∈ gG := gG_of 815 (rfl) rfl
theorem gw_713 : (Jvm.Cond.methodLink "GateHouse" (129 : Nat) ({ cls := "GateHouse$ListWriter", name := "put", desc := "(LGateHouse$RuleList;LGateHouse$Octets;)V" } : Jvm.MethodName)) ∈ gG := gG_of 816 (by decide +kernel) rfl
theorem gw_714 : (Jvm.Cond.static ({ cls := "GateHouse$ListWriter", name := "put", desc := "(LGateHouse$RuleList;LGateHouse$Octets;)V" } : Jvm.MethodName)) ∈ gG := gG_of 817 (by decide +kernel) rfl
set_option maxRecDepth 20000 in
theorem gw_715 : (Jvm.Cond.code ({ cls := "GateHouse$ListWriter", name := "put", desc := "(LGateHouse$RuleList;LGateHouse$Octets;)V" } : Jvm.MethodName) prog_3_method_2_code (3 : Nat) (Option.none : Option Jvm.ClassFile.FieldType)) ∈ gG := gG_of 818 (rfl) rfl
theorem gw_717 : (Jvm.Cond.methodLink "GateHouse$ListWriter" (11 : Nat) ({ cls := "GateHouse$Octets", name := "addText", desc := "(Ljava/lang/String;)V" } : Jvm.MethodName)) ∈ gG := gG_of 820 (by decide +kernel) rfl
theorem gw_718 : (Jvm.Cond.instanceMethod ({ cls := "GateHouse$Octets", name := "addText", desc := "(Ljava/lang/String;)V" } : Jvm.MethodName)) ∈ gG := gG_of 821 (by decide +kernel) rfl
theorem gw_719 : (Jvm.Cond.selects "GateHouse$Octets" ({ cls := "GateHouse$Octets", name := "addText", desc := "(Ljava/lang/String;)V" } : Jvm.MethodName) ({ cls := "GateHouse$Octets", name := "addText", desc := "(Ljava/lang/String;)V" } : Jvm.MethodName)) ∈ gG := gG_of 822 (by decide +kernel) rfl
set_option maxRecDepth 20000 in
theorem gw_720 : (Jvm.Cond.code ({ cls := "GateHouse$Octets", name := "addText", desc := "(Ljava/lang/String;)V" } : Jvm.MethodName) prog_4_method_9_code (3 : Nat) (Option.none : Option Jvm.ClassFile.FieldType)) ∈ gG := gG_of 823 (rfl) rfl
theorem gw_721 : (Jvm.Cond.methodLink "GateHouse$Octets" (33 : Nat) ({ cls := "java/lang/String", name := "length", desc := "()I" } : Jvm.MethodName)) ∈ gG := gG_of 824 (by decide +kernel) rfl
theorem gw_722 : (Jvm.Cond.methodLink "GateHouse$Octets" (39 : Nat) ({ cls := "java/lang/String", name := "charAt", desc := "(I)C" } : Jvm.MethodName)) ∈ gG := gG_of 825 (by decide +kernel) rfl
theorem gw_724 : (Jvm.Cond.methodLink "GateHouse$ListWriter" (27 : Nat) ({ cls := "GateHouse$ListWriter", name := "putEnd", desc := "(LGateHouse$Octets;)V" } : Jvm.MethodName)) ∈ gG := gG_of 827 (by decide +kernel) rfl
theorem gw_725 : (Jvm.Cond.static ({ cls := "GateHouse$ListWriter", name := "putEnd", desc := "(LGateHouse$Octets;)V" } : Jvm.MethodName)) ∈ gG := gG_of 828 (by decide +kernel) rfl
set_option maxRecDepth 20000 in
theorem gw_726 : (Jvm.Cond.code ({ cls := "GateHouse$ListWriter", name := "putEnd", desc := "(LGateHouse$Octets;)V" } : Jvm.MethodName) prog_3_method_4_code (1 : Nat) (Option.none : Option Jvm.ClassFile.FieldType)) ∈ gG := gG_of 829 (rfl) rfl
theorem gw_727 : (Jvm.Cond.methodLink "GateHouse$ListWriter" (53 : Nat) ({ cls := "GateHouse$Octets", name := "add", desc := "(I)V" } : Jvm.MethodName)) ∈ gG := gG_of 830 (by decide +kernel) rfl
theorem gw_728 : (Jvm.Cond.methodLink "GateHouse$ListWriter" (36 : Nat) ({ cls := "GateHouse$RuleList", name := "at", desc := "(I)LGateHouse$Rule;" } : Jvm.MethodName)) ∈ gG := gG_of 831 (by decide +kernel) rfl
theorem gw_729 : (Jvm.Cond.methodLink "GateHouse$ListWriter" (40 : Nat) ({ cls := "GateHouse$ListWriter", name := "putRule", desc := "(LGateHouse$Rule;LGateHouse$Octets;)V" } : Jvm.MethodName)) ∈ gG := gG_of 832 (by decide +kernel) rfl
theorem gw_730 : (Jvm.Cond.static ({ cls := "GateHouse$ListWriter", name := "putRule", desc := "(LGateHouse$Rule;LGateHouse$Octets;)V" } : Jvm.MethodName)) ∈ gG := gG_of 833 (by decide +kernel) rfl
set_option maxRecDepth 20000 in
theorem gw_731 : (Jvm.Cond.code ({ cls := "GateHouse$ListWriter", name := "putRule", desc := "(LGateHouse$Rule;LGateHouse$Octets;)V" } : Jvm.MethodName) prog_3_method_3_code (3 : Nat) (Option.none : Option Jvm.ClassFile.FieldType)) ∈ gG := gG_of 834 (rfl) rfl
theorem gw_732 : (Jvm.Cond.methodLink "GateHouse$ListWriter" (49 : Nat) ({ cls := "GateHouse$Rule", name := "isWhole", desc := "(I)Z" } : Jvm.MethodName)) ∈ gG := gG_of 835 (by decide +kernel) rfl
theorem gw_733 : (Jvm.Cond.instanceMethod ({ cls := "GateHouse$Rule", name := "isWhole", desc := "(I)Z" } : Jvm.MethodName)) ∈ gG := gG_of 836 (by decide +kernel) rfl
theorem gw_734 : (Jvm.Cond.selects "GateHouse$Rule" ({ cls := "GateHouse$Rule", name := "isWhole", desc := "(I)Z" } : Jvm.MethodName) ({ cls := "GateHouse$Rule", name := "isWhole", desc := "(I)Z" } : Jvm.MethodName)) ∈ gG := gG_of 837 (by decide +kernel) rfl
set_option maxRecDepth 20000 in
theorem gw_735 : (Jvm.Cond.code ({ cls := "GateHouse$Rule", name := "isWhole", desc := "(I)Z" } : Jvm.MethodName) prog_7_method_5_code (2 : Nat) (Option.some Jvm.ClassFile.FieldType.boolean)) ∈ gG := gG_of 838 (rfl) rfl
theorem gw_737 : (Jvm.Cond.methodLink "GateHouse$ListWriter" (60 : Nat) ({ cls := "GateHouse$ListWriter", name := "putPart", desc := "(LGateHouse$Rule;ILGateHouse$Octets;)V" } : Jvm.MethodName)) ∈ gG := gG_of 840 (by decide +kernel) rfl
theorem gw_738 : (Jvm.Cond.static ({ cls := "GateHouse$ListWriter", name := "putPart", desc := "(LGateHouse$Rule;ILGateHouse$Octets;)V" } : Jvm.MethodName)) ∈ gG := gG_of 841 (by decide +kernel) rfl
set_option maxRecDepth 20000 in
theorem gw_739 : (Jvm.Cond.code ({ cls := "GateHouse$ListWriter", name := "putPart", desc := "(LGateHouse$Rule;ILGateHouse$Octets;)V" } : Jvm.MethodName) prog_3_method_5_code (3 : Nat) (Option.none : Option Jvm.ClassFile.FieldType)) ∈ gG := gG_of 842 (rfl) rfl
theorem gw_740 : (Jvm.Cond.methodLink "GateHouse$ListWriter" (64 : Nat) ({ cls := "GateHouse$ListWriter", name := "putStates", desc := "(LGateHouse$Rule;LGateHouse$Octets;)V" } : Jvm.MethodName)) ∈ gG := gG_of 843 (by decide +kernel) rfl
theorem gw_741 : (Jvm.Cond.static ({ cls := "GateHouse$ListWriter", name := "putStates", desc := "(LGateHouse$Rule;LGateHouse$Octets;)V" } : Jvm.MethodName)) ∈ gG := gG_of 844 (by decide +kernel) rfl
set_option maxRecDepth 20000 in
theorem gw_742 : (Jvm.Cond.code ({ cls := "GateHouse$ListWriter", name := "putStates", desc := "(LGateHouse$Rule;LGateHouse$Octets;)V" } : Jvm.MethodName) prog_3_method_7_code (4 : Nat) (Option.none : Option Jvm.ClassFile.FieldType)) ∈ gG := gG_of 845 (rfl) rfl
theorem gw_743 : (Jvm.Cond.methodLink "GateHouse$ListWriter" (83 : Nat) ({ cls := "GateHouse$Rule", name := "hasState", desc := "(I)Z" } : Jvm.MethodName)) ∈ gG := gG_of 846 (by decide +kernel) rfl
theorem gw_744 : (Jvm.Cond.instanceMethod ({ cls := "GateHouse$Rule", name := "hasState", desc := "(I)Z" } : Jvm.MethodName)) ∈ gG := gG_of 847 (by decide +kernel) rfl
theorem gw_745 : (Jvm.Cond.selects "GateHouse$Rule" ({ cls := "GateHouse$Rule", name := "hasState", desc := "(I)Z" } : Jvm.MethodName) ({ cls := "GateHouse$Rule", name := "hasState", desc := "(I)Z" } : Jvm.MethodName)) ∈ gG := gG_of 848 (by decide +kernel) rfl
set_option maxRecDepth 20000 in
theorem gw_746 : (Jvm.Cond.code ({ cls := "GateHouse$Rule", name := "hasState", desc := "(I)Z" } : Jvm.MethodName) prog_7_method_6_code (2 : Nat) (Option.some Jvm.ClassFile.FieldType.boolean)) ∈ gG := gG_of 849 (rfl) rfl
theorem gw_748 : (Jvm.Cond.methodLink "GateHouse$ListWriter" (71 : Nat) ({ cls := "GateHouse$ListWriter", name := "putValue", desc := "(JILGateHouse$Octets;)V" } : Jvm.MethodName)) ∈ gG := gG_of 851 (by decide +kernel) rfl
theorem gw_749 : (Jvm.Cond.static ({ cls := "GateHouse$ListWriter", name := "putValue", desc := "(JILGateHouse$Octets;)V" } : Jvm.MethodName)) ∈ gG := gG_of 852 (by decide +kernel) rfl
set_option maxRecDepth 20000 in
theorem gw_750 : (Jvm.Cond.code ({ cls := "GateHouse$ListWriter", name := "putValue", desc := "(JILGateHouse$Octets;)V" } : Jvm.MethodName) prog_3_method_6_code (5 : Nat) (Option.none : Option Jvm.ClassFile.FieldType)) ∈ gG := gG_of 853 (rfl) rfl
theorem gw_751 : (Jvm.Cond.methodLink "GateHouse$ListWriter" (78 : Nat) ({ cls := "GateHouse$Octets", name := "addNumber", desc := "(I)V" } : Jvm.MethodName)) ∈ gG := gG_of 854 (by decide +kernel) rfl
theorem gw_752 : (Jvm.Cond.instanceMethod ({ cls := "GateHouse$Octets", name := "addNumber", desc := "(I)V" } : Jvm.MethodName)) ∈ gG := gG_of 855 (by decide +kernel) rfl
theorem gw_753 : (Jvm.Cond.selects "GateHouse$Octets" ({ cls := "GateHouse$Octets", name := "addNumber", desc := "(I)V" } : Jvm.MethodName) ({ cls := "GateHouse$Octets", name := "addNumber", desc := "(I)V" } : Jvm.MethodName)) ∈ gG := gG_of 856 (by decide +kernel) rfl
set_option maxRecDepth 20000 in
theorem gw_754 : (Jvm.Cond.code ({ cls := "GateHouse$Octets", name := "addNumber", desc := "(I)V" } : Jvm.MethodName) prog_4_method_10_code (3 : Nat) (Option.none : Option Jvm.ClassFile.FieldType)) ∈ gG := gG_of 857 (rfl) rfl
theorem gw_755 : (Jvm.Cond.constantLong "GateHouse$ListWriter" (81 : Nat) (255 : Int64)) ∈ gG := gG_of 858 (by decide +kernel) rfl
theorem gw_756 : (Jvm.Cond.methodLink "GateHouseLaw" (101 : Nat) ({ cls := "GateHouseLaw", name := "octet", desc := "(LGateHouse;I[J)I" } : Jvm.MethodName)) ∈ gG := gG_of 859 (by decide +kernel) rfl
theorem gw_757 : (Jvm.Cond.static ({ cls := "GateHouseLaw", name := "octet", desc := "(LGateHouse;I[J)I" } : Jvm.MethodName)) ∈ gG := gG_of 860 (by decide +kernel) rfl
set_option maxRecDepth 20000 in
theorem gw_758 : (Jvm.Cond.codeWith ({ cls := "GateHouseLaw", name := "octet", desc := "(LGateHouse;I[J)I" } : Jvm.MethodName) method_7_code (4 : Nat) (Option.some Jvm.ClassFile.FieldType.int) [((0 : Nat), (9 : Nat), (12 : Nat), (22 : Nat))]) ∈ gG := gG_of 861 (rfl) rfl
theorem gw_759 : (Jvm.Cond.methodLink "GateHouseLaw" (27 : Nat) ({ cls := "GateHouse", name := "octet", desc := "(I)I" } : Jvm.MethodName)) ∈ gG := gG_of 862 (by decide +kernel) rfl
theorem gw_760 : (Jvm.Cond.instanceMethod ({ cls := "GateHouse", name := "octet", desc := "(I)I" } : Jvm.MethodName)) ∈ gG := gG_of 863 (by decide +kernel) rfl
theorem gw_761 : (Jvm.Cond.selects "GateHouse" ({ cls := "GateHouse", name := "octet", desc := "(I)I" } : Jvm.MethodName) ({ cls := "GateHouse", name := "octet", desc := "(I)I" } : Jvm.MethodName)) ∈ gG := gG_of 864 (by decide +kernel) rfl
set_option maxRecDepth 20000 in
theorem gw_762 : (Jvm.Cond.code ({ cls := "GateHouse", name := "octet", desc := "(I)I" } : Jvm.MethodName) prog_1_method_9_code (2 : Nat) (Option.some Jvm.ClassFile.FieldType.int)) ∈ gG := gG_of 865 (rfl) rfl
theorem gw_764 : (Jvm.Cond.methodLink "GateHouse" (137 : Nat) ({ cls := "GateHouse$Octets", name := "at", desc := "(I)I" } : Jvm.MethodName)) ∈ gG := gG_of 867 (by decide +kernel) rfl
theorem gw_765 : (Jvm.Cond.methodLink "GateHouseLaw" (104 : Nat) ({ cls := "GateHouseLaw", name := "match", desc := "(LGateHouse;IIIIIIII[J)I" } : Jvm.MethodName)) ∈ gG := gG_of 868 (by decide +kernel) rfl
theorem gw_766 : (Jvm.Cond.static ({ cls := "GateHouseLaw", name := "match", desc := "(LGateHouse;IIIIIIII[J)I" } : Jvm.MethodName)) ∈ gG := gG_of 869 (by decide +kernel) rfl
set_option maxRecDepth 20000 in
theorem gw_767 : (Jvm.Cond.codeWith ({ cls := "GateHouseLaw", name := "match", desc := "(LGateHouse;IIIIIIII[J)I" } : Jvm.MethodName) method_8_code (11 : Nat) (Option.some Jvm.ClassFile.FieldType.int) [((0 : Nat), (22 : Nat), (25 : Nat), (13 : Nat)), ((0 : Nat), (22 : Nat), (29 : Nat), (34 : Nat))]) ∈ gG := gG_of 870 (rfl) rfl
theorem gw_768 : (Jvm.Cond.classLink "GateHouseLaw" (34 : Nat) "java/lang/IllegalArgumentException") ∈ gG := gG_of 871 (by decide +kernel) rfl
theorem gw_769 : (Jvm.Cond.methodLink "GateHouseLaw" (30 : Nat) ({ cls := "GateHouse", name := "match", desc := "(IIIIIIII)I" } : Jvm.MethodName)) ∈ gG := gG_of 872 (by decide +kernel) rfl
theorem gw_770 : (Jvm.Cond.instanceMethod ({ cls := "GateHouse", name := "match", desc := "(IIIIIIII)I" } : Jvm.MethodName)) ∈ gG := gG_of 873 (by decide +kernel) rfl
theorem gw_771 : (Jvm.Cond.selects "GateHouse" ({ cls := "GateHouse", name := "match", desc := "(IIIIIIII)I" } : Jvm.MethodName) ({ cls := "GateHouse", name := "match", desc := "(IIIIIIII)I" } : Jvm.MethodName)) ∈ gG := gG_of 874 (by decide +kernel) rfl
set_option maxRecDepth 20000 in
theorem gw_772 : (Jvm.Cond.code ({ cls := "GateHouse", name := "match", desc := "(IIIIIIII)I" } : Jvm.MethodName) prog_1_method_10_code (9 : Nat) (Option.some Jvm.ClassFile.FieldType.int)) ∈ gG := gG_of 875 (rfl) rfl
theorem gw_773 : (Jvm.Cond.methodLink "GateHouse" (139 : Nat) ({ cls := "GateHouse", name := "checkFields", desc := "(IIII)V" } : Jvm.MethodName)) ∈ gG := gG_of 876 (by decide +kernel) rfl
theorem gw_774 : (Jvm.Cond.static ({ cls := "GateHouse", name := "checkFields", desc := "(IIII)V" } : Jvm.MethodName)) ∈ gG := gG_of 877 (by decide +kernel) rfl
set_option maxRecDepth 20000 in
theorem gw_775 : (Jvm.Cond.code ({ cls := "GateHouse", name := "checkFields", desc := "(IIII)V" } : Jvm.MethodName) prog_1_method_24_code (4 : Nat) (Option.none : Option Jvm.ClassFile.FieldType)) ∈ gG := gG_of 878 (rfl) rfl
theorem gw_776 : (Jvm.Cond.fieldLink "GateHouse" (192 : Nat) "GateHouse" "TOPS" "[J") ∈ gG := gG_of 879 (by decide +kernel) rfl
theorem gw_777 : (Jvm.Cond.classLink "GateHouse" (143 : Nat) "java/lang/IllegalArgumentException") ∈ gG := gG_of 880 (by decide +kernel) rfl
theorem gw_778 : (Jvm.Cond.instantiable "java/lang/IllegalArgumentException" (6 : Nat)) ∈ gG := gG_of 881 (by decide +kernel) rfl
theorem gw_780 : (Jvm.Cond.selects "java/lang/IllegalArgumentException" ({ cls := "java/lang/Throwable", name := "fillInStackTrace", desc := "(I)Ljava/lang/Throwable;" } : Jvm.MethodName) ({ cls := "java/lang/Throwable", name := "fillInStackTrace", desc := "(I)Ljava/lang/Throwable;" } : Jvm.MethodName)) ∈ gG := gG_of 883 (by decide +kernel) rfl
theorem gw_787 : (Jvm.Cond.methodLink "GateHouse" (147 : Nat) ({ cls := "java/lang/IllegalArgumentException", name := "<init>", desc := "(Ljava/lang/String;)V" } : Jvm.MethodName)) ∈ gG := gG_of 890 (by decide +kernel) rfl
theorem gw_788 : (Jvm.Cond.instanceMethod ({ cls := "java/lang/IllegalArgumentException", name := "<init>", desc := "(Ljava/lang/String;)V" } : Jvm.MethodName)) ∈ gG := gG_of 891 (by decide +kernel) rfl
set_option maxRecDepth 20000 in
theorem gw_789 : (Jvm.Cond.code ({ cls := "java/lang/IllegalArgumentException", name := "<init>", desc := "(Ljava/lang/String;)V" } : Jvm.MethodName) prog_16_method_2_code (2 : Nat) (Option.none : Option Jvm.ClassFile.FieldType)) ∈ gG := gG_of 892 (rfl) rfl
theorem gw_790 : (Jvm.Cond.methodLink "java/lang/IllegalArgumentException" (7 : Nat) ({ cls := "java/lang/RuntimeException", name := "<init>", desc := "(Ljava/lang/String;)V" } : Jvm.MethodName)) ∈ gG := gG_of 893 (by decide +kernel) rfl
theorem gw_795 : (Jvm.Cond.methodLink "GateHouse" (148 : Nat) ({ cls := "GateHouse$Packet", name := "fill", desc := "(IIIIII)V" } : Jvm.MethodName)) ∈ gG := gG_of 898 (by decide +kernel) rfl
theorem gw_796 : (Jvm.Cond.instanceMethod ({ cls := "GateHouse$Packet", name := "fill", desc := "(IIIIII)V" } : Jvm.MethodName)) ∈ gG := gG_of 899 (by decide +kernel) rfl
theorem gw_797 : (Jvm.Cond.selects "GateHouse$Packet" ({ cls := "GateHouse$Packet", name := "fill", desc := "(IIIIII)V" } : Jvm.MethodName) ({ cls := "GateHouse$Packet", name := "fill", desc := "(IIIIII)V" } : Jvm.MethodName)) ∈ gG := gG_of 900 (by decide +kernel) rfl
set_option maxRecDepth 20000 in
theorem gw_798 : (Jvm.Cond.code ({ cls := "GateHouse$Packet", name := "fill", desc := "(IIIIII)V" } : Jvm.MethodName) prog_5_method_2_code (7 : Nat) (Option.none : Option Jvm.ClassFile.FieldType)) ∈ gG := gG_of 901 (rfl) rfl
theorem gw_800 : (Jvm.Cond.methodLink "GateHouse" (152 : Nat) ({ cls := "GateHouse$RuleList", name := "firstFor", desc := "(LGateHouse$Packet;I)I" } : Jvm.MethodName)) ∈ gG := gG_of 903 (by decide +kernel) rfl
theorem gw_801 : (Jvm.Cond.instanceMethod ({ cls := "GateHouse$RuleList", name := "firstFor", desc := "(LGateHouse$Packet;I)I" } : Jvm.MethodName)) ∈ gG := gG_of 904 (by decide +kernel) rfl
theorem gw_802 : (Jvm.Cond.selects "GateHouse$RuleList" ({ cls := "GateHouse$RuleList", name := "firstFor", desc := "(LGateHouse$Packet;I)I" } : Jvm.MethodName) ({ cls := "GateHouse$RuleList", name := "firstFor", desc := "(LGateHouse$Packet;I)I" } : Jvm.MethodName)) ∈ gG := gG_of 905 (by decide +kernel) rfl
set_option maxRecDepth 20000 in
theorem gw_803 : (Jvm.Cond.code ({ cls := "GateHouse$RuleList", name := "firstFor", desc := "(LGateHouse$Packet;I)I" } : Jvm.MethodName) prog_8_method_5_code (4 : Nat) (Option.some Jvm.ClassFile.FieldType.int)) ∈ gG := gG_of 906 (rfl) rfl
theorem gw_804 : (Jvm.Cond.methodLink "GateHouse$RuleList" (39 : Nat) ({ cls := "GateHouse$Rule", name := "takes", desc := "(LGateHouse$Packet;I)Z" } : Jvm.MethodName)) ∈ gG := gG_of 907 (by decide +kernel) rfl
theorem gw_805 : (Jvm.Cond.instanceMethod ({ cls := "GateHouse$Rule", name := "takes", desc := "(LGateHouse$Packet;I)Z" } : Jvm.MethodName)) ∈ gG := gG_of 908 (by decide +kernel) rfl
theorem gw_806 : (Jvm.Cond.selects "GateHouse$Rule" ({ cls := "GateHouse$Rule", name := "takes", desc := "(LGateHouse$Packet;I)Z" } : Jvm.MethodName) ({ cls := "GateHouse$Rule", name := "takes", desc := "(LGateHouse$Packet;I)Z" } : Jvm.MethodName)) ∈ gG := gG_of 909 (by decide +kernel) rfl
set_option maxRecDepth 20000 in
theorem gw_807 : (Jvm.Cond.code ({ cls := "GateHouse$Rule", name := "takes", desc := "(LGateHouse$Packet;I)Z" } : Jvm.MethodName) prog_7_method_7_code (4 : Nat) (Option.some Jvm.ClassFile.FieldType.boolean)) ∈ gG := gG_of 910 (rfl) rfl
theorem gw_808 : (Jvm.Cond.methodLink "GateHouse$Rule" (36 : Nat) ({ cls := "GateHouse$Rule", name := "hasState", desc := "(I)Z" } : Jvm.MethodName)) ∈ gG := gG_of 911 (by decide +kernel) rfl
theorem gw_809 : (Jvm.Cond.methodLink "GateHouseLaw" (108 : Nat) ({ cls := "GateHouseLaw", name := "shadowed", desc := "(LGateHouse;II[J)I" } : Jvm.MethodName)) ∈ gG := gG_of 912 (by decide +kernel) rfl
theorem gw_810 : (Jvm.Cond.static ({ cls := "GateHouseLaw", name := "shadowed", desc := "(LGateHouse;II[J)I" } : Jvm.MethodName)) ∈ gG := gG_of 913 (by decide +kernel) rfl
set_option maxRecDepth 20000 in
theorem gw_811 : (Jvm.Cond.codeWith ({ cls := "GateHouseLaw", name := "shadowed", desc := "(LGateHouse;II[J)I" } : Jvm.MethodName) method_9_code (5 : Nat) (Option.some Jvm.ClassFile.FieldType.int) [((0 : Nat), (17 : Nat), (20 : Nat), (13 : Nat)), ((0 : Nat), (17 : Nat), (24 : Nat), (22 : Nat))]) ∈ gG := gG_of 914 (rfl) rfl
theorem gw_812 : (Jvm.Cond.methodLink "GateHouseLaw" (36 : Nat) ({ cls := "GateHouse", name := "shadowed", desc := "(II)Z" } : Jvm.MethodName)) ∈ gG := gG_of 915 (by decide +kernel) rfl
theorem gw_813 : (Jvm.Cond.instanceMethod ({ cls := "GateHouse", name := "shadowed", desc := "(II)Z" } : Jvm.MethodName)) ∈ gG := gG_of 916 (by decide +kernel) rfl
theorem gw_814 : (Jvm.Cond.selects "GateHouse" ({ cls := "GateHouse", name := "shadowed", desc := "(II)Z" } : Jvm.MethodName) ({ cls := "GateHouse", name := "shadowed", desc := "(II)Z" } : Jvm.MethodName)) ∈ gG := gG_of 917 (by decide +kernel) rfl
set_option maxRecDepth 20000 in
theorem gw_815 : (Jvm.Cond.code ({ cls := "GateHouse", name := "shadowed", desc := "(II)Z" } : Jvm.MethodName) prog_1_method_11_code (3 : Nat) (Option.some Jvm.ClassFile.FieldType.boolean)) ∈ gG := gG_of 918 (rfl) rfl
theorem gw_816 : (Jvm.Cond.methodLink "GateHouse" (156 : Nat) ({ cls := "GateHouse$Search", name := "reaches", desc := "(LGateHouse$RuleList;I)Z" } : Jvm.MethodName)) ∈ gG := gG_of 919 (by decide +kernel) rfl
theorem gw_817 : (Jvm.Cond.instanceMethod ({ cls := "GateHouse$Search", name := "reaches", desc := "(LGateHouse$RuleList;I)Z" } : Jvm.MethodName)) ∈ gG := gG_of 920 (by decide +kernel) rfl
theorem gw_818 : (Jvm.Cond.selects "GateHouse$Search" ({ cls := "GateHouse$Search", name := "reaches", desc := "(LGateHouse$RuleList;I)Z" } : Jvm.MethodName) ({ cls := "GateHouse$Search", name := "reaches", desc := "(LGateHouse$RuleList;I)Z" } : Jvm.MethodName)) ∈ gG := gG_of 921 (by decide +kernel) rfl
set_option maxRecDepth 20000 in
theorem gw_819 : (Jvm.Cond.code ({ cls := "GateHouse$Search", name := "reaches", desc := "(LGateHouse$RuleList;I)Z" } : Jvm.MethodName) prog_9_method_3_code (3 : Nat) (Option.some Jvm.ClassFile.FieldType.boolean)) ∈ gG := gG_of 922 (rfl) rfl
theorem gw_820 : (Jvm.Cond.methodLink "GateHouse$Search" (51 : Nat) ({ cls := "GateHouse$Search", name := "prepare", desc := "(LGateHouse$RuleList;ILGateHouse$RuleList;I)V" } : Jvm.MethodName)) ∈ gG := gG_of 923 (by decide +kernel) rfl
theorem gw_822 : (Jvm.Cond.instanceMethod ({ cls := "GateHouse$Search", name := "prepare", desc := "(LGateHouse$RuleList;ILGateHouse$RuleList;I)V" } : Jvm.MethodName)) ∈ gG := gG_of 925 (by decide +kernel) rfl
set_option maxRecDepth 20000 in
theorem gw_823 : (Jvm.Cond.code ({ cls := "GateHouse$Search", name := "prepare", desc := "(LGateHouse$RuleList;ILGateHouse$RuleList;I)V" } : Jvm.MethodName) prog_9_method_8_code (6 : Nat) (Option.none : Option Jvm.ClassFile.FieldType)) ∈ gG := gG_of 926 (rfl) rfl
theorem gw_824 : (Jvm.Cond.methodLink "GateHouse$Search" (74 : Nat) ({ cls := "GateHouse$Search", name := "addCuts", desc := "(LGateHouse$RuleList;I)V" } : Jvm.MethodName)) ∈ gG := gG_of 927 (by decide +kernel) rfl
theorem gw_826 : (Jvm.Cond.instanceMethod ({ cls := "GateHouse$Search", name := "addCuts", desc := "(LGateHouse$RuleList;I)V" } : Jvm.MethodName)) ∈ gG := gG_of 929 (by decide +kernel) rfl
set_option maxRecDepth 20000 in
theorem gw_827 : (Jvm.Cond.code ({ cls := "GateHouse$Search", name := "addCuts", desc := "(LGateHouse$RuleList;I)V" } : Jvm.MethodName) prog_9_method_9_code (6 : Nat) (Option.none : Option Jvm.ClassFile.FieldType)) ∈ gG := gG_of 930 (rfl) rfl
theorem gw_828 : (Jvm.Cond.methodLink "GateHouse$Search" (85 : Nat) ({ cls := "GateHouse$RuleList", name := "at", desc := "(I)LGateHouse$Rule;" } : Jvm.MethodName)) ∈ gG := gG_of 931 (by decide +kernel) rfl
theorem gw_829 : (Jvm.Cond.methodLink "GateHouse$Search" (98 : Nat) ({ cls := "GateHouse$Search", name := "addCut", desc := "(IJ)V" } : Jvm.MethodName)) ∈ gG := gG_of 932 (by decide +kernel) rfl
theorem gw_831 : (Jvm.Cond.instanceMethod ({ cls := "GateHouse$Search", name := "addCut", desc := "(IJ)V" } : Jvm.MethodName)) ∈ gG := gG_of 934 (by decide +kernel) rfl
set_option maxRecDepth 20000 in
theorem gw_832 : (Jvm.Cond.code ({ cls := "GateHouse$Search", name := "addCut", desc := "(IJ)V" } : Jvm.MethodName) prog_9_method_10_code (6 : Nat) (Option.none : Option Jvm.ClassFile.FieldType)) ∈ gG := gG_of 935 (rfl) rfl
theorem gw_834 : (Jvm.Cond.methodLink "GateHouse$Search" (78 : Nat) ({ cls := "GateHouse$Search", name := "clearMet", desc := "()V" } : Jvm.MethodName)) ∈ gG := gG_of 937 (by decide +kernel) rfl
theorem gw_836 : (Jvm.Cond.instanceMethod ({ cls := "GateHouse$Search", name := "clearMet", desc := "()V" } : Jvm.MethodName)) ∈ gG := gG_of 939 (by decide +kernel) rfl
set_option maxRecDepth 20000 in
theorem gw_837 : (Jvm.Cond.code ({ cls := "GateHouse$Search", name := "clearMet", desc := "()V" } : Jvm.MethodName) prog_9_method_11_code (3 : Nat) (Option.none : Option Jvm.ClassFile.FieldType)) ∈ gG := gG_of 940 (rfl) rfl
theorem gw_838 : (Jvm.Cond.methodLink "GateHouse$Search" (81 : Nat) ({ cls := "GateHouse$Search", name := "addMet", desc := "(LGateHouse$RuleList;II)V" } : Jvm.MethodName)) ∈ gG := gG_of 941 (by decide +kernel) rfl
theorem gw_840 : (Jvm.Cond.instanceMethod ({ cls := "GateHouse$Search", name := "addMet", desc := "(LGateHouse$RuleList;II)V" } : Jvm.MethodName)) ∈ gG := gG_of 943 (by decide +kernel) rfl
set_option maxRecDepth 20000 in
theorem gw_841 : (Jvm.Cond.code ({ cls := "GateHouse$Search", name := "addMet", desc := "(LGateHouse$RuleList;II)V" } : Jvm.MethodName) prog_9_method_12_code (9 : Nat) (Option.none : Option Jvm.ClassFile.FieldType)) ∈ gG := gG_of 944 (rfl) rfl
theorem gw_842 : (Jvm.Cond.methodLink "GateHouse$Search" (108 : Nat) ({ cls := "GateHouse$Rule", name := "isWhole", desc := "(I)Z" } : Jvm.MethodName)) ∈ gG := gG_of 945 (by decide +kernel) rfl
theorem gw_843 : (Jvm.Cond.methodLink "GateHouse$Search" (112 : Nat) ({ cls := "GateHouse$Search", name := "addMetBy", desc := "(LGateHouse$Rule;II)V" } : Jvm.MethodName)) ∈ gG := gG_of 946 (by decide +kernel) rfl
theorem gw_845 : (Jvm.Cond.instanceMethod ({ cls := "GateHouse$Search", name := "addMetBy", desc := "(LGateHouse$Rule;II)V" } : Jvm.MethodName)) ∈ gG := gG_of 948 (by decide +kernel) rfl
set_option maxRecDepth 20000 in
theorem gw_846 : (Jvm.Cond.code ({ cls := "GateHouse$Search", name := "addMetBy", desc := "(LGateHouse$Rule;II)V" } : Jvm.MethodName) prog_9_method_13_code (8 : Nat) (Option.none : Option Jvm.ClassFile.FieldType)) ∈ gG := gG_of 949 (rfl) rfl
theorem gw_847 : (Jvm.Cond.methodLink "GateHouse$Search" (119 : Nat) ({ cls := "GateHouse$Rule", name := "hasState", desc := "(I)Z" } : Jvm.MethodName)) ∈ gG := gG_of 950 (by decide +kernel) rfl
theorem gw_848 : (Jvm.Cond.methodLink "GateHouse$Search" (89 : Nat) ({ cls := "GateHouse$Rule", name := "isSameAs", desc := "(LGateHouse$Rule;)Z" } : Jvm.MethodName)) ∈ gG := gG_of 951 (by decide +kernel) rfl
theorem gw_849 : (Jvm.Cond.instanceMethod ({ cls := "GateHouse$Rule", name := "isSameAs", desc := "(LGateHouse$Rule;)Z" } : Jvm.MethodName)) ∈ gG := gG_of 952 (by decide +kernel) rfl
theorem gw_850 : (Jvm.Cond.selects "GateHouse$Rule" ({ cls := "GateHouse$Rule", name := "isSameAs", desc := "(LGateHouse$Rule;)Z" } : Jvm.MethodName) ({ cls := "GateHouse$Rule", name := "isSameAs", desc := "(LGateHouse$Rule;)Z" } : Jvm.MethodName)) ∈ gG := gG_of 953 (by decide +kernel) rfl
set_option maxRecDepth 20000 in
theorem gw_851 : (Jvm.Cond.code ({ cls := "GateHouse$Rule", name := "isSameAs", desc := "(LGateHouse$Rule;)Z" } : Jvm.MethodName) prog_7_method_8_code (3 : Nat) (Option.some Jvm.ClassFile.FieldType.boolean)) ∈ gG := gG_of 954 (rfl) rfl
theorem gw_852 : (Jvm.Cond.methodLink "GateHouse$Search" (55 : Nat) ({ cls := "GateHouse$Search", name := "bitsBelow", desc := "(I)I" } : Jvm.MethodName)) ∈ gG := gG_of 955 (by decide +kernel) rfl
theorem gw_853 : (Jvm.Cond.static ({ cls := "GateHouse$Search", name := "bitsBelow", desc := "(I)I" } : Jvm.MethodName)) ∈ gG := gG_of 956 (by decide +kernel) rfl
set_option maxRecDepth 20000 in
theorem gw_854 : (Jvm.Cond.code ({ cls := "GateHouse$Search", name := "bitsBelow", desc := "(I)I" } : Jvm.MethodName) prog_9_method_5_code (1 : Nat) (Option.some Jvm.ClassFile.FieldType.int)) ∈ gG := gG_of 957 (rfl) rfl
theorem gw_855 : (Jvm.Cond.methodLink "GateHouse$Search" (62 : Nat) ({ cls := "GateHouse$Search", name := "side", desc := "(II)I" } : Jvm.MethodName)) ∈ gG := gG_of 958 (by decide +kernel) rfl
theorem gw_856 : (Jvm.Cond.static ({ cls := "GateHouse$Search", name := "side", desc := "(II)I" } : Jvm.MethodName)) ∈ gG := gG_of 959 (by decide +kernel) rfl
set_option maxRecDepth 20000 in
theorem gw_857 : (Jvm.Cond.code ({ cls := "GateHouse$Search", name := "side", desc := "(II)I" } : Jvm.MethodName) prog_9_method_6_code (2 : Nat) (Option.some Jvm.ClassFile.FieldType.int)) ∈ gG := gG_of 960 (rfl) rfl
theorem gw_858 : (Jvm.Cond.methodLink "GateHouse$Search" (66 : Nat) ({ cls := "GateHouse$Search", name := "differ", desc := "(II)Z" } : Jvm.MethodName)) ∈ gG := gG_of 961 (by decide +kernel) rfl
theorem gw_860 : (Jvm.Cond.instanceMethod ({ cls := "GateHouse$Search", name := "differ", desc := "(II)Z" } : Jvm.MethodName)) ∈ gG := gG_of 963 (by decide +kernel) rfl
set_option maxRecDepth 20000 in
theorem gw_861 : (Jvm.Cond.code ({ cls := "GateHouse$Search", name := "differ", desc := "(II)Z" } : Jvm.MethodName) prog_9_method_7_code (3 : Nat) (Option.some Jvm.ClassFile.FieldType.boolean)) ∈ gG := gG_of 964 (rfl) rfl
theorem gw_862 : (Jvm.Cond.methodLink "GateHouse$Search" (70 : Nat) ({ cls := "GateHouse$Search", name := "descend", desc := "(III)Z" } : Jvm.MethodName)) ∈ gG := gG_of 965 (by decide +kernel) rfl
theorem gw_864 : (Jvm.Cond.instanceMethod ({ cls := "GateHouse$Search", name := "descend", desc := "(III)Z" } : Jvm.MethodName)) ∈ gG := gG_of 967 (by decide +kernel) rfl
set_option maxRecDepth 20000 in
theorem gw_865 : (Jvm.Cond.code ({ cls := "GateHouse$Search", name := "descend", desc := "(III)Z" } : Jvm.MethodName) prog_9_method_14_code (9 : Nat) (Option.some Jvm.ClassFile.FieldType.boolean)) ∈ gG := gG_of 968 (rfl) rfl
theorem gw_866 : (Jvm.Cond.methodLink "GateHouse$Search" (122 : Nat) ({ cls := "GateHouse$Search", name := "settle", desc := "(III)I" } : Jvm.MethodName)) ∈ gG := gG_of 969 (by decide +kernel) rfl
theorem gw_868 : (Jvm.Cond.instanceMethod ({ cls := "GateHouse$Search", name := "settle", desc := "(III)I" } : Jvm.MethodName)) ∈ gG := gG_of 971 (by decide +kernel) rfl
set_option maxRecDepth 20000 in
theorem gw_869 : (Jvm.Cond.code ({ cls := "GateHouse$Search", name := "settle", desc := "(III)I" } : Jvm.MethodName) prog_9_method_16_code (8 : Nat) (Option.some Jvm.ClassFile.FieldType.int)) ∈ gG := gG_of 972 (rfl) rfl
theorem gw_870 : (Jvm.Cond.constant "GateHouse$Search" (126 : Nat) (65535 : Int32)) ∈ gG := gG_of 973 (by decide +kernel) rfl
theorem gw_871 : (Jvm.Cond.methodLink "GateHouse$Search" (133 : Nat) ({ cls := "GateHouse$Search", name := "actionOf", desc := "(I)I" } : Jvm.MethodName)) ∈ gG := gG_of 974 (by decide +kernel) rfl
theorem gw_873 : (Jvm.Cond.instanceMethod ({ cls := "GateHouse$Search", name := "actionOf", desc := "(I)I" } : Jvm.MethodName)) ∈ gG := gG_of 976 (by decide +kernel) rfl
set_option maxRecDepth 20000 in
theorem gw_874 : (Jvm.Cond.code ({ cls := "GateHouse$Search", name := "actionOf", desc := "(I)I" } : Jvm.MethodName) prog_9_method_17_code (3 : Nat) (Option.some Jvm.ClassFile.FieldType.int)) ∈ gG := gG_of 977 (rfl) rfl
theorem gw_875 : (Jvm.Cond.methodLink "GateHouse$Search" (136 : Nat) ({ cls := "GateHouse$Search", name := "upToHighest", desc := "(I)I" } : Jvm.MethodName)) ∈ gG := gG_of 978 (by decide +kernel) rfl
theorem gw_876 : (Jvm.Cond.static ({ cls := "GateHouse$Search", name := "upToHighest", desc := "(I)I" } : Jvm.MethodName)) ∈ gG := gG_of 979 (by decide +kernel) rfl
set_option maxRecDepth 20000 in
theorem gw_877 : (Jvm.Cond.code ({ cls := "GateHouse$Search", name := "upToHighest", desc := "(I)I" } : Jvm.MethodName) prog_9_method_18_code (2 : Nat) (Option.some Jvm.ClassFile.FieldType.int)) ∈ gG := gG_of 980 (rfl) rfl
theorem gw_878 : (Jvm.Cond.constantLong "GateHouse$Search" (127 : Nat) (-7046029254386353131 : Int64)) ∈ gG := gG_of 981 (by decide +kernel) rfl
theorem gw_879 : (Jvm.Cond.methodLink "GateHouse$Search" (129 : Nat) ({ cls := "GateHouse$Search", name := "goThrough", desc := "(III)Z" } : Jvm.MethodName)) ∈ gG := gG_of 982 (by decide +kernel) rfl
theorem gw_881 : (Jvm.Cond.instanceMethod ({ cls := "GateHouse$Search", name := "goThrough", desc := "(III)Z" } : Jvm.MethodName)) ∈ gG := gG_of 984 (by decide +kernel) rfl
set_option maxRecDepth 20000 in
theorem gw_882 : (Jvm.Cond.code ({ cls := "GateHouse$Search", name := "goThrough", desc := "(III)Z" } : Jvm.MethodName) prog_9_method_15_code (9 : Nat) (Option.some Jvm.ClassFile.FieldType.boolean)) ∈ gG := gG_of 985 (rfl) rfl
theorem gw_883 : (Jvm.Cond.constant "GateHouse$Search" (132 : Nat) (196608 : Int32)) ∈ gG := gG_of 986 (by decide +kernel) rfl
theorem gw_884 : (Jvm.Cond.methodLink "GateHouse" (160 : Nat) ({ cls := "GateHouse", name := "keepPoint", desc := "()V" } : Jvm.MethodName)) ∈ gG := gG_of 987 (by decide +kernel) rfl
theorem gw_886 : (Jvm.Cond.instanceMethod ({ cls := "GateHouse", name := "keepPoint", desc := "()V" } : Jvm.MethodName)) ∈ gG := gG_of 989 (by decide +kernel) rfl
set_option maxRecDepth 20000 in
theorem gw_887 : (Jvm.Cond.code ({ cls := "GateHouse", name := "keepPoint", desc := "()V" } : Jvm.MethodName) prog_1_method_27_code (2 : Nat) (Option.none : Option Jvm.ClassFile.FieldType)) ∈ gG := gG_of 990 (rfl) rfl
theorem gw_888 : (Jvm.Cond.methodLink "GateHouseLaw" (112 : Nat) ({ cls := "GateHouseLaw", name := "alike", desc := "(LGateHouse;II[J)I" } : Jvm.MethodName)) ∈ gG := gG_of 991 (by decide +kernel) rfl
theorem gw_889 : (Jvm.Cond.static ({ cls := "GateHouseLaw", name := "alike", desc := "(LGateHouse;II[J)I" } : Jvm.MethodName)) ∈ gG := gG_of 992 (by decide +kernel) rfl
set_option maxRecDepth 20000 in
theorem gw_890 : (Jvm.Cond.codeWith ({ cls := "GateHouseLaw", name := "alike", desc := "(LGateHouse;II[J)I" } : Jvm.MethodName) method_10_code (5 : Nat) (Option.some Jvm.ClassFile.FieldType.int) [((0 : Nat), (17 : Nat), (20 : Nat), (13 : Nat))]) ∈ gG := gG_of 993 (rfl) rfl
theorem gw_891 : (Jvm.Cond.methodLink "GateHouseLaw" (40 : Nat) ({ cls := "GateHouse", name := "alike", desc := "(II)Z" } : Jvm.MethodName)) ∈ gG := gG_of 994 (by decide +kernel) rfl
theorem gw_892 : (Jvm.Cond.instanceMethod ({ cls := "GateHouse", name := "alike", desc := "(II)Z" } : Jvm.MethodName)) ∈ gG := gG_of 995 (by decide +kernel) rfl
theorem gw_893 : (Jvm.Cond.selects "GateHouse" ({ cls := "GateHouse", name := "alike", desc := "(II)Z" } : Jvm.MethodName) ({ cls := "GateHouse", name := "alike", desc := "(II)Z" } : Jvm.MethodName)) ∈ gG := gG_of 996 (by decide +kernel) rfl
set_option maxRecDepth 20000 in
theorem gw_894 : (Jvm.Cond.code ({ cls := "GateHouse", name := "alike", desc := "(II)Z" } : Jvm.MethodName) prog_1_method_12_code (3 : Nat) (Option.some Jvm.ClassFile.FieldType.boolean)) ∈ gG := gG_of 997 (rfl) rfl
theorem gw_895 : (Jvm.Cond.methodLink "GateHouse" (163 : Nat) ({ cls := "GateHouse$Search", name := "tellsApart", desc := "(LGateHouse$RuleList;LGateHouse$RuleList;)Z" } : Jvm.MethodName)) ∈ gG := gG_of 998 (by decide +kernel) rfl
theorem gw_896 : (Jvm.Cond.instanceMethod ({ cls := "GateHouse$Search", name := "tellsApart", desc := "(LGateHouse$RuleList;LGateHouse$RuleList;)Z" } : Jvm.MethodName)) ∈ gG := gG_of 999 (by decide +kernel) rfl
theorem gw_897 : (Jvm.Cond.selects "GateHouse$Search" ({ cls := "GateHouse$Search", name := "tellsApart", desc := "(LGateHouse$RuleList;LGateHouse$RuleList;)Z" } : Jvm.MethodName) ({ cls := "GateHouse$Search", name := "tellsApart", desc := "(LGateHouse$RuleList;LGateHouse$RuleList;)Z" } : Jvm.MethodName)) ∈ gG := gG_of 1000 (by decide +kernel) rfl
set_option maxRecDepth 20000 in
theorem gw_898 : (Jvm.Cond.code ({ cls := "GateHouse$Search", name := "tellsApart", desc := "(LGateHouse$RuleList;LGateHouse$RuleList;)Z" } : Jvm.MethodName) prog_9_method_2_code (3 : Nat) (Option.some Jvm.ClassFile.FieldType.boolean)) ∈ gG := gG_of 1001 (rfl) rfl
theorem gw_899 : (Jvm.Cond.methodLink "GateHouseLaw" (115 : Nat) ({ cls := "GateHouseLaw", name := "found", desc := "(LGateHouse;I[J)I" } : Jvm.MethodName)) ∈ gG := gG_of 1002 (by decide +kernel) rfl
theorem gw_900 : (Jvm.Cond.static ({ cls := "GateHouseLaw", name := "found", desc := "(LGateHouse;I[J)I" } : Jvm.MethodName)) ∈ gG := gG_of 1003 (by decide +kernel) rfl
set_option maxRecDepth 20000 in
theorem gw_901 : (Jvm.Cond.codeWith ({ cls := "GateHouseLaw", name := "found", desc := "(LGateHouse;I[J)I" } : Jvm.MethodName) method_11_code (4 : Nat) (Option.some Jvm.ClassFile.FieldType.int) [((0 : Nat), (9 : Nat), (12 : Nat), (22 : Nat))]) ∈ gG := gG_of 1004 (rfl) rfl
theorem gw_902 : (Jvm.Cond.methodLink "GateHouseLaw" (43 : Nat) ({ cls := "GateHouse", name := "found", desc := "(I)I" } : Jvm.MethodName)) ∈ gG := gG_of 1005 (by decide +kernel) rfl
theorem gw_903 : (Jvm.Cond.instanceMethod ({ cls := "GateHouse", name := "found", desc := "(I)I" } : Jvm.MethodName)) ∈ gG := gG_of 1006 (by decide +kernel) rfl
theorem gw_904 : (Jvm.Cond.selects "GateHouse" ({ cls := "GateHouse", name := "found", desc := "(I)I" } : Jvm.MethodName) ({ cls := "GateHouse", name := "found", desc := "(I)I" } : Jvm.MethodName)) ∈ gG := gG_of 1007 (by decide +kernel) rfl
set_option maxRecDepth 20000 in
theorem gw_905 : (Jvm.Cond.code ({ cls := "GateHouse", name := "found", desc := "(I)I" } : Jvm.MethodName) prog_1_method_13_code (2 : Nat) (Option.some Jvm.ClassFile.FieldType.int)) ∈ gG := gG_of 1008 (rfl) rfl
theorem gw_907 : (Jvm.Cond.methodLink "GateHouseLaw" (118 : Nat) ({ cls := "GateHouseLaw", name := "least", desc := "(LGateHouse;II[J)I" } : Jvm.MethodName)) ∈ gG := gG_of 1010 (by decide +kernel) rfl
theorem gw_908 : (Jvm.Cond.static ({ cls := "GateHouseLaw", name := "least", desc := "(LGateHouse;II[J)I" } : Jvm.MethodName)) ∈ gG := gG_of 1011 (by decide +kernel) rfl
set_option maxRecDepth 20000 in
theorem gw_909 : (Jvm.Cond.codeWith ({ cls := "GateHouseLaw", name := "least", desc := "(LGateHouse;II[J)I" } : Jvm.MethodName) method_12_code (5 : Nat) (Option.some Jvm.ClassFile.FieldType.int) [((0 : Nat), (10 : Nat), (13 : Nat), (13 : Nat))]) ∈ gG := gG_of 1012 (rfl) rfl
theorem gw_910 : (Jvm.Cond.methodLink "GateHouseLaw" (46 : Nat) ({ cls := "GateHouse", name := "least", desc := "(II)I" } : Jvm.MethodName)) ∈ gG := gG_of 1013 (by decide +kernel) rfl
theorem gw_911 : (Jvm.Cond.instanceMethod ({ cls := "GateHouse", name := "least", desc := "(II)I" } : Jvm.MethodName)) ∈ gG := gG_of 1014 (by decide +kernel) rfl
theorem gw_912 : (Jvm.Cond.selects "GateHouse" ({ cls := "GateHouse", name := "least", desc := "(II)I" } : Jvm.MethodName) ({ cls := "GateHouse", name := "least", desc := "(II)I" } : Jvm.MethodName)) ∈ gG := gG_of 1015 (by decide +kernel) rfl
set_option maxRecDepth 20000 in
theorem gw_913 : (Jvm.Cond.code ({ cls := "GateHouse", name := "least", desc := "(II)I" } : Jvm.MethodName) prog_1_method_14_code (4 : Nat) (Option.some Jvm.ClassFile.FieldType.int)) ∈ gG := gG_of 1016 (rfl) rfl
theorem gw_914 : (Jvm.Cond.methodLink "GateHouse" (169 : Nat) ({ cls := "GateHouse$Search", name := "needed", desc := "(LGateHouse$RuleList;)I" } : Jvm.MethodName)) ∈ gG := gG_of 1017 (by decide +kernel) rfl
theorem gw_915 : (Jvm.Cond.instanceMethod ({ cls := "GateHouse$Search", name := "needed", desc := "(LGateHouse$RuleList;)I" } : Jvm.MethodName)) ∈ gG := gG_of 1018 (by decide +kernel) rfl
theorem gw_916 : (Jvm.Cond.selects "GateHouse$Search" ({ cls := "GateHouse$Search", name := "needed", desc := "(LGateHouse$RuleList;)I" } : Jvm.MethodName) ({ cls := "GateHouse$Search", name := "needed", desc := "(LGateHouse$RuleList;)I" } : Jvm.MethodName)) ∈ gG := gG_of 1019 (by decide +kernel) rfl
set_option maxRecDepth 20000 in
theorem gw_917 : (Jvm.Cond.code ({ cls := "GateHouse$Search", name := "needed", desc := "(LGateHouse$RuleList;)I" } : Jvm.MethodName) prog_9_method_4_code (5 : Nat) (Option.some Jvm.ClassFile.FieldType.int)) ∈ gG := gG_of 1020 (rfl) rfl
theorem gw_918 : (Jvm.Cond.methodLink "GateHouse" (173 : Nat) ({ cls := "GateHouse$RuleList", name := "takeOver", desc := "(LGateHouse$RuleList;I)V" } : Jvm.MethodName)) ∈ gG := gG_of 1021 (by decide +kernel) rfl
theorem gw_919 : (Jvm.Cond.instanceMethod ({ cls := "GateHouse$RuleList", name := "takeOver", desc := "(LGateHouse$RuleList;I)V" } : Jvm.MethodName)) ∈ gG := gG_of 1022 (by decide +kernel) rfl
theorem gw_920 : (Jvm.Cond.selects "GateHouse$RuleList" ({ cls := "GateHouse$RuleList", name := "takeOver", desc := "(LGateHouse$RuleList;I)V" } : Jvm.MethodName) ({ cls := "GateHouse$RuleList", name := "takeOver", desc := "(LGateHouse$RuleList;I)V" } : Jvm.MethodName)) ∈ gG := gG_of 1023 (by decide +kernel) rfl
set_option maxRecDepth 20000 in
theorem gw_921 : (Jvm.Cond.code ({ cls := "GateHouse$RuleList", name := "takeOver", desc := "(LGateHouse$RuleList;I)V" } : Jvm.MethodName) prog_8_method_4_code (4 : Nat) (Option.none : Option Jvm.ClassFile.FieldType)) ∈ gG := gG_of 1024 (rfl) rfl
theorem gw_922 : (Jvm.Cond.methodLink "GateHouse$RuleList" (28 : Nat) ({ cls := "GateHouse$RuleList", name := "clear", desc := "()V" } : Jvm.MethodName)) ∈ gG := gG_of 1025 (by decide +kernel) rfl
theorem gw_923 : (Jvm.Cond.methodLink "GateHouse$RuleList" (31 : Nat) ({ cls := "GateHouse$RuleList", name := "at", desc := "(I)LGateHouse$Rule;" } : Jvm.MethodName)) ∈ gG := gG_of 1026 (by decide +kernel) rfl
theorem gw_924 : (Jvm.Cond.methodLink "GateHouse$RuleList" (35 : Nat) ({ cls := "GateHouse$Rule", name := "takeOver", desc := "(LGateHouse$Rule;)V" } : Jvm.MethodName)) ∈ gG := gG_of 1027 (by decide +kernel) rfl
theorem gw_925 : (Jvm.Cond.instanceMethod ({ cls := "GateHouse$Rule", name := "takeOver", desc := "(LGateHouse$Rule;)V" } : Jvm.MethodName)) ∈ gG := gG_of 1028 (by decide +kernel) rfl
theorem gw_926 : (Jvm.Cond.selects "GateHouse$Rule" ({ cls := "GateHouse$Rule", name := "takeOver", desc := "(LGateHouse$Rule;)V" } : Jvm.MethodName) ({ cls := "GateHouse$Rule", name := "takeOver", desc := "(LGateHouse$Rule;)V" } : Jvm.MethodName)) ∈ gG := gG_of 1029 (by decide +kernel) rfl
set_option maxRecDepth 20000 in
theorem gw_927 : (Jvm.Cond.code ({ cls := "GateHouse$Rule", name := "takeOver", desc := "(LGateHouse$Rule;)V" } : Jvm.MethodName) prog_7_method_3_code (3 : Nat) (Option.none : Option Jvm.ClassFile.FieldType)) ∈ gG := gG_of 1030 (rfl) rfl
theorem gw_928 : (Jvm.Cond.methodLink "GateHouseLaw" (129 : Nat) ({ cls := "GateHouseLaw", name := "packet", desc := "(LGateHouse;IIIIIII[J)I" } : Jvm.MethodName)) ∈ gG := gG_of 1031 (by decide +kernel) rfl
theorem gw_929 : (Jvm.Cond.static ({ cls := "GateHouseLaw", name := "packet", desc := "(LGateHouse;IIIIIII[J)I" } : Jvm.MethodName)) ∈ gG := gG_of 1032 (by decide +kernel) rfl
set_option maxRecDepth 20000 in
theorem gw_930 : (Jvm.Cond.codeWith ({ cls := "GateHouseLaw", name := "packet", desc := "(LGateHouse;IIIIIII[J)I" } : Jvm.MethodName) method_13_code (10 : Nat) (Option.some Jvm.ClassFile.FieldType.int) [((0 : Nat), (20 : Nat), (23 : Nat), (34 : Nat))]) ∈ gG := gG_of 1033 (rfl) rfl
theorem gw_931 : (Jvm.Cond.methodLink "GateHouseLaw" (50 : Nat) ({ cls := "GateHouse", name := "packet", desc := "(IIIIIII)I" } : Jvm.MethodName)) ∈ gG := gG_of 1034 (by decide +kernel) rfl
theorem gw_932 : (Jvm.Cond.instanceMethod ({ cls := "GateHouse", name := "packet", desc := "(IIIIIII)I" } : Jvm.MethodName)) ∈ gG := gG_of 1035 (by decide +kernel) rfl
theorem gw_933 : (Jvm.Cond.selects "GateHouse" ({ cls := "GateHouse", name := "packet", desc := "(IIIIIII)I" } : Jvm.MethodName) ({ cls := "GateHouse", name := "packet", desc := "(IIIIIII)I" } : Jvm.MethodName)) ∈ gG := gG_of 1036 (by decide +kernel) rfl
set_option maxRecDepth 20000 in
theorem gw_934 : (Jvm.Cond.code ({ cls := "GateHouse", name := "packet", desc := "(IIIIIII)I" } : Jvm.MethodName) prog_1_method_17_code (8 : Nat) (Option.some Jvm.ClassFile.FieldType.int)) ∈ gG := gG_of 1037 (rfl) rfl
theorem gw_936 : (Jvm.Cond.methodLink "GateHouse" (188 : Nat) ({ cls := "GateHouse", name := "judge", desc := "(Z)I" } : Jvm.MethodName)) ∈ gG := gG_of 1039 (by decide +kernel) rfl
theorem gw_938 : (Jvm.Cond.instanceMethod ({ cls := "GateHouse", name := "judge", desc := "(Z)I" } : Jvm.MethodName)) ∈ gG := gG_of 1041 (by decide +kernel) rfl
set_option maxRecDepth 20000 in
theorem gw_939 : (Jvm.Cond.code ({ cls := "GateHouse", name := "judge", desc := "(Z)I" } : Jvm.MethodName) prog_1_method_28_code (7 : Nat) (Option.some Jvm.ClassFile.FieldType.int)) ∈ gG := gG_of 1042 (rfl) rfl
theorem gw_940 : (Jvm.Cond.methodLink "GateHouse" (269 : Nat) ({ cls := "GateHouse$Table", name := "placeOf", desc := "(LGateHouse$Packet;)I" } : Jvm.MethodName)) ∈ gG := gG_of 1043 (by decide +kernel) rfl
theorem gw_941 : (Jvm.Cond.instanceMethod ({ cls := "GateHouse$Table", name := "placeOf", desc := "(LGateHouse$Packet;)I" } : Jvm.MethodName)) ∈ gG := gG_of 1044 (by decide +kernel) rfl
theorem gw_942 : (Jvm.Cond.selects "GateHouse$Table" ({ cls := "GateHouse$Table", name := "placeOf", desc := "(LGateHouse$Packet;)I" } : Jvm.MethodName) ({ cls := "GateHouse$Table", name := "placeOf", desc := "(LGateHouse$Packet;)I" } : Jvm.MethodName)) ∈ gG := gG_of 1045 (by decide +kernel) rfl
set_option maxRecDepth 20000 in
theorem gw_943 : (Jvm.Cond.code ({ cls := "GateHouse$Table", name := "placeOf", desc := "(LGateHouse$Packet;)I" } : Jvm.MethodName) prog_10_method_5_code (3 : Nat) (Option.some Jvm.ClassFile.FieldType.int)) ∈ gG := gG_of 1046 (rfl) rfl
theorem gw_944 : (Jvm.Cond.methodLink "GateHouse$Table" (46 : Nat) ({ cls := "GateHouse$Connection", name := "sideOf", desc := "(LGateHouse$Packet;)I" } : Jvm.MethodName)) ∈ gG := gG_of 1047 (by decide +kernel) rfl
theorem gw_945 : (Jvm.Cond.instanceMethod ({ cls := "GateHouse$Connection", name := "sideOf", desc := "(LGateHouse$Packet;)I" } : Jvm.MethodName)) ∈ gG := gG_of 1048 (by decide +kernel) rfl
theorem gw_946 : (Jvm.Cond.selects "GateHouse$Connection" ({ cls := "GateHouse$Connection", name := "sideOf", desc := "(LGateHouse$Packet;)I" } : Jvm.MethodName) ({ cls := "GateHouse$Connection", name := "sideOf", desc := "(LGateHouse$Packet;)I" } : Jvm.MethodName)) ∈ gG := gG_of 1049 (by decide +kernel) rfl
set_option maxRecDepth 20000 in
theorem gw_947 : (Jvm.Cond.code ({ cls := "GateHouse$Connection", name := "sideOf", desc := "(LGateHouse$Packet;)I" } : Jvm.MethodName) prog_2_method_3_code (4 : Nat) (Option.some Jvm.ClassFile.FieldType.int)) ∈ gG := gG_of 1050 (rfl) rfl
theorem gw_948 : (Jvm.Cond.methodLink "GateHouse$Connection" (49 : Nat) ({ cls := "GateHouse$Packet", name := "isOf", desc := "(I)Z" } : Jvm.MethodName)) ∈ gG := gG_of 1051 (by decide +kernel) rfl
theorem gw_949 : (Jvm.Cond.instanceMethod ({ cls := "GateHouse$Packet", name := "isOf", desc := "(I)Z" } : Jvm.MethodName)) ∈ gG := gG_of 1052 (by decide +kernel) rfl
theorem gw_950 : (Jvm.Cond.selects "GateHouse$Packet" ({ cls := "GateHouse$Packet", name := "isOf", desc := "(I)Z" } : Jvm.MethodName) ({ cls := "GateHouse$Packet", name := "isOf", desc := "(I)Z" } : Jvm.MethodName)) ∈ gG := gG_of 1053 (by decide +kernel) rfl
set_option maxRecDepth 20000 in
theorem gw_951 : (Jvm.Cond.code ({ cls := "GateHouse$Packet", name := "isOf", desc := "(I)Z" } : Jvm.MethodName) prog_5_method_3_code (2 : Nat) (Option.some Jvm.ClassFile.FieldType.boolean)) ∈ gG := gG_of 1054 (rfl) rfl
theorem gw_952 : (Jvm.Cond.methodLink "GateHouse$Connection" (53 : Nat) ({ cls := "GateHouse$Packet", name := "icmpType", desc := "()I" } : Jvm.MethodName)) ∈ gG := gG_of 1055 (by decide +kernel) rfl
theorem gw_953 : (Jvm.Cond.instanceMethod ({ cls := "GateHouse$Packet", name := "icmpType", desc := "()I" } : Jvm.MethodName)) ∈ gG := gG_of 1056 (by decide +kernel) rfl
theorem gw_954 : (Jvm.Cond.selects "GateHouse$Packet" ({ cls := "GateHouse$Packet", name := "icmpType", desc := "()I" } : Jvm.MethodName) ({ cls := "GateHouse$Packet", name := "icmpType", desc := "()I" } : Jvm.MethodName)) ∈ gG := gG_of 1057 (by decide +kernel) rfl
set_option maxRecDepth 20000 in
theorem gw_955 : (Jvm.Cond.code ({ cls := "GateHouse$Packet", name := "icmpType", desc := "()I" } : Jvm.MethodName) prog_5_method_4_code (1 : Nat) (Option.some Jvm.ClassFile.FieldType.int)) ∈ gG := gG_of 1058 (rfl) rfl
theorem gw_956 : (Jvm.Cond.methodLink "GateHouse" (272 : Nat) ({ cls := "GateHouse$Table", name := "stateOf", desc := "(LGateHouse$Packet;I)I" } : Jvm.MethodName)) ∈ gG := gG_of 1059 (by decide +kernel) rfl
theorem gw_957 : (Jvm.Cond.instanceMethod ({ cls := "GateHouse$Table", name := "stateOf", desc := "(LGateHouse$Packet;I)I" } : Jvm.MethodName)) ∈ gG := gG_of 1060 (by decide +kernel) rfl
theorem gw_958 : (Jvm.Cond.selects "GateHouse$Table" ({ cls := "GateHouse$Table", name := "stateOf", desc := "(LGateHouse$Packet;I)I" } : Jvm.MethodName) ({ cls := "GateHouse$Table", name := "stateOf", desc := "(LGateHouse$Packet;I)I" } : Jvm.MethodName)) ∈ gG := gG_of 1061 (by decide +kernel) rfl
set_option maxRecDepth 20000 in
theorem gw_959 : (Jvm.Cond.code ({ cls := "GateHouse$Table", name := "stateOf", desc := "(LGateHouse$Packet;I)I" } : Jvm.MethodName) prog_10_method_6_code (6 : Nat) (Option.some Jvm.ClassFile.FieldType.int)) ∈ gG := gG_of 1062 (rfl) rfl
theorem gw_960 : (Jvm.Cond.methodLink "GateHouse$Table" (50 : Nat) ({ cls := "GateHouse$Table", name := "mayBegin", desc := "(LGateHouse$Packet;)Z" } : Jvm.MethodName)) ∈ gG := gG_of 1063 (by decide +kernel) rfl
theorem gw_961 : (Jvm.Cond.static ({ cls := "GateHouse$Table", name := "mayBegin", desc := "(LGateHouse$Packet;)Z" } : Jvm.MethodName)) ∈ gG := gG_of 1064 (by decide +kernel) rfl
set_option maxRecDepth 20000 in
theorem gw_962 : (Jvm.Cond.code ({ cls := "GateHouse$Table", name := "mayBegin", desc := "(LGateHouse$Packet;)Z" } : Jvm.MethodName) prog_10_method_9_code (1 : Nat) (Option.some Jvm.ClassFile.FieldType.boolean)) ∈ gG := gG_of 1065 (rfl) rfl
theorem gw_963 : (Jvm.Cond.methodLink "GateHouse$Table" (79 : Nat) ({ cls := "GateHouse$Packet", name := "isOf", desc := "(I)Z" } : Jvm.MethodName)) ∈ gG := gG_of 1066 (by decide +kernel) rfl
theorem gw_964 : (Jvm.Cond.methodLink "GateHouse$Table" (88 : Nat) ({ cls := "GateHouse$Packet", name := "icmpType", desc := "()I" } : Jvm.MethodName)) ∈ gG := gG_of 1067 (by decide +kernel) rfl
theorem gw_965 : (Jvm.Cond.methodLink "GateHouse$Table" (54 : Nat) ({ cls := "GateHouse$Connection", name := "phaseBehind", desc := "(LGateHouse$Packet;I)I" } : Jvm.MethodName)) ∈ gG := gG_of 1068 (by decide +kernel) rfl
theorem gw_966 : (Jvm.Cond.instanceMethod ({ cls := "GateHouse$Connection", name := "phaseBehind", desc := "(LGateHouse$Packet;I)I" } : Jvm.MethodName)) ∈ gG := gG_of 1069 (by decide +kernel) rfl
theorem gw_967 : (Jvm.Cond.selects "GateHouse$Connection" ({ cls := "GateHouse$Connection", name := "phaseBehind", desc := "(LGateHouse$Packet;I)I" } : Jvm.MethodName) ({ cls := "GateHouse$Connection", name := "phaseBehind", desc := "(LGateHouse$Packet;I)I" } : Jvm.MethodName)) ∈ gG := gG_of 1070 (by decide +kernel) rfl
set_option maxRecDepth 20000 in
theorem gw_968 : (Jvm.Cond.code ({ cls := "GateHouse$Connection", name := "phaseBehind", desc := "(LGateHouse$Packet;I)I" } : Jvm.MethodName) prog_2_method_4_code (3 : Nat) (Option.some Jvm.ClassFile.FieldType.int)) ∈ gG := gG_of 1071 (rfl) rfl
theorem gw_969 : (Jvm.Cond.methodLink "GateHouse$Connection" (60 : Nat) ({ cls := "GateHouse$Phases", name := "behind", desc := "(IIII)I" } : Jvm.MethodName)) ∈ gG := gG_of 1072 (by decide +kernel) rfl
theorem gw_970 : (Jvm.Cond.static ({ cls := "GateHouse$Phases", name := "behind", desc := "(IIII)I" } : Jvm.MethodName)) ∈ gG := gG_of 1073 (by decide +kernel) rfl
set_option maxRecDepth 20000 in
theorem gw_971 : (Jvm.Cond.code ({ cls := "GateHouse$Phases", name := "behind", desc := "(IIII)I" } : Jvm.MethodName) prog_6_method_3_code (7 : Nat) (Option.some Jvm.ClassFile.FieldType.int)) ∈ gG := gG_of 1074 (rfl) rfl
theorem gw_972 : (Jvm.Cond.fieldLink "GateHouse$Phases" (15 : Nat) "GateHouse$Phases" "BEHIND" "[I") ∈ gG := gG_of 1075 (by decide +kernel) rfl
theorem gw_974 : (Jvm.Cond.methodLink "GateHouse$Phases" (18 : Nat) ({ cls := "GateHouse$Phases", name := "signOf", desc := "(I)I" } : Jvm.MethodName)) ∈ gG := gG_of 1077 (by decide +kernel) rfl
theorem gw_975 : (Jvm.Cond.static ({ cls := "GateHouse$Phases", name := "signOf", desc := "(I)I" } : Jvm.MethodName)) ∈ gG := gG_of 1078 (by decide +kernel) rfl
set_option maxRecDepth 20000 in
theorem gw_976 : (Jvm.Cond.code ({ cls := "GateHouse$Phases", name := "signOf", desc := "(I)I" } : Jvm.MethodName) prog_6_method_4_code (1 : Nat) (Option.some Jvm.ClassFile.FieldType.int)) ∈ gG := gG_of 1079 (rfl) rfl
theorem gw_977 : (Jvm.Cond.methodLink "GateHouse" (275 : Nat) ({ cls := "GateHouse$RuleList", name := "tell", desc := "(LGateHouse$Packet;I)I" } : Jvm.MethodName)) ∈ gG := gG_of 1080 (by decide +kernel) rfl
theorem gw_978 : (Jvm.Cond.instanceMethod ({ cls := "GateHouse$RuleList", name := "tell", desc := "(LGateHouse$Packet;I)I" } : Jvm.MethodName)) ∈ gG := gG_of 1081 (by decide +kernel) rfl
theorem gw_979 : (Jvm.Cond.selects "GateHouse$RuleList" ({ cls := "GateHouse$RuleList", name := "tell", desc := "(LGateHouse$Packet;I)I" } : Jvm.MethodName) ({ cls := "GateHouse$RuleList", name := "tell", desc := "(LGateHouse$Packet;I)I" } : Jvm.MethodName)) ∈ gG := gG_of 1082 (by decide +kernel) rfl
set_option maxRecDepth 20000 in
theorem gw_980 : (Jvm.Cond.code ({ cls := "GateHouse$RuleList", name := "tell", desc := "(LGateHouse$Packet;I)I" } : Jvm.MethodName) prog_8_method_6_code (4 : Nat) (Option.some Jvm.ClassFile.FieldType.int)) ∈ gG := gG_of 1083 (rfl) rfl
theorem gw_981 : (Jvm.Cond.methodLink "GateHouse$RuleList" (43 : Nat) ({ cls := "GateHouse$RuleList", name := "firstFor", desc := "(LGateHouse$Packet;I)I" } : Jvm.MethodName)) ∈ gG := gG_of 1084 (by decide +kernel) rfl
theorem gw_982 : (Jvm.Cond.methodLink "GateHouse" (278 : Nat) ({ cls := "GateHouse$Table", name := "step", desc := "(LGateHouse$Packet;I)V" } : Jvm.MethodName)) ∈ gG := gG_of 1085 (by decide +kernel) rfl
theorem gw_983 : (Jvm.Cond.instanceMethod ({ cls := "GateHouse$Table", name := "step", desc := "(LGateHouse$Packet;I)V" } : Jvm.MethodName)) ∈ gG := gG_of 1086 (by decide +kernel) rfl
theorem gw_984 : (Jvm.Cond.selects "GateHouse$Table" ({ cls := "GateHouse$Table", name := "step", desc := "(LGateHouse$Packet;I)V" } : Jvm.MethodName) ({ cls := "GateHouse$Table", name := "step", desc := "(LGateHouse$Packet;I)V" } : Jvm.MethodName)) ∈ gG := gG_of 1087 (by decide +kernel) rfl
set_option maxRecDepth 20000 in
theorem gw_985 : (Jvm.Cond.code ({ cls := "GateHouse$Table", name := "step", desc := "(LGateHouse$Packet;I)V" } : Jvm.MethodName) prog_10_method_7_code (4 : Nat) (Option.none : Option Jvm.ClassFile.FieldType)) ∈ gG := gG_of 1088 (rfl) rfl
theorem gw_986 : (Jvm.Cond.methodLink "GateHouse$Table" (64 : Nat) ({ cls := "GateHouse$Connection", name := "step", desc := "(LGateHouse$Packet;I)V" } : Jvm.MethodName)) ∈ gG := gG_of 1089 (by decide +kernel) rfl
theorem gw_987 : (Jvm.Cond.instanceMethod ({ cls := "GateHouse$Connection", name := "step", desc := "(LGateHouse$Packet;I)V" } : Jvm.MethodName)) ∈ gG := gG_of 1090 (by decide +kernel) rfl
theorem gw_988 : (Jvm.Cond.selects "GateHouse$Connection" ({ cls := "GateHouse$Connection", name := "step", desc := "(LGateHouse$Packet;I)V" } : Jvm.MethodName) ({ cls := "GateHouse$Connection", name := "step", desc := "(LGateHouse$Packet;I)V" } : Jvm.MethodName)) ∈ gG := gG_of 1091 (by decide +kernel) rfl
set_option maxRecDepth 20000 in
theorem gw_989 : (Jvm.Cond.code ({ cls := "GateHouse$Connection", name := "step", desc := "(LGateHouse$Packet;I)V" } : Jvm.MethodName) prog_2_method_5_code (4 : Nat) (Option.none : Option Jvm.ClassFile.FieldType)) ∈ gG := gG_of 1092 (rfl) rfl
theorem gw_990 : (Jvm.Cond.methodLink "GateHouse$Connection" (64 : Nat) ({ cls := "GateHouse$Connection", name := "phaseBehind", desc := "(LGateHouse$Packet;I)I" } : Jvm.MethodName)) ∈ gG := gG_of 1093 (by decide +kernel) rfl
theorem gw_991 : (Jvm.Cond.methodLink "GateHouse$Table" (68 : Nat) ({ cls := "GateHouse$Connection", name := "lifetime", desc := "()I" } : Jvm.MethodName)) ∈ gG := gG_of 1094 (by decide +kernel) rfl
theorem gw_992 : (Jvm.Cond.instanceMethod ({ cls := "GateHouse$Connection", name := "lifetime", desc := "()I" } : Jvm.MethodName)) ∈ gG := gG_of 1095 (by decide +kernel) rfl
theorem gw_993 : (Jvm.Cond.selects "GateHouse$Connection" ({ cls := "GateHouse$Connection", name := "lifetime", desc := "()I" } : Jvm.MethodName) ({ cls := "GateHouse$Connection", name := "lifetime", desc := "()I" } : Jvm.MethodName)) ∈ gG := gG_of 1096 (by decide +kernel) rfl
set_option maxRecDepth 20000 in
theorem gw_994 : (Jvm.Cond.code ({ cls := "GateHouse$Connection", name := "lifetime", desc := "()I" } : Jvm.MethodName) prog_2_method_6_code (1 : Nat) (Option.some Jvm.ClassFile.FieldType.int)) ∈ gG := gG_of 1097 (rfl) rfl
theorem gw_995 : (Jvm.Cond.methodLink "GateHouse$Connection" (68 : Nat) ({ cls := "GateHouse$Phases", name := "lifetime", desc := "(I)I" } : Jvm.MethodName)) ∈ gG := gG_of 1098 (by decide +kernel) rfl
theorem gw_996 : (Jvm.Cond.static ({ cls := "GateHouse$Phases", name := "lifetime", desc := "(I)I" } : Jvm.MethodName)) ∈ gG := gG_of 1099 (by decide +kernel) rfl
set_option maxRecDepth 20000 in
theorem gw_997 : (Jvm.Cond.code ({ cls := "GateHouse$Phases", name := "lifetime", desc := "(I)I" } : Jvm.MethodName) prog_6_method_2_code (1 : Nat) (Option.some Jvm.ClassFile.FieldType.int)) ∈ gG := gG_of 1100 (rfl) rfl
theorem gw_998 : (Jvm.Cond.fieldLink "GateHouse$Phases" (11 : Nat) "GateHouse$Phases" "LIFETIMES" "[I") ∈ gG := gG_of 1101 (by decide +kernel) rfl
theorem gw_1000 : (Jvm.Cond.methodLink "GateHouse" (282 : Nat) ({ cls := "GateHouse$Table", name := "begin", desc := "(LGateHouse$Packet;)Z" } : Jvm.MethodName)) ∈ gG := gG_of 1103 (by decide +kernel) rfl
theorem gw_1001 : (Jvm.Cond.instanceMethod ({ cls := "GateHouse$Table", name := "begin", desc := "(LGateHouse$Packet;)Z" } : Jvm.MethodName)) ∈ gG := gG_of 1104 (by decide +kernel) rfl
theorem gw_1002 : (Jvm.Cond.selects "GateHouse$Table" ({ cls := "GateHouse$Table", name := "begin", desc := "(LGateHouse$Packet;)Z" } : Jvm.MethodName) ({ cls := "GateHouse$Table", name := "begin", desc := "(LGateHouse$Packet;)Z" } : Jvm.MethodName)) ∈ gG := gG_of 1105 (by decide +kernel) rfl
set_option maxRecDepth 20000 in
theorem gw_1003 : (Jvm.Cond.code ({ cls := "GateHouse$Table", name := "begin", desc := "(LGateHouse$Packet;)Z" } : Jvm.MethodName) prog_10_method_8_code (3 : Nat) (Option.some Jvm.ClassFile.FieldType.boolean)) ∈ gG := gG_of 1106 (rfl) rfl
theorem gw_1004 : (Jvm.Cond.methodLink "GateHouse$Table" (72 : Nat) ({ cls := "GateHouse$Table", name := "leastNeeded", desc := "()I" } : Jvm.MethodName)) ∈ gG := gG_of 1107 (by decide +kernel) rfl
theorem gw_1006 : (Jvm.Cond.instanceMethod ({ cls := "GateHouse$Table", name := "leastNeeded", desc := "()I" } : Jvm.MethodName)) ∈ gG := gG_of 1109 (by decide +kernel) rfl
set_option maxRecDepth 20000 in
theorem gw_1007 : (Jvm.Cond.code ({ cls := "GateHouse$Table", name := "leastNeeded", desc := "()I" } : Jvm.MethodName) prog_10_method_10_code (3 : Nat) (Option.some Jvm.ClassFile.FieldType.int)) ∈ gG := gG_of 1110 (rfl) rfl
theorem gw_1008 : (Jvm.Cond.methodLink "GateHouse$Table" (75 : Nat) ({ cls := "GateHouse$Connection", name := "begin", desc := "(LGateHouse$Packet;)V" } : Jvm.MethodName)) ∈ gG := gG_of 1111 (by decide +kernel) rfl
theorem gw_1009 : (Jvm.Cond.instanceMethod ({ cls := "GateHouse$Connection", name := "begin", desc := "(LGateHouse$Packet;)V" } : Jvm.MethodName)) ∈ gG := gG_of 1112 (by decide +kernel) rfl
theorem gw_1010 : (Jvm.Cond.selects "GateHouse$Connection" ({ cls := "GateHouse$Connection", name := "begin", desc := "(LGateHouse$Packet;)V" } : Jvm.MethodName) ({ cls := "GateHouse$Connection", name := "begin", desc := "(LGateHouse$Packet;)V" } : Jvm.MethodName)) ∈ gG := gG_of 1113 (by decide +kernel) rfl
set_option maxRecDepth 20000 in
theorem gw_1011 : (Jvm.Cond.code ({ cls := "GateHouse$Connection", name := "begin", desc := "(LGateHouse$Packet;)V" } : Jvm.MethodName) prog_2_method_2_code (2 : Nat) (Option.none : Option Jvm.ClassFile.FieldType)) ∈ gG := gG_of 1114 (rfl) rfl
theorem gw_1012 : (Jvm.Cond.methodLink "GateHouseLaw" (133 : Nat) ({ cls := "GateHouseLaw", name := "datagram", desc := "(LGateHouse;I[J)I" } : Jvm.MethodName)) ∈ gG := gG_of 1115 (by decide +kernel) rfl
theorem gw_1013 : (Jvm.Cond.static ({ cls := "GateHouseLaw", name := "datagram", desc := "(LGateHouse;I[J)I" } : Jvm.MethodName)) ∈ gG := gG_of 1116 (by decide +kernel) rfl
set_option maxRecDepth 20000 in
theorem gw_1014 : (Jvm.Cond.codeWith ({ cls := "GateHouseLaw", name := "datagram", desc := "(LGateHouse;I[J)I" } : Jvm.MethodName) method_14_code (4 : Nat) (Option.some Jvm.ClassFile.FieldType.int) [((0 : Nat), (9 : Nat), (12 : Nat), (34 : Nat))]) ∈ gG := gG_of 1117 (rfl) rfl
theorem gw_1015 : (Jvm.Cond.methodLink "GateHouseLaw" (54 : Nat) ({ cls := "GateHouse", name := "datagram", desc := "(I)I" } : Jvm.MethodName)) ∈ gG := gG_of 1118 (by decide +kernel) rfl
theorem gw_1016 : (Jvm.Cond.instanceMethod ({ cls := "GateHouse", name := "datagram", desc := "(I)I" } : Jvm.MethodName)) ∈ gG := gG_of 1119 (by decide +kernel) rfl
theorem gw_1017 : (Jvm.Cond.selects "GateHouse" ({ cls := "GateHouse", name := "datagram", desc := "(I)I" } : Jvm.MethodName) ({ cls := "GateHouse", name := "datagram", desc := "(I)I" } : Jvm.MethodName)) ∈ gG := gG_of 1120 (by decide +kernel) rfl
set_option maxRecDepth 20000 in
theorem gw_1018 : (Jvm.Cond.code ({ cls := "GateHouse", name := "datagram", desc := "(I)I" } : Jvm.MethodName) prog_1_method_18_code (3 : Nat) (Option.some Jvm.ClassFile.FieldType.int)) ∈ gG := gG_of 1121 (rfl) rfl
theorem gw_1020 : (Jvm.Cond.methodLink "GateHouse" (197 : Nat) ({ cls := "GateHouse$Wire", name := "faultOf", desc := "(LGateHouse$Octets;)I" } : Jvm.MethodName)) ∈ gG := gG_of 1123 (by decide +kernel) rfl
theorem gw_1021 : (Jvm.Cond.static ({ cls := "GateHouse$Wire", name := "faultOf", desc := "(LGateHouse$Octets;)I" } : Jvm.MethodName)) ∈ gG := gG_of 1124 (by decide +kernel) rfl
set_option maxRecDepth 20000 in
theorem gw_1022 : (Jvm.Cond.code ({ cls := "GateHouse$Wire", name := "faultOf", desc := "(LGateHouse$Octets;)I" } : Jvm.MethodName) prog_12_method_2_code (2 : Nat) (Option.some Jvm.ClassFile.FieldType.int)) ∈ gG := gG_of 1125 (rfl) rfl
theorem gw_1023 : (Jvm.Cond.methodLink "GateHouse$Wire" (17 : Nat) ({ cls := "GateHouse$Octets", name := "at", desc := "(I)I" } : Jvm.MethodName)) ∈ gG := gG_of 1126 (by decide +kernel) rfl
theorem gw_1024 : (Jvm.Cond.methodLink "GateHouse$Wire" (21 : Nat) ({ cls := "GateHouse$Wire", name := "isFirst", desc := "(I)Z" } : Jvm.MethodName)) ∈ gG := gG_of 1127 (by decide +kernel) rfl
theorem gw_1025 : (Jvm.Cond.static ({ cls := "GateHouse$Wire", name := "isFirst", desc := "(I)Z" } : Jvm.MethodName)) ∈ gG := gG_of 1128 (by decide +kernel) rfl
set_option maxRecDepth 20000 in
theorem gw_1026 : (Jvm.Cond.code ({ cls := "GateHouse$Wire", name := "isFirst", desc := "(I)Z" } : Jvm.MethodName) prog_12_method_9_code (1 : Nat) (Option.some Jvm.ClassFile.FieldType.boolean)) ∈ gG := gG_of 1129 (rfl) rfl
theorem gw_1027 : (Jvm.Cond.methodLink "GateHouse$Wire" (25 : Nat) ({ cls := "GateHouse$Wire", name := "headerOf", desc := "(I)I" } : Jvm.MethodName)) ∈ gG := gG_of 1130 (by decide +kernel) rfl
theorem gw_1028 : (Jvm.Cond.static ({ cls := "GateHouse$Wire", name := "headerOf", desc := "(I)I" } : Jvm.MethodName)) ∈ gG := gG_of 1131 (by decide +kernel) rfl
set_option maxRecDepth 20000 in
theorem gw_1029 : (Jvm.Cond.code ({ cls := "GateHouse$Wire", name := "headerOf", desc := "(I)I" } : Jvm.MethodName) prog_12_method_10_code (1 : Nat) (Option.some Jvm.ClassFile.FieldType.int)) ∈ gG := gG_of 1132 (rfl) rfl
theorem gw_1030 : (Jvm.Cond.methodLink "GateHouse$Wire" (28 : Nat) ({ cls := "GateHouse$Octets", name := "pair", desc := "(I)I" } : Jvm.MethodName)) ∈ gG := gG_of 1133 (by decide +kernel) rfl
theorem gw_1031 : (Jvm.Cond.instanceMethod ({ cls := "GateHouse$Octets", name := "pair", desc := "(I)I" } : Jvm.MethodName)) ∈ gG := gG_of 1134 (by decide +kernel) rfl
theorem gw_1032 : (Jvm.Cond.selects "GateHouse$Octets" ({ cls := "GateHouse$Octets", name := "pair", desc := "(I)I" } : Jvm.MethodName) ({ cls := "GateHouse$Octets", name := "pair", desc := "(I)I" } : Jvm.MethodName)) ∈ gG := gG_of 1135 (by decide +kernel) rfl
set_option maxRecDepth 20000 in
theorem gw_1033 : (Jvm.Cond.code ({ cls := "GateHouse$Octets", name := "pair", desc := "(I)I" } : Jvm.MethodName) prog_4_method_3_code (2 : Nat) (Option.some Jvm.ClassFile.FieldType.int)) ∈ gG := gG_of 1136 (rfl) rfl
theorem gw_1034 : (Jvm.Cond.methodLink "GateHouse$Octets" (17 : Nat) ({ cls := "GateHouse$Octets", name := "at", desc := "(I)I" } : Jvm.MethodName)) ∈ gG := gG_of 1137 (by decide +kernel) rfl
theorem gw_1035 : (Jvm.Cond.methodLink "GateHouse$Wire" (31 : Nat) ({ cls := "GateHouse$Wire", name := "sum", desc := "(LGateHouse$Octets;III)I" } : Jvm.MethodName)) ∈ gG := gG_of 1138 (by decide +kernel) rfl
theorem gw_1036 : (Jvm.Cond.static ({ cls := "GateHouse$Wire", name := "sum", desc := "(LGateHouse$Octets;III)I" } : Jvm.MethodName)) ∈ gG := gG_of 1139 (by decide +kernel) rfl
set_option maxRecDepth 20000 in
theorem gw_1037 : (Jvm.Cond.code ({ cls := "GateHouse$Wire", name := "sum", desc := "(LGateHouse$Octets;III)I" } : Jvm.MethodName) prog_12_method_17_code (6 : Nat) (Option.some Jvm.ClassFile.FieldType.int)) ∈ gG := gG_of 1140 (rfl) rfl
theorem gw_1038 : (Jvm.Cond.constant "GateHouse$Wire" (35 : Nat) (65535 : Int32)) ∈ gG := gG_of 1141 (by decide +kernel) rfl
theorem gw_1039 : (Jvm.Cond.methodLink "GateHouse$Wire" (36 : Nat) ({ cls := "GateHouse$Wire", name := "isWhole", desc := "(LGateHouse$Octets;I)Z" } : Jvm.MethodName)) ∈ gG := gG_of 1142 (by decide +kernel) rfl
theorem gw_1040 : (Jvm.Cond.static ({ cls := "GateHouse$Wire", name := "isWhole", desc := "(LGateHouse$Octets;I)Z" } : Jvm.MethodName)) ∈ gG := gG_of 1143 (by decide +kernel) rfl
set_option maxRecDepth 20000 in
theorem gw_1041 : (Jvm.Cond.code ({ cls := "GateHouse$Wire", name := "isWhole", desc := "(LGateHouse$Octets;I)Z" } : Jvm.MethodName) prog_12_method_14_code (4 : Nat) (Option.some Jvm.ClassFile.FieldType.boolean)) ∈ gG := gG_of 1144 (rfl) rfl
theorem gw_1042 : (Jvm.Cond.methodLink "GateHouse$Wire" (40 : Nat) ({ cls := "GateHouse$Wire", name := "isSummed", desc := "(LGateHouse$Octets;I)Z" } : Jvm.MethodName)) ∈ gG := gG_of 1145 (by decide +kernel) rfl
theorem gw_1043 : (Jvm.Cond.static ({ cls := "GateHouse$Wire", name := "isSummed", desc := "(LGateHouse$Octets;I)Z" } : Jvm.MethodName)) ∈ gG := gG_of 1146 (by decide +kernel) rfl
set_option maxRecDepth 20000 in
theorem gw_1044 : (Jvm.Cond.code ({ cls := "GateHouse$Wire", name := "isSummed", desc := "(LGateHouse$Octets;I)Z" } : Jvm.MethodName) prog_12_method_15_code (3 : Nat) (Option.some Jvm.ClassFile.FieldType.boolean)) ∈ gG := gG_of 1147 (rfl) rfl
theorem gw_1045 : (Jvm.Cond.methodLink "GateHouse$Wire" (56 : Nat) ({ cls := "GateHouse$Wire", name := "hasBody", desc := "(I)Z" } : Jvm.MethodName)) ∈ gG := gG_of 1148 (by decide +kernel) rfl
theorem gw_1046 : (Jvm.Cond.static ({ cls := "GateHouse$Wire", name := "hasBody", desc := "(I)Z" } : Jvm.MethodName)) ∈ gG := gG_of 1149 (by decide +kernel) rfl
set_option maxRecDepth 20000 in
theorem gw_1047 : (Jvm.Cond.code ({ cls := "GateHouse$Wire", name := "hasBody", desc := "(I)Z" } : Jvm.MethodName) prog_12_method_11_code (1 : Nat) (Option.some Jvm.ClassFile.FieldType.boolean)) ∈ gG := gG_of 1150 (rfl) rfl
theorem gw_1048 : (Jvm.Cond.methodLink "GateHouse$Wire" (88 : Nat) ({ cls := "GateHouse$Wire", name := "seed", desc := "(LGateHouse$Octets;I)I" } : Jvm.MethodName)) ∈ gG := gG_of 1151 (by decide +kernel) rfl
theorem gw_1049 : (Jvm.Cond.static ({ cls := "GateHouse$Wire", name := "seed", desc := "(LGateHouse$Octets;I)I" } : Jvm.MethodName)) ∈ gG := gG_of 1152 (by decide +kernel) rfl
set_option maxRecDepth 20000 in
theorem gw_1050 : (Jvm.Cond.code ({ cls := "GateHouse$Wire", name := "seed", desc := "(LGateHouse$Octets;I)I" } : Jvm.MethodName) prog_12_method_16_code (3 : Nat) (Option.some Jvm.ClassFile.FieldType.int)) ∈ gG := gG_of 1153 (rfl) rfl
theorem gw_1051 : (Jvm.Cond.methodLink "GateHouse" (203 : Nat) ({ cls := "GateHouse$Wire", name := "placeOf", desc := "(ILGateHouse$Octets;)I" } : Jvm.MethodName)) ∈ gG := gG_of 1154 (by decide +kernel) rfl
theorem gw_1052 : (Jvm.Cond.static ({ cls := "GateHouse$Wire", name := "placeOf", desc := "(ILGateHouse$Octets;)I" } : Jvm.MethodName)) ∈ gG := gG_of 1155 (by decide +kernel) rfl
set_option maxRecDepth 20000 in
theorem gw_1053 : (Jvm.Cond.code ({ cls := "GateHouse$Wire", name := "placeOf", desc := "(ILGateHouse$Octets;)I" } : Jvm.MethodName) prog_12_method_3_code (3 : Nat) (Option.some Jvm.ClassFile.FieldType.int)) ∈ gG := gG_of 1156 (rfl) rfl
theorem gw_1054 : (Jvm.Cond.methodLink "GateHouse$Wire" (43 : Nat) ({ cls := "GateHouse$Wire", name := "sumPlace", desc := "(I)I" } : Jvm.MethodName)) ∈ gG := gG_of 1157 (by decide +kernel) rfl
theorem gw_1055 : (Jvm.Cond.static ({ cls := "GateHouse$Wire", name := "sumPlace", desc := "(I)I" } : Jvm.MethodName)) ∈ gG := gG_of 1158 (by decide +kernel) rfl
set_option maxRecDepth 20000 in
theorem gw_1056 : (Jvm.Cond.code ({ cls := "GateHouse$Wire", name := "sumPlace", desc := "(I)I" } : Jvm.MethodName) prog_12_method_13_code (1 : Nat) (Option.some Jvm.ClassFile.FieldType.int)) ∈ gG := gG_of 1159 (rfl) rfl
theorem gw_1057 : (Jvm.Cond.methodLink "GateHouse" (207 : Nat) ({ cls := "GateHouse$Wire", name := "readPacket", desc := "(LGateHouse$Octets;ILGateHouse$Packet;)V" } : Jvm.MethodName)) ∈ gG := gG_of 1160 (by decide +kernel) rfl
theorem gw_1058 : (Jvm.Cond.static ({ cls := "GateHouse$Wire", name := "readPacket", desc := "(LGateHouse$Octets;ILGateHouse$Packet;)V" } : Jvm.MethodName)) ∈ gG := gG_of 1161 (by decide +kernel) rfl
set_option maxRecDepth 20000 in
theorem gw_1059 : (Jvm.Cond.code ({ cls := "GateHouse$Wire", name := "readPacket", desc := "(LGateHouse$Octets;ILGateHouse$Packet;)V" } : Jvm.MethodName) prog_12_method_4_code (5 : Nat) (Option.none : Option Jvm.ClassFile.FieldType)) ∈ gG := gG_of 1162 (rfl) rfl
theorem gw_1060 : (Jvm.Cond.methodLink "GateHouse$Wire" (52 : Nat) ({ cls := "GateHouse$Octets", name := "quad", desc := "(I)J" } : Jvm.MethodName)) ∈ gG := gG_of 1163 (by decide +kernel) rfl
theorem gw_1061 : (Jvm.Cond.instanceMethod ({ cls := "GateHouse$Octets", name := "quad", desc := "(I)J" } : Jvm.MethodName)) ∈ gG := gG_of 1164 (by decide +kernel) rfl
theorem gw_1062 : (Jvm.Cond.selects "GateHouse$Octets" ({ cls := "GateHouse$Octets", name := "quad", desc := "(I)J" } : Jvm.MethodName) ({ cls := "GateHouse$Octets", name := "quad", desc := "(I)J" } : Jvm.MethodName)) ∈ gG := gG_of 1165 (by decide +kernel) rfl
set_option maxRecDepth 20000 in
theorem gw_1063 : (Jvm.Cond.code ({ cls := "GateHouse$Octets", name := "quad", desc := "(I)J" } : Jvm.MethodName) prog_4_method_4_code (2 : Nat) (Option.some Jvm.ClassFile.FieldType.long)) ∈ gG := gG_of 1166 (rfl) rfl
theorem gw_1064 : (Jvm.Cond.methodLink "GateHouse$Octets" (21 : Nat) ({ cls := "GateHouse$Octets", name := "pair", desc := "(I)I" } : Jvm.MethodName)) ∈ gG := gG_of 1167 (by decide +kernel) rfl
theorem gw_1065 : (Jvm.Cond.constantLong "GateHouse$Octets" (24 : Nat) (65536 : Int64)) ∈ gG := gG_of 1168 (by decide +kernel) rfl
theorem gw_1066 : (Jvm.Cond.methodLink "GateHouse$Wire" (62 : Nat) ({ cls := "GateHouse$Packet", name := "isEcho", desc := "()Z" } : Jvm.MethodName)) ∈ gG := gG_of 1169 (by decide +kernel) rfl
theorem gw_1067 : (Jvm.Cond.instanceMethod ({ cls := "GateHouse$Packet", name := "isEcho", desc := "()Z" } : Jvm.MethodName)) ∈ gG := gG_of 1170 (by decide +kernel) rfl
theorem gw_1068 : (Jvm.Cond.selects "GateHouse$Packet" ({ cls := "GateHouse$Packet", name := "isEcho", desc := "()Z" } : Jvm.MethodName) ({ cls := "GateHouse$Packet", name := "isEcho", desc := "()Z" } : Jvm.MethodName)) ∈ gG := gG_of 1171 (by decide +kernel) rfl
set_option maxRecDepth 20000 in
theorem gw_1069 : (Jvm.Cond.code ({ cls := "GateHouse$Packet", name := "isEcho", desc := "()Z" } : Jvm.MethodName) prog_5_method_5_code (1 : Nat) (Option.some Jvm.ClassFile.FieldType.boolean)) ∈ gG := gG_of 1172 (rfl) rfl
theorem gw_1070 : (Jvm.Cond.methodLink "GateHouse$Packet" (22 : Nat) ({ cls := "GateHouse$Packet", name := "icmpType", desc := "()I" } : Jvm.MethodName)) ∈ gG := gG_of 1173 (by decide +kernel) rfl
theorem gw_1071 : (Jvm.Cond.methodLink "GateHouse" (214 : Nat) ({ cls := "GateHouse$Wire", name := "flagsOf", desc := "(LGateHouse$Octets;)I" } : Jvm.MethodName)) ∈ gG := gG_of 1174 (by decide +kernel) rfl
theorem gw_1072 : (Jvm.Cond.static ({ cls := "GateHouse$Wire", name := "flagsOf", desc := "(LGateHouse$Octets;)I" } : Jvm.MethodName)) ∈ gG := gG_of 1175 (by decide +kernel) rfl
set_option maxRecDepth 20000 in
theorem gw_1073 : (Jvm.Cond.code ({ cls := "GateHouse$Wire", name := "flagsOf", desc := "(LGateHouse$Octets;)I" } : Jvm.MethodName) prog_12_method_5_code (1 : Nat) (Option.some Jvm.ClassFile.FieldType.int)) ∈ gG := gG_of 1176 (rfl) rfl
theorem gw_1074 : (Jvm.Cond.methodLink "GateHouse" (217 : Nat) ({ cls := "GateHouse$Wire", name := "tellsOf", desc := "(LGateHouse$Octets;LGateHouse$Packet;)Z" } : Jvm.MethodName)) ∈ gG := gG_of 1177 (by decide +kernel) rfl
theorem gw_1075 : (Jvm.Cond.static ({ cls := "GateHouse$Wire", name := "tellsOf", desc := "(LGateHouse$Octets;LGateHouse$Packet;)Z" } : Jvm.MethodName)) ∈ gG := gG_of 1178 (by decide +kernel) rfl
set_option maxRecDepth 20000 in
theorem gw_1076 : (Jvm.Cond.code ({ cls := "GateHouse$Wire", name := "tellsOf", desc := "(LGateHouse$Octets;LGateHouse$Packet;)Z" } : Jvm.MethodName) prog_12_method_6_code (5 : Nat) (Option.some Jvm.ClassFile.FieldType.boolean)) ∈ gG := gG_of 1179 (rfl) rfl
theorem gw_1077 : (Jvm.Cond.methodLink "GateHouse$Wire" (66 : Nat) ({ cls := "GateHouse$Wire", name := "isReport", desc := "(I)Z" } : Jvm.MethodName)) ∈ gG := gG_of 1180 (by decide +kernel) rfl
theorem gw_1078 : (Jvm.Cond.static ({ cls := "GateHouse$Wire", name := "isReport", desc := "(I)Z" } : Jvm.MethodName)) ∈ gG := gG_of 1181 (by decide +kernel) rfl
set_option maxRecDepth 20000 in
theorem gw_1079 : (Jvm.Cond.code ({ cls := "GateHouse$Wire", name := "isReport", desc := "(I)Z" } : Jvm.MethodName) prog_12_method_12_code (1 : Nat) (Option.some Jvm.ClassFile.FieldType.boolean)) ∈ gG := gG_of 1182 (rfl) rfl
theorem gw_1080 : (Jvm.Cond.methodLink "GateHouse$Wire" (69 : Nat) ({ cls := "GateHouse$Wire", name := "readPacket", desc := "(LGateHouse$Octets;ILGateHouse$Packet;)V" } : Jvm.MethodName)) ∈ gG := gG_of 1183 (by decide +kernel) rfl
theorem gw_1081 : (Jvm.Cond.methodLink "GateHouseLaw" (136 : Nat) ({ cls := "GateHouseLaw", name := "pack", desc := "(LGateHouse;[J)I" } : Jvm.MethodName)) ∈ gG := gG_of 1184 (by decide +kernel) rfl
theorem gw_1082 : (Jvm.Cond.static ({ cls := "GateHouseLaw", name := "pack", desc := "(LGateHouse;[J)I" } : Jvm.MethodName)) ∈ gG := gG_of 1185 (by decide +kernel) rfl
set_option maxRecDepth 20000 in
theorem gw_1083 : (Jvm.Cond.codeWith ({ cls := "GateHouseLaw", name := "pack", desc := "(LGateHouse;[J)I" } : Jvm.MethodName) method_15_code (3 : Nat) (Option.some Jvm.ClassFile.FieldType.int) [((0 : Nat), (8 : Nat), (11 : Nat), (22 : Nat))]) ∈ gG := gG_of 1186 (rfl) rfl
theorem gw_1084 : (Jvm.Cond.methodLink "GateHouseLaw" (57 : Nat) ({ cls := "GateHouse", name := "pack", desc := "()I" } : Jvm.MethodName)) ∈ gG := gG_of 1187 (by decide +kernel) rfl
theorem gw_1085 : (Jvm.Cond.instanceMethod ({ cls := "GateHouse", name := "pack", desc := "()I" } : Jvm.MethodName)) ∈ gG := gG_of 1188 (by decide +kernel) rfl
theorem gw_1086 : (Jvm.Cond.selects "GateHouse" ({ cls := "GateHouse", name := "pack", desc := "()I" } : Jvm.MethodName) ({ cls := "GateHouse", name := "pack", desc := "()I" } : Jvm.MethodName)) ∈ gG := gG_of 1189 (by decide +kernel) rfl
set_option maxRecDepth 20000 in
theorem gw_1087 : (Jvm.Cond.code ({ cls := "GateHouse", name := "pack", desc := "()I" } : Jvm.MethodName) prog_1_method_19_code (1 : Nat) (Option.some Jvm.ClassFile.FieldType.int)) ∈ gG := gG_of 1190 (rfl) rfl
theorem gw_1089 : (Jvm.Cond.methodLink "GateHouse" (223 : Nat) ({ cls := "GateHouse$Wire", name := "put", desc := "(LGateHouse$Packet;LGateHouse$Octets;)V" } : Jvm.MethodName)) ∈ gG := gG_of 1192 (by decide +kernel) rfl
theorem gw_1090 : (Jvm.Cond.static ({ cls := "GateHouse$Wire", name := "put", desc := "(LGateHouse$Packet;LGateHouse$Octets;)V" } : Jvm.MethodName)) ∈ gG := gG_of 1193 (by decide +kernel) rfl
set_option maxRecDepth 20000 in
theorem gw_1091 : (Jvm.Cond.code ({ cls := "GateHouse$Wire", name := "put", desc := "(LGateHouse$Packet;LGateHouse$Octets;)V" } : Jvm.MethodName) prog_12_method_7_code (5 : Nat) (Option.none : Option Jvm.ClassFile.FieldType)) ∈ gG := gG_of 1194 (rfl) rfl
theorem gw_1092 : (Jvm.Cond.methodLink "GateHouse$Wire" (73 : Nat) ({ cls := "GateHouse$Octets", name := "addPair", desc := "(I)V" } : Jvm.MethodName)) ∈ gG := gG_of 1195 (by decide +kernel) rfl
theorem gw_1093 : (Jvm.Cond.methodLink "GateHouse$Wire" (77 : Nat) ({ cls := "GateHouse$Octets", name := "addQuad", desc := "(I)V" } : Jvm.MethodName)) ∈ gG := gG_of 1196 (by decide +kernel) rfl
theorem gw_1094 : (Jvm.Cond.methodLink "GateHouse$Wire" (80 : Nat) ({ cls := "GateHouse$Octets", name := "setPair", desc := "(II)V" } : Jvm.MethodName)) ∈ gG := gG_of 1197 (by decide +kernel) rfl
theorem gw_1095 : (Jvm.Cond.instanceMethod ({ cls := "GateHouse$Octets", name := "setPair", desc := "(II)V" } : Jvm.MethodName)) ∈ gG := gG_of 1198 (by decide +kernel) rfl
theorem gw_1096 : (Jvm.Cond.selects "GateHouse$Octets" ({ cls := "GateHouse$Octets", name := "setPair", desc := "(II)V" } : Jvm.MethodName) ({ cls := "GateHouse$Octets", name := "setPair", desc := "(II)V" } : Jvm.MethodName)) ∈ gG := gG_of 1199 (by decide +kernel) rfl
set_option maxRecDepth 20000 in
theorem gw_1097 : (Jvm.Cond.code ({ cls := "GateHouse$Octets", name := "setPair", desc := "(II)V" } : Jvm.MethodName) prog_4_method_8_code (3 : Nat) (Option.none : Option Jvm.ClassFile.FieldType)) ∈ gG := gG_of 1200 (rfl) rfl
theorem gw_1098 : (Jvm.Cond.methodLink "GateHouse$Wire" (84 : Nat) ({ cls := "GateHouse$Wire", name := "putBody", desc := "(LGateHouse$Packet;ILGateHouse$Octets;)V" } : Jvm.MethodName)) ∈ gG := gG_of 1201 (by decide +kernel) rfl
theorem gw_1099 : (Jvm.Cond.static ({ cls := "GateHouse$Wire", name := "putBody", desc := "(LGateHouse$Packet;ILGateHouse$Octets;)V" } : Jvm.MethodName)) ∈ gG := gG_of 1202 (by decide +kernel) rfl
set_option maxRecDepth 20000 in
theorem gw_1100 : (Jvm.Cond.code ({ cls := "GateHouse$Wire", name := "putBody", desc := "(LGateHouse$Packet;ILGateHouse$Octets;)V" } : Jvm.MethodName) prog_12_method_8_code (5 : Nat) (Option.none : Option Jvm.ClassFile.FieldType)) ∈ gG := gG_of 1203 (rfl) rfl
theorem gw_1101 : (Jvm.Cond.methodLink "GateHouseLaw" (140 : Nat) ({ cls := "GateHouseLaw", name := "connection", desc := "(LGateHouse;II[J)I" } : Jvm.MethodName)) ∈ gG := gG_of 1204 (by decide +kernel) rfl
theorem gw_1102 : (Jvm.Cond.static ({ cls := "GateHouseLaw", name := "connection", desc := "(LGateHouse;II[J)I" } : Jvm.MethodName)) ∈ gG := gG_of 1205 (by decide +kernel) rfl
set_option maxRecDepth 20000 in
theorem gw_1103 : (Jvm.Cond.codeWith ({ cls := "GateHouseLaw", name := "connection", desc := "(LGateHouse;II[J)I" } : Jvm.MethodName) method_16_code (5 : Nat) (Option.some Jvm.ClassFile.FieldType.int) [((0 : Nat), (10 : Nat), (13 : Nat), (22 : Nat))]) ∈ gG := gG_of 1206 (rfl) rfl
theorem gw_1104 : (Jvm.Cond.methodLink "GateHouseLaw" (61 : Nat) ({ cls := "GateHouse", name := "connection", desc := "(II)I" } : Jvm.MethodName)) ∈ gG := gG_of 1207 (by decide +kernel) rfl
theorem gw_1105 : (Jvm.Cond.instanceMethod ({ cls := "GateHouse", name := "connection", desc := "(II)I" } : Jvm.MethodName)) ∈ gG := gG_of 1208 (by decide +kernel) rfl
theorem gw_1106 : (Jvm.Cond.selects "GateHouse" ({ cls := "GateHouse", name := "connection", desc := "(II)I" } : Jvm.MethodName) ({ cls := "GateHouse", name := "connection", desc := "(II)I" } : Jvm.MethodName)) ∈ gG := gG_of 1209 (by decide +kernel) rfl
set_option maxRecDepth 20000 in
theorem gw_1107 : (Jvm.Cond.code ({ cls := "GateHouse", name := "connection", desc := "(II)I" } : Jvm.MethodName) prog_1_method_20_code (3 : Nat) (Option.some Jvm.ClassFile.FieldType.int)) ∈ gG := gG_of 1210 (rfl) rfl
theorem gw_1110 : (Jvm.Cond.methodLink "GateHouse" (231 : Nat) ({ cls := "GateHouse$Table", name := "at", desc := "(I)LGateHouse$Connection;" } : Jvm.MethodName)) ∈ gG := gG_of 1213 (by decide +kernel) rfl
theorem gw_1111 : (Jvm.Cond.methodLink "GateHouse" (234 : Nat) ({ cls := "GateHouse$Connection", name := "part", desc := "(I)I" } : Jvm.MethodName)) ∈ gG := gG_of 1214 (by decide +kernel) rfl
theorem gw_1112 : (Jvm.Cond.instanceMethod ({ cls := "GateHouse$Connection", name := "part", desc := "(I)I" } : Jvm.MethodName)) ∈ gG := gG_of 1215 (by decide +kernel) rfl
theorem gw_1113 : (Jvm.Cond.selects "GateHouse$Connection" ({ cls := "GateHouse$Connection", name := "part", desc := "(I)I" } : Jvm.MethodName) ({ cls := "GateHouse$Connection", name := "part", desc := "(I)I" } : Jvm.MethodName)) ∈ gG := gG_of 1216 (by decide +kernel) rfl
set_option maxRecDepth 20000 in
theorem gw_1114 : (Jvm.Cond.code ({ cls := "GateHouse$Connection", name := "part", desc := "(I)I" } : Jvm.MethodName) prog_2_method_7_code (2 : Nat) (Option.some Jvm.ClassFile.FieldType.int)) ∈ gG := gG_of 1217 (rfl) rfl
theorem gw_1115 : (Jvm.Cond.methodLink "GateHouseLaw" (84 : Nat) ({ cls := "GateHouseModel", name := "thrown", desc := "()I" } : Jvm.MethodName)) ∈ gG := gG_of 1218 (by decide +kernel) rfl
theorem gw_1116 : (Jvm.Cond.instanceMethod ({ cls := "GateHouseModel", name := "thrown", desc := "()I" } : Jvm.MethodName)) ∈ gG := gG_of 1219 (by decide +kernel) rfl
theorem gw_1117 : (Jvm.Cond.selects "GateHouseModel" ({ cls := "GateHouseModel", name := "thrown", desc := "()I" } : Jvm.MethodName) ({ cls := "GateHouseModel", name := "thrown", desc := "()I" } : Jvm.MethodName)) ∈ gG := gG_of 1220 (by decide +kernel) rfl
set_option maxRecDepth 20000 in
theorem gw_1118 : (Jvm.Cond.code ({ cls := "GateHouseModel", name := "thrown", desc := "()I" } : Jvm.MethodName) prog_14_method_1_code (1 : Nat) (Option.some Jvm.ClassFile.FieldType.int)) ∈ gG := gG_of 1221 (rfl) rfl
theorem gw_1119 : (Jvm.Cond.methodLink "GateHouseLaw" (72 : Nat) ({ cls := "GateHouseModel", name := "feed", desc := "(IIIII)I" } : Jvm.MethodName)) ∈ gG := gG_of 1222 (by decide +kernel) rfl
theorem gw_1120 : (Jvm.Cond.instanceMethod ({ cls := "GateHouseModel", name := "feed", desc := "(IIIII)I" } : Jvm.MethodName)) ∈ gG := gG_of 1223 (by decide +kernel) rfl
theorem gw_1121 : (Jvm.Cond.selects "GateHouseModel" ({ cls := "GateHouseModel", name := "feed", desc := "(IIIII)I" } : Jvm.MethodName) ({ cls := "GateHouseModel", name := "feed", desc := "(IIIII)I" } : Jvm.MethodName)) ∈ gG := gG_of 1224 (by decide +kernel) rfl
set_option maxRecDepth 20000 in
theorem gw_1122 : (Jvm.Cond.code ({ cls := "GateHouseModel", name := "feed", desc := "(IIIII)I" } : Jvm.MethodName) prog_14_method_3_code (6 : Nat) (Option.some Jvm.ClassFile.FieldType.int)) ∈ gG := gG_of 1225 (rfl) rfl
theorem gw_1123 : (Jvm.Cond.methodLink "GateHouseModel" (10 : Nat) ({ cls := "GateHouseModel", name := "four", desc := "(I)V" } : Jvm.MethodName)) ∈ gG := gG_of 1226 (by decide +kernel) rfl
theorem gw_1125 : (Jvm.Cond.instanceMethod ({ cls := "GateHouseModel", name := "four", desc := "(I)V" } : Jvm.MethodName)) ∈ gG := gG_of 1228 (by decide +kernel) rfl
theorem gw_1126 : (Jvm.Cond.instantiable "GateHouseModel" (42 : Nat)) ∈ gG := gG_of 1229 (by decide +kernel) rfl
set_option maxRecDepth 20000 in
theorem gw_1127 : (Jvm.Cond.code ({ cls := "GateHouseModel", name := "four", desc := "(I)V" } : Jvm.MethodName) prog_14_method_4_code (3 : Nat) (Option.none : Option Jvm.ClassFile.FieldType)) ∈ gG := gG_of 1230 (rfl) rfl
theorem gw_1128 : (Jvm.Cond.methodLink "GateHouseLaw" (77 : Nat) ({ cls := "GateHouseModel", name := "end", desc := "(I)Z" } : Jvm.MethodName)) ∈ gG := gG_of 1231 (by decide +kernel) rfl
theorem gw_1129 : (Jvm.Cond.instanceMethod ({ cls := "GateHouseModel", name := "end", desc := "(I)Z" } : Jvm.MethodName)) ∈ gG := gG_of 1232 (by decide +kernel) rfl
theorem gw_1130 : (Jvm.Cond.selects "GateHouseModel" ({ cls := "GateHouseModel", name := "end", desc := "(I)Z" } : Jvm.MethodName) ({ cls := "GateHouseModel", name := "end", desc := "(I)Z" } : Jvm.MethodName)) ∈ gG := gG_of 1233 (by decide +kernel) rfl
set_option maxRecDepth 20000 in
theorem gw_1131 : (Jvm.Cond.code ({ cls := "GateHouseModel", name := "end", desc := "(I)Z" } : Jvm.MethodName) prog_14_method_5_code (2 : Nat) (Option.some Jvm.ClassFile.FieldType.boolean)) ∈ gG := gG_of 1234 (rfl) rfl
theorem gw_1132 : (Jvm.Cond.classLink "GateHouseLaw" (65 : Nat) "GateHouseModel") ∈ gG := gG_of 1235 (by decide +kernel) rfl
theorem gw_1133 : (Jvm.Cond.methodLink "GateHouseLaw" (67 : Nat) ({ cls := "GateHouseModel", name := "<init>", desc := "()V" } : Jvm.MethodName)) ∈ gG := gG_of 1236 (by decide +kernel) rfl
theorem gw_1134 : (Jvm.Cond.instanceMethod ({ cls := "GateHouseModel", name := "<init>", desc := "()V" } : Jvm.MethodName)) ∈ gG := gG_of 1237 (by decide +kernel) rfl
set_option maxRecDepth 20000 in
theorem gw_1135 : (Jvm.Cond.code ({ cls := "GateHouseModel", name := "<init>", desc := "()V" } : Jvm.MethodName) prog_14_method_11_code (4 : Nat) (Option.none : Option Jvm.ClassFile.FieldType)) ∈ gG := gG_of 1238 (rfl) rfl
theorem gw_1136 : (Jvm.Cond.methodLink "GateHouseModel" (56 : Nat) ({ cls := "java/lang/Object", name := "<init>", desc := "()V" } : Jvm.MethodName)) ∈ gG := gG_of 1239 (by decide +kernel) rfl
theorem gw_1138 : (Jvm.Cond.methodLink "GateHouseModel" (101 : Nat) ({ cls := "java/lang/String", name := "length", desc := "()I" } : Jvm.MethodName)) ∈ gG := gG_of 1241 (by decide +kernel) rfl
theorem gw_1139 : (Jvm.Cond.methodLink "GateHouseModel" (106 : Nat) ({ cls := "java/lang/String", name := "charAt", desc := "(I)C" } : Jvm.MethodName)) ∈ gG := gG_of 1242 (by decide +kernel) rfl
theorem gw_1140 : (Jvm.Cond.fieldLink "GateHouseModel" (1 : Nat) "GateHouseModel" "thrown" "I") ∈ gG := gG_of 1243 (by decide +kernel) rfl
theorem gw_1141 : (Jvm.Cond.fieldLink "GateHouseModel" (14 : Nat) "GateHouseModel" "tape" "[B") ∈ gG := gG_of 1244 (by decide +kernel) rfl
theorem gw_1142 : (Jvm.Cond.fieldLink "GateHouseModel" (7 : Nat) "GateHouseModel" "length" "I") ∈ gG := gG_of 1245 (by decide +kernel) rfl
theorem gw_1143 : (Jvm.Cond.fieldLink "GateHouseModel" (18 : Nat) "GateHouseModel" "size" "I") ∈ gG := gG_of 1246 (by decide +kernel) rfl
theorem gw_1144 : (Jvm.Cond.fieldLink "GateHouseModel" (110 : Nat) "GateHouseModel" "p" "I") ∈ gG := gG_of 1247 (by decide +kernel) rfl
theorem gw_1145 : (Jvm.Cond.fieldLink "GateHouseModel" (43 : Nat) "GateHouseModel" "policy" "[I") ∈ gG := gG_of 1248 (by decide +kernel) rfl
theorem gw_1146 : (Jvm.Cond.fieldLink "GateHouseModel" (46 : Nat) "GateHouseModel" "many" "[I") ∈ gG := gG_of 1249 (by decide +kernel) rfl
theorem gw_1147 : (Jvm.Cond.fieldLink "GateHouseModel" (29 : Nat) "GateHouseModel" "action" "[I") ∈ gG := gG_of 1250 (by decide +kernel) rfl
theorem gw_1148 : (Jvm.Cond.fieldLink "GateHouseModel" (33 : Nat) "GateHouseModel" "states" "[I") ∈ gG := gG_of 1251 (by decide +kernel) rfl
theorem gw_1149 : (Jvm.Cond.fieldLink "GateHouseModel" (36 : Nat) "GateHouseModel" "low" "[J") ∈ gG := gG_of 1252 (by decide +kernel) rfl
theorem gw_1150 : (Jvm.Cond.fieldLink "GateHouseModel" (40 : Nat) "GateHouseModel" "high" "[J") ∈ gG := gG_of 1253 (by decide +kernel) rfl
theorem gw_1151 : (Jvm.Cond.fieldLink "GateHouseModel" (53 : Nat) "GateHouseModel" "told" "[I") ∈ gG := gG_of 1254 (by decide +kernel) rfl
theorem gw_1152 : (Jvm.Cond.fieldLink "GateHouseModel" (62 : Nat) "GateHouseModel" "wordAt" "[I") ∈ gG := gG_of 1255 (by decide +kernel) rfl
theorem gw_1153 : (Jvm.Cond.fieldLink "GateHouseModel" (65 : Nat) "GateHouseModel" "wordSize" "[I") ∈ gG := gG_of 1256 (by decide +kernel) rfl
theorem gw_1154 : (Jvm.Cond.fieldLink "GateHouseModel" (120 : Nat) "GateHouseModel" "token" "I") ∈ gG := gG_of 1257 (by decide +kernel) rfl
theorem gw_1155 : (Jvm.Cond.fieldLink "GateHouseModel" (117 : Nat) "GateHouseModel" "place" "I") ∈ gG := gG_of 1258 (by decide +kernel) rfl
theorem gw_1156 : (Jvm.Cond.fieldLink "GateHouseModel" (136 : Nat) "GateHouseModel" "which" "I") ∈ gG := gG_of 1259 (by decide +kernel) rfl
theorem gw_1157 : (Jvm.Cond.fieldLink "GateHouseModel" (143 : Nat) "GateHouseModel" "value" "J") ∈ gG := gG_of 1260 (by decide +kernel) rfl
theorem gw_1158 : (Jvm.Cond.fieldLink "GateHouseModel" (154 : Nat) "GateHouseModel" "fault" "I") ∈ gG := gG_of 1261 (by decide +kernel) rfl
theorem gw_1159 : (Jvm.Cond.fieldLink "GateHouseModel" (157 : Nat) "GateHouseModel" "faultAt" "I") ∈ gG := gG_of 1262 (by decide +kernel) rfl
theorem gw_1160 : (Jvm.Cond.fieldLink "GateHouseModel" (68 : Nat) "GateHouseModel" "out" "[B") ∈ gG := gG_of 1263 (by decide +kernel) rfl
theorem gw_1161 : (Jvm.Cond.fieldLink "GateHouseModel" (225 : Nat) "GateHouseModel" "outMany" "I") ∈ gG := gG_of 1264 (by decide +kernel) rfl
theorem gw_1162 : (Jvm.Cond.fieldLink "GateHouseModel" (71 : Nat) "GateHouseModel" "at" "[J") ∈ gG := gG_of 1265 (by decide +kernel) rfl
theorem gw_1163 : (Jvm.Cond.fieldLink "GateHouseModel" (74 : Nat) "GateHouseModel" "found" "[J") ∈ gG := gG_of 1266 (by decide +kernel) rfl
theorem gw_1164 : (Jvm.Cond.fieldLink "GateHouseModel" (77 : Nat) "GateHouseModel" "way" "[J") ∈ gG := gG_of 1267 (by decide +kernel) rfl
theorem gw_1165 : (Jvm.Cond.fieldLink "GateHouseModel" (330 : Nat) "GateHouseModel" "isFound" "Z") ∈ gG := gG_of 1268 (by decide +kernel) rfl
theorem gw_1166 : (Jvm.Cond.fieldLink "GateHouseModel" (289 : Nat) "GateHouseModel" "one" "I") ∈ gG := gG_of 1269 (by decide +kernel) rfl
theorem gw_1167 : (Jvm.Cond.fieldLink "GateHouseModel" (296 : Nat) "GateHouseModel" "other" "I") ∈ gG := gG_of 1270 (by decide +kernel) rfl
theorem gw_1168 : (Jvm.Cond.fieldLink "GateHouseModel" (80 : Nat) "GateHouseModel" "vainKey" "[J") ∈ gG := gG_of 1271 (by decide +kernel) rfl
theorem gw_1169 : (Jvm.Cond.fieldLink "GateHouseModel" (83 : Nat) "GateHouseModel" "vain" "[Z") ∈ gG := gG_of 1272 (by decide +kernel) rfl
theorem gw_1170 : (Jvm.Cond.fieldLink "GateHouseModel" (283 : Nat) "GateHouseModel" "must" "I") ∈ gG := gG_of 1273 (by decide +kernel) rfl
theorem gw_1171 : (Jvm.Cond.fieldLink "GateHouseModel" (87 : Nat) "GateHouseModel" "table" "[I") ∈ gG := gG_of 1274 (by decide +kernel) rfl
theorem gw_1172 : (Jvm.Cond.fieldLink "GateHouseModel" (340 : Nat) "GateHouseModel" "connections" "I") ∈ gG := gG_of 1275 (by decide +kernel) rfl
theorem gw_1173 : (Jvm.Cond.fieldLink "GateHouseModel" (90 : Nat) "GateHouseModel" "room" "I") ∈ gG := gG_of 1276 (by decide +kernel) rfl
theorem gw_1174 : (Jvm.Cond.fieldLink "GateHouseModel" (343 : Nat) "GateHouseModel" "now" "I") ∈ gG := gG_of 1277 (by decide +kernel) rfl
theorem gw_1175 : (Jvm.Cond.fieldLink "GateHouseModel" (363 : Nat) "GateHouseModel" "came" "I") ∈ gG := gG_of 1278 (by decide +kernel) rfl
theorem gw_1176 : (Jvm.Cond.fieldLink "GateHouseModel" (391 : Nat) "GateHouseModel" "wentForRoom" "I") ∈ gG := gG_of 1279 (by decide +kernel) rfl
theorem gw_1177 : (Jvm.Cond.fieldLink "GateHouseModel" (384 : Nat) "GateHouseModel" "wereFull" "I") ∈ gG := gG_of 1280 (by decide +kernel) rfl
theorem gw_1178 : (Jvm.Cond.fieldLink "GateHouseModel" (354 : Nat) "GateHouseModel" "whose" "I") ∈ gG := gG_of 1281 (by decide +kernel) rfl
theorem gw_1179 : (Jvm.Cond.fieldLink "GateHouseModel" (93 : Nat) "GateHouseModel" "last" "[I") ∈ gG := gG_of 1282 (by decide +kernel) rfl
theorem gw_1180 : (Jvm.Cond.fieldLink "GateHouseModel" (96 : Nat) "GateHouseModel" "tale" "[I") ∈ gG := gG_of 1283 (by decide +kernel) rfl
theorem gw_1181 : (Jvm.Cond.fieldLink "GateHouseModel" (357 : Nat) "GateHouseModel" "tells" "Z") ∈ gG := gG_of 1284 (by decide +kernel) rfl
theorem gw_1267 : (Jvm.Cond.arrayClass Jvm.ClassFile.FieldType.boolean) ∈ gG := gG_of 1370 (by decide +kernel) rfl
theorem gw_1268 : (Jvm.Cond.methodLink "GateHouseLaw" (83 : Nat) ({ cls := "GateHouseModel", name := "load", desc := "(I)I" } : Jvm.MethodName)) ∈ gG := gG_of 1371 (by decide +kernel) rfl
theorem gw_1269 : (Jvm.Cond.instanceMethod ({ cls := "GateHouseModel", name := "load", desc := "(I)I" } : Jvm.MethodName)) ∈ gG := gG_of 1372 (by decide +kernel) rfl
theorem gw_1270 : (Jvm.Cond.selects "GateHouseModel" ({ cls := "GateHouseModel", name := "load", desc := "(I)I" } : Jvm.MethodName) ({ cls := "GateHouseModel", name := "load", desc := "(I)I" } : Jvm.MethodName)) ∈ gG := gG_of 1373 (by decide +kernel) rfl
set_option maxRecDepth 20000 in
theorem gw_1271 : (Jvm.Cond.code ({ cls := "GateHouseModel", name := "load", desc := "(I)I" } : Jvm.MethodName) prog_14_method_26_code (2 : Nat) (Option.some Jvm.ClassFile.FieldType.int)) ∈ gG := gG_of 1374 (rfl) rfl
theorem gw_1272 : (Jvm.Cond.methodLink "GateHouseModel" (176 : Nat) ({ cls := "GateHouseModel", name := "throwsIf", desc := "(ZI)Z" } : Jvm.MethodName)) ∈ gG := gG_of 1375 (by decide +kernel) rfl
theorem gw_1274 : (Jvm.Cond.instanceMethod ({ cls := "GateHouseModel", name := "throwsIf", desc := "(ZI)Z" } : Jvm.MethodName)) ∈ gG := gG_of 1377 (by decide +kernel) rfl
set_option maxRecDepth 20000 in
theorem gw_1275 : (Jvm.Cond.code ({ cls := "GateHouseModel", name := "throwsIf", desc := "(ZI)Z" } : Jvm.MethodName) prog_14_method_2_code (3 : Nat) (Option.some Jvm.ClassFile.FieldType.boolean)) ∈ gG := gG_of 1378 (rfl) rfl
theorem gw_1276 : (Jvm.Cond.methodLink "GateHouseModel" (173 : Nat) ({ cls := "GateHouseModel", name := "next", desc := "()V" } : Jvm.MethodName)) ∈ gG := gG_of 1379 (by decide +kernel) rfl
theorem gw_1278 : (Jvm.Cond.instanceMethod ({ cls := "GateHouseModel", name := "next", desc := "()V" } : Jvm.MethodName)) ∈ gG := gG_of 1381 (by decide +kernel) rfl
set_option maxRecDepth 20000 in
theorem gw_1279 : (Jvm.Cond.code ({ cls := "GateHouseModel", name := "next", desc := "()V" } : Jvm.MethodName) prog_14_method_14_code (2 : Nat) (Option.none : Option Jvm.ClassFile.FieldType)) ∈ gG := gG_of 1382 (rfl) rfl
theorem gw_1280 : (Jvm.Cond.methodLink "GateHouseModel" (113 : Nat) ({ cls := "GateHouseModel", name := "byteAt", desc := "(I)I" } : Jvm.MethodName)) ∈ gG := gG_of 1383 (by decide +kernel) rfl
theorem gw_1282 : (Jvm.Cond.instanceMethod ({ cls := "GateHouseModel", name := "byteAt", desc := "(I)I" } : Jvm.MethodName)) ∈ gG := gG_of 1385 (by decide +kernel) rfl
set_option maxRecDepth 20000 in
theorem gw_1283 : (Jvm.Cond.code ({ cls := "GateHouseModel", name := "byteAt", desc := "(I)I" } : Jvm.MethodName) prog_14_method_6_code (2 : Nat) (Option.some Jvm.ClassFile.FieldType.int)) ∈ gG := gG_of 1386 (rfl) rfl
theorem gw_1284 : (Jvm.Cond.methodLink "GateHouseModel" (123 : Nat) ({ cls := "GateHouseModel", name := "isSmall", desc := "(I)Z" } : Jvm.MethodName)) ∈ gG := gG_of 1387 (by decide +kernel) rfl
theorem gw_1285 : (Jvm.Cond.static ({ cls := "GateHouseModel", name := "isSmall", desc := "(I)Z" } : Jvm.MethodName)) ∈ gG := gG_of 1388 (by decide +kernel) rfl
set_option maxRecDepth 20000 in
theorem gw_1286 : (Jvm.Cond.code ({ cls := "GateHouseModel", name := "isSmall", desc := "(I)Z" } : Jvm.MethodName) prog_14_method_12_code (1 : Nat) (Option.some Jvm.ClassFile.FieldType.boolean)) ∈ gG := gG_of 1389 (rfl) rfl
theorem gw_1287 : (Jvm.Cond.methodLink "GateHouseModel" (127 : Nat) ({ cls := "GateHouseModel", name := "readWord", desc := "()V" } : Jvm.MethodName)) ∈ gG := gG_of 1390 (by decide +kernel) rfl
theorem gw_1289 : (Jvm.Cond.instanceMethod ({ cls := "GateHouseModel", name := "readWord", desc := "()V" } : Jvm.MethodName)) ∈ gG := gG_of 1392 (by decide +kernel) rfl
set_option maxRecDepth 20000 in
theorem gw_1290 : (Jvm.Cond.code ({ cls := "GateHouseModel", name := "readWord", desc := "()V" } : Jvm.MethodName) prog_14_method_15_code (4 : Nat) (Option.none : Option Jvm.ClassFile.FieldType)) ∈ gG := gG_of 1393 (rfl) rfl
theorem gw_1291 : (Jvm.Cond.methodLink "GateHouseModel" (130 : Nat) ({ cls := "GateHouseModel", name := "isDigit", desc := "(I)Z" } : Jvm.MethodName)) ∈ gG := gG_of 1394 (by decide +kernel) rfl
theorem gw_1292 : (Jvm.Cond.static ({ cls := "GateHouseModel", name := "isDigit", desc := "(I)Z" } : Jvm.MethodName)) ∈ gG := gG_of 1395 (by decide +kernel) rfl
set_option maxRecDepth 20000 in
theorem gw_1293 : (Jvm.Cond.code ({ cls := "GateHouseModel", name := "isDigit", desc := "(I)Z" } : Jvm.MethodName) prog_14_method_13_code (1 : Nat) (Option.some Jvm.ClassFile.FieldType.boolean)) ∈ gG := gG_of 1396 (rfl) rfl
theorem gw_1294 : (Jvm.Cond.methodLink "GateHouseModel" (139 : Nat) ({ cls := "GateHouseModel", name := "isAt", desc := "(II)Z" } : Jvm.MethodName)) ∈ gG := gG_of 1397 (by decide +kernel) rfl
theorem gw_1296 : (Jvm.Cond.instanceMethod ({ cls := "GateHouseModel", name := "isAt", desc := "(II)Z" } : Jvm.MethodName)) ∈ gG := gG_of 1399 (by decide +kernel) rfl
set_option maxRecDepth 20000 in
theorem gw_1297 : (Jvm.Cond.code ({ cls := "GateHouseModel", name := "isAt", desc := "(II)Z" } : Jvm.MethodName) prog_14_method_16_code (4 : Nat) (Option.some Jvm.ClassFile.FieldType.boolean)) ∈ gG := gG_of 1400 (rfl) rfl
theorem gw_1298 : (Jvm.Cond.methodLink "GateHouseModel" (133 : Nat) ({ cls := "GateHouseModel", name := "readNumber", desc := "()V" } : Jvm.MethodName)) ∈ gG := gG_of 1401 (by decide +kernel) rfl
theorem gw_1300 : (Jvm.Cond.instanceMethod ({ cls := "GateHouseModel", name := "readNumber", desc := "()V" } : Jvm.MethodName)) ∈ gG := gG_of 1403 (by decide +kernel) rfl
set_option maxRecDepth 20000 in
theorem gw_1301 : (Jvm.Cond.code ({ cls := "GateHouseModel", name := "readNumber", desc := "()V" } : Jvm.MethodName) prog_14_method_17_code (4 : Nat) (Option.none : Option Jvm.ClassFile.FieldType)) ∈ gG := gG_of 1404 (rfl) rfl
theorem gw_1302 : (Jvm.Cond.methodLink "GateHouseModel" (147 : Nat) ({ cls := "GateHouseModel", name := "readAddress", desc := "()V" } : Jvm.MethodName)) ∈ gG := gG_of 1405 (by decide +kernel) rfl
theorem gw_1304 : (Jvm.Cond.instanceMethod ({ cls := "GateHouseModel", name := "readAddress", desc := "()V" } : Jvm.MethodName)) ∈ gG := gG_of 1407 (by decide +kernel) rfl
set_option maxRecDepth 20000 in
theorem gw_1305 : (Jvm.Cond.code ({ cls := "GateHouseModel", name := "readAddress", desc := "()V" } : Jvm.MethodName) prog_14_method_18_code (6 : Nat) (Option.none : Option Jvm.ClassFile.FieldType)) ∈ gG := gG_of 1408 (rfl) rfl
theorem gw_1306 : (Jvm.Cond.constantLong "GateHouseModel" (150 : Nat) (10 : Int64)) ∈ gG := gG_of 1409 (by decide +kernel) rfl
theorem gw_1307 : (Jvm.Cond.constantLong "GateHouseModel" (152 : Nat) (48 : Int64)) ∈ gG := gG_of 1410 (by decide +kernel) rfl
theorem gw_1308 : (Jvm.Cond.methodLink "GateHouseModel" (180 : Nat) ({ cls := "GateHouseModel", name := "text", desc := "()Z" } : Jvm.MethodName)) ∈ gG := gG_of 1411 (by decide +kernel) rfl
theorem gw_1310 : (Jvm.Cond.instanceMethod ({ cls := "GateHouseModel", name := "text", desc := "()Z" } : Jvm.MethodName)) ∈ gG := gG_of 1413 (by decide +kernel) rfl
set_option maxRecDepth 20000 in
theorem gw_1311 : (Jvm.Cond.code ({ cls := "GateHouseModel", name := "text", desc := "()Z" } : Jvm.MethodName) prog_14_method_27_code (1 : Nat) (Option.some Jvm.ClassFile.FieldType.boolean)) ∈ gG := gG_of 1414 (rfl) rfl
theorem gw_1312 : (Jvm.Cond.methodLink "GateHouseModel" (189 : Nat) ({ cls := "GateHouseModel", name := "isWord", desc := "(I)Z" } : Jvm.MethodName)) ∈ gG := gG_of 1415 (by decide +kernel) rfl
theorem gw_1314 : (Jvm.Cond.instanceMethod ({ cls := "GateHouseModel", name := "isWord", desc := "(I)Z" } : Jvm.MethodName)) ∈ gG := gG_of 1417 (by decide +kernel) rfl
set_option maxRecDepth 20000 in
theorem gw_1315 : (Jvm.Cond.code ({ cls := "GateHouseModel", name := "isWord", desc := "(I)Z" } : Jvm.MethodName) prog_14_method_22_code (2 : Nat) (Option.some Jvm.ClassFile.FieldType.boolean)) ∈ gG := gG_of 1418 (rfl) rfl
theorem gw_1316 : (Jvm.Cond.methodLink "GateHouseModel" (160 : Nat) ({ cls := "GateHouseModel", name := "isLate", desc := "()Z" } : Jvm.MethodName)) ∈ gG := gG_of 1419 (by decide +kernel) rfl
theorem gw_1318 : (Jvm.Cond.instanceMethod ({ cls := "GateHouseModel", name := "isLate", desc := "()Z" } : Jvm.MethodName)) ∈ gG := gG_of 1421 (by decide +kernel) rfl
set_option maxRecDepth 20000 in
theorem gw_1319 : (Jvm.Cond.code ({ cls := "GateHouseModel", name := "isLate", desc := "()Z" } : Jvm.MethodName) prog_14_method_20_code (1 : Nat) (Option.some Jvm.ClassFile.FieldType.boolean)) ∈ gG := gG_of 1422 (rfl) rfl
theorem gw_1320 : (Jvm.Cond.methodLink "GateHouseModel" (192 : Nat) ({ cls := "GateHouseModel", name := "isAction", desc := "()Z" } : Jvm.MethodName)) ∈ gG := gG_of 1423 (by decide +kernel) rfl
theorem gw_1322 : (Jvm.Cond.instanceMethod ({ cls := "GateHouseModel", name := "isAction", desc := "()Z" } : Jvm.MethodName)) ∈ gG := gG_of 1425 (by decide +kernel) rfl
set_option maxRecDepth 20000 in
theorem gw_1323 : (Jvm.Cond.code ({ cls := "GateHouseModel", name := "isAction", desc := "()Z" } : Jvm.MethodName) prog_14_method_25_code (1 : Nat) (Option.some Jvm.ClassFile.FieldType.boolean)) ∈ gG := gG_of 1426 (rfl) rfl
theorem gw_1324 : (Jvm.Cond.methodLink "GateHouseModel" (170 : Nat) ({ cls := "GateHouseModel", name := "cant", desc := "()Z" } : Jvm.MethodName)) ∈ gG := gG_of 1427 (by decide +kernel) rfl
theorem gw_1326 : (Jvm.Cond.instanceMethod ({ cls := "GateHouseModel", name := "cant", desc := "()Z" } : Jvm.MethodName)) ∈ gG := gG_of 1429 (by decide +kernel) rfl
set_option maxRecDepth 20000 in
theorem gw_1327 : (Jvm.Cond.code ({ cls := "GateHouseModel", name := "cant", desc := "()Z" } : Jvm.MethodName) prog_14_method_21_code (1 : Nat) (Option.some Jvm.ClassFile.FieldType.boolean)) ∈ gG := gG_of 1430 (rfl) rfl
theorem gw_1328 : (Jvm.Cond.methodLink "GateHouseModel" (164 : Nat) ({ cls := "GateHouseModel", name := "wrong", desc := "(I)Z" } : Jvm.MethodName)) ∈ gG := gG_of 1431 (by decide +kernel) rfl
theorem gw_1330 : (Jvm.Cond.instanceMethod ({ cls := "GateHouseModel", name := "wrong", desc := "(I)Z" } : Jvm.MethodName)) ∈ gG := gG_of 1433 (by decide +kernel) rfl
set_option maxRecDepth 20000 in
theorem gw_1331 : (Jvm.Cond.code ({ cls := "GateHouseModel", name := "wrong", desc := "(I)Z" } : Jvm.MethodName) prog_14_method_19_code (2 : Nat) (Option.some Jvm.ClassFile.FieldType.boolean)) ∈ gG := gG_of 1434 (rfl) rfl
theorem gw_1332 : (Jvm.Cond.methodLink "GateHouseModel" (195 : Nat) ({ cls := "GateHouseModel", name := "mustSign", desc := "(I)Z" } : Jvm.MethodName)) ∈ gG := gG_of 1435 (by decide +kernel) rfl
theorem gw_1334 : (Jvm.Cond.instanceMethod ({ cls := "GateHouseModel", name := "mustSign", desc := "(I)Z" } : Jvm.MethodName)) ∈ gG := gG_of 1437 (by decide +kernel) rfl
set_option maxRecDepth 20000 in
theorem gw_1335 : (Jvm.Cond.code ({ cls := "GateHouseModel", name := "mustSign", desc := "(I)Z" } : Jvm.MethodName) prog_14_method_24_code (2 : Nat) (Option.some Jvm.ClassFile.FieldType.boolean)) ∈ gG := gG_of 1438 (rfl) rfl
theorem gw_1336 : (Jvm.Cond.methodLink "GateHouseModel" (167 : Nat) ({ cls := "GateHouseModel", name := "isSign", desc := "(I)Z" } : Jvm.MethodName)) ∈ gG := gG_of 1439 (by decide +kernel) rfl
theorem gw_1338 : (Jvm.Cond.instanceMethod ({ cls := "GateHouseModel", name := "isSign", desc := "(I)Z" } : Jvm.MethodName)) ∈ gG := gG_of 1441 (by decide +kernel) rfl
set_option maxRecDepth 20000 in
theorem gw_1339 : (Jvm.Cond.code ({ cls := "GateHouseModel", name := "isSign", desc := "(I)Z" } : Jvm.MethodName) prog_14_method_23_code (2 : Nat) (Option.some Jvm.ClassFile.FieldType.boolean)) ∈ gG := gG_of 1442 (rfl) rfl
theorem gw_1340 : (Jvm.Cond.methodLink "GateHouseModel" (198 : Nat) ({ cls := "GateHouseModel", name := "rule", desc := "(I)Z" } : Jvm.MethodName)) ∈ gG := gG_of 1443 (by decide +kernel) rfl
theorem gw_1342 : (Jvm.Cond.instanceMethod ({ cls := "GateHouseModel", name := "rule", desc := "(I)Z" } : Jvm.MethodName)) ∈ gG := gG_of 1445 (by decide +kernel) rfl
set_option maxRecDepth 20000 in
theorem gw_1343 : (Jvm.Cond.code ({ cls := "GateHouseModel", name := "rule", desc := "(I)Z" } : Jvm.MethodName) prog_14_method_28_code (4 : Nat) (Option.some Jvm.ClassFile.FieldType.boolean)) ∈ gG := gG_of 1446 (rfl) rfl
theorem gw_1344 : (Jvm.Cond.methodLink "GateHouseModel" (201 : Nat) ({ cls := "GateHouseModel", name := "most", desc := "(I)J" } : Jvm.MethodName)) ∈ gG := gG_of 1447 (by decide +kernel) rfl
theorem gw_1345 : (Jvm.Cond.static ({ cls := "GateHouseModel", name := "most", desc := "(I)J" } : Jvm.MethodName)) ∈ gG := gG_of 1448 (by decide +kernel) rfl
set_option maxRecDepth 20000 in
theorem gw_1346 : (Jvm.Cond.code ({ cls := "GateHouseModel", name := "most", desc := "(I)J" } : Jvm.MethodName) prog_14_method_7_code (1 : Nat) (Option.some Jvm.ClassFile.FieldType.long)) ∈ gG := gG_of 1449 (rfl) rfl
theorem gw_1347 : (Jvm.Cond.constantLong "GateHouseModel" (21 : Nat) (3 : Int64)) ∈ gG := gG_of 1450 (by decide +kernel) rfl
theorem gw_1348 : (Jvm.Cond.constantLong "GateHouseModel" (23 : Nat) (255 : Int64)) ∈ gG := gG_of 1451 (by decide +kernel) rfl
theorem gw_1349 : (Jvm.Cond.constantLong "GateHouseModel" (25 : Nat) (4294967295 : Int64)) ∈ gG := gG_of 1452 (by decide +kernel) rfl
theorem gw_1350 : (Jvm.Cond.constantLong "GateHouseModel" (27 : Nat) (65535 : Int64)) ∈ gG := gG_of 1453 (by decide +kernel) rfl
theorem gw_1351 : (Jvm.Cond.methodLink "GateHouseModel" (205 : Nat) ({ cls := "GateHouseModel", name := "readStates", desc := "(I)Z" } : Jvm.MethodName)) ∈ gG := gG_of 1454 (by decide +kernel) rfl
theorem gw_1353 : (Jvm.Cond.instanceMethod ({ cls := "GateHouseModel", name := "readStates", desc := "(I)Z" } : Jvm.MethodName)) ∈ gG := gG_of 1456 (by decide +kernel) rfl
set_option maxRecDepth 20000 in
theorem gw_1354 : (Jvm.Cond.code ({ cls := "GateHouseModel", name := "readStates", desc := "(I)Z" } : Jvm.MethodName) prog_14_method_29_code (3 : Nat) (Option.some Jvm.ClassFile.FieldType.boolean)) ∈ gG := gG_of 1457 (rfl) rfl
theorem gw_1355 : (Jvm.Cond.methodLink "GateHouseModel" (208 : Nat) ({ cls := "GateHouseModel", name := "readAddresses", desc := "(I)Z" } : Jvm.MethodName)) ∈ gG := gG_of 1458 (by decide +kernel) rfl
theorem gw_1357 : (Jvm.Cond.instanceMethod ({ cls := "GateHouseModel", name := "readAddresses", desc := "(I)Z" } : Jvm.MethodName)) ∈ gG := gG_of 1460 (by decide +kernel) rfl
set_option maxRecDepth 20000 in
theorem gw_1358 : (Jvm.Cond.code ({ cls := "GateHouseModel", name := "readAddresses", desc := "(I)Z" } : Jvm.MethodName) prog_14_method_31_code (4 : Nat) (Option.some Jvm.ClassFile.FieldType.boolean)) ∈ gG := gG_of 1461 (rfl) rfl
theorem gw_1359 : (Jvm.Cond.constantLong "GateHouseModel" (218 : Nat) (32 : Int64)) ∈ gG := gG_of 1462 (by decide +kernel) rfl
theorem gw_1360 : (Jvm.Cond.constantLong "GateHouseModel" (220 : Nat) (-1 : Int64)) ∈ gG := gG_of 1463 (by decide +kernel) rfl
theorem gw_1361 : (Jvm.Cond.methodLink "GateHouseModel" (211 : Nat) ({ cls := "GateHouseModel", name := "readRange", desc := "(II)Z" } : Jvm.MethodName)) ∈ gG := gG_of 1464 (by decide +kernel) rfl
theorem gw_1363 : (Jvm.Cond.instanceMethod ({ cls := "GateHouseModel", name := "readRange", desc := "(II)Z" } : Jvm.MethodName)) ∈ gG := gG_of 1466 (by decide +kernel) rfl
set_option maxRecDepth 20000 in
theorem gw_1364 : (Jvm.Cond.code ({ cls := "GateHouseModel", name := "readRange", desc := "(II)Z" } : Jvm.MethodName) prog_14_method_30_code (3 : Nat) (Option.some Jvm.ClassFile.FieldType.boolean)) ∈ gG := gG_of 1467 (rfl) rfl
theorem gw_1365 : (Jvm.Cond.constantLong "GateHouseModel" (214 : Nat) (6 : Int64)) ∈ gG := gG_of 1468 (by decide +kernel) rfl
theorem gw_1366 : (Jvm.Cond.constantLong "GateHouseModel" (216 : Nat) (17 : Int64)) ∈ gG := gG_of 1469 (by decide +kernel) rfl
theorem gw_1367 : (Jvm.Cond.methodLink "GateHouseModel" (183 : Nat) ({ cls := "GateHouseModel", name := "copyList", desc := "(II)V" } : Jvm.MethodName)) ∈ gG := gG_of 1470 (by decide +kernel) rfl
theorem gw_1369 : (Jvm.Cond.instanceMethod ({ cls := "GateHouseModel", name := "copyList", desc := "(II)V" } : Jvm.MethodName)) ∈ gG := gG_of 1472 (by decide +kernel) rfl
set_option maxRecDepth 20000 in
theorem gw_1370 : (Jvm.Cond.code ({ cls := "GateHouseModel", name := "copyList", desc := "(II)V" } : Jvm.MethodName) prog_14_method_9_code (4 : Nat) (Option.none : Option Jvm.ClassFile.FieldType)) ∈ gG := gG_of 1473 (rfl) rfl
theorem gw_1371 : (Jvm.Cond.methodLink "GateHouseModel" (49 : Nat) ({ cls := "GateHouseModel", name := "copyRule", desc := "(II)V" } : Jvm.MethodName)) ∈ gG := gG_of 1474 (by decide +kernel) rfl
theorem gw_1373 : (Jvm.Cond.instanceMethod ({ cls := "GateHouseModel", name := "copyRule", desc := "(II)V" } : Jvm.MethodName)) ∈ gG := gG_of 1476 (by decide +kernel) rfl
set_option maxRecDepth 20000 in
theorem gw_1374 : (Jvm.Cond.code ({ cls := "GateHouseModel", name := "copyRule", desc := "(II)V" } : Jvm.MethodName) prog_14_method_8_code (4 : Nat) (Option.none : Option Jvm.ClassFile.FieldType)) ∈ gG := gG_of 1477 (rfl) rfl
theorem gw_1375 : (Jvm.Cond.methodLink "GateHouseModel" (186 : Nat) ({ cls := "GateHouseModel", name := "forgetTold", desc := "()V" } : Jvm.MethodName)) ∈ gG := gG_of 1478 (by decide +kernel) rfl
theorem gw_1377 : (Jvm.Cond.instanceMethod ({ cls := "GateHouseModel", name := "forgetTold", desc := "()V" } : Jvm.MethodName)) ∈ gG := gG_of 1480 (by decide +kernel) rfl
set_option maxRecDepth 20000 in
theorem gw_1378 : (Jvm.Cond.code ({ cls := "GateHouseModel", name := "forgetTold", desc := "()V" } : Jvm.MethodName) prog_14_method_10_code (2 : Nat) (Option.none : Option Jvm.ClassFile.FieldType)) ∈ gG := gG_of 1481 (rfl) rfl
theorem gw_1379 : (Jvm.Cond.methodLink "GateHouseLaw" (90 : Nat) ({ cls := "GateHouseModel", name := "fault", desc := "()I" } : Jvm.MethodName)) ∈ gG := gG_of 1482 (by decide +kernel) rfl
theorem gw_1380 : (Jvm.Cond.instanceMethod ({ cls := "GateHouseModel", name := "fault", desc := "()I" } : Jvm.MethodName)) ∈ gG := gG_of 1483 (by decide +kernel) rfl
theorem gw_1381 : (Jvm.Cond.selects "GateHouseModel" ({ cls := "GateHouseModel", name := "fault", desc := "()I" } : Jvm.MethodName) ({ cls := "GateHouseModel", name := "fault", desc := "()I" } : Jvm.MethodName)) ∈ gG := gG_of 1484 (by decide +kernel) rfl
set_option maxRecDepth 20000 in
theorem gw_1382 : (Jvm.Cond.code ({ cls := "GateHouseModel", name := "fault", desc := "()I" } : Jvm.MethodName) prog_14_method_32_code (1 : Nat) (Option.some Jvm.ClassFile.FieldType.int)) ∈ gG := gG_of 1485 (rfl) rfl
theorem gw_1383 : (Jvm.Cond.methodLink "GateHouseLaw" (93 : Nat) ({ cls := "GateHouseModel", name := "rules", desc := "(I)I" } : Jvm.MethodName)) ∈ gG := gG_of 1486 (by decide +kernel) rfl
theorem gw_1384 : (Jvm.Cond.instanceMethod ({ cls := "GateHouseModel", name := "rules", desc := "(I)I" } : Jvm.MethodName)) ∈ gG := gG_of 1487 (by decide +kernel) rfl
theorem gw_1385 : (Jvm.Cond.selects "GateHouseModel" ({ cls := "GateHouseModel", name := "rules", desc := "(I)I" } : Jvm.MethodName) ({ cls := "GateHouseModel", name := "rules", desc := "(I)I" } : Jvm.MethodName)) ∈ gG := gG_of 1488 (by decide +kernel) rfl
set_option maxRecDepth 20000 in
theorem gw_1386 : (Jvm.Cond.code ({ cls := "GateHouseModel", name := "rules", desc := "(I)I" } : Jvm.MethodName) prog_14_method_34_code (2 : Nat) (Option.some Jvm.ClassFile.FieldType.int)) ∈ gG := gG_of 1489 (rfl) rfl
theorem gw_1387 : (Jvm.Cond.methodLink "GateHouseModel" (222 : Nat) ({ cls := "GateHouseModel", name := "noList", desc := "(I)Z" } : Jvm.MethodName)) ∈ gG := gG_of 1490 (by decide +kernel) rfl
theorem gw_1389 : (Jvm.Cond.instanceMethod ({ cls := "GateHouseModel", name := "noList", desc := "(I)Z" } : Jvm.MethodName)) ∈ gG := gG_of 1492 (by decide +kernel) rfl
set_option maxRecDepth 20000 in
theorem gw_1390 : (Jvm.Cond.code ({ cls := "GateHouseModel", name := "noList", desc := "(I)Z" } : Jvm.MethodName) prog_14_method_33_code (2 : Nat) (Option.some Jvm.ClassFile.FieldType.boolean)) ∈ gG := gG_of 1493 (rfl) rfl
theorem gw_1391 : (Jvm.Cond.methodLink "GateHouseLaw" (97 : Nat) ({ cls := "GateHouseModel", name := "rule", desc := "(III)I" } : Jvm.MethodName)) ∈ gG := gG_of 1494 (by decide +kernel) rfl
theorem gw_1392 : (Jvm.Cond.instanceMethod ({ cls := "GateHouseModel", name := "rule", desc := "(III)I" } : Jvm.MethodName)) ∈ gG := gG_of 1495 (by decide +kernel) rfl
theorem gw_1393 : (Jvm.Cond.selects "GateHouseModel" ({ cls := "GateHouseModel", name := "rule", desc := "(III)I" } : Jvm.MethodName) ({ cls := "GateHouseModel", name := "rule", desc := "(III)I" } : Jvm.MethodName)) ∈ gG := gG_of 1496 (by decide +kernel) rfl
set_option maxRecDepth 20000 in
theorem gw_1394 : (Jvm.Cond.code ({ cls := "GateHouseModel", name := "rule", desc := "(III)I" } : Jvm.MethodName) prog_14_method_35_code (6 : Nat) (Option.some Jvm.ClassFile.FieldType.int)) ∈ gG := gG_of 1497 (rfl) rfl
theorem gw_1395 : (Jvm.Cond.methodLink "GateHouseLaw" (100 : Nat) ({ cls := "GateHouseModel", name := "write", desc := "(I)I" } : Jvm.MethodName)) ∈ gG := gG_of 1498 (by decide +kernel) rfl
theorem gw_1396 : (Jvm.Cond.instanceMethod ({ cls := "GateHouseModel", name := "write", desc := "(I)I" } : Jvm.MethodName)) ∈ gG := gG_of 1499 (by decide +kernel) rfl
theorem gw_1397 : (Jvm.Cond.selects "GateHouseModel" ({ cls := "GateHouseModel", name := "write", desc := "(I)I" } : Jvm.MethodName) ({ cls := "GateHouseModel", name := "write", desc := "(I)I" } : Jvm.MethodName)) ∈ gG := gG_of 1500 (by decide +kernel) rfl
set_option maxRecDepth 20000 in
theorem gw_1398 : (Jvm.Cond.code ({ cls := "GateHouseModel", name := "write", desc := "(I)I" } : Jvm.MethodName) prog_14_method_40_code (5 : Nat) (Option.some Jvm.ClassFile.FieldType.int)) ∈ gG := gG_of 1501 (rfl) rfl
theorem gw_1399 : (Jvm.Cond.methodLink "GateHouseModel" (237 : Nat) ({ cls := "GateHouseModel", name := "putWord", desc := "(I)V" } : Jvm.MethodName)) ∈ gG := gG_of 1502 (by decide +kernel) rfl
theorem gw_1401 : (Jvm.Cond.instanceMethod ({ cls := "GateHouseModel", name := "putWord", desc := "(I)V" } : Jvm.MethodName)) ∈ gG := gG_of 1504 (by decide +kernel) rfl
set_option maxRecDepth 20000 in
theorem gw_1402 : (Jvm.Cond.code ({ cls := "GateHouseModel", name := "putWord", desc := "(I)V" } : Jvm.MethodName) prog_14_method_37_code (3 : Nat) (Option.none : Option Jvm.ClassFile.FieldType)) ∈ gG := gG_of 1505 (rfl) rfl
theorem gw_1403 : (Jvm.Cond.methodLink "GateHouseModel" (228 : Nat) ({ cls := "GateHouseModel", name := "put", desc := "(I)V" } : Jvm.MethodName)) ∈ gG := gG_of 1506 (by decide +kernel) rfl
theorem gw_1405 : (Jvm.Cond.instanceMethod ({ cls := "GateHouseModel", name := "put", desc := "(I)V" } : Jvm.MethodName)) ∈ gG := gG_of 1508 (by decide +kernel) rfl
set_option maxRecDepth 20000 in
theorem gw_1406 : (Jvm.Cond.code ({ cls := "GateHouseModel", name := "put", desc := "(I)V" } : Jvm.MethodName) prog_14_method_36_code (2 : Nat) (Option.none : Option Jvm.ClassFile.FieldType)) ∈ gG := gG_of 1509 (rfl) rfl
theorem gw_1407 : (Jvm.Cond.methodLink "GateHouseModel" (240 : Nat) ({ cls := "GateHouseModel", name := "writePart", desc := "(II)V" } : Jvm.MethodName)) ∈ gG := gG_of 1510 (by decide +kernel) rfl
theorem gw_1409 : (Jvm.Cond.instanceMethod ({ cls := "GateHouseModel", name := "writePart", desc := "(II)V" } : Jvm.MethodName)) ∈ gG := gG_of 1512 (by decide +kernel) rfl
set_option maxRecDepth 20000 in
theorem gw_1410 : (Jvm.Cond.code ({ cls := "GateHouseModel", name := "writePart", desc := "(II)V" } : Jvm.MethodName) prog_14_method_41_code (3 : Nat) (Option.none : Option Jvm.ClassFile.FieldType)) ∈ gG := gG_of 1513 (rfl) rfl
theorem gw_1411 : (Jvm.Cond.methodLink "GateHouseModel" (246 : Nat) ({ cls := "GateHouseModel", name := "putValue", desc := "(IJ)V" } : Jvm.MethodName)) ∈ gG := gG_of 1514 (by decide +kernel) rfl
theorem gw_1413 : (Jvm.Cond.instanceMethod ({ cls := "GateHouseModel", name := "putValue", desc := "(IJ)V" } : Jvm.MethodName)) ∈ gG := gG_of 1516 (by decide +kernel) rfl
set_option maxRecDepth 20000 in
theorem gw_1414 : (Jvm.Cond.code ({ cls := "GateHouseModel", name := "putValue", desc := "(IJ)V" } : Jvm.MethodName) prog_14_method_39_code (5 : Nat) (Option.none : Option Jvm.ClassFile.FieldType)) ∈ gG := gG_of 1517 (rfl) rfl
theorem gw_1415 : (Jvm.Cond.methodLink "GateHouseModel" (233 : Nat) ({ cls := "GateHouseModel", name := "putNumber", desc := "(J)V" } : Jvm.MethodName)) ∈ gG := gG_of 1518 (by decide +kernel) rfl
theorem gw_1417 : (Jvm.Cond.instanceMethod ({ cls := "GateHouseModel", name := "putNumber", desc := "(J)V" } : Jvm.MethodName)) ∈ gG := gG_of 1520 (by decide +kernel) rfl
set_option maxRecDepth 20000 in
theorem gw_1418 : (Jvm.Cond.code ({ cls := "GateHouseModel", name := "putNumber", desc := "(J)V" } : Jvm.MethodName) prog_14_method_38_code (5 : Nat) (Option.none : Option Jvm.ClassFile.FieldType)) ∈ gG := gG_of 1521 (rfl) rfl
theorem gw_1419 : (Jvm.Cond.constantLong "GateHouseModel" (231 : Nat) (9 : Int64)) ∈ gG := gG_of 1522 (by decide +kernel) rfl
theorem gw_1420 : (Jvm.Cond.methodLink "GateHouseModel" (243 : Nat) ({ cls := "GateHouseModel", name := "writeStates", desc := "(I)V" } : Jvm.MethodName)) ∈ gG := gG_of 1523 (by decide +kernel) rfl
theorem gw_1422 : (Jvm.Cond.instanceMethod ({ cls := "GateHouseModel", name := "writeStates", desc := "(I)V" } : Jvm.MethodName)) ∈ gG := gG_of 1525 (by decide +kernel) rfl
set_option maxRecDepth 20000 in
theorem gw_1423 : (Jvm.Cond.code ({ cls := "GateHouseModel", name := "writeStates", desc := "(I)V" } : Jvm.MethodName) prog_14_method_42_code (4 : Nat) (Option.none : Option Jvm.ClassFile.FieldType)) ∈ gG := gG_of 1526 (rfl) rfl
theorem gw_1424 : (Jvm.Cond.methodLink "GateHouseLaw" (103 : Nat) ({ cls := "GateHouseModel", name := "octet", desc := "(I)I" } : Jvm.MethodName)) ∈ gG := gG_of 1527 (by decide +kernel) rfl
theorem gw_1425 : (Jvm.Cond.instanceMethod ({ cls := "GateHouseModel", name := "octet", desc := "(I)I" } : Jvm.MethodName)) ∈ gG := gG_of 1528 (by decide +kernel) rfl
theorem gw_1426 : (Jvm.Cond.selects "GateHouseModel" ({ cls := "GateHouseModel", name := "octet", desc := "(I)I" } : Jvm.MethodName) ({ cls := "GateHouseModel", name := "octet", desc := "(I)I" } : Jvm.MethodName)) ∈ gG := gG_of 1529 (by decide +kernel) rfl
set_option maxRecDepth 20000 in
theorem gw_1427 : (Jvm.Cond.code ({ cls := "GateHouseModel", name := "octet", desc := "(I)I" } : Jvm.MethodName) prog_14_method_43_code (2 : Nat) (Option.some Jvm.ClassFile.FieldType.int)) ∈ gG := gG_of 1530 (rfl) rfl
theorem gw_1428 : (Jvm.Cond.methodLink "GateHouseLaw" (107 : Nat) ({ cls := "GateHouseModel", name := "match", desc := "(IIIIIIII)I" } : Jvm.MethodName)) ∈ gG := gG_of 1531 (by decide +kernel) rfl
theorem gw_1429 : (Jvm.Cond.instanceMethod ({ cls := "GateHouseModel", name := "match", desc := "(IIIIIIII)I" } : Jvm.MethodName)) ∈ gG := gG_of 1532 (by decide +kernel) rfl
theorem gw_1430 : (Jvm.Cond.selects "GateHouseModel" ({ cls := "GateHouseModel", name := "match", desc := "(IIIIIIII)I" } : Jvm.MethodName) ({ cls := "GateHouseModel", name := "match", desc := "(IIIIIIII)I" } : Jvm.MethodName)) ∈ gG := gG_of 1533 (by decide +kernel) rfl
set_option maxRecDepth 20000 in
theorem gw_1431 : (Jvm.Cond.code ({ cls := "GateHouseModel", name := "match", desc := "(IIIIIIII)I" } : Jvm.MethodName) prog_14_method_47_code (9 : Nat) (Option.some Jvm.ClassFile.FieldType.int)) ∈ gG := gG_of 1534 (rfl) rfl
theorem gw_1432 : (Jvm.Cond.methodLink "GateHouseModel" (250 : Nat) ({ cls := "GateHouseModel", name := "isNone", desc := "(II)Z" } : Jvm.MethodName)) ∈ gG := gG_of 1535 (by decide +kernel) rfl
theorem gw_1433 : (Jvm.Cond.static ({ cls := "GateHouseModel", name := "isNone", desc := "(II)Z" } : Jvm.MethodName)) ∈ gG := gG_of 1536 (by decide +kernel) rfl
set_option maxRecDepth 20000 in
theorem gw_1434 : (Jvm.Cond.code ({ cls := "GateHouseModel", name := "isNone", desc := "(II)Z" } : Jvm.MethodName) prog_14_method_46_code (2 : Nat) (Option.some Jvm.ClassFile.FieldType.boolean)) ∈ gG := gG_of 1537 (rfl) rfl
theorem gw_1435 : (Jvm.Cond.constant "GateHouseModel" (253 : Nat) (65535 : Int32)) ∈ gG := gG_of 1538 (by decide +kernel) rfl
theorem gw_1436 : (Jvm.Cond.methodLink "GateHouseModel" (254 : Nat) ({ cls := "GateHouseModel", name := "point", desc := "(IIIIII)V" } : Jvm.MethodName)) ∈ gG := gG_of 1539 (by decide +kernel) rfl
theorem gw_1438 : (Jvm.Cond.instanceMethod ({ cls := "GateHouseModel", name := "point", desc := "(IIIIII)V" } : Jvm.MethodName)) ∈ gG := gG_of 1541 (by decide +kernel) rfl
set_option maxRecDepth 20000 in
theorem gw_1439 : (Jvm.Cond.code ({ cls := "GateHouseModel", name := "point", desc := "(IIIIII)V" } : Jvm.MethodName) prog_14_method_44_code (7 : Nat) (Option.none : Option Jvm.ClassFile.FieldType)) ∈ gG := gG_of 1542 (rfl) rfl
theorem gw_1440 : (Jvm.Cond.methodLink "GateHouseModel" (258 : Nat) ({ cls := "GateHouseModel", name := "first", desc := "(II)I" } : Jvm.MethodName)) ∈ gG := gG_of 1543 (by decide +kernel) rfl
theorem gw_1442 : (Jvm.Cond.instanceMethod ({ cls := "GateHouseModel", name := "first", desc := "(II)I" } : Jvm.MethodName)) ∈ gG := gG_of 1545 (by decide +kernel) rfl
set_option maxRecDepth 20000 in
theorem gw_1443 : (Jvm.Cond.code ({ cls := "GateHouseModel", name := "first", desc := "(II)I" } : Jvm.MethodName) prog_14_method_45_code (7 : Nat) (Option.some Jvm.ClassFile.FieldType.int)) ∈ gG := gG_of 1546 (rfl) rfl
theorem gw_1444 : (Jvm.Cond.methodLink "GateHouseLaw" (111 : Nat) ({ cls := "GateHouseModel", name := "shadowed", desc := "(II)Z" } : Jvm.MethodName)) ∈ gG := gG_of 1547 (by decide +kernel) rfl
theorem gw_1445 : (Jvm.Cond.instanceMethod ({ cls := "GateHouseModel", name := "shadowed", desc := "(II)Z" } : Jvm.MethodName)) ∈ gG := gG_of 1548 (by decide +kernel) rfl
theorem gw_1446 : (Jvm.Cond.selects "GateHouseModel" ({ cls := "GateHouseModel", name := "shadowed", desc := "(II)Z" } : Jvm.MethodName) ({ cls := "GateHouseModel", name := "shadowed", desc := "(II)Z" } : Jvm.MethodName)) ∈ gG := gG_of 1549 (by decide +kernel) rfl
set_option maxRecDepth 20000 in
theorem gw_1447 : (Jvm.Cond.code ({ cls := "GateHouseModel", name := "shadowed", desc := "(II)Z" } : Jvm.MethodName) prog_14_method_64_code (3 : Nat) (Option.some Jvm.ClassFile.FieldType.boolean)) ∈ gG := gG_of 1550 (rfl) rfl
theorem gw_1448 : (Jvm.Cond.methodLink "GateHouseModel" (334 : Nat) ({ cls := "GateHouseModel", name := "looks", desc := "(II)Z" } : Jvm.MethodName)) ∈ gG := gG_of 1551 (by decide +kernel) rfl
theorem gw_1450 : (Jvm.Cond.instanceMethod ({ cls := "GateHouseModel", name := "looks", desc := "(II)Z" } : Jvm.MethodName)) ∈ gG := gG_of 1553 (by decide +kernel) rfl
set_option maxRecDepth 20000 in
theorem gw_1451 : (Jvm.Cond.code ({ cls := "GateHouseModel", name := "looks", desc := "(II)Z" } : Jvm.MethodName) prog_14_method_63_code (4 : Nat) (Option.some Jvm.ClassFile.FieldType.boolean)) ∈ gG := gG_of 1554 (rfl) rfl
theorem gw_1452 : (Jvm.Cond.methodLink "GateHouseModel" (327 : Nat) ({ cls := "GateHouseModel", name := "forgetVain", desc := "()V" } : Jvm.MethodName)) ∈ gG := gG_of 1555 (by decide +kernel) rfl
theorem gw_1454 : (Jvm.Cond.instanceMethod ({ cls := "GateHouseModel", name := "forgetVain", desc := "()V" } : Jvm.MethodName)) ∈ gG := gG_of 1557 (by decide +kernel) rfl
set_option maxRecDepth 20000 in
theorem gw_1455 : (Jvm.Cond.code ({ cls := "GateHouseModel", name := "forgetVain", desc := "()V" } : Jvm.MethodName) prog_14_method_48_code (2 : Nat) (Option.none : Option Jvm.ClassFile.FieldType)) ∈ gG := gG_of 1558 (rfl) rfl
theorem gw_1456 : (Jvm.Cond.methodLink "GateHouseModel" (320 : Nat) ({ cls := "GateHouseModel", name := "goesOn", desc := "(III)Z" } : Jvm.MethodName)) ∈ gG := gG_of 1559 (by decide +kernel) rfl
theorem gw_1458 : (Jvm.Cond.instanceMethod ({ cls := "GateHouseModel", name := "goesOn", desc := "(III)Z" } : Jvm.MethodName)) ∈ gG := gG_of 1561 (by decide +kernel) rfl
set_option maxRecDepth 20000 in
theorem gw_1459 : (Jvm.Cond.code ({ cls := "GateHouseModel", name := "goesOn", desc := "(III)Z" } : Jvm.MethodName) prog_14_method_62_code (13 : Nat) (Option.some Jvm.ClassFile.FieldType.boolean)) ∈ gG := gG_of 1562 (rfl) rfl
theorem gw_1460 : (Jvm.Cond.methodLink "GateHouseModel" (302 : Nat) ({ cls := "GateHouseModel", name := "cut", desc := "(III)I" } : Jvm.MethodName)) ∈ gG := gG_of 1563 (by decide +kernel) rfl
theorem gw_1462 : (Jvm.Cond.instanceMethod ({ cls := "GateHouseModel", name := "cut", desc := "(III)I" } : Jvm.MethodName)) ∈ gG := gG_of 1565 (by decide +kernel) rfl
set_option maxRecDepth 20000 in
theorem gw_1463 : (Jvm.Cond.code ({ cls := "GateHouseModel", name := "cut", desc := "(III)I" } : Jvm.MethodName) prog_14_method_57_code (5 : Nat) (Option.some Jvm.ClassFile.FieldType.int)) ∈ gG := gG_of 1566 (rfl) rfl
theorem gw_1464 : (Jvm.Cond.methodLink "GateHouseModel" (286 : Nat) ({ cls := "GateHouseModel", name := "isAll", desc := "(II)Z" } : Jvm.MethodName)) ∈ gG := gG_of 1567 (by decide +kernel) rfl
theorem gw_1466 : (Jvm.Cond.instanceMethod ({ cls := "GateHouseModel", name := "isAll", desc := "(II)Z" } : Jvm.MethodName)) ∈ gG := gG_of 1569 (by decide +kernel) rfl
set_option maxRecDepth 20000 in
theorem gw_1467 : (Jvm.Cond.code ({ cls := "GateHouseModel", name := "isAll", desc := "(II)Z" } : Jvm.MethodName) prog_14_method_53_code (4 : Nat) (Option.some Jvm.ClassFile.FieldType.boolean)) ∈ gG := gG_of 1570 (rfl) rfl
theorem gw_1468 : (Jvm.Cond.methodLink "GateHouseModel" (274 : Nat) ({ cls := "GateHouseModel", name := "lowest", desc := "(I)J" } : Jvm.MethodName)) ∈ gG := gG_of 1571 (by decide +kernel) rfl
theorem gw_1470 : (Jvm.Cond.instanceMethod ({ cls := "GateHouseModel", name := "lowest", desc := "(I)J" } : Jvm.MethodName)) ∈ gG := gG_of 1573 (by decide +kernel) rfl
set_option maxRecDepth 20000 in
theorem gw_1471 : (Jvm.Cond.code ({ cls := "GateHouseModel", name := "lowest", desc := "(I)J" } : Jvm.MethodName) prog_14_method_54_code (2 : Nat) (Option.some Jvm.ClassFile.FieldType.long)) ∈ gG := gG_of 1574 (rfl) rfl
theorem gw_1472 : (Jvm.Cond.methodLink "GateHouseModel" (277 : Nat) ({ cls := "GateHouseModel", name := "highest", desc := "(I)J" } : Jvm.MethodName)) ∈ gG := gG_of 1575 (by decide +kernel) rfl
theorem gw_1474 : (Jvm.Cond.instanceMethod ({ cls := "GateHouseModel", name := "highest", desc := "(I)J" } : Jvm.MethodName)) ∈ gG := gG_of 1577 (by decide +kernel) rfl
set_option maxRecDepth 20000 in
theorem gw_1475 : (Jvm.Cond.code ({ cls := "GateHouseModel", name := "highest", desc := "(I)J" } : Jvm.MethodName) prog_14_method_55_code (2 : Nat) (Option.some Jvm.ClassFile.FieldType.long)) ∈ gG := gG_of 1578 (rfl) rfl
theorem gw_1476 : (Jvm.Cond.methodLink "GateHouseModel" (280 : Nat) ({ cls := "GateHouseModel", name := "statesAsked", desc := "()I" } : Jvm.MethodName)) ∈ gG := gG_of 1579 (by decide +kernel) rfl
theorem gw_1478 : (Jvm.Cond.instanceMethod ({ cls := "GateHouseModel", name := "statesAsked", desc := "()I" } : Jvm.MethodName)) ∈ gG := gG_of 1581 (by decide +kernel) rfl
set_option maxRecDepth 20000 in
theorem gw_1479 : (Jvm.Cond.code ({ cls := "GateHouseModel", name := "statesAsked", desc := "()I" } : Jvm.MethodName) prog_14_method_56_code (1 : Nat) (Option.some Jvm.ClassFile.FieldType.int)) ∈ gG := gG_of 1582 (rfl) rfl
theorem gw_1480 : (Jvm.Cond.methodLink "GateHouseModel" (305 : Nat) ({ cls := "GateHouseModel", name := "stateOf", desc := "(II)I" } : Jvm.MethodName)) ∈ gG := gG_of 1583 (by decide +kernel) rfl
theorem gw_1482 : (Jvm.Cond.instanceMethod ({ cls := "GateHouseModel", name := "stateOf", desc := "(II)I" } : Jvm.MethodName)) ∈ gG := gG_of 1585 (by decide +kernel) rfl
set_option maxRecDepth 20000 in
theorem gw_1483 : (Jvm.Cond.code ({ cls := "GateHouseModel", name := "stateOf", desc := "(II)I" } : Jvm.MethodName) prog_14_method_59_code (6 : Nat) (Option.some Jvm.ClassFile.FieldType.int)) ∈ gG := gG_of 1586 (rfl) rfl
theorem gw_1484 : (Jvm.Cond.methodLink "GateHouseModel" (292 : Nat) ({ cls := "GateHouseModel", name := "actionOf", desc := "(III)I" } : Jvm.MethodName)) ∈ gG := gG_of 1587 (by decide +kernel) rfl
theorem gw_1486 : (Jvm.Cond.instanceMethod ({ cls := "GateHouseModel", name := "actionOf", desc := "(III)I" } : Jvm.MethodName)) ∈ gG := gG_of 1589 (by decide +kernel) rfl
set_option maxRecDepth 20000 in
theorem gw_1487 : (Jvm.Cond.code ({ cls := "GateHouseModel", name := "actionOf", desc := "(III)I" } : Jvm.MethodName) prog_14_method_58_code (5 : Nat) (Option.some Jvm.ClassFile.FieldType.int)) ∈ gG := gG_of 1590 (rfl) rfl
theorem gw_1488 : (Jvm.Cond.methodLink "GateHouseModel" (308 : Nat) ({ cls := "GateHouseModel", name := "isHopeless", desc := "(III)Z" } : Jvm.MethodName)) ∈ gG := gG_of 1591 (by decide +kernel) rfl
theorem gw_1490 : (Jvm.Cond.instanceMethod ({ cls := "GateHouseModel", name := "isHopeless", desc := "(III)Z" } : Jvm.MethodName)) ∈ gG := gG_of 1593 (by decide +kernel) rfl
set_option maxRecDepth 20000 in
theorem gw_1491 : (Jvm.Cond.code ({ cls := "GateHouseModel", name := "isHopeless", desc := "(III)Z" } : Jvm.MethodName) prog_14_method_61_code (5 : Nat) (Option.some Jvm.ClassFile.FieldType.boolean)) ∈ gG := gG_of 1594 (rfl) rfl
theorem gw_1492 : (Jvm.Cond.methodLink "GateHouseModel" (299 : Nat) ({ cls := "GateHouseModel", name := "tells", desc := "(III)I" } : Jvm.MethodName)) ∈ gG := gG_of 1595 (by decide +kernel) rfl
theorem gw_1494 : (Jvm.Cond.instanceMethod ({ cls := "GateHouseModel", name := "tells", desc := "(III)I" } : Jvm.MethodName)) ∈ gG := gG_of 1597 (by decide +kernel) rfl
set_option maxRecDepth 20000 in
theorem gw_1495 : (Jvm.Cond.code ({ cls := "GateHouseModel", name := "tells", desc := "(III)I" } : Jvm.MethodName) prog_14_method_60_code (7 : Nat) (Option.some Jvm.ClassFile.FieldType.int)) ∈ gG := gG_of 1598 (rfl) rfl
theorem gw_1496 : (Jvm.Cond.methodLink "GateHouseModel" (312 : Nat) ({ cls := "GateHouseModel", name := "placeOf", desc := "(J)I" } : Jvm.MethodName)) ∈ gG := gG_of 1599 (by decide +kernel) rfl
theorem gw_1497 : (Jvm.Cond.static ({ cls := "GateHouseModel", name := "placeOf", desc := "(J)I" } : Jvm.MethodName)) ∈ gG := gG_of 1600 (by decide +kernel) rfl
set_option maxRecDepth 20000 in
theorem gw_1498 : (Jvm.Cond.code ({ cls := "GateHouseModel", name := "placeOf", desc := "(J)I" } : Jvm.MethodName) prog_14_method_49_code (2 : Nat) (Option.some Jvm.ClassFile.FieldType.int)) ∈ gG := gG_of 1601 (rfl) rfl
theorem gw_1499 : (Jvm.Cond.constantLong "GateHouseModel" (262 : Nat) (-7046029254386353131 : Int64)) ∈ gG := gG_of 1602 (by decide +kernel) rfl
theorem gw_1500 : (Jvm.Cond.methodLink "GateHouseModel" (316 : Nat) ({ cls := "GateHouseModel", name := "left", desc := "(IIIJ)I" } : Jvm.MethodName)) ∈ gG := gG_of 1603 (by decide +kernel) rfl
theorem gw_1502 : (Jvm.Cond.instanceMethod ({ cls := "GateHouseModel", name := "left", desc := "(IIIJ)I" } : Jvm.MethodName)) ∈ gG := gG_of 1605 (by decide +kernel) rfl
set_option maxRecDepth 20000 in
theorem gw_1503 : (Jvm.Cond.code ({ cls := "GateHouseModel", name := "left", desc := "(IIIJ)I" } : Jvm.MethodName) prog_14_method_51_code (8 : Nat) (Option.some Jvm.ClassFile.FieldType.int)) ∈ gG := gG_of 1606 (rfl) rfl
theorem gw_1504 : (Jvm.Cond.methodLink "GateHouseModel" (264 : Nat) ({ cls := "GateHouseModel", name := "holds", desc := "(IIJ)Z" } : Jvm.MethodName)) ∈ gG := gG_of 1607 (by decide +kernel) rfl
theorem gw_1506 : (Jvm.Cond.instanceMethod ({ cls := "GateHouseModel", name := "holds", desc := "(IIJ)Z" } : Jvm.MethodName)) ∈ gG := gG_of 1609 (by decide +kernel) rfl
set_option maxRecDepth 20000 in
theorem gw_1507 : (Jvm.Cond.code ({ cls := "GateHouseModel", name := "holds", desc := "(IIJ)Z" } : Jvm.MethodName) prog_14_method_50_code (5 : Nat) (Option.some Jvm.ClassFile.FieldType.boolean)) ∈ gG := gG_of 1610 (rfl) rfl
theorem gw_1508 : (Jvm.Cond.methodLink "GateHouseModel" (323 : Nat) ({ cls := "GateHouseModel", name := "turn", desc := "(IIIJJ)J" } : Jvm.MethodName)) ∈ gG := gG_of 1611 (by decide +kernel) rfl
theorem gw_1510 : (Jvm.Cond.instanceMethod ({ cls := "GateHouseModel", name := "turn", desc := "(IIIJJ)J" } : Jvm.MethodName)) ∈ gG := gG_of 1613 (by decide +kernel) rfl
set_option maxRecDepth 20000 in
theorem gw_1511 : (Jvm.Cond.code ({ cls := "GateHouseModel", name := "turn", desc := "(IIIJJ)J" } : Jvm.MethodName) prog_14_method_52_code (12 : Nat) (Option.some Jvm.ClassFile.FieldType.long)) ∈ gG := gG_of 1614 (rfl) rfl
theorem gw_1512 : (Jvm.Cond.methodLink "GateHouseModel" (268 : Nat) ({ cls := "java/lang/Math", name := "min", desc := "(JJ)J" } : Jvm.MethodName)) ∈ gG := gG_of 1615 (by decide +kernel) rfl
theorem gw_1513 : (Jvm.Cond.static ({ cls := "java/lang/Math", name := "min", desc := "(JJ)J" } : Jvm.MethodName)) ∈ gG := gG_of 1616 (by decide +kernel) rfl
set_option maxRecDepth 20000 in
theorem gw_1514 : (Jvm.Cond.code ({ cls := "java/lang/Math", name := "min", desc := "(JJ)J" } : Jvm.MethodName) prog_18_method_70_code (4 : Nat) (Option.some Jvm.ClassFile.FieldType.long)) ∈ gG := gG_of 1617 (rfl) rfl
theorem gw_1515 : (Jvm.Cond.methodLink "GateHouseLaw" (114 : Nat) ({ cls := "GateHouseModel", name := "alike", desc := "(II)Z" } : Jvm.MethodName)) ∈ gG := gG_of 1618 (by decide +kernel) rfl
theorem gw_1516 : (Jvm.Cond.instanceMethod ({ cls := "GateHouseModel", name := "alike", desc := "(II)Z" } : Jvm.MethodName)) ∈ gG := gG_of 1619 (by decide +kernel) rfl
theorem gw_1517 : (Jvm.Cond.selects "GateHouseModel" ({ cls := "GateHouseModel", name := "alike", desc := "(II)Z" } : Jvm.MethodName) ({ cls := "GateHouseModel", name := "alike", desc := "(II)Z" } : Jvm.MethodName)) ∈ gG := gG_of 1620 (by decide +kernel) rfl
set_option maxRecDepth 20000 in
theorem gw_1518 : (Jvm.Cond.code ({ cls := "GateHouseModel", name := "alike", desc := "(II)Z" } : Jvm.MethodName) prog_14_method_66_code (3 : Nat) (Option.some Jvm.ClassFile.FieldType.boolean)) ∈ gG := gG_of 1621 (rfl) rfl
theorem gw_1519 : (Jvm.Cond.methodLink "GateHouseLaw" (117 : Nat) ({ cls := "GateHouseModel", name := "found", desc := "(I)I" } : Jvm.MethodName)) ∈ gG := gG_of 1622 (by decide +kernel) rfl
theorem gw_1520 : (Jvm.Cond.instanceMethod ({ cls := "GateHouseModel", name := "found", desc := "(I)I" } : Jvm.MethodName)) ∈ gG := gG_of 1623 (by decide +kernel) rfl
theorem gw_1521 : (Jvm.Cond.selects "GateHouseModel" ({ cls := "GateHouseModel", name := "found", desc := "(I)I" } : Jvm.MethodName) ({ cls := "GateHouseModel", name := "found", desc := "(I)I" } : Jvm.MethodName)) ∈ gG := gG_of 1624 (by decide +kernel) rfl
set_option maxRecDepth 20000 in
theorem gw_1522 : (Jvm.Cond.code ({ cls := "GateHouseModel", name := "found", desc := "(I)I" } : Jvm.MethodName) prog_14_method_67_code (2 : Nat) (Option.some Jvm.ClassFile.FieldType.int)) ∈ gG := gG_of 1625 (rfl) rfl
theorem gw_1523 : (Jvm.Cond.methodLink "GateHouseLaw" (120 : Nat) ({ cls := "GateHouseModel", name := "least", desc := "(II)I" } : Jvm.MethodName)) ∈ gG := gG_of 1626 (by decide +kernel) rfl
theorem gw_1524 : (Jvm.Cond.instanceMethod ({ cls := "GateHouseModel", name := "least", desc := "(II)I" } : Jvm.MethodName)) ∈ gG := gG_of 1627 (by decide +kernel) rfl
theorem gw_1525 : (Jvm.Cond.selects "GateHouseModel" ({ cls := "GateHouseModel", name := "least", desc := "(II)I" } : Jvm.MethodName) ({ cls := "GateHouseModel", name := "least", desc := "(II)I" } : Jvm.MethodName)) ∈ gG := gG_of 1628 (by decide +kernel) rfl
set_option maxRecDepth 20000 in
theorem gw_1526 : (Jvm.Cond.code ({ cls := "GateHouseModel", name := "least", desc := "(II)I" } : Jvm.MethodName) prog_14_method_68_code (5 : Nat) (Option.some Jvm.ClassFile.FieldType.int)) ∈ gG := gG_of 1629 (rfl) rfl
theorem gw_1527 : (Jvm.Cond.methodLink "GateHouseModel" (337 : Nat) ({ cls := "GateHouseModel", name := "areAlike", desc := "(II)Z" } : Jvm.MethodName)) ∈ gG := gG_of 1630 (by decide +kernel) rfl
theorem gw_1529 : (Jvm.Cond.instanceMethod ({ cls := "GateHouseModel", name := "areAlike", desc := "(II)Z" } : Jvm.MethodName)) ∈ gG := gG_of 1632 (by decide +kernel) rfl
set_option maxRecDepth 20000 in
theorem gw_1530 : (Jvm.Cond.code ({ cls := "GateHouseModel", name := "areAlike", desc := "(II)Z" } : Jvm.MethodName) prog_14_method_65_code (3 : Nat) (Option.some Jvm.ClassFile.FieldType.boolean)) ∈ gG := gG_of 1633 (rfl) rfl
theorem gw_1531 : (Jvm.Cond.methodLink "GateHouseLaw" (124 : Nat) ({ cls := "GateHouseModel", name := "now", desc := "(I)Z" } : Jvm.MethodName)) ∈ gG := gG_of 1634 (by decide +kernel) rfl
theorem gw_1532 : (Jvm.Cond.instanceMethod ({ cls := "GateHouseModel", name := "now", desc := "(I)Z" } : Jvm.MethodName)) ∈ gG := gG_of 1635 (by decide +kernel) rfl
theorem gw_1533 : (Jvm.Cond.selects "GateHouseModel" ({ cls := "GateHouseModel", name := "now", desc := "(I)Z" } : Jvm.MethodName) ({ cls := "GateHouseModel", name := "now", desc := "(I)Z" } : Jvm.MethodName)) ∈ gG := gG_of 1636 (by decide +kernel) rfl
set_option maxRecDepth 20000 in
theorem gw_1534 : (Jvm.Cond.code ({ cls := "GateHouseModel", name := "now", desc := "(I)Z" } : Jvm.MethodName) prog_14_method_70_code (3 : Nat) (Option.some Jvm.ClassFile.FieldType.boolean)) ∈ gG := gG_of 1637 (rfl) rfl
theorem gw_1535 : (Jvm.Cond.constant "GateHouseModel" (346 : Nat) (1000000000 : Int32)) ∈ gG := gG_of 1638 (by decide +kernel) rfl
theorem gw_1536 : (Jvm.Cond.methodLink "GateHouseModel" (347 : Nat) ({ cls := "GateHouseModel", name := "goes", desc := "(I)V" } : Jvm.MethodName)) ∈ gG := gG_of 1639 (by decide +kernel) rfl
theorem gw_1538 : (Jvm.Cond.instanceMethod ({ cls := "GateHouseModel", name := "goes", desc := "(I)V" } : Jvm.MethodName)) ∈ gG := gG_of 1641 (by decide +kernel) rfl
set_option maxRecDepth 20000 in
theorem gw_1539 : (Jvm.Cond.code ({ cls := "GateHouseModel", name := "goes", desc := "(I)V" } : Jvm.MethodName) prog_14_method_69_code (3 : Nat) (Option.none : Option Jvm.ClassFile.FieldType)) ∈ gG := gG_of 1642 (rfl) rfl
theorem gw_1540 : (Jvm.Cond.methodLink "GateHouseLaw" (128 : Nat) ({ cls := "GateHouseModel", name := "room", desc := "(I)Z" } : Jvm.MethodName)) ∈ gG := gG_of 1643 (by decide +kernel) rfl
theorem gw_1541 : (Jvm.Cond.instanceMethod ({ cls := "GateHouseModel", name := "room", desc := "(I)Z" } : Jvm.MethodName)) ∈ gG := gG_of 1644 (by decide +kernel) rfl
theorem gw_1542 : (Jvm.Cond.selects "GateHouseModel" ({ cls := "GateHouseModel", name := "room", desc := "(I)Z" } : Jvm.MethodName) ({ cls := "GateHouseModel", name := "room", desc := "(I)Z" } : Jvm.MethodName)) ∈ gG := gG_of 1645 (by decide +kernel) rfl
set_option maxRecDepth 20000 in
theorem gw_1543 : (Jvm.Cond.code ({ cls := "GateHouseModel", name := "room", desc := "(I)Z" } : Jvm.MethodName) prog_14_method_71_code (2 : Nat) (Option.some Jvm.ClassFile.FieldType.boolean)) ∈ gG := gG_of 1646 (rfl) rfl
theorem gw_1544 : (Jvm.Cond.methodLink "GateHouseLaw" (132 : Nat) ({ cls := "GateHouseModel", name := "packet", desc := "(IIIIIII)I" } : Jvm.MethodName)) ∈ gG := gG_of 1647 (by decide +kernel) rfl
theorem gw_1545 : (Jvm.Cond.instanceMethod ({ cls := "GateHouseModel", name := "packet", desc := "(IIIIIII)I" } : Jvm.MethodName)) ∈ gG := gG_of 1648 (by decide +kernel) rfl
theorem gw_1546 : (Jvm.Cond.selects "GateHouseModel" ({ cls := "GateHouseModel", name := "packet", desc := "(IIIIIII)I" } : Jvm.MethodName) ({ cls := "GateHouseModel", name := "packet", desc := "(IIIIIII)I" } : Jvm.MethodName)) ∈ gG := gG_of 1649 (by decide +kernel) rfl
set_option maxRecDepth 20000 in
theorem gw_1547 : (Jvm.Cond.code ({ cls := "GateHouseModel", name := "packet", desc := "(IIIIIII)I" } : Jvm.MethodName) prog_14_method_77_code (8 : Nat) (Option.some Jvm.ClassFile.FieldType.int)) ∈ gG := gG_of 1650 (rfl) rfl
theorem gw_1548 : (Jvm.Cond.methodLink "GateHouseModel" (359 : Nat) ({ cls := "GateHouseModel", name := "comes", desc := "(IIIIIII)I" } : Jvm.MethodName)) ∈ gG := gG_of 1651 (by decide +kernel) rfl
theorem gw_1550 : (Jvm.Cond.instanceMethod ({ cls := "GateHouseModel", name := "comes", desc := "(IIIIIII)I" } : Jvm.MethodName)) ∈ gG := gG_of 1653 (by decide +kernel) rfl
set_option maxRecDepth 20000 in
theorem gw_1551 : (Jvm.Cond.code ({ cls := "GateHouseModel", name := "comes", desc := "(IIIIIII)I" } : Jvm.MethodName) prog_14_method_78_code (15 : Nat) (Option.some Jvm.ClassFile.FieldType.int)) ∈ gG := gG_of 1654 (rfl) rfl
theorem gw_1552 : (Jvm.Cond.methodLink "GateHouseModel" (366 : Nat) ({ cls := "GateHouseModel", name := "find", desc := "(IIIII)I" } : Jvm.MethodName)) ∈ gG := gG_of 1655 (by decide +kernel) rfl
theorem gw_1554 : (Jvm.Cond.instanceMethod ({ cls := "GateHouseModel", name := "find", desc := "(IIIII)I" } : Jvm.MethodName)) ∈ gG := gG_of 1657 (by decide +kernel) rfl
set_option maxRecDepth 20000 in
theorem gw_1555 : (Jvm.Cond.code ({ cls := "GateHouseModel", name := "find", desc := "(IIIII)I" } : Jvm.MethodName) prog_14_method_73_code (7 : Nat) (Option.some Jvm.ClassFile.FieldType.int)) ∈ gG := gG_of 1658 (rfl) rfl
theorem gw_1556 : (Jvm.Cond.methodLink "GateHouseModel" (350 : Nat) ({ cls := "GateHouseModel", name := "side", desc := "(IIIIII)I" } : Jvm.MethodName)) ∈ gG := gG_of 1659 (by decide +kernel) rfl
theorem gw_1558 : (Jvm.Cond.instanceMethod ({ cls := "GateHouseModel", name := "side", desc := "(IIIIII)I" } : Jvm.MethodName)) ∈ gG := gG_of 1661 (by decide +kernel) rfl
set_option maxRecDepth 20000 in
theorem gw_1559 : (Jvm.Cond.code ({ cls := "GateHouseModel", name := "side", desc := "(IIIIII)I" } : Jvm.MethodName) prog_14_method_72_code (11 : Nat) (Option.some Jvm.ClassFile.FieldType.int)) ∈ gG := gG_of 1662 (rfl) rfl
theorem gw_1560 : (Jvm.Cond.methodLink "GateHouseModel" (370 : Nat) ({ cls := "GateHouseModel", name := "letter", desc := "(I)I" } : Jvm.MethodName)) ∈ gG := gG_of 1663 (by decide +kernel) rfl
theorem gw_1561 : (Jvm.Cond.static ({ cls := "GateHouseModel", name := "letter", desc := "(I)I" } : Jvm.MethodName)) ∈ gG := gG_of 1664 (by decide +kernel) rfl
set_option maxRecDepth 20000 in
theorem gw_1562 : (Jvm.Cond.code ({ cls := "GateHouseModel", name := "letter", desc := "(I)I" } : Jvm.MethodName) prog_14_method_74_code (3 : Nat) (Option.some Jvm.ClassFile.FieldType.int)) ∈ gG := gG_of 1665 (rfl) rfl
theorem gw_1563 : (Jvm.Cond.methodLink "GateHouseModel" (373 : Nat) ({ cls := "GateHouseModel", name := "phase", desc := "(III)I" } : Jvm.MethodName)) ∈ gG := gG_of 1666 (by decide +kernel) rfl
theorem gw_1565 : (Jvm.Cond.instanceMethod ({ cls := "GateHouseModel", name := "phase", desc := "(III)I" } : Jvm.MethodName)) ∈ gG := gG_of 1668 (by decide +kernel) rfl
set_option maxRecDepth 20000 in
theorem gw_1566 : (Jvm.Cond.code ({ cls := "GateHouseModel", name := "phase", desc := "(III)I" } : Jvm.MethodName) prog_14_method_75_code (7 : Nat) (Option.some Jvm.ClassFile.FieldType.int)) ∈ gG := gG_of 1669 (rfl) rfl
theorem gw_1567 : (Jvm.Cond.methodLink "GateHouseModel" (376 : Nat) ({ cls := "GateHouseModel", name := "steps", desc := "(IIII)V" } : Jvm.MethodName)) ∈ gG := gG_of 1670 (by decide +kernel) rfl
theorem gw_1569 : (Jvm.Cond.instanceMethod ({ cls := "GateHouseModel", name := "steps", desc := "(IIII)V" } : Jvm.MethodName)) ∈ gG := gG_of 1672 (by decide +kernel) rfl
set_option maxRecDepth 20000 in
theorem gw_1570 : (Jvm.Cond.code ({ cls := "GateHouseModel", name := "steps", desc := "(IIII)V" } : Jvm.MethodName) prog_14_method_79_code (6 : Nat) (Option.none : Option Jvm.ClassFile.FieldType)) ∈ gG := gG_of 1673 (rfl) rfl
theorem gw_1571 : (Jvm.Cond.methodLink "GateHouseModel" (387 : Nat) ({ cls := "GateHouseModel", name := "lasts", desc := "(IIZ)I" } : Jvm.MethodName)) ∈ gG := gG_of 1674 (by decide +kernel) rfl
theorem gw_1572 : (Jvm.Cond.static ({ cls := "GateHouseModel", name := "lasts", desc := "(IIZ)I" } : Jvm.MethodName)) ∈ gG := gG_of 1675 (by decide +kernel) rfl
set_option maxRecDepth 20000 in
theorem gw_1573 : (Jvm.Cond.code ({ cls := "GateHouseModel", name := "lasts", desc := "(IIZ)I" } : Jvm.MethodName) prog_14_method_76_code (3 : Nat) (Option.some Jvm.ClassFile.FieldType.int)) ∈ gG := gG_of 1676 (rfl) rfl
theorem gw_1574 : (Jvm.Cond.methodLink "GateHouseModel" (380 : Nat) ({ cls := "GateHouseModel", name := "begins", desc := "(IIIII)Z" } : Jvm.MethodName)) ∈ gG := gG_of 1677 (by decide +kernel) rfl
theorem gw_1576 : (Jvm.Cond.instanceMethod ({ cls := "GateHouseModel", name := "begins", desc := "(IIIII)Z" } : Jvm.MethodName)) ∈ gG := gG_of 1679 (by decide +kernel) rfl
set_option maxRecDepth 20000 in
theorem gw_1577 : (Jvm.Cond.code ({ cls := "GateHouseModel", name := "begins", desc := "(IIIII)Z" } : Jvm.MethodName) prog_14_method_80_code (8 : Nat) (Option.some Jvm.ClassFile.FieldType.boolean)) ∈ gG := gG_of 1680 (rfl) rfl
theorem gw_1578 : (Jvm.Cond.methodLink "GateHouseLaw" (135 : Nat) ({ cls := "GateHouseModel", name := "datagram", desc := "(I)I" } : Jvm.MethodName)) ∈ gG := gG_of 1681 (by decide +kernel) rfl
theorem gw_1579 : (Jvm.Cond.instanceMethod ({ cls := "GateHouseModel", name := "datagram", desc := "(I)I" } : Jvm.MethodName)) ∈ gG := gG_of 1682 (by decide +kernel) rfl
theorem gw_1580 : (Jvm.Cond.selects "GateHouseModel" ({ cls := "GateHouseModel", name := "datagram", desc := "(I)I" } : Jvm.MethodName) ({ cls := "GateHouseModel", name := "datagram", desc := "(I)I" } : Jvm.MethodName)) ∈ gG := gG_of 1683 (by decide +kernel) rfl
set_option maxRecDepth 20000 in
theorem gw_1581 : (Jvm.Cond.code ({ cls := "GateHouseModel", name := "datagram", desc := "(I)I" } : Jvm.MethodName) prog_14_method_85_code (13 : Nat) (Option.some Jvm.ClassFile.FieldType.int)) ∈ gG := gG_of 1684 (rfl) rfl
theorem gw_1582 : (Jvm.Cond.methodLink "GateHouseModel" (397 : Nat) ({ cls := "GateHouseModel", name := "faulty", desc := "(II)I" } : Jvm.MethodName)) ∈ gG := gG_of 1685 (by decide +kernel) rfl
theorem gw_1584 : (Jvm.Cond.instanceMethod ({ cls := "GateHouseModel", name := "faulty", desc := "(II)I" } : Jvm.MethodName)) ∈ gG := gG_of 1687 (by decide +kernel) rfl
set_option maxRecDepth 20000 in
theorem gw_1585 : (Jvm.Cond.code ({ cls := "GateHouseModel", name := "faulty", desc := "(II)I" } : Jvm.MethodName) prog_14_method_84_code (3 : Nat) (Option.some Jvm.ClassFile.FieldType.int)) ∈ gG := gG_of 1688 (rfl) rfl
theorem gw_1586 : (Jvm.Cond.methodLink "GateHouseModel" (394 : Nat) ({ cls := "GateHouseModel", name := "two", desc := "(I)I" } : Jvm.MethodName)) ∈ gG := gG_of 1689 (by decide +kernel) rfl
theorem gw_1588 : (Jvm.Cond.instanceMethod ({ cls := "GateHouseModel", name := "two", desc := "(I)I" } : Jvm.MethodName)) ∈ gG := gG_of 1691 (by decide +kernel) rfl
set_option maxRecDepth 20000 in
theorem gw_1589 : (Jvm.Cond.code ({ cls := "GateHouseModel", name := "two", desc := "(I)I" } : Jvm.MethodName) prog_14_method_81_code (2 : Nat) (Option.some Jvm.ClassFile.FieldType.int)) ∈ gG := gG_of 1692 (rfl) rfl
theorem gw_1590 : (Jvm.Cond.methodLink "GateHouseModel" (400 : Nat) ({ cls := "GateHouseModel", name := "summed", desc := "(III)I" } : Jvm.MethodName)) ∈ gG := gG_of 1693 (by decide +kernel) rfl
theorem gw_1592 : (Jvm.Cond.instanceMethod ({ cls := "GateHouseModel", name := "summed", desc := "(III)I" } : Jvm.MethodName)) ∈ gG := gG_of 1695 (by decide +kernel) rfl
set_option maxRecDepth 20000 in
theorem gw_1593 : (Jvm.Cond.code ({ cls := "GateHouseModel", name := "summed", desc := "(III)I" } : Jvm.MethodName) prog_14_method_83_code (7 : Nat) (Option.some Jvm.ClassFile.FieldType.int)) ∈ gG := gG_of 1696 (rfl) rfl
theorem gw_1594 : (Jvm.Cond.methodLink "GateHouseModel" (403 : Nat) ({ cls := "GateHouseModel", name := "isLong", desc := "(III)Z" } : Jvm.MethodName)) ∈ gG := gG_of 1697 (by decide +kernel) rfl
theorem gw_1596 : (Jvm.Cond.instanceMethod ({ cls := "GateHouseModel", name := "isLong", desc := "(III)Z" } : Jvm.MethodName)) ∈ gG := gG_of 1699 (by decide +kernel) rfl
set_option maxRecDepth 20000 in
theorem gw_1597 : (Jvm.Cond.code ({ cls := "GateHouseModel", name := "isLong", desc := "(III)Z" } : Jvm.MethodName) prog_14_method_86_code (6 : Nat) (Option.some Jvm.ClassFile.FieldType.boolean)) ∈ gG := gG_of 1700 (rfl) rfl
theorem gw_1598 : (Jvm.Cond.methodLink "GateHouseModel" (406 : Nat) ({ cls := "GateHouseModel", name := "readsTale", desc := "(II)Z" } : Jvm.MethodName)) ∈ gG := gG_of 1701 (by decide +kernel) rfl
theorem gw_1600 : (Jvm.Cond.instanceMethod ({ cls := "GateHouseModel", name := "readsTale", desc := "(II)Z" } : Jvm.MethodName)) ∈ gG := gG_of 1703 (by decide +kernel) rfl
set_option maxRecDepth 20000 in
theorem gw_1601 : (Jvm.Cond.code ({ cls := "GateHouseModel", name := "readsTale", desc := "(II)Z" } : Jvm.MethodName) prog_14_method_87_code (8 : Nat) (Option.some Jvm.ClassFile.FieldType.boolean)) ∈ gG := gG_of 1704 (rfl) rfl
theorem gw_1602 : (Jvm.Cond.methodLink "GateHouseModel" (409 : Nat) ({ cls := "GateHouseModel", name := "address", desc := "(I)I" } : Jvm.MethodName)) ∈ gG := gG_of 1705 (by decide +kernel) rfl
theorem gw_1604 : (Jvm.Cond.instanceMethod ({ cls := "GateHouseModel", name := "address", desc := "(I)I" } : Jvm.MethodName)) ∈ gG := gG_of 1707 (by decide +kernel) rfl
set_option maxRecDepth 20000 in
theorem gw_1605 : (Jvm.Cond.code ({ cls := "GateHouseModel", name := "address", desc := "(I)I" } : Jvm.MethodName) prog_14_method_82_code (2 : Nat) (Option.some Jvm.ClassFile.FieldType.int)) ∈ gG := gG_of 1708 (rfl) rfl
theorem gw_1606 : (Jvm.Cond.methodLink "GateHouseLaw" (139 : Nat) ({ cls := "GateHouseModel", name := "pack", desc := "()I" } : Jvm.MethodName)) ∈ gG := gG_of 1709 (by decide +kernel) rfl
theorem gw_1607 : (Jvm.Cond.instanceMethod ({ cls := "GateHouseModel", name := "pack", desc := "()I" } : Jvm.MethodName)) ∈ gG := gG_of 1710 (by decide +kernel) rfl
theorem gw_1608 : (Jvm.Cond.selects "GateHouseModel" ({ cls := "GateHouseModel", name := "pack", desc := "()I" } : Jvm.MethodName) ({ cls := "GateHouseModel", name := "pack", desc := "()I" } : Jvm.MethodName)) ∈ gG := gG_of 1711 (by decide +kernel) rfl
set_option maxRecDepth 20000 in
theorem gw_1609 : (Jvm.Cond.code ({ cls := "GateHouseModel", name := "pack", desc := "()I" } : Jvm.MethodName) prog_14_method_91_code (4 : Nat) (Option.some Jvm.ClassFile.FieldType.int)) ∈ gG := gG_of 1712 (rfl) rfl
theorem gw_1610 : (Jvm.Cond.methodLink "GateHouseModel" (415 : Nat) ({ cls := "GateHouseModel", name := "putTwo", desc := "(I)V" } : Jvm.MethodName)) ∈ gG := gG_of 1713 (by decide +kernel) rfl
theorem gw_1612 : (Jvm.Cond.instanceMethod ({ cls := "GateHouseModel", name := "putTwo", desc := "(I)V" } : Jvm.MethodName)) ∈ gG := gG_of 1715 (by decide +kernel) rfl
set_option maxRecDepth 20000 in
theorem gw_1613 : (Jvm.Cond.code ({ cls := "GateHouseModel", name := "putTwo", desc := "(I)V" } : Jvm.MethodName) prog_14_method_90_code (2 : Nat) (Option.none : Option Jvm.ClassFile.FieldType)) ∈ gG := gG_of 1716 (rfl) rfl
theorem gw_1614 : (Jvm.Cond.methodLink "GateHouseModel" (418 : Nat) ({ cls := "GateHouseModel", name := "sumAt", desc := "(IIII)V" } : Jvm.MethodName)) ∈ gG := gG_of 1717 (by decide +kernel) rfl
theorem gw_1616 : (Jvm.Cond.instanceMethod ({ cls := "GateHouseModel", name := "sumAt", desc := "(IIII)V" } : Jvm.MethodName)) ∈ gG := gG_of 1719 (by decide +kernel) rfl
set_option maxRecDepth 20000 in
theorem gw_1617 : (Jvm.Cond.code ({ cls := "GateHouseModel", name := "sumAt", desc := "(IIII)V" } : Jvm.MethodName) prog_14_method_89_code (8 : Nat) (Option.none : Option Jvm.ClassFile.FieldType)) ∈ gG := gG_of 1720 (rfl) rfl
theorem gw_1618 : (Jvm.Cond.methodLink "GateHouseModel" (412 : Nat) ({ cls := "GateHouseModel", name := "outTwo", desc := "(I)I" } : Jvm.MethodName)) ∈ gG := gG_of 1721 (by decide +kernel) rfl
theorem gw_1620 : (Jvm.Cond.instanceMethod ({ cls := "GateHouseModel", name := "outTwo", desc := "(I)I" } : Jvm.MethodName)) ∈ gG := gG_of 1723 (by decide +kernel) rfl
set_option maxRecDepth 20000 in
theorem gw_1621 : (Jvm.Cond.code ({ cls := "GateHouseModel", name := "outTwo", desc := "(I)I" } : Jvm.MethodName) prog_14_method_88_code (2 : Nat) (Option.some Jvm.ClassFile.FieldType.int)) ∈ gG := gG_of 1724 (rfl) rfl
theorem gw_1622 : (Jvm.Cond.methodLink "GateHouseLaw" (142 : Nat) ({ cls := "GateHouseModel", name := "connection", desc := "(II)I" } : Jvm.MethodName)) ∈ gG := gG_of 1725 (by decide +kernel) rfl
theorem gw_1623 : (Jvm.Cond.instanceMethod ({ cls := "GateHouseModel", name := "connection", desc := "(II)I" } : Jvm.MethodName)) ∈ gG := gG_of 1726 (by decide +kernel) rfl
theorem gw_1624 : (Jvm.Cond.selects "GateHouseModel" ({ cls := "GateHouseModel", name := "connection", desc := "(II)I" } : Jvm.MethodName) ({ cls := "GateHouseModel", name := "connection", desc := "(II)I" } : Jvm.MethodName)) ∈ gG := gG_of 1727 (by decide +kernel) rfl
set_option maxRecDepth 20000 in
theorem gw_1625 : (Jvm.Cond.code ({ cls := "GateHouseModel", name := "connection", desc := "(II)I" } : Jvm.MethodName) prog_14_method_92_code (3 : Nat) (Option.some Jvm.ClassFile.FieldType.int)) ∈ gG := gG_of 1728 (rfl) rfl
theorem gw_1626 : (Jvm.Cond.methodLink "GateHouseLaw" (146 : Nat) ({ cls := "GateHouseModel", name := "count", desc := "(I)I" } : Jvm.MethodName)) ∈ gG := gG_of 1729 (by decide +kernel) rfl
theorem gw_1627 : (Jvm.Cond.instanceMethod ({ cls := "GateHouseModel", name := "count", desc := "(I)I" } : Jvm.MethodName)) ∈ gG := gG_of 1730 (by decide +kernel) rfl
theorem gw_1628 : (Jvm.Cond.selects "GateHouseModel" ({ cls := "GateHouseModel", name := "count", desc := "(I)I" } : Jvm.MethodName) ({ cls := "GateHouseModel", name := "count", desc := "(I)I" } : Jvm.MethodName)) ∈ gG := gG_of 1731 (by decide +kernel) rfl
set_option maxRecDepth 20000 in
theorem gw_1629 : (Jvm.Cond.code ({ cls := "GateHouseModel", name := "count", desc := "(I)I" } : Jvm.MethodName) prog_14_method_93_code (2 : Nat) (Option.some Jvm.ClassFile.FieldType.int)) ∈ gG := gG_of 1732 (rfl) rfl
theorem gw_1646 : (Jvm.Cond.fieldLink "java/lang/String" (9 : Nat) "java/lang/String" "value" "[B") ∈ gG := gG_of 1749 (by decide +kernel) rfl
theorem gw_1647 : (Jvm.Cond.fieldLink "java/lang/String" (15 : Nat) "java/lang/String" "coder" "B") ∈ gG := gG_of 1750 (by decide +kernel) rfl
