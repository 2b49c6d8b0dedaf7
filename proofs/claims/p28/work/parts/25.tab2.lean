/-! ===== the methods by number; what the pools say, row by row ===== -/
abbrev mt0 : Mt := (10, ⟨"Cubecaller", "<init>", "()V"⟩, prog_1_method_1_code, 1, none, 1, [])
theorem mtE0 : mtab[0]? = some mt0 := rfl
abbrev mt1 : Mt := (7, ⟨"Cubecaller$Space", "<init>", "()V"⟩, prog_9_method_1_code, 1, none, 1, [])
theorem mtE1 : mtab[1]? = some mt1 := rfl
abbrev mt2 : Mt := (0, ⟨"Cubecaller$Dimension", "<init>", "()V"⟩, prog_2_method_1_code, 2, none, 1, [])
theorem mtE2 : mtab[2]? = some mt2 := rfl
abbrev mt3 : Mt := (5, ⟨"Cubecaller$Moves", "<init>", "()V"⟩, prog_7_method_1_code, 1, none, 1, [])
theorem mtE3 : mtab[3]? = some mt3 := rfl
abbrev mt4 : Mt := (9, ⟨"Cubecaller$TimeOrder", "<init>", "()V"⟩, prog_11_method_1_code, 1, none, 1, [])
theorem mtE4 : mtab[4]? = some mt4 := rfl
abbrev mt5 : Mt := (14, ⟨"java/util/Arrays", "fill", "([II)V"⟩, prog_24_method_103_code, 4, none, 2, [])
theorem mtE5 : mtab[5]? = some mt5 := rfl
abbrev mt6 : Mt := (4, ⟨"Cubecaller$Measures", "<init>", "()V"⟩, prog_6_method_1_code, 1, none, 1, [])
theorem mtE6 : mtab[6]? = some mt6 := rfl
abbrev mt7 : Mt := (1, ⟨"Cubecaller$FactRows", "<init>", "()V"⟩, prog_3_method_1_code, 1, none, 1, [])
theorem mtE7 : mtab[7]? = some mt7 := rfl
abbrev mt8 : Mt := (3, ⟨"Cubecaller$KeptResults", "<init>", "()V"⟩, prog_5_method_1_code, 1, none, 1, [])
theorem mtE8 : mtab[8]? = some mt8 := rfl
abbrev mt9 : Mt := (8, ⟨"Cubecaller$Spread", "<init>", "()V"⟩, prog_10_method_1_code, 1, none, 1, [])
theorem mtE9 : mtab[9]? = some mt9 := rfl
abbrev mt10 : Mt := (6, ⟨"Cubecaller$Reckoner", "<init>", "(LCubecaller$Space;LCubecaller$Measures;LCubecaller$FactRows;)V"⟩, prog_8_method_1_code, 4, none, 4, [])
theorem mtE10 : mtab[10]? = some mt10 := rfl
abbrev mt11 : Mt := (2, ⟨"Cubecaller$Formula", "<init>", "()V"⟩, prog_4_method_1_code, 1, none, 1, [])
theorem mtE11 : mtab[11]? = some mt11 := rfl
abbrev mt12 : Mt := (10, ⟨"Cubecaller", "member", "(III)I"⟩, prog_1_method_2_code, 6, some .int, 4, [])
theorem mtE12 : mtab[12]? = some mt12 := rfl
abbrev mt13 : Mt := (10, ⟨"Cubecaller", "existing", "(I)LCubecaller$Dimension;"⟩, prog_1_method_27_code, 2, some (.object "Cubecaller$Dimension"), 2, [])
theorem mtE13 : mtab[13]? = some mt13 := rfl
abbrev mt14 : Mt := (7, ⟨"Cubecaller$Space", "dimension", "(I)LCubecaller$Dimension;"⟩, prog_9_method_2_code, 2, some (.object "Cubecaller$Dimension"), 2, [])
theorem mtE14 : mtab[14]? = some mt14 := rfl
abbrev mt15 : Mt := (10, ⟨"Cubecaller", "needMember", "(LCubecaller$Dimension;I)V"⟩, prog_1_method_28_code, 2, none, 2, [])
theorem mtE15 : mtab[15]? = some mt15 := rfl
abbrev mt16 : Mt := (0, ⟨"Cubecaller$Dimension", "has", "(I)Z"⟩, prog_2_method_2_code, 2, some .boolean, 2, [])
theorem mtE16 : mtab[16]? = some mt16 := rfl
abbrev mt17 : Mt := (10, ⟨"Cubecaller", "needRange", "(III)V"⟩, prog_1_method_30_code, 3, none, 3, [])
theorem mtE17 : mtab[17]? = some mt17 := rfl
abbrev mt18 : Mt := (0, ⟨"Cubecaller$Dimension", "isPlain", "(I)Z"⟩, prog_2_method_4_code, 2, some .boolean, 2, [])
theorem mtE18 : mtab[18]? = some mt18 := rfl
abbrev mt19 : Mt := (10, ⟨"Cubecaller", "need", "(Z)V"⟩, prog_1_method_31_code, 1, none, 1, [])
theorem mtE19 : mtab[19]? = some mt19 := rfl
abbrev mt20 : Mt := (0, ⟨"Cubecaller$Dimension", "addPlain", "(II)I"⟩, prog_2_method_12_code, 4, some .int, 3, [])
theorem mtE20 : mtab[20]? = some mt20 := rfl
abbrev mt21 : Mt := (0, ⟨"Cubecaller$Dimension", "addKind", "(I)I"⟩, prog_2_method_15_code, 2, some .int, 2, [])
theorem mtE21 : mtab[21]? = some mt21 := rfl
abbrev mt22 : Mt := (9, ⟨"Cubecaller$TimeOrder", "insert", "(IILCubecaller$Dimension;)V"⟩, prog_11_method_3_code, 6, none, 4, [])
theorem mtE22 : mtab[22]? = some mt22 := rfl
abbrev mt23 : Mt := (9, ⟨"Cubecaller$TimeOrder", "placeOf", "(I)I"⟩, prog_11_method_2_code, 2, some .int, 2, [])
theorem mtE23 : mtab[23]? = some mt23 := rfl
abbrev mt24 : Mt := (0, ⟨"Cubecaller$Dimension", "depthOf", "(I)I"⟩, prog_2_method_6_code, 2, some .int, 2, [])
theorem mtE24 : mtab[24]? = some mt24 := rfl
abbrev mt25 : Mt := (7, ⟨"Cubecaller$Space", "weigh", "()V"⟩, prog_9_method_4_code, 1, none, 1, [])
theorem mtE25 : mtab[25]? = some mt25 := rfl
abbrev mt26 : Mt := (0, ⟨"Cubecaller$Dimension", "weigh", "(LCubecaller$TimeOrder;)V"⟩, prog_2_method_19_code, 3, none, 2, [])
theorem mtE26 : mtab[26]? = some mt26 := rfl
abbrev mt27 : Mt := (5, ⟨"Cubecaller$Moves", "parentAt", "(IIILCubecaller$TimeOrder;)I"⟩, prog_7_method_3_code, 9, some .int, 5, [])
theorem mtE27 : mtab[27]? = some mt27 := rfl
abbrev mt28 : Mt := (0, ⟨"Cubecaller$Dimension", "settle", "()V"⟩, prog_2_method_17_code, 2, none, 1, [])
theorem mtE28 : mtab[28]? = some mt28 := rfl
abbrev mt29 : Mt := (0, ⟨"Cubecaller$Dimension", "isSeen", "(I)Z"⟩, prog_2_method_9_code, 2, some .boolean, 2, [])
theorem mtE29 : mtab[29]? = some mt29 := rfl
abbrev mt30 : Mt := (0, ⟨"Cubecaller$Dimension", "isBridgeSeen", "(I)Z"⟩, prog_2_method_18_code, 3, some .boolean, 2, [])
theorem mtE30 : mtab[30]? = some mt30 := rfl
abbrev mt31 : Mt := (0, ⟨"Cubecaller$Dimension", "standsFor", "(II)Z"⟩, prog_2_method_10_code, 3, some .boolean, 3, [])
theorem mtE31 : mtab[31]? = some mt31 := rfl
abbrev mt32 : Mt := (0, ⟨"Cubecaller$Dimension", "weighRow", "(IILCubecaller$TimeOrder;)V"⟩, prog_2_method_20_code, 7, none, 4, [])
theorem mtE32 : mtab[32]? = some mt32 := rfl
abbrev mt33 : Mt := (0, ⟨"Cubecaller$Dimension", "weightOver", "(IIII)I"⟩, prog_2_method_21_code, 6, some .int, 5, [])
theorem mtE33 : mtab[33]? = some mt33 := rfl
abbrev mt34 : Mt := (0, ⟨"Cubecaller$Dimension", "weightByBridge", "(III)I"⟩, prog_2_method_22_code, 6, some .int, 4, [])
theorem mtE34 : mtab[34]? = some mt34 := rfl
abbrev mt35 : Mt := (3, ⟨"Cubecaller$KeptResults", "dropAll", "()V"⟩, prog_5_method_9_code, 1, none, 1, [])
theorem mtE35 : mtab[35]? = some mt35 := rfl
abbrev mt36 : Mt := (10, ⟨"Cubecaller", "measure", "(III)I"⟩, prog_1_method_11_code, 5, some .int, 4, [])
theorem mtE36 : mtab[36]? = some mt36 := rfl
abbrev mt37 : Mt := (10, ⟨"Cubecaller", "needMeasure", "(I)V"⟩, prog_1_method_29_code, 2, none, 2, [])
theorem mtE37 : mtab[37]? = some mt37 := rfl
abbrev mt38 : Mt := (4, ⟨"Cubecaller$Measures", "has", "(I)Z"⟩, prog_6_method_2_code, 2, some .boolean, 2, [])
theorem mtE38 : mtab[38]? = some mt38 := rfl
abbrev mt39 : Mt := (4, ⟨"Cubecaller$Measures", "add", "(III)I"⟩, prog_6_method_4_code, 4, some .int, 4, [])
theorem mtE39 : mtab[39]? = some mt39 := rfl
abbrev mt40 : Mt := (12, ⟨"CubecallerLaw", "cell", "([II)I"⟩, method_2_code, 2, some .int, 2, [])
theorem mtE40 : mtab[40]? = some mt40 := rfl
abbrev mt41 : Mt := (12, ⟨"CubecallerLaw", "low", "(II)I"⟩, method_3_code, 2, some .int, 2, [])
theorem mtE41 : mtab[41]? = some mt41 := rfl
abbrev mt42 : Mt := (12, ⟨"CubecallerLaw", "members", "(LCubecaller;III)I"⟩, method_4_code, 5, some .int, 4, [(0, 7, 8, 15), (0, 7, 13, 17), (0, 7, 18, 19)])
theorem mtE42 : mtab[42]? = some mt42 := rfl
abbrev mt43 : Mt := (12, ⟨"CubecallerLaw", "bridges", "(LCubecaller;II)I"⟩, method_5_code, 4, some .int, 3, [(0, 6, 7, 15), (0, 6, 11, 17), (0, 6, 15, 19)])
theorem mtE43 : mtab[43]? = some mt43 := rfl
abbrev mt44 : Mt := (10, ⟨"Cubecaller", "bridge", "(II)I"⟩, prog_1_method_3_code, 6, some .int, 3, [])
theorem mtE44 : mtab[44]? = some mt44 := rfl
abbrev mt45 : Mt := (13, ⟨"java/lang/Integer", "bitCount", "(I)I"⟩, prog_18_method_49_code, 1, some .int, 1, [])
theorem mtE45 : mtab[45]? = some mt45 := rfl
abbrev mt46 : Mt := (0, ⟨"Cubecaller$Dimension", "areAllPlain", "(I)Z"⟩, prog_2_method_11_code, 3, some .boolean, 2, [])
theorem mtE46 : mtab[46]? = some mt46 := rfl
abbrev mt47 : Mt := (0, ⟨"Cubecaller$Dimension", "addBridge", "(I)I"⟩, prog_2_method_13_code, 3, some .int, 2, [])
theorem mtE47 : mtab[47]? = some mt47 := rfl
abbrev mt48 : Mt := (12, ⟨"CubecallerLaw", "words", "(LCubecaller;III)I"⟩, method_7_code, 5, some .int, 4, [(0, 7, 8, 17), (0, 7, 13, 19)])
theorem mtE48 : mtab[48]? = some mt48 := rfl
abbrev mt49 : Mt := (10, ⟨"Cubecaller", "word", "(III)I"⟩, prog_1_method_7_code, 4, some .int, 4, [])
theorem mtE49 : mtab[49]? = some mt49 := rfl
abbrev mt50 : Mt := (2, ⟨"Cubecaller$Formula", "hasRoomFor", "(I)Z"⟩, prog_4_method_2_code, 2, some .boolean, 2, [])
theorem mtE50 : mtab[50]? = some mt50 := rfl
abbrev mt51 : Mt := (2, ⟨"Cubecaller$Formula", "put", "(III)V"⟩, prog_4_method_3_code, 4, none, 4, [])
theorem mtE51 : mtab[51]? = some mt51 := rfl
abbrev mt52 : Mt := (12, ⟨"CubecallerLaw", "calculates", "(LCubecaller;II)I"⟩, method_8_code, 4, some .int, 3, [(0, 6, 7, 15), (0, 6, 11, 17), (0, 6, 15, 19)])
theorem mtE52 : mtab[52]? = some mt52 := rfl
abbrev mt53 : Mt := (10, ⟨"Cubecaller", "calculate", "(II)I"⟩, prog_1_method_8_code, 5, some .int, 3, [])
theorem mtE53 : mtab[53]? = some mt53 := rfl
abbrev mt54 : Mt := (2, ⟨"Cubecaller$Formula", "looksBeyond", "(I)Z"⟩, prog_4_method_4_code, 3, some .boolean, 2, [])
theorem mtE54 : mtab[54]? = some mt54 := rfl
abbrev mt55 : Mt := (0, ⟨"Cubecaller$Dimension", "addCalculated", "(LCubecaller$Formula;I)I"⟩, prog_2_method_14_code, 4, some .int, 3, [])
theorem mtE55 : mtab[55]? = some mt55 := rfl
abbrev mt56 : Mt := (12, ⟨"CubecallerLaw", "measures", "(LCubecaller;III)I"⟩, method_9_code, 5, some .int, 4, [(0, 7, 8, 15), (0, 7, 13, 17), (0, 7, 18, 19)])
theorem mtE56 : mtab[56]? = some mt56 := rfl
abbrev mt57 : Mt := (12, ⟨"CubecallerLaw", "facts", "(LCubecaller;IIIII)I"⟩, method_10_code, 7, some .int, 6, [(0, 11, 12, 15), (0, 11, 17, 17), (0, 11, 22, 19)])
theorem mtE57 : mtab[57]? = some mt57 := rfl
abbrev mt58 : Mt := (10, ⟨"Cubecaller", "fact", "(IIIII)I"⟩, prog_1_method_13_code, 8, some .int, 6, [])
theorem mtE58 : mtab[58]? = some mt58 := rfl
abbrev mt59 : Mt := (10, ⟨"Cubecaller", "existingCell", "(IIII)I"⟩, prog_1_method_32_code, 5, some .int, 5, [])
theorem mtE59 : mtab[59]? = some mt59 := rfl
abbrev mt60 : Mt := (7, ⟨"Cubecaller$Space", "isPlain", "(I)Z"⟩, prog_9_method_5_code, 2, some .boolean, 2, [])
theorem mtE60 : mtab[60]? = some mt60 := rfl
abbrev mt61 : Mt := (10, ⟨"Cubecaller", "memberOf", "(II)I"⟩, prog_1_method_33_code, 2, some .int, 2, [])
theorem mtE61 : mtab[61]? = some mt61 := rfl
abbrev mt62 : Mt := (4, ⟨"Cubecaller$Measures", "kindOf", "(I)I"⟩, prog_6_method_3_code, 2, some .int, 2, [])
theorem mtE62 : mtab[62]? = some mt62 := rfl
abbrev mt63 : Mt := (1, ⟨"Cubecaller$FactRows", "find", "(II)I"⟩, prog_3_method_3_code, 4, some .int, 3, [])
theorem mtE63 : mtab[63]? = some mt63 := rfl
abbrev mt64 : Mt := (1, ⟨"Cubecaller$FactRows", "add", "(III)V"⟩, prog_3_method_8_code, 4, none, 4, [])
theorem mtE64 : mtab[64]? = some mt64 := rfl
abbrev mt65 : Mt := (10, ⟨"Cubecaller", "dropFor", "(II)V"⟩, prog_1_method_38_code, 8, none, 3, [])
theorem mtE65 : mtab[65]? = some mt65 := rfl
abbrev mt66 : Mt := (3, ⟨"Cubecaller$KeptResults", "cellAt", "(I)I"⟩, prog_5_method_4_code, 2, some .int, 2, [])
theorem mtE66 : mtab[66]? = some mt66 := rfl
abbrev mt67 : Mt := (3, ⟨"Cubecaller$KeptResults", "has", "(I)Z"⟩, prog_5_method_2_code, 2, some .boolean, 2, [])
theorem mtE67 : mtab[67]? = some mt67 := rfl
abbrev mt68 : Mt := (3, ⟨"Cubecaller$KeptResults", "measureAt", "(I)I"⟩, prog_5_method_5_code, 2, some .int, 2, [])
theorem mtE68 : mtab[68]? = some mt68 := rfl
abbrev mt69 : Mt := (4, ⟨"Cubecaller$Measures", "needs", "(II)Z"⟩, prog_6_method_5_code, 3, some .boolean, 3, [])
theorem mtE69 : mtab[69]? = some mt69 := rfl
abbrev mt70 : Mt := (7, ⟨"Cubecaller$Space", "isCalculated", "(I)Z"⟩, prog_9_method_7_code, 2, some .boolean, 2, [])
theorem mtE70 : mtab[70]? = some mt70 := rfl
abbrev mt71 : Mt := (7, ⟨"Cubecaller$Space", "leading", "(I)I"⟩, prog_9_method_8_code, 6, some .int, 2, [])
theorem mtE71 : mtab[71]? = some mt71 := rfl
abbrev mt72 : Mt := (0, ⟨"Cubecaller$Dimension", "orderOf", "(I)I"⟩, prog_2_method_7_code, 2, some .int, 2, [])
theorem mtE72 : mtab[72]? = some mt72 := rfl
abbrev mt73 : Mt := (7, ⟨"Cubecaller$Space", "weight", "(II)I"⟩, prog_9_method_10_code, 6, some .int, 3, [])
theorem mtE73 : mtab[73]? = some mt73 := rfl
abbrev mt74 : Mt := (7, ⟨"Cubecaller$Space", "isSeen", "(I)Z"⟩, prog_9_method_6_code, 2, some .boolean, 2, [])
theorem mtE74 : mtab[74]? = some mt74 := rfl
abbrev mt75 : Mt := (0, ⟨"Cubecaller$Dimension", "weight", "(III)I"⟩, prog_2_method_23_code, 5, some .int, 4, [])
theorem mtE75 : mtab[75]? = some mt75 := rfl
abbrev mt76 : Mt := (3, ⟨"Cubecaller$KeptResults", "shift", "(II)V"⟩, prog_5_method_7_code, 3, none, 3, [])
theorem mtE76 : mtab[76]? = some mt76 := rfl
abbrev mt77 : Mt := (10, ⟨"Cubecaller", "setNumber", "(II)Z"⟩, prog_1_method_36_code, 3, some .boolean, 3, [])
theorem mtE77 : mtab[77]? = some mt77 := rfl
abbrev mt78 : Mt := (1, ⟨"Cubecaller$FactRows", "numberAt", "(I)I"⟩, prog_3_method_6_code, 2, some .int, 2, [])
theorem mtE78 : mtab[78]? = some mt78 := rfl
abbrev mt79 : Mt := (1, ⟨"Cubecaller$FactRows", "has", "(I)Z"⟩, prog_3_method_2_code, 2, some .boolean, 2, [])
theorem mtE79 : mtab[79]? = some mt79 := rfl
abbrev mt80 : Mt := (1, ⟨"Cubecaller$FactRows", "setNumber", "(II)V"⟩, prog_3_method_7_code, 3, none, 3, [])
theorem mtE80 : mtab[80]? = some mt80 := rfl
abbrev mt81 : Mt := (1, ⟨"Cubecaller$FactRows", "cellAt", "(I)I"⟩, prog_3_method_4_code, 2, some .int, 2, [])
theorem mtE81 : mtab[81]? = some mt81 := rfl
abbrev mt82 : Mt := (1, ⟨"Cubecaller$FactRows", "measureAt", "(I)I"⟩, prog_3_method_5_code, 2, some .int, 2, [])
theorem mtE82 : mtab[82]? = some mt82 := rfl
abbrev mt83 : Mt := (12, ⟨"CubecallerLaw", "picks", "(LCubecaller;IIIII)I"⟩, method_12_code, 7, some .int, 6, [(0, 11, 12, 15), (0, 11, 17, 17), (0, 11, 22, 19)])
theorem mtE83 : mtab[83]? = some mt83 := rfl
abbrev mt84 : Mt := (10, ⟨"Cubecaller", "pick", "(IIIII)I"⟩, prog_1_method_20_code, 7, some .int, 6, [])
theorem mtE84 : mtab[84]? = some mt84 := rfl
abbrev mt85 : Mt := (0, ⟨"Cubecaller$Dimension", "pickAll", "(II)V"⟩, prog_2_method_24_code, 4, none, 3, [])
theorem mtE85 : mtab[85]? = some mt85 := rfl
abbrev mt86 : Mt := (0, ⟨"Cubecaller$Dimension", "isAsked", "(III)Z"⟩, prog_2_method_25_code, 4, some .boolean, 4, [])
theorem mtE86 : mtab[86]? = some mt86 := rfl
abbrev mt87 : Mt := (0, ⟨"Cubecaller$Dimension", "isLeaf", "(I)Z"⟩, prog_2_method_26_code, 3, some .boolean, 2, [])
theorem mtE87 : mtab[87]? = some mt87 := rfl
abbrev mt88 : Mt := (0, ⟨"Cubecaller$Dimension", "parentOf", "(I)I"⟩, prog_2_method_5_code, 2, some .int, 2, [])
theorem mtE88 : mtab[88]? = some mt88 := rfl
abbrev mt89 : Mt := (6, ⟨"Cubecaller$Reckoner", "begins", "(I)V"⟩, prog_8_method_2_code, 2, none, 2, [])
theorem mtE89 : mtab[89]? = some mt89 := rfl
abbrev mt90 : Mt := (6, ⟨"Cubecaller$Reckoner", "keepTop", "(II)V"⟩, prog_8_method_21_code, 11, none, 3, [])
theorem mtE90 : mtab[90]? = some mt90 := rfl
abbrev mt91 : Mt := (0, ⟨"Cubecaller$Dimension", "pickedAt", "(I)I"⟩, prog_2_method_27_code, 2, some .int, 2, [])
theorem mtE91 : mtab[91]? = some mt91 := rfl
abbrev mt92 : Mt := (7, ⟨"Cubecaller$Space", "chosenCell", "()I"⟩, prog_9_method_9_code, 1, some .int, 1, [])
theorem mtE92 : mtab[92]? = some mt92 := rfl
abbrev mt93 : Mt := (10, ⟨"Cubecaller", "withMember", "(III)I"⟩, prog_1_method_34_code, 4, some .int, 3, [])
theorem mtE93 : mtab[93]? = some mt93 := rfl
abbrev mt94 : Mt := (6, ⟨"Cubecaller$Reckoner", "valueOf", "(II)J"⟩, prog_8_method_4_code, 4, some .long, 3, [])
theorem mtE94 : mtab[94]? = some mt94 := rfl
abbrev mt95 : Mt := (6, ⟨"Cubecaller$Reckoner", "plainValue", "(I)J"⟩, prog_8_method_12_code, 3, some .long, 2, [])
theorem mtE95 : mtab[95]? = some mt95 := rfl
abbrev mt96 : Mt := (6, ⟨"Cubecaller$Reckoner", "meansNothing", "(I)Z"⟩, prog_8_method_13_code, 5, some .boolean, 2, [])
theorem mtE96 : mtab[96]? = some mt96 := rfl
abbrev mt97 : Mt := (4, ⟨"Cubecaller$Measures", "leastDepth", "(II)I"⟩, prog_6_method_6_code, 4, some .int, 3, [])
theorem mtE97 : mtab[97]? = some mt97 := rfl
abbrev mt98 : Mt := (6, ⟨"Cubecaller$Reckoner", "gather", "(II)V"⟩, prog_8_method_15_code, 5, none, 3, [])
theorem mtE98 : mtab[98]? = some mt98 := rfl
abbrev mt99 : Mt := (6, ⟨"Cubecaller$Reckoner", "ofGathered", "(I)J"⟩, prog_8_method_14_code, 3, some .long, 2, [])
theorem mtE99 : mtab[99]? = some mt99 := rfl
abbrev mt100 : Mt := (6, ⟨"Cubecaller$Reckoner", "ratio", "(JJ)J"⟩, prog_8_method_11_code, 4, some .long, 2, [])
theorem mtE100 : mtab[100]? = some mt100 := rfl
abbrev mt101 : Mt := (10, ⟨"Cubecaller", "bounded", "(J)J"⟩, prog_1_method_35_code, 2, some .long, 1, [])
theorem mtE101 : mtab[101]? = some mt101 := rfl
abbrev mt102 : Mt := (6, ⟨"Cubecaller$Reckoner", "different", "()J"⟩, prog_8_method_20_code, 5, some .long, 1, [])
theorem mtE102 : mtab[102]? = some mt102 := rfl
abbrev mt103 : Mt := (6, ⟨"Cubecaller$Reckoner", "lastPlace", "()I"⟩, prog_8_method_18_code, 3, some .int, 1, [])
theorem mtE103 : mtab[103]? = some mt103 := rfl
abbrev mt104 : Mt := (6, ⟨"Cubecaller$Reckoner", "sum", "(I)J"⟩, prog_8_method_19_code, 5, some .long, 2, [])
theorem mtE104 : mtab[104]? = some mt104 := rfl
abbrev mt105 : Mt := (6, ⟨"Cubecaller$Reckoner", "formulaValue", "(III)J"⟩, prog_8_method_5_code, 10, some .long, 4, [])
theorem mtE105 : mtab[105]? = some mt105 := rfl
abbrev mt106 : Mt := (0, ⟨"Cubecaller$Dimension", "formulaOf", "(I)LCubecaller$Formula;"⟩, prog_2_method_8_code, 2, some (.object "Cubecaller$Formula"), 2, [])
theorem mtE106 : mtab[106]? = some mt106 := rfl
abbrev mt107 : Mt := (6, ⟨"Cubecaller$Reckoner", "toDate", "(II)J"⟩, prog_8_method_7_code, 8, some .long, 3, [])
theorem mtE107 : mtab[107]? = some mt107 := rfl
abbrev mt108 : Mt := (6, ⟨"Cubecaller$Reckoner", "plus", "(JJI)J"⟩, prog_8_method_9_code, 5, some .long, 3, [])
theorem mtE108 : mtab[108]? = some mt108 := rfl
abbrev mt109 : Mt := (6, ⟨"Cubecaller$Reckoner", "back", "(III)J"⟩, prog_8_method_6_code, 6, some .long, 4, [])
theorem mtE109 : mtab[109]? = some mt109 := rfl
abbrev mt110 : Mt := (9, ⟨"Cubecaller$TimeOrder", "ahead", "(IILCubecaller$Dimension;)I"⟩, prog_11_method_4_code, 6, some .int, 4, [])
theorem mtE110 : mtab[110]? = some mt110 := rfl
abbrev mt111 : Mt := (6, ⟨"Cubecaller$Reckoner", "joined", "(IJJ)J"⟩, prog_8_method_8_code, 5, some .long, 3, [])
theorem mtE111 : mtab[111]? = some mt111 := rfl
abbrev mt112 : Mt := (6, ⟨"Cubecaller$Reckoner", "product", "(JJ)J"⟩, prog_8_method_10_code, 4, some .long, 2, [])
theorem mtE112 : mtab[112]? = some mt112 := rfl
abbrev mt113 : Mt := (6, ⟨"Cubecaller$Reckoner", "rank", "(LCubecaller$Dimension;IIJ)V"⟩, prog_8_method_22_code, 7, none, 5, [])
theorem mtE113 : mtab[113]? = some mt113 := rfl
abbrev mt114 : Mt := (12, ⟨"CubecallerLaw", "tell", "(LCubecaller;[I)[I"⟩, method_15_code, 7, some (.array .int), 2, [])
theorem mtE114 : mtab[114]? = some mt114 := rfl
abbrev mt115 : Mt := (10, ⟨"Cubecaller", "memberAt", "(III)I"⟩, prog_1_method_6_code, 5, some .int, 4, [])
theorem mtE115 : mtab[115]? = some mt115 := rfl
abbrev mt116 : Mt := (0, ⟨"Cubecaller$Dimension", "kindOf", "(I)I"⟩, prog_2_method_3_code, 2, some .int, 2, [])
theorem mtE116 : mtab[116]? = some mt116 := rfl
abbrev mt117 : Mt := (10, ⟨"Cubecaller", "cellAnew", "(IIII)J"⟩, prog_1_method_16_code, 6, some .long, 5, [])
theorem mtE117 : mtab[117]? = some mt117 := rfl
abbrev mt118 : Mt := (6, ⟨"Cubecaller$Reckoner", "asAsked", "(I)J"⟩, prog_8_method_3_code, 2, some .long, 2, [])
theorem mtE118 : mtab[118]? = some mt118 := rfl
abbrev mt119 : Mt := (10, ⟨"Cubecaller", "facts", "()I"⟩, prog_1_method_26_code, 1, some .int, 1, [])
theorem mtE119 : mtab[119]? = some mt119 := rfl
abbrev mt120 : Mt := (10, ⟨"Cubecaller", "kept", "()I"⟩, prog_1_method_17_code, 1, some .int, 1, [])
theorem mtE120 : mtab[120]? = some mt120 := rfl
abbrev mt121 : Mt := (10, ⟨"Cubecaller", "hits", "()I"⟩, prog_1_method_18_code, 1, some .int, 1, [])
theorem mtE121 : mtab[121]? = some mt121 := rfl
abbrev mt122 : Mt := (12, ⟨"CubecallerLaw", "same", "([I[I)Z"⟩, method_16_code, 3, some .boolean, 2, [])
theorem mtE122 : mtab[122]? = some mt122 := rfl
abbrev mt123 : Mt := (12, ⟨"CubecallerLaw", "asks", "(LCubecaller;[II)Z"⟩, method_17_code, 22, some .boolean, 3, [])
theorem mtE123 : mtab[123]? = some mt123 := rfl
abbrev mt124 : Mt := (10, ⟨"Cubecaller", "cell", "(IIII)J"⟩, prog_1_method_15_code, 9, some .long, 5, [])
theorem mtE124 : mtab[124]? = some mt124 := rfl
abbrev mt125 : Mt := (3, ⟨"Cubecaller$KeptResults", "find", "(II)I"⟩, prog_5_method_3_code, 4, some .int, 3, [])
theorem mtE125 : mtab[125]? = some mt125 := rfl
abbrev mt126 : Mt := (3, ⟨"Cubecaller$KeptResults", "valueAt", "(I)J"⟩, prog_5_method_6_code, 2, some .long, 2, [])
theorem mtE126 : mtab[126]? = some mt126 := rfl
abbrev mt127 : Mt := (3, ⟨"Cubecaller$KeptResults", "keep", "(IIJ)V"⟩, prog_5_method_8_code, 6, none, 4, [])
theorem mtE127 : mtab[127]? = some mt127 := rfl
abbrev mt128 : Mt := (10, ⟨"Cubecaller", "at", "(II)I"⟩, prog_1_method_19_code, 5, some .int, 3, [])
theorem mtE128 : mtab[128]? = some mt128 := rfl
abbrev mt129 : Mt := (10, ⟨"Cubecaller", "picked", "(II)I"⟩, prog_1_method_21_code, 4, some .int, 3, [])
theorem mtE129 : mtab[129]? = some mt129 := rfl
abbrev mt130 : Mt := (10, ⟨"Cubecaller", "cross", "(III)I"⟩, prog_1_method_22_code, 10, some .int, 4, [])
theorem mtE130 : mtab[130]? = some mt130 := rfl
abbrev mt131 : Mt := (12, ⟨"CubecallerLaw", "act", "(LCubecaller;[III)I"⟩, method_18_code, 8, some .int, 4, [])
theorem mtE131 : mtab[131]? = some mt131 := rfl
abbrev mt132 : Mt := (12, ⟨"CubecallerLaw", "moves", "(LCubecaller;IIII)I"⟩, method_6_code, 6, some .int, 5, [(0, 9, 10, 15), (0, 9, 15, 19)])
theorem mtE132 : mtab[132]? = some mt132 := rfl
abbrev mt133 : Mt := (10, ⟨"Cubecaller", "move", "(IIII)I"⟩, prog_1_method_4_code, 7, some .int, 5, [])
theorem mtE133 : mtab[133]? = some mt133 := rfl
abbrev mt134 : Mt := (7, ⟨"Cubecaller$Space", "movesTold", "()I"⟩, prog_9_method_3_code, 1, some .int, 1, [])
theorem mtE134 : mtab[134]? = some mt134 := rfl
abbrev mt135 : Mt := (5, ⟨"Cubecaller$Moves", "tell", "(III)V"⟩, prog_7_method_2_code, 4, none, 4, [])
theorem mtE135 : mtab[135]? = some mt135 := rfl
abbrev mt136 : Mt := (10, ⟨"Cubecaller", "asNow", "(Z)Z"⟩, prog_1_method_5_code, 3, some .boolean, 2, [])
theorem mtE136 : mtab[136]? = some mt136 := rfl
abbrev mt137 : Mt := (10, ⟨"Cubecaller", "totals", "(Z)Z"⟩, prog_1_method_10_code, 3, some .boolean, 2, [])
theorem mtE137 : mtab[137]? = some mt137 := rfl
abbrev mt138 : Mt := (10, ⟨"Cubecaller", "hide", "(IIZ)Z"⟩, prog_1_method_9_code, 6, some .boolean, 4, [])
theorem mtE138 : mtab[138]? = some mt138 := rfl
abbrev mt139 : Mt := (0, ⟨"Cubecaller$Dimension", "setHidden", "(IZ)Z"⟩, prog_2_method_16_code, 4, some .boolean, 3, [])
theorem mtE139 : mtab[139]? = some mt139 := rfl
abbrev mt140 : Mt := (12, ⟨"CubecallerLaw", "grow", "([II)I"⟩, method_19_code, 2, some .int, 2, [])
theorem mtE140 : mtab[140]? = some mt140 := rfl
abbrev mt141 : Mt := (10, ⟨"Cubecaller", "from", "(III)I"⟩, prog_1_method_12_code, 5, some .int, 4, [])
theorem mtE141 : mtab[141]? = some mt141 := rfl
abbrev mt142 : Mt := (4, ⟨"Cubecaller$Measures", "setLeastDepth", "(III)I"⟩, prog_6_method_7_code, 5, some .int, 4, [])
theorem mtE142 : mtab[142]? = some mt142 := rfl
abbrev mt143 : Mt := (12, ⟨"CubecallerLaw", "writes", "(LCubecaller;IIIIII)I"⟩, method_11_code, 8, some .int, 7, [(0, 13, 14, 15), (0, 13, 19, 17), (0, 13, 24, 19)])
theorem mtE143 : mtab[143]? = some mt143 := rfl
abbrev mt144 : Mt := (10, ⟨"Cubecaller", "write", "(IIIIII)I"⟩, prog_1_method_23_code, 9, some .int, 7, [])
theorem mtE144 : mtab[144]? = some mt144 := rfl
abbrev mt145 : Mt := (6, ⟨"Cubecaller$Reckoner", "allWeighOne", "()Z"⟩, prog_8_method_17_code, 2, some .boolean, 1, [])
theorem mtE145 : mtab[145]? = some mt145 := rfl
abbrev mt146 : Mt := (8, ⟨"Cubecaller$Spread", "start", "(IJ)V"⟩, prog_10_method_2_code, 4, none, 3, [])
theorem mtE146 : mtab[146]? = some mt146 := rfl
abbrev mt147 : Mt := (6, ⟨"Cubecaller$Reckoner", "rowAt", "(I)I"⟩, prog_8_method_16_code, 2, some .int, 2, [])
theorem mtE147 : mtab[147]? = some mt147 := rfl
abbrev mt148 : Mt := (8, ⟨"Cubecaller$Spread", "own", "(IJ)V"⟩, prog_10_method_3_code, 4, none, 3, [])
theorem mtE148 : mtab[148]? = some mt148 := rfl
abbrev mt149 : Mt := (8, ⟨"Cubecaller$Spread", "share", "(I)V"⟩, prog_10_method_5_code, 6, none, 2, [])
theorem mtE149 : mtab[149]? = some mt149 := rfl
abbrev mt150 : Mt := (8, ⟨"Cubecaller$Spread", "leaveRest", "(J)V"⟩, prog_10_method_7_code, 4, none, 2, [])
theorem mtE150 : mtab[150]? = some mt150 := rfl
abbrev mt151 : Mt := (8, ⟨"Cubecaller$Spread", "byWeights", "(J)V"⟩, prog_10_method_8_code, 7, none, 2, [])
theorem mtE151 : mtab[151]? = some mt151 := rfl
abbrev mt152 : Mt := (8, ⟨"Cubecaller$Spread", "greatestRemainder", "()I"⟩, prog_10_method_9_code, 3, some .int, 1, [])
theorem mtE152 : mtab[152]? = some mt152 := rfl
abbrev mt153 : Mt := (8, ⟨"Cubecaller$Spread", "equally", "()V"⟩, prog_10_method_6_code, 2, none, 1, [])
theorem mtE153 : mtab[153]? = some mt153 := rfl
abbrev mt154 : Mt := (8, ⟨"Cubecaller$Spread", "inRange", "()Z"⟩, prog_10_method_10_code, 2, some .boolean, 1, [])
theorem mtE154 : mtab[154]? = some mt154 := rfl
abbrev mt155 : Mt := (10, ⟨"Cubecaller", "writeShares", "()I"⟩, prog_1_method_37_code, 3, some .int, 1, [])
theorem mtE155 : mtab[155]? = some mt155 := rfl
abbrev mt156 : Mt := (8, ⟨"Cubecaller$Spread", "shareAt", "(I)J"⟩, prog_10_method_4_code, 2, some .long, 2, [])
theorem mtE156 : mtab[156]? = some mt156 := rfl
abbrev mt157 : Mt := (12, ⟨"CubecallerLaw", "begins", "(LCubecaller;)I"⟩, method_14_code, 2, some .int, 1, [(0, 5, 6, 19)])
theorem mtE157 : mtab[157]? = some mt157 := rfl
abbrev mt158 : Mt := (10, ⟨"Cubecaller", "begin", "()V"⟩, prog_1_method_24_code, 1, none, 1, [])
theorem mtE158 : mtab[158]? = some mt158 := rfl
abbrev mt159 : Mt := (1, ⟨"Cubecaller$FactRows", "save", "()V"⟩, prog_3_method_10_code, 1, none, 1, [])
theorem mtE159 : mtab[159]? = some mt159 := rfl
abbrev mt160 : Mt := (12, ⟨"CubecallerLaw", "ends", "(LCubecaller;Z)I"⟩, method_13_code, 3, some .int, 2, [(0, 5, 6, 19)])
theorem mtE160 : mtab[160]? = some mt160 := rfl
abbrev mt161 : Mt := (10, ⟨"Cubecaller", "end", "(Z)I"⟩, prog_1_method_25_code, 2, some .int, 2, [])
theorem mtE161 : mtab[161]? = some mt161 := rfl
abbrev mt162 : Mt := (1, ⟨"Cubecaller$FactRows", "restore", "()V"⟩, prog_3_method_11_code, 1, none, 1, [])
theorem mtE162 : mtab[162]? = some mt162 := rfl
abbrev mt163 : Mt := (12, ⟨"CubecallerLaw", "law", "([I)Z"⟩, code, 8, some .boolean, 1, [])
theorem mtE163 : mtab[163]? = some mt163 := rfl
theorem rf_5_21 : rFld 5 21 = some (5, 0) := by decide +kernel
theorem rf_7_35 : rFld 7 35 = some (5, 0) := by decide +kernel
theorem rf_5_9 : rFld 5 9 = some (5, 1) := by decide +kernel
theorem rf_5_15 : rFld 5 15 = some (5, 2) := by decide +kernel
theorem rf_5_18 : rFld 5 18 = some (5, 3) := by decide +kernel
theorem rf_0_9 : rFld 0 9 = some (0, 0) := by decide +kernel
theorem rf_10_80 : rFld 10 80 = some (0, 0) := by decide +kernel
theorem rf_7_67 : rFld 7 67 = some (0, 1) := by decide +kernel
theorem rf_10_253 : rFld 10 253 = some (0, 1) := by decide +kernel
theorem rf_10_262 : rFld 10 262 = some (0, 2) := by decide +kernel
theorem rf_6_237 : rFld 6 237 = some (0, 2) := by decide +kernel
theorem rf_0_114 : rFld 0 114 = some (0, 2) := by decide +kernel
theorem rf_0_18 : rFld 0 18 = some (0, 3) := by decide +kernel
theorem rf_7_31 : rFld 7 31 = some (0, 3) := by decide +kernel
theorem rf_10_140 : rFld 10 140 = some (0, 3) := by decide +kernel
theorem rf_0_22 : rFld 0 22 = some (0, 4) := by decide +kernel
theorem rf_0_26 : rFld 0 26 = some (0, 5) := by decide +kernel
theorem rf_0_29 : rFld 0 29 = some (0, 6) := by decide +kernel
theorem rf_0_32 : rFld 0 32 = some (0, 7) := by decide +kernel
theorem rf_0_35 : rFld 0 35 = some (0, 8) := by decide +kernel
theorem rf_0_38 : rFld 0 38 = some (0, 9) := by decide +kernel
theorem rf_0_44 : rFld 0 44 = some (0, 10) := by decide +kernel
theorem rf_0_48 : rFld 0 48 = some (0, 11) := by decide +kernel
theorem rf_6_253 : rFld 6 253 = some (0, 11) := by decide +kernel
theorem rf_0_51 : rFld 0 51 = some (0, 12) := by decide +kernel
theorem rf_0_54 : rFld 0 54 = some (0, 13) := by decide +kernel
theorem rf_0_57 : rFld 0 57 = some (0, 14) := by decide +kernel
theorem rf_0_62 : rFld 0 62 = some (0, 15) := by decide +kernel
theorem rf_9_9 : rFld 9 9 = some (9, 0) := by decide +kernel
theorem rf_0_96 : rFld 0 96 = some (9, 0) := by decide +kernel
theorem rf_9_15 : rFld 9 15 = some (9, 1) := by decide +kernel
theorem rf_0_99 : rFld 0 99 = some (9, 1) := by decide +kernel
theorem rf_9_19 : rFld 9 19 = some (9, 2) := by decide +kernel
theorem rf_7_12 : rFld 7 12 = some (7, 0) := by decide +kernel
theorem rf_10_127 : rFld 10 127 = some (7, 0) := by decide +kernel
theorem rf_6_122 : rFld 6 122 = some (7, 0) := by decide +kernel
theorem rf_7_18 : rFld 7 18 = some (7, 1) := by decide +kernel
theorem rf_10_340 : rFld 10 340 = some (7, 1) := by decide +kernel
theorem rf_7_21 : rFld 7 21 = some (7, 2) := by decide +kernel
theorem rf_10_343 : rFld 10 343 = some (7, 2) := by decide +kernel
theorem rf_7_27 : rFld 7 27 = some (7, 3) := by decide +kernel
theorem rf_10_92 : rFld 10 92 = some (7, 3) := by decide +kernel
theorem rf_6_129 : rFld 6 129 = some (7, 3) := by decide +kernel
theorem rf_10_149 : rFld 10 149 = some (7, 4) := by decide +kernel
theorem rf_7_75 : rFld 7 75 = some (7, 4) := by decide +kernel
theorem rf_7_70 : rFld 7 70 = some (7, 5) := by decide +kernel
theorem rf_10_190 : rFld 10 190 = some (7, 5) := by decide +kernel
theorem rf_4_27 : rFld 4 27 = some (4, 0) := by decide +kernel
theorem rf_10_197 : rFld 10 197 = some (4, 0) := by decide +kernel
theorem rf_4_9 : rFld 4 9 = some (4, 1) := by decide +kernel
theorem rf_4_15 : rFld 4 15 = some (4, 2) := by decide +kernel
theorem rf_6_196 : rFld 6 196 = some (4, 2) := by decide +kernel
theorem rf_4_18 : rFld 4 18 = some (4, 3) := by decide +kernel
theorem rf_6_199 : rFld 6 199 = some (4, 3) := by decide +kernel
theorem rf_4_21 : rFld 4 21 = some (4, 4) := by decide +kernel
theorem rf_4_24 : rFld 4 24 = some (4, 5) := by decide +kernel
theorem rf_1_30 : rFld 1 30 = some (1, 0) := by decide +kernel
theorem rf_10_214 : rFld 10 214 = some (1, 0) := by decide +kernel
theorem rf_6_216 : rFld 6 216 = some (1, 0) := by decide +kernel
theorem rf_1_42 : rFld 1 42 = some (1, 1) := by decide +kernel
theorem rf_1_38 : rFld 1 38 = some (1, 2) := by decide +kernel
theorem rf_10_313 : rFld 10 313 = some (1, 2) := by decide +kernel
theorem rf_1_9 : rFld 1 9 = some (1, 3) := by decide +kernel
theorem rf_1_15 : rFld 1 15 = some (1, 4) := by decide +kernel
theorem rf_1_18 : rFld 1 18 = some (1, 5) := by decide +kernel
theorem rf_1_21 : rFld 1 21 = some (1, 6) := by decide +kernel
theorem rf_1_24 : rFld 1 24 = some (1, 7) := by decide +kernel
theorem rf_1_27 : rFld 1 27 = some (1, 8) := by decide +kernel
theorem rf_3_22 : rFld 3 22 = some (3, 0) := by decide +kernel
theorem rf_10_252 : rFld 10 252 = some (3, 0) := by decide +kernel
theorem rf_10_235 : rFld 10 235 = some (3, 1) := by decide +kernel
theorem rf_3_9 : rFld 3 9 = some (3, 2) := by decide +kernel
theorem rf_3_15 : rFld 3 15 = some (3, 3) := by decide +kernel
theorem rf_3_18 : rFld 3 18 = some (3, 4) := by decide +kernel
theorem rf_8_27 : rFld 8 27 = some (8, 0) := by decide +kernel
theorem rf_8_31 : rFld 8 31 = some (8, 1) := by decide +kernel
theorem rf_8_9 : rFld 8 9 = some (8, 2) := by decide +kernel
theorem rf_8_15 : rFld 8 15 = some (8, 3) := by decide +kernel
theorem rf_8_18 : rFld 8 18 = some (8, 4) := by decide +kernel
theorem rf_6_37 : rFld 6 37 = some (6, 0) := by decide +kernel
theorem rf_6_41 : rFld 6 41 = some (6, 1) := by decide +kernel
theorem rf_6_45 : rFld 6 45 = some (6, 2) := by decide +kernel
theorem rf_6_49 : rFld 6 49 = some (6, 3) := by decide +kernel
theorem rf_6_53 : rFld 6 53 = some (6, 4) := by decide +kernel
theorem rf_6_9 : rFld 6 9 = some (6, 5) := by decide +kernel
theorem rf_6_15 : rFld 6 15 = some (6, 6) := by decide +kernel
theorem rf_6_19 : rFld 6 19 = some (6, 7) := by decide +kernel
theorem rf_6_22 : rFld 6 22 = some (6, 8) := by decide +kernel
theorem rf_6_202 : rFld 6 202 = some (6, 9) := by decide +kernel
theorem rf_10_287 : rFld 10 287 = some (6, 9) := by decide +kernel
theorem rf_6_25 : rFld 6 25 = some (6, 10) := by decide +kernel
theorem rf_6_28 : rFld 6 28 = some (6, 11) := by decide +kernel
theorem rf_6_31 : rFld 6 31 = some (6, 12) := by decide +kernel
theorem rf_6_34 : rFld 6 34 = some (6, 13) := by decide +kernel
theorem rf_2_21 : rFld 2 21 = some (2, 0) := by decide +kernel
theorem rf_6_94 : rFld 6 94 = some (2, 0) := by decide +kernel
theorem rf_10_173 : rFld 10 173 = some (2, 0) := by decide +kernel
theorem rf_2_25 : rFld 2 25 = some (2, 1) := by decide +kernel
theorem rf_10_174 : rFld 10 174 = some (2, 1) := by decide +kernel
theorem rf_2_9 : rFld 2 9 = some (2, 2) := by decide +kernel
theorem rf_6_99 : rFld 6 99 = some (2, 2) := by decide +kernel
theorem rf_2_15 : rFld 2 15 = some (2, 3) := by decide +kernel
theorem rf_6_102 : rFld 6 102 = some (2, 3) := by decide +kernel
theorem rf_2_18 : rFld 2 18 = some (2, 4) := by decide +kernel
theorem rf_6_112 : rFld 6 112 = some (2, 4) := by decide +kernel
theorem rf_10_12 : rFld 10 12 = some (10, 0) := by decide +kernel
theorem rf_10_21 : rFld 10 21 = some (10, 1) := by decide +kernel
theorem rf_10_28 : rFld 10 28 = some (10, 2) := by decide +kernel
theorem rf_10_35 : rFld 10 35 = some (10, 3) := by decide +kernel
theorem rf_10_42 : rFld 10 42 = some (10, 4) := by decide +kernel
theorem rf_10_51 : rFld 10 51 = some (10, 5) := by decide +kernel
theorem rf_10_58 : rFld 10 58 = some (10, 6) := by decide +kernel
theorem rm_12_153 : rMth 12 153 = some (2, 0) := by decide +kernel
theorem rm_10_3 : rMth 10 3 = some (16, 0) := by decide +kernel
theorem rm_10_11 : rMth 10 11 = some (5, 1) := by decide +kernel
theorem rm_7_3 : rMth 7 3 = some (16, 0) := by decide +kernel
theorem rm_7_11 : rMth 7 11 = some (2, 2) := by decide +kernel
theorem rm_0_3 : rMth 0 3 = some (16, 0) := by decide +kernel
theorem rm_0_17 : rMth 0 17 = some (5, 3) := by decide +kernel
theorem rm_5_3 : rMth 5 3 = some (16, 0) := by decide +kernel
theorem rm_7_26 : rMth 7 26 = some (2, 4) := by decide +kernel
theorem rm_9_3 : rMth 9 3 = some (16, 0) := by decide +kernel
theorem rm_9_22 : rMth 9 22 = some (1, 5) := by decide +kernel
theorem rm_10_20 : rMth 10 20 = some (5, 6) := by decide +kernel
theorem rm_4_3 : rMth 4 3 = some (16, 0) := by decide +kernel
theorem rm_10_27 : rMth 10 27 = some (5, 7) := by decide +kernel
theorem rm_1_3 : rMth 1 3 = some (16, 0) := by decide +kernel
theorem rm_10_34 : rMth 10 34 = some (5, 8) := by decide +kernel
theorem rm_3_3 : rMth 3 3 = some (16, 0) := by decide +kernel
theorem rm_10_41 : rMth 10 41 = some (5, 9) := by decide +kernel
theorem rm_8_3 : rMth 8 3 = some (16, 0) := by decide +kernel
theorem rm_10_48 : rMth 10 48 = some (2, 10) := by decide +kernel
theorem rm_6_3 : rMth 6 3 = some (16, 0) := by decide +kernel
theorem rm_10_57 : rMth 10 57 = some (5, 11) := by decide +kernel
theorem rm_2_3 : rMth 2 3 = some (16, 0) := by decide +kernel
theorem rm_12_9 : rMth 12 9 = some (0, 12) := by decide +kernel
theorem rm_10_62 : rMth 10 62 = some (0, 13) := by decide +kernel
theorem rm_10_324 : rMth 10 324 = some (0, 14) := by decide +kernel
theorem rm_10_66 : rMth 10 66 = some (1, 15) := by decide +kernel
theorem rm_10_327 : rMth 10 327 = some (0, 16) := by decide +kernel
theorem rm_10_70 : rMth 10 70 = some (1, 17) := by decide +kernel
theorem rm_10_74 : rMth 10 74 = some (0, 18) := by decide +kernel
theorem rm_0_65 : rMth 0 65 = some (0, 16) := by decide +kernel
theorem rm_10_84 : rMth 10 84 = some (1, 19) := by decide +kernel
theorem rm_10_88 : rMth 10 88 = some (0, 20) := by decide +kernel
theorem rm_0_72 : rMth 0 72 = some (0, 21) := by decide +kernel
theorem rm_10_96 : rMth 10 96 = some (0, 22) := by decide +kernel
theorem rm_9_28 : rMth 9 28 = some (0, 23) := by decide +kernel
theorem rm_9_32 : rMth 9 32 = some (0, 24) := by decide +kernel
theorem rm_10_102 : rMth 10 102 = some (0, 25) := by decide +kernel
theorem rm_7_41 : rMth 7 41 = some (0, 26) := by decide +kernel
theorem rm_0_69 : rMth 0 69 = some (0, 18) := by decide +kernel
theorem rm_0_92 : rMth 0 92 = some (0, 27) := by decide +kernel
theorem rm_5_25 : rMth 5 25 = some (0, 23) := by decide +kernel
theorem rm_0_76 : rMth 0 76 = some (0, 28) := by decide +kernel
theorem rm_0_79 : rMth 0 79 = some (0, 24) := by decide +kernel
theorem rm_0_82 : rMth 0 82 = some (0, 29) := by decide +kernel
theorem rm_0_85 : rMth 0 85 = some (0, 30) := by decide +kernel
theorem rm_0_88 : rMth 0 88 = some (0, 31) := by decide +kernel
theorem rm_0_102 : rMth 0 102 = some (0, 32) := by decide +kernel
theorem rm_0_106 : rMth 0 106 = some (0, 33) := by decide +kernel
theorem rm_0_110 : rMth 0 110 = some (0, 34) := by decide +kernel
theorem rm_10_105 : rMth 10 105 = some (0, 35) := by decide +kernel
theorem rm_12_35 : rMth 12 35 = some (0, 36) := by decide +kernel
theorem rm_10_193 : rMth 10 193 = some (0, 37) := by decide +kernel
theorem rm_10_330 : rMth 10 330 = some (0, 38) := by decide +kernel
theorem rm_10_198 : rMth 10 198 = some (0, 39) := by decide +kernel
theorem rm_4_31 : rMth 4 31 = some (0, 38) := by decide +kernel
theorem rm_12_154 : rMth 12 154 = some (1, 40) := by decide +kernel
theorem rm_12_59 : rMth 12 59 = some (1, 41) := by decide +kernel
theorem rm_12_100 : rMth 12 100 = some (1, 42) := by decide +kernel
theorem rm_12_104 : rMth 12 104 = some (1, 43) := by decide +kernel
theorem rm_12_21 : rMth 12 21 = some (0, 44) := by decide +kernel
theorem rm_10_115 : rMth 10 115 = some (1, 45) := by decide +kernel
theorem rm_10_121 : rMth 10 121 = some (0, 46) := by decide +kernel
theorem rm_10_124 : rMth 10 124 = some (0, 47) := by decide +kernel
theorem rm_12_123 : rMth 12 123 = some (1, 48) := by decide +kernel
theorem rm_12_29 : rMth 12 29 = some (0, 49) := by decide +kernel
theorem rm_10_167 : rMth 10 167 = some (0, 50) := by decide +kernel
theorem rm_10_170 : rMth 10 170 = some (0, 51) := by decide +kernel
theorem rm_12_126 : rMth 12 126 = some (1, 52) := by decide +kernel
theorem rm_12_32 : rMth 12 32 = some (0, 53) := by decide +kernel
theorem rm_10_177 : rMth 10 177 = some (0, 54) := by decide +kernel
theorem rm_10_180 : rMth 10 180 = some (0, 55) := by decide +kernel
theorem rm_12_129 : rMth 12 129 = some (1, 56) := by decide +kernel
theorem rm_12_151 : rMth 12 151 = some (1, 57) := by decide +kernel
theorem rm_12_38 : rMth 12 38 = some (0, 58) := by decide +kernel
theorem rm_10_205 : rMth 10 205 = some (0, 59) := by decide +kernel
theorem rm_10_209 : rMth 10 209 = some (0, 60) := by decide +kernel
theorem rm_7_45 : rMth 7 45 = some (4, 61) := by decide +kernel
theorem rm_7_49 : rMth 7 49 = some (0, 18) := by decide +kernel
theorem rm_10_210 : rMth 10 210 = some (0, 62) := by decide +kernel
theorem rm_10_211 : rMth 10 211 = some (0, 63) := by decide +kernel
theorem rm_10_215 : rMth 10 215 = some (0, 64) := by decide +kernel
theorem rm_10_217 : rMth 10 217 = some (0, 65) := by decide +kernel
theorem rm_10_373 : rMth 10 373 = some (0, 66) := by decide +kernel
theorem rm_3_26 : rMth 3 26 = some (0, 67) := by decide +kernel
theorem rm_10_374 : rMth 10 374 = some (0, 68) := by decide +kernel
theorem rm_10_375 : rMth 10 375 = some (0, 69) := by decide +kernel
theorem rm_10_281 : rMth 10 281 = some (0, 70) := by decide +kernel
theorem rm_7_56 : rMth 7 56 = some (0, 71) := by decide +kernel
theorem rm_7_60 : rMth 7 60 = some (0, 14) := by decide +kernel
theorem rm_7_64 : rMth 7 64 = some (0, 72) := by decide +kernel
theorem rm_10_378 : rMth 10 378 = some (0, 73) := by decide +kernel
theorem rm_7_74 : rMth 7 74 = some (0, 74) := by decide +kernel
theorem rm_7_53 : rMth 7 53 = some (0, 29) := by decide +kernel
theorem rm_7_78 : rMth 7 78 = some (0, 75) := by decide +kernel
theorem rm_10_381 : rMth 10 381 = some (0, 76) := by decide +kernel
theorem rm_10_221 : rMth 10 221 = some (0, 77) := by decide +kernel
theorem rm_10_225 : rMth 10 225 = some (0, 78) := by decide +kernel
theorem rm_1_34 : rMth 1 34 = some (0, 79) := by decide +kernel
theorem rm_10_362 : rMth 10 362 = some (0, 80) := by decide +kernel
theorem rm_10_364 : rMth 10 364 = some (0, 81) := by decide +kernel
theorem rm_10_367 : rMth 10 367 = some (0, 82) := by decide +kernel
theorem rm_12_88 : rMth 12 88 = some (1, 83) := by decide +kernel
theorem rm_12_46 : rMth 12 46 = some (0, 84) := by decide +kernel
theorem rm_10_256 : rMth 10 256 = some (0, 85) := by decide +kernel
theorem rm_0_117 : rMth 0 117 = some (0, 86) := by decide +kernel
theorem rm_0_121 : rMth 0 121 = some (0, 87) := by decide +kernel
theorem rm_0_124 : rMth 0 124 = some (0, 88) := by decide +kernel
theorem rm_10_242 : rMth 10 242 = some (0, 89) := by decide +kernel
theorem rm_10_259 : rMth 10 259 = some (0, 90) := by decide +kernel
theorem rm_6_80 : rMth 6 80 = some (0, 14) := by decide +kernel
theorem rm_6_240 : rMth 6 240 = some (0, 91) := by decide +kernel
theorem rm_6_243 : rMth 6 243 = some (0, 92) := by decide +kernel
theorem rm_6_105 : rMth 6 105 = some (4, 93) := by decide +kernel
theorem rm_10_346 : rMth 10 346 = some (1, 61) := by decide +kernel
theorem rm_6_56 : rMth 6 56 = some (0, 74) := by decide +kernel
theorem rm_6_62 : rMth 6 62 = some (0, 94) := by decide +kernel
theorem rm_6_68 : rMth 6 68 = some (0, 71) := by decide +kernel
theorem rm_6_72 : rMth 6 72 = some (0, 95) := by decide +kernel
theorem rm_6_168 : rMth 6 168 = some (0, 96) := by decide +kernel
theorem rm_6_84 : rMth 6 84 = some (4, 61) := by decide +kernel
theorem rm_6_126 : rMth 6 126 = some (0, 18) := by decide +kernel
theorem rm_6_187 : rMth 6 187 = some (0, 24) := by decide +kernel
theorem rm_6_190 : rMth 6 190 = some (0, 97) := by decide +kernel
theorem rm_6_171 : rMth 6 171 = some (0, 69) := by decide +kernel
theorem rm_6_177 : rMth 6 177 = some (0, 98) := by decide +kernel
theorem rm_6_219 : rMth 6 219 = some (0, 82) := by decide +kernel
theorem rm_6_222 : rMth 6 222 = some (0, 81) := by decide +kernel
theorem rm_6_225 : rMth 6 225 = some (0, 73) := by decide +kernel
theorem rm_6_228 : rMth 6 228 = some (0, 23) := by decide +kernel
theorem rm_6_181 : rMth 6 181 = some (0, 99) := by decide +kernel
theorem rm_6_193 : rMth 6 193 = some (0, 62) := by decide +kernel
theorem rm_6_150 : rMth 6 150 = some (1, 100) := by decide +kernel
theorem rm_6_153 : rMth 6 153 = some (4, 101) := by decide +kernel
theorem rm_10_353 : rMth 10 353 = some (13, 0) := by decide +kernel
theorem rm_10_359 : rMth 10 359 = some (12, 0) := by decide +kernel
theorem rm_6_205 : rMth 6 205 = some (0, 102) := by decide +kernel
theorem rm_6_234 : rMth 6 234 = some (0, 78) := by decide +kernel
theorem rm_6_209 : rMth 6 209 = some (0, 103) := by decide +kernel
theorem rm_6_231 : rMth 6 231 = some (10, 0) := by decide +kernel
theorem rm_6_213 : rMth 6 213 = some (0, 104) := by decide +kernel
theorem rm_6_184 : rMth 6 184 = some (0, 38) := by decide +kernel
theorem rm_6_76 : rMth 6 76 = some (0, 105) := by decide +kernel
theorem rm_6_88 : rMth 6 88 = some (0, 106) := by decide +kernel
theorem rm_6_109 : rMth 6 109 = some (0, 107) := by decide +kernel
theorem rm_6_139 : rMth 6 139 = some (0, 88) := by decide +kernel
theorem rm_6_142 : rMth 6 142 = some (1, 108) := by decide +kernel
theorem rm_6_115 : rMth 6 115 = some (0, 109) := by decide +kernel
theorem rm_6_133 : rMth 6 133 = some (0, 110) := by decide +kernel
theorem rm_6_118 : rMth 6 118 = some (1, 111) := by decide +kernel
theorem rm_6_146 : rMth 6 146 = some (1, 112) := by decide +kernel
theorem rm_6_157 : rMth 6 157 = some (14, 0) := by decide +kernel
theorem rm_6_246 : rMth 6 246 = some (0, 113) := by decide +kernel
theorem rm_6_250 : rMth 6 250 = some (11, 0) := by decide +kernel
theorem rm_12_156 : rMth 12 156 = some (1, 114) := by decide +kernel
theorem rm_12_56 : rMth 12 56 = some (0, 115) := by decide +kernel
theorem rm_10_153 : rMth 10 153 = some (0, 116) := by decide +kernel
theorem rm_10_137 : rMth 10 137 = some (0, 88) := by decide +kernel
theorem rm_10_156 : rMth 10 156 = some (0, 24) := by decide +kernel
theorem rm_10_159 : rMth 10 159 = some (0, 23) := by decide +kernel
theorem rm_10_162 : rMth 10 162 = some (0, 29) := by decide +kernel
theorem rm_12_64 : rMth 12 64 = some (0, 117) := by decide +kernel
theorem rm_10_245 : rMth 10 245 = some (0, 118) := by decide +kernel
theorem rm_12_72 : rMth 12 72 = some (0, 119) := by decide +kernel
theorem rm_12_76 : rMth 12 76 = some (0, 120) := by decide +kernel
theorem rm_12_79 : rMth 12 79 = some (0, 121) := by decide +kernel
theorem rm_12_164 : rMth 12 164 = some (1, 122) := by decide +kernel
theorem rm_12_168 : rMth 12 168 = some (1, 123) := by decide +kernel
theorem rm_12_82 : rMth 12 82 = some (0, 124) := by decide +kernel
theorem rm_10_231 : rMth 10 231 = some (0, 74) := by decide +kernel
theorem rm_10_234 : rMth 10 234 = some (0, 125) := by decide +kernel
theorem rm_10_238 : rMth 10 238 = some (0, 126) := by decide +kernel
theorem rm_10_248 : rMth 10 248 = some (0, 127) := by decide +kernel
theorem rm_3_32 : rMth 3 32 = some (0, 76) := by decide +kernel
theorem rm_12_85 : rMth 12 85 = some (0, 128) := by decide +kernel
theorem rm_12_92 : rMth 12 92 = some (0, 129) := by decide +kernel
theorem rm_10_267 : rMth 10 267 = some (0, 91) := by decide +kernel
theorem rm_12_97 : rMth 12 97 = some (0, 130) := by decide +kernel
theorem rm_10_275 : rMth 10 275 = some (0, 92) := by decide +kernel
theorem rm_10_278 : rMth 10 278 = some (1, 93) := by decide +kernel
theorem rm_12_160 : rMth 12 160 = some (1, 131) := by decide +kernel
theorem rm_12_108 : rMth 12 108 = some (1, 132) := by decide +kernel
theorem rm_12_25 : rMth 12 25 = some (0, 133) := by decide +kernel
theorem rm_10_133 : rMth 10 133 = some (0, 134) := by decide +kernel
theorem rm_10_144 : rMth 10 144 = some (0, 135) := by decide +kernel
theorem rm_12_112 : rMth 12 112 = some (0, 136) := by decide +kernel
theorem rm_12_116 : rMth 12 116 = some (0, 137) := by decide +kernel
theorem rm_12_119 : rMth 12 119 = some (0, 138) := by decide +kernel
theorem rm_10_186 : rMth 10 186 = some (0, 139) := by decide +kernel
theorem rm_12_132 : rMth 12 132 = some (1, 140) := by decide +kernel
theorem rm_12_136 : rMth 12 136 = some (0, 141) := by decide +kernel
theorem rm_10_202 : rMth 10 202 = some (0, 142) := by decide +kernel
theorem rm_4_35 : rMth 4 35 = some (0, 97) := by decide +kernel
theorem rm_12_139 : rMth 12 139 = some (1, 143) := by decide +kernel
theorem rm_12_42 : rMth 12 42 = some (0, 144) := by decide +kernel
theorem rm_10_284 : rMth 10 284 = some (0, 98) := by decide +kernel
theorem rm_10_290 : rMth 10 290 = some (0, 145) := by decide +kernel
theorem rm_10_294 : rMth 10 294 = some (0, 146) := by decide +kernel
theorem rm_8_21 : rMth 8 21 = some (11, 0) := by decide +kernel
theorem rm_10_298 : rMth 10 298 = some (0, 147) := by decide +kernel
theorem rm_10_301 : rMth 10 301 = some (0, 148) := by decide +kernel
theorem rm_10_304 : rMth 10 304 = some (0, 149) := by decide +kernel
theorem rm_8_35 : rMth 8 35 = some (0, 150) := by decide +kernel
theorem rm_8_39 : rMth 8 39 = some (0, 151) := by decide +kernel
theorem rm_8_45 : rMth 8 45 = some (0, 152) := by decide +kernel
theorem rm_8_42 : rMth 8 42 = some (0, 153) := by decide +kernel
theorem rm_10_307 : rMth 10 307 = some (0, 154) := by decide +kernel
theorem rm_10_310 : rMth 10 310 = some (0, 155) := by decide +kernel
theorem rm_10_370 : rMth 10 370 = some (0, 156) := by decide +kernel
theorem rm_12_143 : rMth 12 143 = some (1, 157) := by decide +kernel
theorem rm_12_53 : rMth 12 53 = some (0, 158) := by decide +kernel
theorem rm_10_316 : rMth 10 316 = some (0, 159) := by decide +kernel
theorem rm_1_45 : rMth 1 45 = some (15, 0) := by decide +kernel
theorem rm_12_147 : rMth 12 147 = some (1, 160) := by decide +kernel
theorem rm_12_49 : rMth 12 49 = some (0, 161) := by decide +kernel
theorem rm_10_319 : rMth 10 319 = some (0, 162) := by decide +kernel
theorem rc_3_30 : rCst 3 30 = some (1, -9223372036854775808) := by decide +kernel
theorem rc_6_66 : rCst 6 66 = some (1, -9223372036854775808) := by decide +kernel
theorem rc_6_162 : rCst 6 162 = some (1, 1000000000000) := by decide +kernel
theorem rc_6_164 : rCst 6 164 = some (1, -1000000000000) := by decide +kernel
theorem rc_6_166 : rCst 6 166 = some (1, 1000) := by decide +kernel
theorem rc_8_49 : rCst 8 49 = some (1, -1) := by decide +kernel
theorem rc_8_51 : rCst 8 51 = some (1, -1000000) := by decide +kernel
theorem rc_8_53 : rCst 8 53 = some (1, 1000000) := by decide +kernel
theorem rc_10_165 : rCst 10 165 = some (0, -1000000) := by decide +kernel
theorem rc_10_166 : rCst 10 166 = some (0, 1000000) := by decide +kernel
theorem rc_10_232 : rCst 10 232 = some (1, -9223372036854775808) := by decide +kernel
theorem rc_10_349 : rCst 10 349 = some (1, -1000000000000) := by decide +kernel
theorem rc_10_351 : rCst 10 351 = some (1, 1000000000000) := by decide +kernel
theorem rc_12_7 : rCst 12 7 = some (0, 2752871) := by decide +kernel
theorem rc_12_8 : rCst 12 8 = some (0, 2147483647) := by decide +kernel
theorem rc_12_68 : rCst 12 68 = some (1, -9223372036854775808) := by decide +kernel
theorem rc_12_70 : rCst 12 70 = some (1, 1000000007) := by decide +kernel
theorem rc_12_95 : rCst 12 95 = some (1, 9223372036854775807) := by decide +kernel
theorem rc_13_265 : rCst 13 265 = some (0, 1431655765) := by decide +kernel
theorem rc_13_266 : rCst 13 266 = some (0, 858993459) := by decide +kernel
theorem rc_13_267 : rCst 13 267 = some (0, 252645135) := by decide +kernel
theorem rt_10_108 : rThr 10 108 = some 1 := by decide +kernel
theorem rt_10_270 : rThr 10 270 = some 2 := by decide +kernel
theorem rt_10_335 : rThr 10 335 = some 3 := by decide +kernel
theorem rt_12_15 : rThr 12 15 = some 1 := by decide +kernel
theorem rt_12_17 : rThr 12 17 = some 2 := by decide +kernel
theorem rt_12_19 : rThr 12 19 = some 3 := by decide +kernel
