/-! ===== the methods by number; what the pools say, row by row ===== -/
abbrev mt0 : Mt := (10, ⟨"Cubecaller", "<init>", "()V"⟩, prog_1_method_1_code, 1, none, 1, [])
theorem mtE0 : mtab[0]? = some mt0 := rfl
abbrev mt1 : Mt := (7, ⟨"Cubecaller$Space", "<init>", "()V"⟩, prog_9_method_1_code, 1, none, 1, [])
theorem mtE1 : mtab[1]? = some mt1 := rfl
abbrev mt2 : Mt := (0, ⟨"Cubecaller$Dimension", "<init>", "()V"⟩, prog_2_method_1_code, 2, none, 1, [])
theorem mtE2 : mtab[2]? = some mt2 := rfl
abbrev mt3 : Mt := (5, ⟨"Cubecaller$Moves", "<init>", "()V"⟩, prog_7_method_1_code, 1, none, 1, [])
theorem mtE3 : mtab[3]? = some mt3 := rfl
abbrev mt4 : Mt := (9, ⟨"Cubecaller$TimeOrder", "<init>", "()V"⟩, prog_11_method_1_code, 1, none, 1, [])
theorem mtE4 : mtab[4]? = some mt4 := rfl
abbrev mt5 : Mt := (14, ⟨"java/util/Arrays", "fill", "([II)V"⟩, prog_24_method_103_code, 4, none, 2, [])
theorem mtE5 : mtab[5]? = some mt5 := rfl
abbrev mt6 : Mt := (4, ⟨"Cubecaller$Measures", "<init>", "()V"⟩, prog_6_method_1_code, 1, none, 1, [])
theorem mtE6 : mtab[6]? = some mt6 := rfl
abbrev mt7 : Mt := (1, ⟨"Cubecaller$FactRows", "<init>", "()V"⟩, prog_3_method_1_code, 1, none, 1, [])
theorem mtE7 : mtab[7]? = some mt7 := rfl
abbrev mt8 : Mt := (3, ⟨"Cubecaller$KeptResults", "<init>", "()V"⟩, prog_5_method_1_code, 1, none, 1, [])
theorem mtE8 : mtab[8]? = some mt8 := rfl
abbrev mt9 : Mt := (8, ⟨"Cubecaller$Spread", "<init>", "()V"⟩, prog_10_method_1_code, 1, none, 1, [])
theorem mtE9 : mtab[9]? = some mt9 := rfl
abbrev mt10 : Mt := (6, ⟨"Cubecaller$Reckoner", "<init>", "(LCubecaller$Space;LCubecaller$Measures;LCubecaller$FactRows;)V"⟩, prog_8_method_1_code, 4, none, 4, [])
theorem mtE10 : mtab[10]? = some mt10 := rfl
abbrev mt11 : Mt := (2, ⟨"Cubecaller$Formula", "<init>", "()V"⟩, prog_4_method_1_code, 1, none, 1, [])
theorem mtE11 : mtab[11]? = some mt11 := rfl
abbrev mt12 : Mt := (10, ⟨"Cubecaller", "asNow", "(Z)Z"⟩, prog_1_method_5_code, 3, some .boolean, 2, [])
theorem mtE12 : mtab[12]? = some mt12 := rfl
abbrev mt13 : Mt := (3, ⟨"Cubecaller$KeptResults", "dropAll", "()V"⟩, prog_5_method_9_code, 1, none, 1, [])
theorem mtE13 : mtab[13]? = some mt13 := rfl
abbrev mt14 : Mt := (10, ⟨"Cubecaller", "totals", "(Z)Z"⟩, prog_1_method_10_code, 3, some .boolean, 2, [])
theorem mtE14 : mtab[14]? = some mt14 := rfl
abbrev mt15 : Mt := (10, ⟨"Cubecaller", "kept", "()I"⟩, prog_1_method_17_code, 1, some .int, 1, [])
theorem mtE15 : mtab[15]? = some mt15 := rfl
abbrev mt16 : Mt := (10, ⟨"Cubecaller", "hits", "()I"⟩, prog_1_method_18_code, 1, some .int, 1, [])
theorem mtE16 : mtab[16]? = some mt16 := rfl
abbrev mt17 : Mt := (10, ⟨"Cubecaller", "facts", "()I"⟩, prog_1_method_26_code, 1, some .int, 1, [])
theorem mtE17 : mtab[17]? = some mt17 := rfl
abbrev mt18 : Mt := (12, ⟨"CubecallerLaw", "member", "(LCubecaller;III[J)I"⟩, method_3_code, 6, some .int, 5, [(0, 12, 15, 13), (0, 12, 19, 15), (0, 12, 23, 17)])
theorem mtE18 : mtab[18]? = some mt18 := rfl
abbrev mt19 : Mt := (10, ⟨"Cubecaller", "member", "(III)I"⟩, prog_1_method_2_code, 6, some .int, 4, [])
theorem mtE19 : mtab[19]? = some mt19 := rfl
abbrev mt20 : Mt := (10, ⟨"Cubecaller", "existing", "(I)LCubecaller$Dimension;"⟩, prog_1_method_27_code, 2, some (.object "Cubecaller$Dimension"), 2, [])
theorem mtE20 : mtab[20]? = some mt20 := rfl
abbrev mt21 : Mt := (7, ⟨"Cubecaller$Space", "dimension", "(I)LCubecaller$Dimension;"⟩, prog_9_method_2_code, 2, some (.object "Cubecaller$Dimension"), 2, [])
theorem mtE21 : mtab[21]? = some mt21 := rfl
abbrev mt22 : Mt := (10, ⟨"Cubecaller", "needMember", "(LCubecaller$Dimension;I)V"⟩, prog_1_method_28_code, 2, none, 2, [])
theorem mtE22 : mtab[22]? = some mt22 := rfl
abbrev mt23 : Mt := (0, ⟨"Cubecaller$Dimension", "has", "(I)Z"⟩, prog_2_method_2_code, 2, some .boolean, 2, [])
theorem mtE23 : mtab[23]? = some mt23 := rfl
abbrev mt24 : Mt := (10, ⟨"Cubecaller", "needRange", "(III)V"⟩, prog_1_method_30_code, 3, none, 3, [])
theorem mtE24 : mtab[24]? = some mt24 := rfl
abbrev mt25 : Mt := (0, ⟨"Cubecaller$Dimension", "isPlain", "(I)Z"⟩, prog_2_method_4_code, 2, some .boolean, 2, [])
theorem mtE25 : mtab[25]? = some mt25 := rfl
abbrev mt26 : Mt := (10, ⟨"Cubecaller", "need", "(Z)V"⟩, prog_1_method_31_code, 1, none, 1, [])
theorem mtE26 : mtab[26]? = some mt26 := rfl
abbrev mt27 : Mt := (0, ⟨"Cubecaller$Dimension", "addPlain", "(II)I"⟩, prog_2_method_12_code, 4, some .int, 3, [])
theorem mtE27 : mtab[27]? = some mt27 := rfl
abbrev mt28 : Mt := (0, ⟨"Cubecaller$Dimension", "addKind", "(I)I"⟩, prog_2_method_15_code, 2, some .int, 2, [])
theorem mtE28 : mtab[28]? = some mt28 := rfl
abbrev mt29 : Mt := (9, ⟨"Cubecaller$TimeOrder", "insert", "(IILCubecaller$Dimension;)V"⟩, prog_11_method_3_code, 6, none, 4, [])
theorem mtE29 : mtab[29]? = some mt29 := rfl
abbrev mt30 : Mt := (9, ⟨"Cubecaller$TimeOrder", "placeOf", "(I)I"⟩, prog_11_method_2_code, 2, some .int, 2, [])
theorem mtE30 : mtab[30]? = some mt30 := rfl
abbrev mt31 : Mt := (0, ⟨"Cubecaller$Dimension", "depthOf", "(I)I"⟩, prog_2_method_6_code, 2, some .int, 2, [])
theorem mtE31 : mtab[31]? = some mt31 := rfl
abbrev mt32 : Mt := (7, ⟨"Cubecaller$Space", "weigh", "()V"⟩, prog_9_method_4_code, 1, none, 1, [])
theorem mtE32 : mtab[32]? = some mt32 := rfl
abbrev mt33 : Mt := (0, ⟨"Cubecaller$Dimension", "weigh", "(LCubecaller$TimeOrder;)V"⟩, prog_2_method_19_code, 3, none, 2, [])
theorem mtE33 : mtab[33]? = some mt33 := rfl
abbrev mt34 : Mt := (5, ⟨"Cubecaller$Moves", "parentAt", "(IIILCubecaller$TimeOrder;)I"⟩, prog_7_method_3_code, 9, some .int, 5, [])
theorem mtE34 : mtab[34]? = some mt34 := rfl
abbrev mt35 : Mt := (0, ⟨"Cubecaller$Dimension", "settle", "()V"⟩, prog_2_method_17_code, 2, none, 1, [])
theorem mtE35 : mtab[35]? = some mt35 := rfl
abbrev mt36 : Mt := (0, ⟨"Cubecaller$Dimension", "isSeen", "(I)Z"⟩, prog_2_method_9_code, 2, some .boolean, 2, [])
theorem mtE36 : mtab[36]? = some mt36 := rfl
abbrev mt37 : Mt := (0, ⟨"Cubecaller$Dimension", "isBridgeSeen", "(I)Z"⟩, prog_2_method_18_code, 3, some .boolean, 2, [])
theorem mtE37 : mtab[37]? = some mt37 := rfl
abbrev mt38 : Mt := (0, ⟨"Cubecaller$Dimension", "standsFor", "(II)Z"⟩, prog_2_method_10_code, 3, some .boolean, 3, [])
theorem mtE38 : mtab[38]? = some mt38 := rfl
abbrev mt39 : Mt := (0, ⟨"Cubecaller$Dimension", "weighRow", "(IILCubecaller$TimeOrder;)V"⟩, prog_2_method_20_code, 7, none, 4, [])
theorem mtE39 : mtab[39]? = some mt39 := rfl
abbrev mt40 : Mt := (0, ⟨"Cubecaller$Dimension", "weightOver", "(IIII)I"⟩, prog_2_method_21_code, 6, some .int, 5, [])
theorem mtE40 : mtab[40]? = some mt40 := rfl
abbrev mt41 : Mt := (0, ⟨"Cubecaller$Dimension", "weightByBridge", "(III)I"⟩, prog_2_method_22_code, 6, some .int, 4, [])
theorem mtE41 : mtab[41]? = some mt41 := rfl
abbrev mt42 : Mt := (12, ⟨"CubecallerLaw", "bridge", "(LCubecaller;II[J)I"⟩, method_4_code, 5, some .int, 4, [(0, 10, 13, 13), (0, 10, 17, 15), (0, 10, 21, 17)])
theorem mtE42 : mtab[42]? = some mt42 := rfl
abbrev mt43 : Mt := (10, ⟨"Cubecaller", "bridge", "(II)I"⟩, prog_1_method_3_code, 6, some .int, 3, [])
theorem mtE43 : mtab[43]? = some mt43 := rfl
abbrev mt44 : Mt := (13, ⟨"java/lang/Integer", "bitCount", "(I)I"⟩, prog_18_method_49_code, 1, some .int, 1, [])
theorem mtE44 : mtab[44]? = some mt44 := rfl
abbrev mt45 : Mt := (0, ⟨"Cubecaller$Dimension", "areAllPlain", "(I)Z"⟩, prog_2_method_11_code, 3, some .boolean, 2, [])
theorem mtE45 : mtab[45]? = some mt45 := rfl
abbrev mt46 : Mt := (0, ⟨"Cubecaller$Dimension", "addBridge", "(I)I"⟩, prog_2_method_13_code, 3, some .int, 2, [])
theorem mtE46 : mtab[46]? = some mt46 := rfl
abbrev mt47 : Mt := (12, ⟨"CubecallerLaw", "move", "(LCubecaller;IIII[J)I"⟩, method_5_code, 7, some .int, 6, [(0, 14, 17, 13), (0, 14, 21, 17)])
theorem mtE47 : mtab[47]? = some mt47 := rfl
abbrev mt48 : Mt := (10, ⟨"Cubecaller", "move", "(IIII)I"⟩, prog_1_method_4_code, 7, some .int, 5, [])
theorem mtE48 : mtab[48]? = some mt48 := rfl
abbrev mt49 : Mt := (7, ⟨"Cubecaller$Space", "movesTold", "()I"⟩, prog_9_method_3_code, 1, some .int, 1, [])
theorem mtE49 : mtab[49]? = some mt49 := rfl
abbrev mt50 : Mt := (0, ⟨"Cubecaller$Dimension", "parentOf", "(I)I"⟩, prog_2_method_5_code, 2, some .int, 2, [])
theorem mtE50 : mtab[50]? = some mt50 := rfl
abbrev mt51 : Mt := (5, ⟨"Cubecaller$Moves", "tell", "(III)V"⟩, prog_7_method_2_code, 4, none, 4, [])
theorem mtE51 : mtab[51]? = some mt51 := rfl
abbrev mt52 : Mt := (12, ⟨"CubecallerLaw", "memberAt", "(LCubecaller;III[J)I"⟩, method_6_code, 6, some .int, 5, [(0, 12, 15, 13), (0, 12, 19, 15)])
theorem mtE52 : mtab[52]? = some mt52 := rfl
abbrev mt53 : Mt := (10, ⟨"Cubecaller", "memberAt", "(III)I"⟩, prog_1_method_6_code, 5, some .int, 4, [])
theorem mtE53 : mtab[53]? = some mt53 := rfl
abbrev mt54 : Mt := (0, ⟨"Cubecaller$Dimension", "kindOf", "(I)I"⟩, prog_2_method_3_code, 2, some .int, 2, [])
theorem mtE54 : mtab[54]? = some mt54 := rfl
abbrev mt55 : Mt := (12, ⟨"CubecallerLaw", "word", "(LCubecaller;III[J)I"⟩, method_7_code, 6, some .int, 5, [(0, 12, 15, 15), (0, 12, 19, 17)])
theorem mtE55 : mtab[55]? = some mt55 := rfl
abbrev mt56 : Mt := (10, ⟨"Cubecaller", "word", "(III)I"⟩, prog_1_method_7_code, 4, some .int, 4, [])
theorem mtE56 : mtab[56]? = some mt56 := rfl
abbrev mt57 : Mt := (2, ⟨"Cubecaller$Formula", "hasRoomFor", "(I)Z"⟩, prog_4_method_2_code, 2, some .boolean, 2, [])
theorem mtE57 : mtab[57]? = some mt57 := rfl
abbrev mt58 : Mt := (2, ⟨"Cubecaller$Formula", "put", "(III)V"⟩, prog_4_method_3_code, 4, none, 4, [])
theorem mtE58 : mtab[58]? = some mt58 := rfl
abbrev mt59 : Mt := (12, ⟨"CubecallerLaw", "calculate", "(LCubecaller;II[J)I"⟩, method_8_code, 5, some .int, 4, [(0, 10, 13, 13), (0, 10, 17, 15), (0, 10, 21, 17)])
theorem mtE59 : mtab[59]? = some mt59 := rfl
abbrev mt60 : Mt := (10, ⟨"Cubecaller", "calculate", "(II)I"⟩, prog_1_method_8_code, 5, some .int, 3, [])
theorem mtE60 : mtab[60]? = some mt60 := rfl
abbrev mt61 : Mt := (2, ⟨"Cubecaller$Formula", "looksBeyond", "(I)Z"⟩, prog_4_method_4_code, 3, some .boolean, 2, [])
theorem mtE61 : mtab[61]? = some mt61 := rfl
abbrev mt62 : Mt := (0, ⟨"Cubecaller$Dimension", "addCalculated", "(LCubecaller$Formula;I)I"⟩, prog_2_method_14_code, 4, some .int, 3, [])
theorem mtE62 : mtab[62]? = some mt62 := rfl
abbrev mt63 : Mt := (12, ⟨"CubecallerLaw", "hide", "(LCubecaller;IIZ[J)I"⟩, method_9_code, 6, some .int, 5, [(0, 19, 22, 13), (0, 19, 26, 17)])
theorem mtE63 : mtab[63]? = some mt63 := rfl
abbrev mt64 : Mt := (10, ⟨"Cubecaller", "hide", "(IIZ)Z"⟩, prog_1_method_9_code, 6, some .boolean, 4, [])
theorem mtE64 : mtab[64]? = some mt64 := rfl
abbrev mt65 : Mt := (0, ⟨"Cubecaller$Dimension", "setHidden", "(IZ)Z"⟩, prog_2_method_16_code, 4, some .boolean, 3, [])
theorem mtE65 : mtab[65]? = some mt65 := rfl
abbrev mt66 : Mt := (12, ⟨"CubecallerLaw", "measure", "(LCubecaller;III[J)I"⟩, method_10_code, 6, some .int, 5, [(0, 12, 15, 13), (0, 12, 19, 15), (0, 12, 23, 17)])
theorem mtE66 : mtab[66]? = some mt66 := rfl
abbrev mt67 : Mt := (10, ⟨"Cubecaller", "measure", "(III)I"⟩, prog_1_method_11_code, 5, some .int, 4, [])
theorem mtE67 : mtab[67]? = some mt67 := rfl
abbrev mt68 : Mt := (10, ⟨"Cubecaller", "needMeasure", "(I)V"⟩, prog_1_method_29_code, 2, none, 2, [])
theorem mtE68 : mtab[68]? = some mt68 := rfl
abbrev mt69 : Mt := (4, ⟨"Cubecaller$Measures", "has", "(I)Z"⟩, prog_6_method_2_code, 2, some .boolean, 2, [])
theorem mtE69 : mtab[69]? = some mt69 := rfl
abbrev mt70 : Mt := (4, ⟨"Cubecaller$Measures", "add", "(III)I"⟩, prog_6_method_4_code, 4, some .int, 4, [])
theorem mtE70 : mtab[70]? = some mt70 := rfl
abbrev mt71 : Mt := (12, ⟨"CubecallerLaw", "from", "(LCubecaller;III[J)I"⟩, method_11_code, 6, some .int, 5, [(0, 12, 15, 13), (0, 12, 19, 15)])
theorem mtE71 : mtab[71]? = some mt71 := rfl
abbrev mt72 : Mt := (10, ⟨"Cubecaller", "from", "(III)I"⟩, prog_1_method_12_code, 5, some .int, 4, [])
theorem mtE72 : mtab[72]? = some mt72 := rfl
abbrev mt73 : Mt := (4, ⟨"Cubecaller$Measures", "setLeastDepth", "(III)I"⟩, prog_6_method_7_code, 5, some .int, 4, [])
theorem mtE73 : mtab[73]? = some mt73 := rfl
abbrev mt74 : Mt := (4, ⟨"Cubecaller$Measures", "leastDepth", "(II)I"⟩, prog_6_method_6_code, 4, some .int, 3, [])
theorem mtE74 : mtab[74]? = some mt74 := rfl
abbrev mt75 : Mt := (12, ⟨"CubecallerLaw", "fact", "(LCubecaller;IIIII[J)I"⟩, method_12_code, 8, some .int, 7, [(0, 16, 19, 13), (0, 16, 23, 15), (0, 16, 27, 17)])
theorem mtE75 : mtab[75]? = some mt75 := rfl
abbrev mt76 : Mt := (10, ⟨"Cubecaller", "fact", "(IIIII)I"⟩, prog_1_method_13_code, 8, some .int, 6, [])
theorem mtE76 : mtab[76]? = some mt76 := rfl
abbrev mt77 : Mt := (10, ⟨"Cubecaller", "existingCell", "(IIII)I"⟩, prog_1_method_32_code, 5, some .int, 5, [])
theorem mtE77 : mtab[77]? = some mt77 := rfl
abbrev mt78 : Mt := (7, ⟨"Cubecaller$Space", "isPlain", "(I)Z"⟩, prog_9_method_5_code, 2, some .boolean, 2, [])
theorem mtE78 : mtab[78]? = some mt78 := rfl
abbrev mt79 : Mt := (10, ⟨"Cubecaller", "memberOf", "(II)I"⟩, prog_1_method_33_code, 2, some .int, 2, [])
theorem mtE79 : mtab[79]? = some mt79 := rfl
abbrev mt80 : Mt := (4, ⟨"Cubecaller$Measures", "kindOf", "(I)I"⟩, prog_6_method_3_code, 2, some .int, 2, [])
theorem mtE80 : mtab[80]? = some mt80 := rfl
abbrev mt81 : Mt := (1, ⟨"Cubecaller$FactRows", "find", "(II)I"⟩, prog_3_method_3_code, 4, some .int, 3, [])
theorem mtE81 : mtab[81]? = some mt81 := rfl
abbrev mt82 : Mt := (1, ⟨"Cubecaller$FactRows", "add", "(III)V"⟩, prog_3_method_8_code, 4, none, 4, [])
theorem mtE82 : mtab[82]? = some mt82 := rfl
abbrev mt83 : Mt := (10, ⟨"Cubecaller", "dropFor", "(II)V"⟩, prog_1_method_38_code, 8, none, 3, [])
theorem mtE83 : mtab[83]? = some mt83 := rfl
abbrev mt84 : Mt := (3, ⟨"Cubecaller$KeptResults", "cellAt", "(I)I"⟩, prog_5_method_4_code, 2, some .int, 2, [])
theorem mtE84 : mtab[84]? = some mt84 := rfl
abbrev mt85 : Mt := (3, ⟨"Cubecaller$KeptResults", "has", "(I)Z"⟩, prog_5_method_2_code, 2, some .boolean, 2, [])
theorem mtE85 : mtab[85]? = some mt85 := rfl
abbrev mt86 : Mt := (3, ⟨"Cubecaller$KeptResults", "measureAt", "(I)I"⟩, prog_5_method_5_code, 2, some .int, 2, [])
theorem mtE86 : mtab[86]? = some mt86 := rfl
abbrev mt87 : Mt := (4, ⟨"Cubecaller$Measures", "needs", "(II)Z"⟩, prog_6_method_5_code, 3, some .boolean, 3, [])
theorem mtE87 : mtab[87]? = some mt87 := rfl
abbrev mt88 : Mt := (7, ⟨"Cubecaller$Space", "isCalculated", "(I)Z"⟩, prog_9_method_7_code, 2, some .boolean, 2, [])
theorem mtE88 : mtab[88]? = some mt88 := rfl
abbrev mt89 : Mt := (7, ⟨"Cubecaller$Space", "leading", "(I)I"⟩, prog_9_method_8_code, 6, some .int, 2, [])
theorem mtE89 : mtab[89]? = some mt89 := rfl
abbrev mt90 : Mt := (0, ⟨"Cubecaller$Dimension", "orderOf", "(I)I"⟩, prog_2_method_7_code, 2, some .int, 2, [])
theorem mtE90 : mtab[90]? = some mt90 := rfl
abbrev mt91 : Mt := (7, ⟨"Cubecaller$Space", "weight", "(II)I"⟩, prog_9_method_10_code, 6, some .int, 3, [])
theorem mtE91 : mtab[91]? = some mt91 := rfl
abbrev mt92 : Mt := (7, ⟨"Cubecaller$Space", "isSeen", "(I)Z"⟩, prog_9_method_6_code, 2, some .boolean, 2, [])
theorem mtE92 : mtab[92]? = some mt92 := rfl
abbrev mt93 : Mt := (0, ⟨"Cubecaller$Dimension", "weight", "(III)I"⟩, prog_2_method_23_code, 5, some .int, 4, [])
theorem mtE93 : mtab[93]? = some mt93 := rfl
abbrev mt94 : Mt := (3, ⟨"Cubecaller$KeptResults", "shift", "(II)V"⟩, prog_5_method_7_code, 3, none, 3, [])
theorem mtE94 : mtab[94]? = some mt94 := rfl
abbrev mt95 : Mt := (10, ⟨"Cubecaller", "setNumber", "(II)Z"⟩, prog_1_method_36_code, 3, some .boolean, 3, [])
theorem mtE95 : mtab[95]? = some mt95 := rfl
abbrev mt96 : Mt := (1, ⟨"Cubecaller$FactRows", "numberAt", "(I)I"⟩, prog_3_method_6_code, 2, some .int, 2, [])
theorem mtE96 : mtab[96]? = some mt96 := rfl
abbrev mt97 : Mt := (1, ⟨"Cubecaller$FactRows", "has", "(I)Z"⟩, prog_3_method_2_code, 2, some .boolean, 2, [])
theorem mtE97 : mtab[97]? = some mt97 := rfl
abbrev mt98 : Mt := (1, ⟨"Cubecaller$FactRows", "setNumber", "(II)V"⟩, prog_3_method_7_code, 3, none, 3, [])
theorem mtE98 : mtab[98]? = some mt98 := rfl
abbrev mt99 : Mt := (1, ⟨"Cubecaller$FactRows", "cellAt", "(I)I"⟩, prog_3_method_4_code, 2, some .int, 2, [])
theorem mtE99 : mtab[99]? = some mt99 := rfl
abbrev mt100 : Mt := (1, ⟨"Cubecaller$FactRows", "measureAt", "(I)I"⟩, prog_3_method_5_code, 2, some .int, 2, [])
theorem mtE100 : mtab[100]? = some mt100 := rfl
abbrev mt101 : Mt := (12, ⟨"CubecallerLaw", "forget", "(LCubecaller;IIII[J)I"⟩, method_13_code, 7, some .int, 6, [(0, 14, 17, 13), (0, 14, 21, 17)])
theorem mtE101 : mtab[101]? = some mt101 := rfl
abbrev mt102 : Mt := (10, ⟨"Cubecaller", "forget", "(IIII)I"⟩, prog_1_method_14_code, 8, some .int, 5, [])
theorem mtE102 : mtab[102]? = some mt102 := rfl
abbrev mt103 : Mt := (1, ⟨"Cubecaller$FactRows", "remove", "(I)V"⟩, prog_3_method_9_code, 3, none, 2, [])
theorem mtE103 : mtab[103]? = some mt103 := rfl
abbrev mt104 : Mt := (12, ⟨"CubecallerLaw", "cell", "(LCubecaller;IIII[J)I"⟩, method_14_code, 7, some .int, 6, [(0, 13, 16, 13)])
theorem mtE104 : mtab[104]? = some mt104 := rfl
abbrev mt105 : Mt := (10, ⟨"Cubecaller", "cell", "(IIII)J"⟩, prog_1_method_15_code, 9, some .long, 5, [])
theorem mtE105 : mtab[105]? = some mt105 := rfl
abbrev mt106 : Mt := (3, ⟨"Cubecaller$KeptResults", "find", "(II)I"⟩, prog_5_method_3_code, 4, some .int, 3, [])
theorem mtE106 : mtab[106]? = some mt106 := rfl
abbrev mt107 : Mt := (3, ⟨"Cubecaller$KeptResults", "valueAt", "(I)J"⟩, prog_5_method_6_code, 2, some .long, 2, [])
theorem mtE107 : mtab[107]? = some mt107 := rfl
abbrev mt108 : Mt := (6, ⟨"Cubecaller$Reckoner", "begins", "(I)V"⟩, prog_8_method_2_code, 2, none, 2, [])
theorem mtE108 : mtab[108]? = some mt108 := rfl
abbrev mt109 : Mt := (6, ⟨"Cubecaller$Reckoner", "asAsked", "(I)J"⟩, prog_8_method_3_code, 2, some .long, 2, [])
theorem mtE109 : mtab[109]? = some mt109 := rfl
abbrev mt110 : Mt := (6, ⟨"Cubecaller$Reckoner", "valueOf", "(II)J"⟩, prog_8_method_4_code, 4, some .long, 3, [])
theorem mtE110 : mtab[110]? = some mt110 := rfl
abbrev mt111 : Mt := (6, ⟨"Cubecaller$Reckoner", "plainValue", "(I)J"⟩, prog_8_method_12_code, 3, some .long, 2, [])
theorem mtE111 : mtab[111]? = some mt111 := rfl
abbrev mt112 : Mt := (6, ⟨"Cubecaller$Reckoner", "meansNothing", "(I)Z"⟩, prog_8_method_13_code, 5, some .boolean, 2, [])
theorem mtE112 : mtab[112]? = some mt112 := rfl
abbrev mt113 : Mt := (6, ⟨"Cubecaller$Reckoner", "gather", "(II)V"⟩, prog_8_method_15_code, 5, none, 3, [])
theorem mtE113 : mtab[113]? = some mt113 := rfl
abbrev mt114 : Mt := (6, ⟨"Cubecaller$Reckoner", "ofGathered", "(I)J"⟩, prog_8_method_14_code, 3, some .long, 2, [])
theorem mtE114 : mtab[114]? = some mt114 := rfl
abbrev mt115 : Mt := (6, ⟨"Cubecaller$Reckoner", "ratio", "(JJ)J"⟩, prog_8_method_11_code, 4, some .long, 2, [])
theorem mtE115 : mtab[115]? = some mt115 := rfl
abbrev mt116 : Mt := (10, ⟨"Cubecaller", "bounded", "(J)J"⟩, prog_1_method_35_code, 2, some .long, 1, [])
theorem mtE116 : mtab[116]? = some mt116 := rfl
abbrev mt117 : Mt := (6, ⟨"Cubecaller$Reckoner", "different", "()J"⟩, prog_8_method_20_code, 5, some .long, 1, [])
theorem mtE117 : mtab[117]? = some mt117 := rfl
abbrev mt118 : Mt := (6, ⟨"Cubecaller$Reckoner", "lastPlace", "()I"⟩, prog_8_method_18_code, 3, some .int, 1, [])
theorem mtE118 : mtab[118]? = some mt118 := rfl
abbrev mt119 : Mt := (6, ⟨"Cubecaller$Reckoner", "sum", "(I)J"⟩, prog_8_method_19_code, 5, some .long, 2, [])
theorem mtE119 : mtab[119]? = some mt119 := rfl
abbrev mt120 : Mt := (6, ⟨"Cubecaller$Reckoner", "formulaValue", "(III)J"⟩, prog_8_method_5_code, 10, some .long, 4, [])
theorem mtE120 : mtab[120]? = some mt120 := rfl
abbrev mt121 : Mt := (0, ⟨"Cubecaller$Dimension", "formulaOf", "(I)LCubecaller$Formula;"⟩, prog_2_method_8_code, 2, some (.object "Cubecaller$Formula"), 2, [])
theorem mtE121 : mtab[121]? = some mt121 := rfl
abbrev mt122 : Mt := (10, ⟨"Cubecaller", "withMember", "(III)I"⟩, prog_1_method_34_code, 4, some .int, 3, [])
theorem mtE122 : mtab[122]? = some mt122 := rfl
abbrev mt123 : Mt := (6, ⟨"Cubecaller$Reckoner", "toDate", "(II)J"⟩, prog_8_method_7_code, 8, some .long, 3, [])
theorem mtE123 : mtab[123]? = some mt123 := rfl
abbrev mt124 : Mt := (6, ⟨"Cubecaller$Reckoner", "plus", "(JJI)J"⟩, prog_8_method_9_code, 5, some .long, 3, [])
theorem mtE124 : mtab[124]? = some mt124 := rfl
abbrev mt125 : Mt := (6, ⟨"Cubecaller$Reckoner", "back", "(III)J"⟩, prog_8_method_6_code, 6, some .long, 4, [])
theorem mtE125 : mtab[125]? = some mt125 := rfl
abbrev mt126 : Mt := (9, ⟨"Cubecaller$TimeOrder", "ahead", "(IILCubecaller$Dimension;)I"⟩, prog_11_method_4_code, 6, some .int, 4, [])
theorem mtE126 : mtab[126]? = some mt126 := rfl
abbrev mt127 : Mt := (6, ⟨"Cubecaller$Reckoner", "joined", "(IJJ)J"⟩, prog_8_method_8_code, 5, some .long, 3, [])
theorem mtE127 : mtab[127]? = some mt127 := rfl
abbrev mt128 : Mt := (6, ⟨"Cubecaller$Reckoner", "product", "(JJ)J"⟩, prog_8_method_10_code, 4, some .long, 2, [])
theorem mtE128 : mtab[128]? = some mt128 := rfl
abbrev mt129 : Mt := (3, ⟨"Cubecaller$KeptResults", "keep", "(IIJ)V"⟩, prog_5_method_8_code, 6, none, 4, [])
theorem mtE129 : mtab[129]? = some mt129 := rfl
abbrev mt130 : Mt := (12, ⟨"CubecallerLaw", "cellAnew", "(LCubecaller;IIII[J)I"⟩, method_15_code, 7, some .int, 6, [(0, 13, 16, 13)])
theorem mtE130 : mtab[130]? = some mt130 := rfl
abbrev mt131 : Mt := (10, ⟨"Cubecaller", "cellAnew", "(IIII)J"⟩, prog_1_method_16_code, 6, some .long, 5, [])
theorem mtE131 : mtab[131]? = some mt131 := rfl
abbrev mt132 : Mt := (12, ⟨"CubecallerLaw", "at", "(LCubecaller;II[J)I"⟩, method_16_code, 5, some .int, 4, [(0, 10, 13, 13)])
theorem mtE132 : mtab[132]? = some mt132 := rfl
abbrev mt133 : Mt := (10, ⟨"Cubecaller", "at", "(II)I"⟩, prog_1_method_19_code, 5, some .int, 3, [])
theorem mtE133 : mtab[133]? = some mt133 := rfl
abbrev mt134 : Mt := (12, ⟨"CubecallerLaw", "pick", "(LCubecaller;IIIII[J)I"⟩, method_17_code, 8, some .int, 7, [(0, 16, 19, 13), (0, 16, 23, 15), (0, 16, 27, 17)])
theorem mtE134 : mtab[134]? = some mt134 := rfl
abbrev mt135 : Mt := (10, ⟨"Cubecaller", "pick", "(IIIII)I"⟩, prog_1_method_20_code, 7, some .int, 6, [])
theorem mtE135 : mtab[135]? = some mt135 := rfl
abbrev mt136 : Mt := (0, ⟨"Cubecaller$Dimension", "pickAll", "(II)V"⟩, prog_2_method_24_code, 4, none, 3, [])
theorem mtE136 : mtab[136]? = some mt136 := rfl
abbrev mt137 : Mt := (0, ⟨"Cubecaller$Dimension", "isAsked", "(III)Z"⟩, prog_2_method_25_code, 4, some .boolean, 4, [])
theorem mtE137 : mtab[137]? = some mt137 := rfl
abbrev mt138 : Mt := (0, ⟨"Cubecaller$Dimension", "isLeaf", "(I)Z"⟩, prog_2_method_26_code, 3, some .boolean, 2, [])
theorem mtE138 : mtab[138]? = some mt138 := rfl
abbrev mt139 : Mt := (6, ⟨"Cubecaller$Reckoner", "keepTop", "(II)V"⟩, prog_8_method_21_code, 11, none, 3, [])
theorem mtE139 : mtab[139]? = some mt139 := rfl
abbrev mt140 : Mt := (0, ⟨"Cubecaller$Dimension", "pickedAt", "(I)I"⟩, prog_2_method_27_code, 2, some .int, 2, [])
theorem mtE140 : mtab[140]? = some mt140 := rfl
abbrev mt141 : Mt := (7, ⟨"Cubecaller$Space", "chosenCell", "()I"⟩, prog_9_method_9_code, 1, some .int, 1, [])
theorem mtE141 : mtab[141]? = some mt141 := rfl
abbrev mt142 : Mt := (6, ⟨"Cubecaller$Reckoner", "rank", "(LCubecaller$Dimension;IIJ)V"⟩, prog_8_method_22_code, 7, none, 5, [])
theorem mtE142 : mtab[142]? = some mt142 := rfl
abbrev mt143 : Mt := (12, ⟨"CubecallerLaw", "picked", "(LCubecaller;II[J)I"⟩, method_18_code, 5, some .int, 4, [(0, 10, 13, 13)])
theorem mtE143 : mtab[143]? = some mt143 := rfl
abbrev mt144 : Mt := (10, ⟨"Cubecaller", "picked", "(II)I"⟩, prog_1_method_21_code, 4, some .int, 3, [])
theorem mtE144 : mtab[144]? = some mt144 := rfl
abbrev mt145 : Mt := (12, ⟨"CubecallerLaw", "cross", "(LCubecaller;III[J)I"⟩, method_19_code, 6, some .int, 5, [(0, 12, 15, 13), (0, 12, 19, 15)])
theorem mtE145 : mtab[145]? = some mt145 := rfl
abbrev mt146 : Mt := (10, ⟨"Cubecaller", "cross", "(III)I"⟩, prog_1_method_22_code, 10, some .int, 4, [])
theorem mtE146 : mtab[146]? = some mt146 := rfl
abbrev mt147 : Mt := (12, ⟨"CubecallerLaw", "write", "(LCubecaller;IIIIII[J)I"⟩, method_20_code, 9, some .int, 8, [(0, 18, 21, 13), (0, 18, 25, 15), (0, 18, 29, 17)])
theorem mtE147 : mtab[147]? = some mt147 := rfl
abbrev mt148 : Mt := (10, ⟨"Cubecaller", "write", "(IIIIII)I"⟩, prog_1_method_23_code, 9, some .int, 7, [])
theorem mtE148 : mtab[148]? = some mt148 := rfl
abbrev mt149 : Mt := (6, ⟨"Cubecaller$Reckoner", "allWeighOne", "()Z"⟩, prog_8_method_17_code, 2, some .boolean, 1, [])
theorem mtE149 : mtab[149]? = some mt149 := rfl
abbrev mt150 : Mt := (8, ⟨"Cubecaller$Spread", "start", "(IJ)V"⟩, prog_10_method_2_code, 4, none, 3, [])
theorem mtE150 : mtab[150]? = some mt150 := rfl
abbrev mt151 : Mt := (6, ⟨"Cubecaller$Reckoner", "rowAt", "(I)I"⟩, prog_8_method_16_code, 2, some .int, 2, [])
theorem mtE151 : mtab[151]? = some mt151 := rfl
abbrev mt152 : Mt := (8, ⟨"Cubecaller$Spread", "own", "(IJ)V"⟩, prog_10_method_3_code, 4, none, 3, [])
theorem mtE152 : mtab[152]? = some mt152 := rfl
abbrev mt153 : Mt := (8, ⟨"Cubecaller$Spread", "share", "(I)V"⟩, prog_10_method_5_code, 6, none, 2, [])
theorem mtE153 : mtab[153]? = some mt153 := rfl
abbrev mt154 : Mt := (8, ⟨"Cubecaller$Spread", "leaveRest", "(J)V"⟩, prog_10_method_7_code, 4, none, 2, [])
theorem mtE154 : mtab[154]? = some mt154 := rfl
abbrev mt155 : Mt := (8, ⟨"Cubecaller$Spread", "byWeights", "(J)V"⟩, prog_10_method_8_code, 7, none, 2, [])
theorem mtE155 : mtab[155]? = some mt155 := rfl
abbrev mt156 : Mt := (8, ⟨"Cubecaller$Spread", "greatestRemainder", "()I"⟩, prog_10_method_9_code, 3, some .int, 1, [])
theorem mtE156 : mtab[156]? = some mt156 := rfl
abbrev mt157 : Mt := (8, ⟨"Cubecaller$Spread", "equally", "()V"⟩, prog_10_method_6_code, 2, none, 1, [])
theorem mtE157 : mtab[157]? = some mt157 := rfl
abbrev mt158 : Mt := (8, ⟨"Cubecaller$Spread", "inRange", "()Z"⟩, prog_10_method_10_code, 2, some .boolean, 1, [])
theorem mtE158 : mtab[158]? = some mt158 := rfl
abbrev mt159 : Mt := (10, ⟨"Cubecaller", "writeShares", "()I"⟩, prog_1_method_37_code, 3, some .int, 1, [])
theorem mtE159 : mtab[159]? = some mt159 := rfl
abbrev mt160 : Mt := (8, ⟨"Cubecaller$Spread", "shareAt", "(I)J"⟩, prog_10_method_4_code, 2, some .long, 2, [])
theorem mtE160 : mtab[160]? = some mt160 := rfl
abbrev mt161 : Mt := (12, ⟨"CubecallerLaw", "begin", "(LCubecaller;)I"⟩, method_21_code, 2, some .int, 1, [(0, 4, 7, 17)])
theorem mtE161 : mtab[161]? = some mt161 := rfl
abbrev mt162 : Mt := (10, ⟨"Cubecaller", "begin", "()V"⟩, prog_1_method_24_code, 1, none, 1, [])
theorem mtE162 : mtab[162]? = some mt162 := rfl
abbrev mt163 : Mt := (1, ⟨"Cubecaller$FactRows", "save", "()V"⟩, prog_3_method_10_code, 1, none, 1, [])
theorem mtE163 : mtab[163]? = some mt163 := rfl
abbrev mt164 : Mt := (12, ⟨"CubecallerLaw", "end", "(LCubecaller;Z[J)I"⟩, method_22_code, 4, some .int, 3, [(0, 9, 12, 17)])
theorem mtE164 : mtab[164]? = some mt164 := rfl
abbrev mt165 : Mt := (10, ⟨"Cubecaller", "end", "(Z)I"⟩, prog_1_method_25_code, 2, some .int, 2, [])
theorem mtE165 : mtab[165]? = some mt165 := rfl
abbrev mt166 : Mt := (1, ⟨"Cubecaller$FactRows", "restore", "()V"⟩, prog_3_method_11_code, 1, none, 1, [])
theorem mtE166 : mtab[166]? = some mt166 := rfl
abbrev mt167 : Mt := (11, ⟨"CubecallerModel", "<init>", "()V"⟩, prog_13_method_1_code, 2, none, 1, [])
theorem mtE167 : mtab[167]? = some mt167 := rfl
abbrev mt168 : Mt := (11, ⟨"CubecallerModel", "thrown", "()I"⟩, prog_13_method_2_code, 1, some .int, 1, [])
theorem mtE168 : mtab[168]? = some mt168 := rfl
abbrev mt169 : Mt := (11, ⟨"CubecallerModel", "member", "(III)I"⟩, prog_13_method_17_code, 7, some .int, 4, [])
theorem mtE169 : mtab[169]? = some mt169 := rfl
abbrev mt170 : Mt := (11, ⟨"CubecallerModel", "is", "(II)Z"⟩, prog_13_method_6_code, 3, some .boolean, 3, [])
theorem mtE170 : mtab[170]? = some mt170 := rfl
abbrev mt171 : Mt := (11, ⟨"CubecallerModel", "isDim", "(I)Z"⟩, prog_13_method_5_code, 2, some .boolean, 2, [])
theorem mtE171 : mtab[171]? = some mt171 := rfl
abbrev mt172 : Mt := (11, ⟨"CubecallerModel", "in", "(JJJ)Z"⟩, prog_13_method_4_code, 7, some .boolean, 4, [])
theorem mtE172 : mtab[172]? = some mt172 := rfl
abbrev mt173 : Mt := (11, ⟨"CubecallerModel", "isPlain", "(II)Z"⟩, prog_13_method_7_code, 3, some .boolean, 3, [])
theorem mtE173 : mtab[173]? = some mt173 := rfl
abbrev mt174 : Mt := (11, ⟨"CubecallerModel", "holds", "(I)Z"⟩, prog_13_method_3_code, 2, some .boolean, 2, [])
theorem mtE174 : mtab[174]? = some mt174 := rfl
abbrev mt175 : Mt := (11, ⟨"CubecallerModel", "make", "(II)I"⟩, prog_13_method_16_code, 4, some .int, 3, [])
theorem mtE175 : mtab[175]? = some mt175 := rfl
abbrev mt176 : Mt := (11, ⟨"CubecallerModel", "stand", "()V"⟩, prog_13_method_14_code, 4, none, 1, [])
theorem mtE176 : mtab[176]? = some mt176 := rfl
abbrev mt177 : Mt := (11, ⟨"CubecallerModel", "after", "(II)I"⟩, prog_13_method_15_code, 5, some .int, 3, [])
theorem mtE177 : mtab[177]? = some mt177 := rfl
abbrev mt178 : Mt := (11, ⟨"CubecallerModel", "fresh", "()V"⟩, prog_13_method_10_code, 1, none, 1, [])
theorem mtE178 : mtab[178]? = some mt178 := rfl
abbrev mt179 : Mt := (11, ⟨"CubecallerModel", "bridge", "(II)I"⟩, prog_13_method_18_code, 8, some .int, 3, [])
theorem mtE179 : mtab[179]? = some mt179 := rfl
abbrev mt180 : Mt := (11, ⟨"CubecallerModel", "move", "(IIII)I"⟩, prog_13_method_19_code, 8, some .int, 5, [])
theorem mtE180 : mtab[180]? = some mt180 := rfl
abbrev mt181 : Mt := (11, ⟨"CubecallerModel", "now", "(II)I"⟩, prog_13_method_12_code, 3, some .int, 3, [])
theorem mtE181 : mtab[181]? = some mt181 := rfl
abbrev mt182 : Mt := (11, ⟨"CubecallerModel", "parent", "(III)I"⟩, prog_13_method_11_code, 7, some .int, 4, [])
theorem mtE182 : mtab[182]? = some mt182 := rfl
abbrev mt183 : Mt := (11, ⟨"CubecallerModel", "asNow", "(Z)Z"⟩, prog_13_method_20_code, 3, some .boolean, 2, [])
theorem mtE183 : mtab[183]? = some mt183 := rfl
abbrev mt184 : Mt := (11, ⟨"CubecallerModel", "memberAt", "(III)I"⟩, prog_13_method_22_code, 5, some .int, 4, [])
theorem mtE184 : mtab[184]? = some mt184 := rfl
abbrev mt185 : Mt := (11, ⟨"CubecallerModel", "depth", "(II)I"⟩, prog_13_method_13_code, 5, some .int, 3, [])
theorem mtE185 : mtab[185]? = some mt185 := rfl
abbrev mt186 : Mt := (11, ⟨"CubecallerModel", "seen", "(II)Z"⟩, prog_13_method_21_code, 7, some .boolean, 3, [])
theorem mtE186 : mtab[186]? = some mt186 := rfl
abbrev mt187 : Mt := (11, ⟨"CubecallerModel", "word", "(III)I"⟩, prog_13_method_24_code, 5, some .int, 4, [])
theorem mtE187 : mtab[187]? = some mt187 := rfl
abbrev mt188 : Mt := (11, ⟨"CubecallerModel", "pileOf", "()I"⟩, prog_13_method_23_code, 3, some .int, 1, [])
theorem mtE188 : mtab[188]? = some mt188 := rfl
abbrev mt189 : Mt := (11, ⟨"CubecallerModel", "calculate", "(II)I"⟩, prog_13_method_25_code, 8, some .int, 3, [])
theorem mtE189 : mtab[189]? = some mt189 := rfl
abbrev mt190 : Mt := (11, ⟨"CubecallerModel", "hide", "(IIZ)Z"⟩, prog_13_method_26_code, 6, some .boolean, 4, [])
theorem mtE190 : mtab[190]? = some mt190 := rfl
abbrev mt191 : Mt := (11, ⟨"CubecallerModel", "totals", "(Z)Z"⟩, prog_13_method_27_code, 3, some .boolean, 2, [])
theorem mtE191 : mtab[191]? = some mt191 := rfl
abbrev mt192 : Mt := (11, ⟨"CubecallerModel", "measure", "(III)I"⟩, prog_13_method_28_code, 5, some .int, 4, [])
theorem mtE192 : mtab[192]? = some mt192 := rfl
abbrev mt193 : Mt := (11, ⟨"CubecallerModel", "isMeasure", "(I)Z"⟩, prog_13_method_8_code, 2, some .boolean, 2, [])
theorem mtE193 : mtab[193]? = some mt193 := rfl
abbrev mt194 : Mt := (11, ⟨"CubecallerModel", "from", "(III)I"⟩, prog_13_method_29_code, 5, some .int, 4, [])
theorem mtE194 : mtab[194]? = some mt194 := rfl
abbrev mt195 : Mt := (11, ⟨"CubecallerModel", "fact", "(IIIII)I"⟩, prog_13_method_32_code, 9, some .int, 6, [])
theorem mtE195 : mtab[195]? = some mt195 := rfl
abbrev mt196 : Mt := (11, ⟨"CubecallerModel", "areThere", "(IIII)Z"⟩, prog_13_method_9_code, 5, some .boolean, 5, [])
theorem mtE196 : mtab[196]? = some mt196 := rfl
abbrev mt197 : Mt := (11, ⟨"CubecallerModel", "found", "(IIII)I"⟩, prog_13_method_30_code, 7, some .int, 5, [])
theorem mtE197 : mtab[197]? = some mt197 := rfl
abbrev mt198 : Mt := (11, ⟨"CubecallerModel", "put", "(IIIIII)Z"⟩, prog_13_method_33_code, 8, some .boolean, 7, [])
theorem mtE198 : mtab[198]? = some mt198 := rfl
abbrev mt199 : Mt := (11, ⟨"CubecallerModel", "lay", "(IIIIII)V"⟩, prog_13_method_31_code, 7, none, 7, [])
theorem mtE199 : mtab[199]? = some mt199 := rfl
abbrev mt200 : Mt := (11, ⟨"CubecallerModel", "drop", "(I)V"⟩, prog_13_method_53_code, 7, none, 2, [])
theorem mtE200 : mtab[200]? = some mt200 := rfl
abbrev mt201 : Mt := (11, ⟨"CubecallerModel", "needs", "(II)Z"⟩, prog_13_method_52_code, 6, some .boolean, 3, [])
theorem mtE201 : mtab[201]? = some mt201 := rfl
abbrev mt202 : Mt := (11, ⟨"CubecallerModel", "counts", "(IIII)I"⟩, prog_13_method_37_code, 10, some .int, 5, [])
theorem mtE202 : mtab[202]? = some mt202 := rfl
abbrev mt203 : Mt := (11, ⟨"CubecallerModel", "weight", "(IIII)I"⟩, prog_13_method_36_code, 8, some .int, 5, [])
theorem mtE203 : mtab[203]? = some mt203 := rfl
abbrev mt204 : Mt := (11, ⟨"CubecallerModel", "weightTo", "(IIII)I"⟩, prog_13_method_35_code, 7, some .int, 5, [])
theorem mtE204 : mtab[204]? = some mt204 := rfl
abbrev mt205 : Mt := (11, ⟨"CubecallerModel", "remove", "(I)V"⟩, prog_13_method_51_code, 3, none, 2, [])
theorem mtE205 : mtab[205]? = some mt205 := rfl
abbrev mt206 : Mt := (11, ⟨"CubecallerModel", "forget", "(IIII)I"⟩, prog_13_method_34_code, 9, some .int, 5, [])
theorem mtE206 : mtab[206]? = some mt206 := rfl
abbrev mt207 : Mt := (11, ⟨"CubecallerModel", "cell", "(IIII)J"⟩, prog_13_method_50_code, 7, some .long, 5, [])
theorem mtE207 : mtab[207]? = some mt207 := rfl
abbrev mt208 : Mt := (11, ⟨"CubecallerModel", "areSeen", "(III)Z"⟩, prog_13_method_48_code, 4, some .boolean, 4, [])
theorem mtE208 : mtab[208]? = some mt208 := rfl
abbrev mt209 : Mt := (11, ⟨"CubecallerModel", "value", "(IIIIZ)J"⟩, prog_13_method_41_code, 14, some .long, 6, [])
theorem mtE209 : mtab[209]? = some mt209 := rfl
abbrev mt210 : Mt := (11, ⟨"CubecallerModel", "formula", "(IIIIIZ)J"⟩, prog_13_method_47_code, 14, some .long, 7, [])
theorem mtE210 : mtab[210]? = some mt210 := rfl
abbrev mt211 : Mt := (11, ⟨"CubecallerModel", "look", "(IIIIIIIZ)J"⟩, prog_13_method_45_code, 12, some .long, 9, [])
theorem mtE211 : mtab[211]? = some mt211 := rfl
abbrev mt212 : Mt := (11, ⟨"CubecallerModel", "back", "(II)I"⟩, prog_13_method_44_code, 8, some .int, 3, [])
theorem mtE212 : mtab[212]? = some mt212 := rfl
abbrev mt213 : Mt := (11, ⟨"CubecallerModel", "bound", "(J)J"⟩, prog_13_method_40_code, 3, some .long, 2, [])
theorem mtE213 : mtab[213]? = some mt213 := rfl
abbrev mt214 : Mt := (11, ⟨"CubecallerModel", "date", "(IIIIIIZ)J"⟩, prog_13_method_46_code, 13, some .long, 8, [])
theorem mtE214 : mtab[214]? = some mt214 := rfl
abbrev mt215 : Mt := (11, ⟨"CubecallerModel", "joined", "(IJJ)J"⟩, prog_13_method_43_code, 8, some .long, 4, [])
theorem mtE215 : mtab[215]? = some mt215 := rfl
abbrev mt216 : Mt := (11, ⟨"CubecallerModel", "times", "(JJ)J"⟩, prog_13_method_42_code, 10, some .long, 3, [])
theorem mtE216 : mtab[216]? = some mt216 := rfl
abbrev mt217 : Mt := (11, ⟨"CubecallerModel", "isNothing", "(IIII)Z"⟩, prog_13_method_39_code, 7, some .boolean, 5, [])
theorem mtE217 : mtab[217]? = some mt217 := rfl
abbrev mt218 : Mt := (11, ⟨"CubecallerModel", "plain", "(IIII)J"⟩, prog_13_method_38_code, 14, some .long, 5, [])
theorem mtE218 : mtab[218]? = some mt218 := rfl
abbrev mt219 : Mt := (11, ⟨"CubecallerModel", "cellAnew", "(IIII)J"⟩, prog_13_method_54_code, 5, some .long, 5, [])
theorem mtE219 : mtab[219]? = some mt219 := rfl
abbrev mt220 : Mt := (11, ⟨"CubecallerModel", "ask", "(IIII)J"⟩, prog_13_method_49_code, 5, some .long, 5, [])
theorem mtE220 : mtab[220]? = some mt220 := rfl
abbrev mt221 : Mt := (11, ⟨"CubecallerModel", "kept", "()I"⟩, prog_13_method_55_code, 1, some .int, 1, [])
theorem mtE221 : mtab[221]? = some mt221 := rfl
abbrev mt222 : Mt := (11, ⟨"CubecallerModel", "hits", "()I"⟩, prog_13_method_56_code, 1, some .int, 1, [])
theorem mtE222 : mtab[222]? = some mt222 := rfl
abbrev mt223 : Mt := (11, ⟨"CubecallerModel", "at", "(II)I"⟩, prog_13_method_57_code, 4, some .int, 3, [])
theorem mtE223 : mtab[223]? = some mt223 := rfl
abbrev mt224 : Mt := (11, ⟨"CubecallerModel", "pick", "(IIIII)I"⟩, prog_13_method_60_code, 10, some .int, 6, [])
theorem mtE224 : mtab[224]? = some mt224 := rfl
abbrev mt225 : Mt := (11, ⟨"CubecallerModel", "fits", "(IIII)Z"⟩, prog_13_method_58_code, 7, some .boolean, 5, [])
theorem mtE225 : mtab[225]? = some mt225 := rfl
abbrev mt226 : Mt := (11, ⟨"CubecallerModel", "tops", "(IIII)I"⟩, prog_13_method_61_code, 15, some .int, 5, [])
theorem mtE226 : mtab[226]? = some mt226 := rfl
abbrev mt227 : Mt := (11, ⟨"CubecallerModel", "with", "(III)J"⟩, prog_13_method_59_code, 4, some .long, 4, [])
theorem mtE227 : mtab[227]? = some mt227 := rfl
abbrev mt228 : Mt := (11, ⟨"CubecallerModel", "picked", "(II)I"⟩, prog_13_method_62_code, 3, some .int, 3, [])
theorem mtE228 : mtab[228]? = some mt228 := rfl
abbrev mt229 : Mt := (11, ⟨"CubecallerModel", "cross", "(III)I"⟩, prog_13_method_63_code, 13, some .int, 4, [])
theorem mtE229 : mtab[229]? = some mt229 := rfl
abbrev mt230 : Mt := (11, ⟨"CubecallerModel", "write", "(IIIIII)I"⟩, prog_13_method_68_code, 14, some .int, 7, [])
theorem mtE230 : mtab[230]? = some mt230 := rfl
abbrev mt231 : Mt := (11, ⟨"CubecallerModel", "spots", "(IIII)I"⟩, prog_13_method_64_code, 9, some .int, 5, [])
theorem mtE231 : mtab[231]? = some mt231 := rfl
abbrev mt232 : Mt := (11, ⟨"CubecallerModel", "equal", "(IJ)V"⟩, prog_13_method_65_code, 5, none, 3, [])
theorem mtE232 : mtab[232]? = some mt232 := rfl
abbrev mt233 : Mt := (11, ⟨"CubecallerModel", "weights", "(IJ)V"⟩, prog_13_method_66_code, 11, none, 3, [])
theorem mtE233 : mtab[233]? = some mt233 := rfl
abbrev mt234 : Mt := (11, ⟨"CubecallerModel", "remains", "(IJ)V"⟩, prog_13_method_67_code, 7, none, 3, [])
theorem mtE234 : mtab[234]? = some mt234 := rfl
abbrev mt235 : Mt := (11, ⟨"CubecallerModel", "begin", "()V"⟩, prog_13_method_69_code, 2, none, 1, [])
theorem mtE235 : mtab[235]? = some mt235 := rfl
abbrev mt236 : Mt := (11, ⟨"CubecallerModel", "end", "(Z)I"⟩, prog_13_method_70_code, 3, some .int, 2, [])
theorem mtE236 : mtab[236]? = some mt236 := rfl
abbrev mt237 : Mt := (11, ⟨"CubecallerModel", "facts", "()I"⟩, prog_13_method_71_code, 1, some .int, 1, [])
theorem mtE237 : mtab[237]? = some mt237 := rfl
abbrev mt238 : Mt := (12, ⟨"CubecallerLaw", "law", "([I)Z"⟩, code, 8, some .boolean, 1, [])
theorem mtE238 : mtab[238]? = some mt238 := rfl
theorem rf_5_21 : rFld 5 21 = some (5, 0) := by decide +kernel
theorem rf_7_35 : rFld 7 35 = some (5, 0) := by decide +kernel
theorem rf_5_9 : rFld 5 9 = some (5, 1) := by decide +kernel
theorem rf_5_15 : rFld 5 15 = some (5, 2) := by decide +kernel
theorem rf_5_18 : rFld 5 18 = some (5, 3) := by decide +kernel
theorem rf_0_9 : rFld 0 9 = some (0, 0) := by decide +kernel
theorem rf_10_80 : rFld 10 80 = some (0, 0) := by decide +kernel
theorem rf_7_67 : rFld 7 67 = some (0, 1) := by decide +kernel
theorem rf_10_253 : rFld 10 253 = some (0, 1) := by decide +kernel
theorem rf_10_262 : rFld 10 262 = some (0, 2) := by decide +kernel
theorem rf_6_237 : rFld 6 237 = some (0, 2) := by decide +kernel
theorem rf_0_114 : rFld 0 114 = some (0, 2) := by decide +kernel
theorem rf_0_18 : rFld 0 18 = some (0, 3) := by decide +kernel
theorem rf_7_31 : rFld 7 31 = some (0, 3) := by decide +kernel
theorem rf_10_140 : rFld 10 140 = some (0, 3) := by decide +kernel
theorem rf_0_22 : rFld 0 22 = some (0, 4) := by decide +kernel
theorem rf_0_26 : rFld 0 26 = some (0, 5) := by decide +kernel
theorem rf_0_29 : rFld 0 29 = some (0, 6) := by decide +kernel
theorem rf_0_32 : rFld 0 32 = some (0, 7) := by decide +kernel
theorem rf_0_35 : rFld 0 35 = some (0, 8) := by decide +kernel
theorem rf_0_38 : rFld 0 38 = some (0, 9) := by decide +kernel
theorem rf_0_44 : rFld 0 44 = some (0, 10) := by decide +kernel
theorem rf_0_48 : rFld 0 48 = some (0, 11) := by decide +kernel
theorem rf_6_253 : rFld 6 253 = some (0, 11) := by decide +kernel
theorem rf_0_51 : rFld 0 51 = some (0, 12) := by decide +kernel
theorem rf_0_54 : rFld 0 54 = some (0, 13) := by decide +kernel
theorem rf_0_57 : rFld 0 57 = some (0, 14) := by decide +kernel
theorem rf_0_62 : rFld 0 62 = some (0, 15) := by decide +kernel
theorem rf_9_9 : rFld 9 9 = some (9, 0) := by decide +kernel
theorem rf_0_96 : rFld 0 96 = some (9, 0) := by decide +kernel
theorem rf_9_15 : rFld 9 15 = some (9, 1) := by decide +kernel
theorem rf_0_99 : rFld 0 99 = some (9, 1) := by decide +kernel
theorem rf_9_19 : rFld 9 19 = some (9, 2) := by decide +kernel
theorem rf_7_12 : rFld 7 12 = some (7, 0) := by decide +kernel
theorem rf_10_127 : rFld 10 127 = some (7, 0) := by decide +kernel
theorem rf_6_122 : rFld 6 122 = some (7, 0) := by decide +kernel
theorem rf_7_18 : rFld 7 18 = some (7, 1) := by decide +kernel
theorem rf_10_340 : rFld 10 340 = some (7, 1) := by decide +kernel
theorem rf_7_21 : rFld 7 21 = some (7, 2) := by decide +kernel
theorem rf_10_343 : rFld 10 343 = some (7, 2) := by decide +kernel
theorem rf_7_27 : rFld 7 27 = some (7, 3) := by decide +kernel
theorem rf_10_92 : rFld 10 92 = some (7, 3) := by decide +kernel
theorem rf_6_129 : rFld 6 129 = some (7, 3) := by decide +kernel
theorem rf_10_149 : rFld 10 149 = some (7, 4) := by decide +kernel
theorem rf_7_75 : rFld 7 75 = some (7, 4) := by decide +kernel
theorem rf_7_70 : rFld 7 70 = some (7, 5) := by decide +kernel
theorem rf_10_190 : rFld 10 190 = some (7, 5) := by decide +kernel
theorem rf_4_27 : rFld 4 27 = some (4, 0) := by decide +kernel
theorem rf_10_197 : rFld 10 197 = some (4, 0) := by decide +kernel
theorem rf_4_9 : rFld 4 9 = some (4, 1) := by decide +kernel
theorem rf_4_15 : rFld 4 15 = some (4, 2) := by decide +kernel
theorem rf_6_196 : rFld 6 196 = some (4, 2) := by decide +kernel
theorem rf_4_18 : rFld 4 18 = some (4, 3) := by decide +kernel
theorem rf_6_199 : rFld 6 199 = some (4, 3) := by decide +kernel
theorem rf_4_21 : rFld 4 21 = some (4, 4) := by decide +kernel
theorem rf_4_24 : rFld 4 24 = some (4, 5) := by decide +kernel
theorem rf_1_30 : rFld 1 30 = some (1, 0) := by decide +kernel
theorem rf_10_214 : rFld 10 214 = some (1, 0) := by decide +kernel
theorem rf_6_216 : rFld 6 216 = some (1, 0) := by decide +kernel
theorem rf_1_42 : rFld 1 42 = some (1, 1) := by decide +kernel
theorem rf_1_38 : rFld 1 38 = some (1, 2) := by decide +kernel
theorem rf_10_313 : rFld 10 313 = some (1, 2) := by decide +kernel
theorem rf_1_9 : rFld 1 9 = some (1, 3) := by decide +kernel
theorem rf_1_15 : rFld 1 15 = some (1, 4) := by decide +kernel
theorem rf_1_18 : rFld 1 18 = some (1, 5) := by decide +kernel
theorem rf_1_21 : rFld 1 21 = some (1, 6) := by decide +kernel
theorem rf_1_24 : rFld 1 24 = some (1, 7) := by decide +kernel
theorem rf_1_27 : rFld 1 27 = some (1, 8) := by decide +kernel
theorem rf_3_22 : rFld 3 22 = some (3, 0) := by decide +kernel
theorem rf_10_252 : rFld 10 252 = some (3, 0) := by decide +kernel
theorem rf_10_235 : rFld 10 235 = some (3, 1) := by decide +kernel
theorem rf_3_9 : rFld 3 9 = some (3, 2) := by decide +kernel
theorem rf_3_15 : rFld 3 15 = some (3, 3) := by decide +kernel
theorem rf_3_18 : rFld 3 18 = some (3, 4) := by decide +kernel
theorem rf_8_27 : rFld 8 27 = some (8, 0) := by decide +kernel
theorem rf_8_31 : rFld 8 31 = some (8, 1) := by decide +kernel
theorem rf_8_9 : rFld 8 9 = some (8, 2) := by decide +kernel
theorem rf_8_15 : rFld 8 15 = some (8, 3) := by decide +kernel
theorem rf_8_18 : rFld 8 18 = some (8, 4) := by decide +kernel
theorem rf_6_37 : rFld 6 37 = some (6, 0) := by decide +kernel
theorem rf_6_41 : rFld 6 41 = some (6, 1) := by decide +kernel
theorem rf_6_45 : rFld 6 45 = some (6, 2) := by decide +kernel
theorem rf_6_49 : rFld 6 49 = some (6, 3) := by decide +kernel
theorem rf_6_53 : rFld 6 53 = some (6, 4) := by decide +kernel
theorem rf_6_9 : rFld 6 9 = some (6, 5) := by decide +kernel
theorem rf_6_15 : rFld 6 15 = some (6, 6) := by decide +kernel
theorem rf_6_19 : rFld 6 19 = some (6, 7) := by decide +kernel
theorem rf_6_22 : rFld 6 22 = some (6, 8) := by decide +kernel
theorem rf_6_202 : rFld 6 202 = some (6, 9) := by decide +kernel
theorem rf_10_287 : rFld 10 287 = some (6, 9) := by decide +kernel
theorem rf_6_25 : rFld 6 25 = some (6, 10) := by decide +kernel
theorem rf_6_28 : rFld 6 28 = some (6, 11) := by decide +kernel
theorem rf_6_31 : rFld 6 31 = some (6, 12) := by decide +kernel
theorem rf_6_34 : rFld 6 34 = some (6, 13) := by decide +kernel
theorem rf_2_21 : rFld 2 21 = some (2, 0) := by decide +kernel
theorem rf_6_94 : rFld 6 94 = some (2, 0) := by decide +kernel
theorem rf_10_173 : rFld 10 173 = some (2, 0) := by decide +kernel
theorem rf_2_25 : rFld 2 25 = some (2, 1) := by decide +kernel
theorem rf_10_174 : rFld 10 174 = some (2, 1) := by decide +kernel
theorem rf_2_9 : rFld 2 9 = some (2, 2) := by decide +kernel
theorem rf_6_99 : rFld 6 99 = some (2, 2) := by decide +kernel
theorem rf_2_15 : rFld 2 15 = some (2, 3) := by decide +kernel
theorem rf_6_102 : rFld 6 102 = some (2, 3) := by decide +kernel
theorem rf_2_18 : rFld 2 18 = some (2, 4) := by decide +kernel
theorem rf_6_112 : rFld 6 112 = some (2, 4) := by decide +kernel
theorem rf_10_12 : rFld 10 12 = some (10, 0) := by decide +kernel
theorem rf_10_21 : rFld 10 21 = some (10, 1) := by decide +kernel
theorem rf_10_28 : rFld 10 28 = some (10, 2) := by decide +kernel
theorem rf_10_35 : rFld 10 35 = some (10, 3) := by decide +kernel
theorem rf_10_42 : rFld 10 42 = some (10, 4) := by decide +kernel
theorem rf_10_51 : rFld 10 51 = some (10, 5) := by decide +kernel
theorem rf_10_58 : rFld 10 58 = some (10, 6) := by decide +kernel
theorem rf_11_9 : rFld 11 9 = some (11, 0) := by decide +kernel
theorem rf_11_15 : rFld 11 15 = some (11, 1) := by decide +kernel
theorem rf_11_18 : rFld 11 18 = some (11, 2) := by decide +kernel
theorem rf_11_21 : rFld 11 21 = some (11, 3) := by decide +kernel
theorem rf_11_24 : rFld 11 24 = some (11, 4) := by decide +kernel
theorem rf_11_27 : rFld 11 27 = some (11, 5) := by decide +kernel
theorem rf_11_30 : rFld 11 30 = some (11, 6) := by decide +kernel
theorem rf_11_33 : rFld 11 33 = some (11, 7) := by decide +kernel
theorem rf_11_36 : rFld 11 36 = some (11, 8) := by decide +kernel
theorem rf_11_39 : rFld 11 39 = some (11, 9) := by decide +kernel
theorem rf_11_42 : rFld 11 42 = some (11, 10) := by decide +kernel
theorem rf_11_45 : rFld 11 45 = some (11, 11) := by decide +kernel
theorem rf_11_48 : rFld 11 48 = some (11, 12) := by decide +kernel
theorem rf_11_51 : rFld 11 51 = some (11, 13) := by decide +kernel
theorem rf_11_54 : rFld 11 54 = some (11, 14) := by decide +kernel
theorem rf_11_166 : rFld 11 166 = some (11, 15) := by decide +kernel
theorem rf_11_199 : rFld 11 199 = some (11, 16) := by decide +kernel
theorem rf_11_225 : rFld 11 225 = some (11, 17) := by decide +kernel
theorem rf_11_57 : rFld 11 57 = some (11, 18) := by decide +kernel
theorem rf_11_60 : rFld 11 60 = some (11, 19) := by decide +kernel
theorem rf_11_63 : rFld 11 63 = some (11, 20) := by decide +kernel
theorem rf_11_66 : rFld 11 66 = some (11, 21) := by decide +kernel
theorem rf_11_69 : rFld 11 69 = some (11, 22) := by decide +kernel
theorem rf_11_153 : rFld 11 153 = some (11, 23) := by decide +kernel
theorem rf_11_72 : rFld 11 72 = some (11, 24) := by decide +kernel
theorem rf_11_75 : rFld 11 75 = some (11, 25) := by decide +kernel
theorem rf_11_78 : rFld 11 78 = some (11, 26) := by decide +kernel
theorem rf_11_81 : rFld 11 81 = some (11, 27) := by decide +kernel
theorem rf_11_84 : rFld 11 84 = some (11, 28) := by decide +kernel
theorem rf_11_230 : rFld 11 230 = some (11, 29) := by decide +kernel
theorem rf_11_87 : rFld 11 87 = some (11, 30) := by decide +kernel
theorem rf_11_90 : rFld 11 90 = some (11, 31) := by decide +kernel
theorem rf_11_93 : rFld 11 93 = some (11, 32) := by decide +kernel
theorem rf_11_96 : rFld 11 96 = some (11, 33) := by decide +kernel
theorem rf_11_99 : rFld 11 99 = some (11, 34) := by decide +kernel
theorem rf_11_102 : rFld 11 102 = some (11, 35) := by decide +kernel
theorem rf_11_106 : rFld 11 106 = some (11, 36) := by decide +kernel
theorem rf_11_110 : rFld 11 110 = some (11, 37) := by decide +kernel
theorem rf_11_113 : rFld 11 113 = some (11, 38) := by decide +kernel
theorem rf_11_116 : rFld 11 116 = some (11, 39) := by decide +kernel
theorem rf_11_163 : rFld 11 163 = some (11, 40) := by decide +kernel
theorem rf_11_315 : rFld 11 315 = some (11, 41) := by decide +kernel
theorem rf_11_119 : rFld 11 119 = some (11, 42) := by decide +kernel
theorem rf_11_122 : rFld 11 122 = some (11, 43) := by decide +kernel
theorem rf_11_125 : rFld 11 125 = some (11, 44) := by decide +kernel
theorem rf_11_128 : rFld 11 128 = some (11, 45) := by decide +kernel
theorem rf_11_300 : rFld 11 300 = some (11, 46) := by decide +kernel
theorem rf_11_131 : rFld 11 131 = some (11, 47) := by decide +kernel
theorem rf_11_134 : rFld 11 134 = some (11, 48) := by decide +kernel
theorem rf_11_137 : rFld 11 137 = some (11, 49) := by decide +kernel
theorem rf_11_140 : rFld 11 140 = some (11, 50) := by decide +kernel
theorem rm_12_83 : rMth 12 83 = some (2, 0) := by decide +kernel
theorem rm_10_3 : rMth 10 3 = some (16, 0) := by decide +kernel
theorem rm_10_11 : rMth 10 11 = some (5, 1) := by decide +kernel
theorem rm_7_3 : rMth 7 3 = some (16, 0) := by decide +kernel
theorem rm_7_11 : rMth 7 11 = some (2, 2) := by decide +kernel
theorem rm_0_3 : rMth 0 3 = some (16, 0) := by decide +kernel
theorem rm_0_17 : rMth 0 17 = some (5, 3) := by decide +kernel
theorem rm_5_3 : rMth 5 3 = some (16, 0) := by decide +kernel
theorem rm_7_26 : rMth 7 26 = some (2, 4) := by decide +kernel
theorem rm_9_3 : rMth 9 3 = some (16, 0) := by decide +kernel
theorem rm_9_22 : rMth 9 22 = some (1, 5) := by decide +kernel
theorem rm_10_20 : rMth 10 20 = some (5, 6) := by decide +kernel
theorem rm_4_3 : rMth 4 3 = some (16, 0) := by decide +kernel
theorem rm_10_27 : rMth 10 27 = some (5, 7) := by decide +kernel
theorem rm_1_3 : rMth 1 3 = some (16, 0) := by decide +kernel
theorem rm_10_34 : rMth 10 34 = some (5, 8) := by decide +kernel
theorem rm_3_3 : rMth 3 3 = some (16, 0) := by decide +kernel
theorem rm_10_41 : rMth 10 41 = some (5, 9) := by decide +kernel
theorem rm_8_3 : rMth 8 3 = some (16, 0) := by decide +kernel
theorem rm_10_48 : rMth 10 48 = some (2, 10) := by decide +kernel
theorem rm_6_3 : rMth 6 3 = some (16, 0) := by decide +kernel
theorem rm_10_57 : rMth 10 57 = some (5, 11) := by decide +kernel
theorem rm_2_3 : rMth 2 3 = some (16, 0) := by decide +kernel
theorem rm_12_105 : rMth 12 105 = some (0, 12) := by decide +kernel
theorem rm_10_105 : rMth 10 105 = some (0, 13) := by decide +kernel
theorem rm_12_123 : rMth 12 123 = some (0, 14) := by decide +kernel
theorem rm_12_146 : rMth 12 146 = some (0, 15) := by decide +kernel
theorem rm_12_150 : rMth 12 150 = some (0, 16) := by decide +kernel
theorem rm_12_178 : rMth 12 178 = some (0, 17) := by decide +kernel
theorem rm_12_87 : rMth 12 87 = some (1, 18) := by decide +kernel
theorem rm_12_7 : rMth 12 7 = some (0, 19) := by decide +kernel
theorem rm_10_62 : rMth 10 62 = some (0, 20) := by decide +kernel
theorem rm_10_324 : rMth 10 324 = some (0, 21) := by decide +kernel
theorem rm_10_66 : rMth 10 66 = some (1, 22) := by decide +kernel
theorem rm_10_327 : rMth 10 327 = some (0, 23) := by decide +kernel
theorem rm_10_70 : rMth 10 70 = some (1, 24) := by decide +kernel
theorem rm_10_74 : rMth 10 74 = some (0, 25) := by decide +kernel
theorem rm_0_65 : rMth 0 65 = some (0, 23) := by decide +kernel
theorem rm_10_84 : rMth 10 84 = some (1, 26) := by decide +kernel
theorem rm_10_88 : rMth 10 88 = some (0, 27) := by decide +kernel
theorem rm_0_72 : rMth 0 72 = some (0, 28) := by decide +kernel
theorem rm_10_96 : rMth 10 96 = some (0, 29) := by decide +kernel
theorem rm_9_28 : rMth 9 28 = some (0, 30) := by decide +kernel
theorem rm_9_32 : rMth 9 32 = some (0, 31) := by decide +kernel
theorem rm_10_102 : rMth 10 102 = some (0, 32) := by decide +kernel
theorem rm_7_41 : rMth 7 41 = some (0, 33) := by decide +kernel
theorem rm_0_69 : rMth 0 69 = some (0, 25) := by decide +kernel
theorem rm_0_92 : rMth 0 92 = some (0, 34) := by decide +kernel
theorem rm_5_25 : rMth 5 25 = some (0, 30) := by decide +kernel
theorem rm_0_76 : rMth 0 76 = some (0, 35) := by decide +kernel
theorem rm_0_79 : rMth 0 79 = some (0, 31) := by decide +kernel
theorem rm_0_82 : rMth 0 82 = some (0, 36) := by decide +kernel
theorem rm_0_85 : rMth 0 85 = some (0, 37) := by decide +kernel
theorem rm_0_88 : rMth 0 88 = some (0, 38) := by decide +kernel
theorem rm_0_102 : rMth 0 102 = some (0, 39) := by decide +kernel
theorem rm_0_106 : rMth 0 106 = some (0, 40) := by decide +kernel
theorem rm_0_110 : rMth 0 110 = some (0, 41) := by decide +kernel
theorem rm_12_97 : rMth 12 97 = some (1, 42) := by decide +kernel
theorem rm_12_19 : rMth 12 19 = some (0, 43) := by decide +kernel
theorem rm_10_115 : rMth 10 115 = some (1, 44) := by decide +kernel
theorem rm_10_121 : rMth 10 121 = some (0, 45) := by decide +kernel
theorem rm_10_124 : rMth 10 124 = some (0, 46) := by decide +kernel
theorem rm_12_101 : rMth 12 101 = some (1, 47) := by decide +kernel
theorem rm_12_23 : rMth 12 23 = some (0, 48) := by decide +kernel
theorem rm_10_133 : rMth 10 133 = some (0, 49) := by decide +kernel
theorem rm_10_137 : rMth 10 137 = some (0, 50) := by decide +kernel
theorem rm_10_144 : rMth 10 144 = some (0, 51) := by decide +kernel
theorem rm_12_110 : rMth 12 110 = some (1, 52) := by decide +kernel
theorem rm_12_27 : rMth 12 27 = some (0, 53) := by decide +kernel
theorem rm_10_153 : rMth 10 153 = some (0, 54) := by decide +kernel
theorem rm_10_156 : rMth 10 156 = some (0, 31) := by decide +kernel
theorem rm_10_159 : rMth 10 159 = some (0, 30) := by decide +kernel
theorem rm_10_162 : rMth 10 162 = some (0, 36) := by decide +kernel
theorem rm_12_113 : rMth 12 113 = some (1, 55) := by decide +kernel
theorem rm_12_30 : rMth 12 30 = some (0, 56) := by decide +kernel
theorem rm_10_167 : rMth 10 167 = some (0, 57) := by decide +kernel
theorem rm_10_170 : rMth 10 170 = some (0, 58) := by decide +kernel
theorem rm_12_116 : rMth 12 116 = some (1, 59) := by decide +kernel
theorem rm_12_33 : rMth 12 33 = some (0, 60) := by decide +kernel
theorem rm_10_177 : rMth 10 177 = some (0, 61) := by decide +kernel
theorem rm_10_180 : rMth 10 180 = some (0, 62) := by decide +kernel
theorem rm_12_119 : rMth 12 119 = some (1, 63) := by decide +kernel
theorem rm_12_36 : rMth 12 36 = some (0, 64) := by decide +kernel
theorem rm_10_186 : rMth 10 186 = some (0, 65) := by decide +kernel
theorem rm_12_127 : rMth 12 127 = some (1, 66) := by decide +kernel
theorem rm_12_40 : rMth 12 40 = some (0, 67) := by decide +kernel
theorem rm_10_193 : rMth 10 193 = some (0, 68) := by decide +kernel
theorem rm_10_330 : rMth 10 330 = some (0, 69) := by decide +kernel
theorem rm_10_198 : rMth 10 198 = some (0, 70) := by decide +kernel
theorem rm_4_31 : rMth 4 31 = some (0, 69) := by decide +kernel
theorem rm_12_130 : rMth 12 130 = some (1, 71) := by decide +kernel
theorem rm_12_43 : rMth 12 43 = some (0, 72) := by decide +kernel
theorem rm_10_202 : rMth 10 202 = some (0, 73) := by decide +kernel
theorem rm_4_35 : rMth 4 35 = some (0, 74) := by decide +kernel
theorem rm_12_133 : rMth 12 133 = some (1, 75) := by decide +kernel
theorem rm_12_46 : rMth 12 46 = some (0, 76) := by decide +kernel
theorem rm_10_205 : rMth 10 205 = some (0, 77) := by decide +kernel
theorem rm_10_209 : rMth 10 209 = some (0, 78) := by decide +kernel
theorem rm_7_45 : rMth 7 45 = some (4, 79) := by decide +kernel
theorem rm_7_49 : rMth 7 49 = some (0, 25) := by decide +kernel
theorem rm_10_210 : rMth 10 210 = some (0, 80) := by decide +kernel
theorem rm_10_211 : rMth 10 211 = some (0, 81) := by decide +kernel
theorem rm_10_215 : rMth 10 215 = some (0, 82) := by decide +kernel
theorem rm_10_217 : rMth 10 217 = some (0, 83) := by decide +kernel
theorem rm_10_373 : rMth 10 373 = some (0, 84) := by decide +kernel
theorem rm_3_26 : rMth 3 26 = some (0, 85) := by decide +kernel
theorem rm_10_374 : rMth 10 374 = some (0, 86) := by decide +kernel
theorem rm_10_375 : rMth 10 375 = some (0, 87) := by decide +kernel
theorem rm_10_281 : rMth 10 281 = some (0, 88) := by decide +kernel
theorem rm_7_56 : rMth 7 56 = some (0, 89) := by decide +kernel
theorem rm_7_60 : rMth 7 60 = some (0, 21) := by decide +kernel
theorem rm_7_64 : rMth 7 64 = some (0, 90) := by decide +kernel
theorem rm_10_378 : rMth 10 378 = some (0, 91) := by decide +kernel
theorem rm_7_74 : rMth 7 74 = some (0, 92) := by decide +kernel
theorem rm_7_53 : rMth 7 53 = some (0, 36) := by decide +kernel
theorem rm_7_78 : rMth 7 78 = some (0, 93) := by decide +kernel
theorem rm_10_381 : rMth 10 381 = some (0, 94) := by decide +kernel
theorem rm_10_221 : rMth 10 221 = some (0, 95) := by decide +kernel
theorem rm_10_225 : rMth 10 225 = some (0, 96) := by decide +kernel
theorem rm_1_34 : rMth 1 34 = some (0, 97) := by decide +kernel
theorem rm_10_362 : rMth 10 362 = some (0, 98) := by decide +kernel
theorem rm_10_364 : rMth 10 364 = some (0, 99) := by decide +kernel
theorem rm_10_367 : rMth 10 367 = some (0, 100) := by decide +kernel
theorem rm_12_137 : rMth 12 137 = some (1, 101) := by decide +kernel
theorem rm_12_50 : rMth 12 50 = some (0, 102) := by decide +kernel
theorem rm_10_228 : rMth 10 228 = some (0, 103) := by decide +kernel
theorem rm_12_140 : rMth 12 140 = some (1, 104) := by decide +kernel
theorem rm_12_53 : rMth 12 53 = some (0, 105) := by decide +kernel
theorem rm_10_231 : rMth 10 231 = some (0, 92) := by decide +kernel
theorem rm_10_234 : rMth 10 234 = some (0, 106) := by decide +kernel
theorem rm_10_238 : rMth 10 238 = some (0, 107) := by decide +kernel
theorem rm_10_242 : rMth 10 242 = some (0, 108) := by decide +kernel
theorem rm_10_245 : rMth 10 245 = some (0, 109) := by decide +kernel
theorem rm_6_56 : rMth 6 56 = some (0, 92) := by decide +kernel
theorem rm_6_62 : rMth 6 62 = some (0, 110) := by decide +kernel
theorem rm_6_68 : rMth 6 68 = some (0, 89) := by decide +kernel
theorem rm_6_72 : rMth 6 72 = some (0, 111) := by decide +kernel
theorem rm_6_168 : rMth 6 168 = some (0, 112) := by decide +kernel
theorem rm_6_80 : rMth 6 80 = some (0, 21) := by decide +kernel
theorem rm_6_84 : rMth 6 84 = some (4, 79) := by decide +kernel
theorem rm_6_126 : rMth 6 126 = some (0, 25) := by decide +kernel
theorem rm_6_187 : rMth 6 187 = some (0, 31) := by decide +kernel
theorem rm_6_190 : rMth 6 190 = some (0, 74) := by decide +kernel
theorem rm_6_171 : rMth 6 171 = some (0, 87) := by decide +kernel
theorem rm_6_177 : rMth 6 177 = some (0, 113) := by decide +kernel
theorem rm_6_219 : rMth 6 219 = some (0, 100) := by decide +kernel
theorem rm_6_222 : rMth 6 222 = some (0, 99) := by decide +kernel
theorem rm_6_225 : rMth 6 225 = some (0, 91) := by decide +kernel
theorem rm_6_228 : rMth 6 228 = some (0, 30) := by decide +kernel
theorem rm_6_181 : rMth 6 181 = some (0, 114) := by decide +kernel
theorem rm_6_193 : rMth 6 193 = some (0, 80) := by decide +kernel
theorem rm_6_150 : rMth 6 150 = some (1, 115) := by decide +kernel
theorem rm_6_153 : rMth 6 153 = some (4, 116) := by decide +kernel
theorem rm_10_353 : rMth 10 353 = some (13, 0) := by decide +kernel
theorem rm_10_359 : rMth 10 359 = some (12, 0) := by decide +kernel
theorem rm_6_205 : rMth 6 205 = some (0, 117) := by decide +kernel
theorem rm_6_234 : rMth 6 234 = some (0, 96) := by decide +kernel
theorem rm_6_209 : rMth 6 209 = some (0, 118) := by decide +kernel
theorem rm_6_231 : rMth 6 231 = some (10, 0) := by decide +kernel
theorem rm_6_213 : rMth 6 213 = some (0, 119) := by decide +kernel
theorem rm_6_184 : rMth 6 184 = some (0, 69) := by decide +kernel
theorem rm_6_76 : rMth 6 76 = some (0, 120) := by decide +kernel
theorem rm_6_88 : rMth 6 88 = some (0, 121) := by decide +kernel
theorem rm_6_105 : rMth 6 105 = some (4, 122) := by decide +kernel
theorem rm_10_346 : rMth 10 346 = some (1, 79) := by decide +kernel
theorem rm_6_109 : rMth 6 109 = some (0, 123) := by decide +kernel
theorem rm_6_139 : rMth 6 139 = some (0, 50) := by decide +kernel
theorem rm_6_142 : rMth 6 142 = some (1, 124) := by decide +kernel
theorem rm_6_115 : rMth 6 115 = some (0, 125) := by decide +kernel
theorem rm_6_133 : rMth 6 133 = some (0, 126) := by decide +kernel
theorem rm_6_118 : rMth 6 118 = some (1, 127) := by decide +kernel
theorem rm_6_146 : rMth 6 146 = some (1, 128) := by decide +kernel
theorem rm_6_157 : rMth 6 157 = some (14, 0) := by decide +kernel
theorem rm_10_248 : rMth 10 248 = some (0, 129) := by decide +kernel
theorem rm_3_32 : rMth 3 32 = some (0, 94) := by decide +kernel
theorem rm_12_143 : rMth 12 143 = some (1, 130) := by decide +kernel
theorem rm_12_57 : rMth 12 57 = some (0, 131) := by decide +kernel
theorem rm_12_154 : rMth 12 154 = some (1, 132) := by decide +kernel
theorem rm_12_60 : rMth 12 60 = some (0, 133) := by decide +kernel
theorem rm_12_157 : rMth 12 157 = some (1, 134) := by decide +kernel
theorem rm_12_63 : rMth 12 63 = some (0, 135) := by decide +kernel
theorem rm_10_256 : rMth 10 256 = some (0, 136) := by decide +kernel
theorem rm_0_117 : rMth 0 117 = some (0, 137) := by decide +kernel
theorem rm_0_121 : rMth 0 121 = some (0, 138) := by decide +kernel
theorem rm_0_124 : rMth 0 124 = some (0, 50) := by decide +kernel
theorem rm_10_259 : rMth 10 259 = some (0, 139) := by decide +kernel
theorem rm_6_240 : rMth 6 240 = some (0, 140) := by decide +kernel
theorem rm_6_243 : rMth 6 243 = some (0, 141) := by decide +kernel
theorem rm_6_246 : rMth 6 246 = some (0, 142) := by decide +kernel
theorem rm_6_250 : rMth 6 250 = some (11, 0) := by decide +kernel
theorem rm_12_160 : rMth 12 160 = some (1, 143) := by decide +kernel
theorem rm_12_66 : rMth 12 66 = some (0, 144) := by decide +kernel
theorem rm_10_267 : rMth 10 267 = some (0, 140) := by decide +kernel
theorem rm_12_163 : rMth 12 163 = some (1, 145) := by decide +kernel
theorem rm_12_69 : rMth 12 69 = some (0, 146) := by decide +kernel
theorem rm_10_275 : rMth 10 275 = some (0, 141) := by decide +kernel
theorem rm_10_278 : rMth 10 278 = some (1, 122) := by decide +kernel
theorem rm_12_166 : rMth 12 166 = some (1, 147) := by decide +kernel
theorem rm_12_72 : rMth 12 72 = some (0, 148) := by decide +kernel
theorem rm_10_284 : rMth 10 284 = some (0, 113) := by decide +kernel
theorem rm_10_290 : rMth 10 290 = some (0, 149) := by decide +kernel
theorem rm_10_294 : rMth 10 294 = some (0, 150) := by decide +kernel
theorem rm_8_21 : rMth 8 21 = some (11, 0) := by decide +kernel
theorem rm_10_298 : rMth 10 298 = some (0, 151) := by decide +kernel
theorem rm_10_301 : rMth 10 301 = some (0, 152) := by decide +kernel
theorem rm_10_304 : rMth 10 304 = some (0, 153) := by decide +kernel
theorem rm_8_35 : rMth 8 35 = some (0, 154) := by decide +kernel
theorem rm_8_39 : rMth 8 39 = some (0, 155) := by decide +kernel
theorem rm_8_45 : rMth 8 45 = some (0, 156) := by decide +kernel
theorem rm_8_42 : rMth 8 42 = some (0, 157) := by decide +kernel
theorem rm_10_307 : rMth 10 307 = some (0, 158) := by decide +kernel
theorem rm_10_310 : rMth 10 310 = some (0, 159) := by decide +kernel
theorem rm_10_370 : rMth 10 370 = some (0, 160) := by decide +kernel
theorem rm_12_170 : rMth 12 170 = some (1, 161) := by decide +kernel
theorem rm_12_76 : rMth 12 76 = some (0, 162) := by decide +kernel
theorem rm_10_316 : rMth 10 316 = some (0, 163) := by decide +kernel
theorem rm_1_45 : rMth 1 45 = some (15, 0) := by decide +kernel
theorem rm_12_174 : rMth 12 174 = some (1, 164) := by decide +kernel
theorem rm_12_79 : rMth 12 79 = some (0, 165) := by decide +kernel
theorem rm_10_319 : rMth 10 319 = some (0, 166) := by decide +kernel
theorem rm_12_86 : rMth 12 86 = some (2, 167) := by decide +kernel
theorem rm_11_3 : rMth 11 3 = some (16, 0) := by decide +kernel
theorem rm_12_93 : rMth 12 93 = some (0, 168) := by decide +kernel
theorem rm_12_92 : rMth 12 92 = some (0, 169) := by decide +kernel
theorem rm_11_156 : rMth 11 156 = some (0, 170) := by decide +kernel
theorem rm_11_149 : rMth 11 149 = some (0, 171) := by decide +kernel
theorem rm_11_145 : rMth 11 145 = some (0, 172) := by decide +kernel
theorem rm_11_180 : rMth 11 180 = some (0, 173) := by decide +kernel
theorem rm_11_185 : rMth 11 185 = some (0, 174) := by decide +kernel
theorem rm_11_188 : rMth 11 188 = some (0, 175) := by decide +kernel
theorem rm_11_191 : rMth 11 191 = some (0, 176) := by decide +kernel
theorem rm_11_177 : rMth 11 177 = some (0, 177) := by decide +kernel
theorem rm_11_194 : rMth 11 194 = some (0, 178) := by decide +kernel
theorem rm_12_100 : rMth 12 100 = some (0, 179) := by decide +kernel
theorem rm_12_104 : rMth 12 104 = some (0, 180) := by decide +kernel
theorem rm_11_173 : rMth 11 173 = some (0, 181) := by decide +kernel
theorem rm_11_169 : rMth 11 169 = some (0, 182) := by decide +kernel
theorem rm_12_109 : rMth 12 109 = some (0, 183) := by decide +kernel
theorem rm_12_112 : rMth 12 112 = some (0, 184) := by decide +kernel
theorem rm_11_205 : rMth 11 205 = some (0, 185) := by decide +kernel
theorem rm_11_208 : rMth 11 208 = some (0, 186) := by decide +kernel
theorem rm_12_115 : rMth 12 115 = some (0, 187) := by decide +kernel
theorem rm_11_219 : rMth 11 219 = some (0, 188) := by decide +kernel
theorem rm_12_118 : rMth 12 118 = some (0, 189) := by decide +kernel
theorem rm_12_122 : rMth 12 122 = some (0, 190) := by decide +kernel
theorem rm_12_126 : rMth 12 126 = some (0, 191) := by decide +kernel
theorem rm_12_129 : rMth 12 129 = some (0, 192) := by decide +kernel
theorem rm_11_160 : rMth 11 160 = some (0, 193) := by decide +kernel
theorem rm_12_132 : rMth 12 132 = some (0, 194) := by decide +kernel
theorem rm_12_136 : rMth 12 136 = some (0, 195) := by decide +kernel
theorem rm_11_233 : rMth 11 233 = some (0, 196) := by decide +kernel
theorem rm_11_237 : rMth 11 237 = some (0, 197) := by decide +kernel
theorem rm_11_241 : rMth 11 241 = some (0, 198) := by decide +kernel
theorem rm_11_245 : rMth 11 245 = some (0, 199) := by decide +kernel
theorem rm_11_249 : rMth 11 249 = some (0, 200) := by decide +kernel
theorem rm_11_321 : rMth 11 321 = some (0, 201) := by decide +kernel
theorem rm_11_259 : rMth 11 259 = some (0, 202) := by decide +kernel
theorem rm_11_256 : rMth 11 256 = some (0, 203) := by decide +kernel
theorem rm_11_253 : rMth 11 253 = some (0, 204) := by decide +kernel
theorem rm_11_318 : rMth 11 318 = some (0, 205) := by decide +kernel
theorem rm_12_139 : rMth 12 139 = some (0, 206) := by decide +kernel
theorem rm_12_142 : rMth 12 142 = some (0, 207) := by decide +kernel
theorem rm_11_311 : rMth 11 311 = some (0, 208) := by decide +kernel
theorem rm_11_275 : rMth 11 275 = some (0, 209) := by decide +kernel
theorem rm_11_268 : rMth 11 268 = some (0, 210) := by decide +kernel
theorem rm_11_303 : rMth 11 303 = some (0, 211) := by decide +kernel
theorem rm_11_293 : rMth 11 293 = some (0, 212) := by decide +kernel
theorem rm_11_281 : rMth 11 281 = some (0, 213) := by decide +kernel
theorem rm_11_307 : rMth 11 307 = some (0, 214) := by decide +kernel
theorem rm_11_296 : rMth 11 296 = some (0, 215) := by decide +kernel
theorem rm_11_289 : rMth 11 289 = some (0, 216) := by decide +kernel
theorem rm_11_272 : rMth 11 272 = some (0, 217) := by decide +kernel
theorem rm_11_285 : rMth 11 285 = some (0, 218) := by decide +kernel
theorem rm_12_145 : rMth 12 145 = some (0, 219) := by decide +kernel
theorem rm_11_324 : rMth 11 324 = some (0, 220) := by decide +kernel
theorem rm_12_149 : rMth 12 149 = some (0, 221) := by decide +kernel
theorem rm_12_153 : rMth 12 153 = some (0, 222) := by decide +kernel
theorem rm_12_156 : rMth 12 156 = some (0, 223) := by decide +kernel
theorem rm_12_159 : rMth 12 159 = some (0, 224) := by decide +kernel
theorem rm_11_329 : rMth 11 329 = some (0, 225) := by decide +kernel
theorem rm_11_332 : rMth 11 332 = some (0, 226) := by decide +kernel
theorem rm_11_335 : rMth 11 335 = some (0, 227) := by decide +kernel
theorem rm_12_162 : rMth 12 162 = some (0, 228) := by decide +kernel
theorem rm_12_165 : rMth 12 165 = some (0, 229) := by decide +kernel
theorem rm_12_169 : rMth 12 169 = some (0, 230) := by decide +kernel
theorem rm_11_343 : rMth 11 343 = some (0, 231) := by decide +kernel
theorem rm_11_339 : rMth 11 339 = some (0, 232) := by decide +kernel
theorem rm_11_346 : rMth 11 346 = some (0, 233) := by decide +kernel
theorem rm_11_349 : rMth 11 349 = some (0, 234) := by decide +kernel
theorem rm_12_173 : rMth 12 173 = some (0, 235) := by decide +kernel
theorem rm_12_177 : rMth 12 177 = some (0, 236) := by decide +kernel
theorem rm_12_181 : rMth 12 181 = some (0, 237) := by decide +kernel
theorem rc_3_30 : rCst 3 30 = some (1, -9223372036854775808) := by decide +kernel
theorem rc_6_66 : rCst 6 66 = some (1, -9223372036854775808) := by decide +kernel
theorem rc_6_162 : rCst 6 162 = some (1, 1000000000000) := by decide +kernel
theorem rc_6_164 : rCst 6 164 = some (1, -1000000000000) := by decide +kernel
theorem rc_6_166 : rCst 6 166 = some (1, 1000) := by decide +kernel
theorem rc_8_49 : rCst 8 49 = some (1, -1) := by decide +kernel
theorem rc_8_51 : rCst 8 51 = some (1, -1000000) := by decide +kernel
theorem rc_8_53 : rCst 8 53 = some (1, 1000000) := by decide +kernel
theorem rc_10_165 : rCst 10 165 = some (0, -1000000) := by decide +kernel
theorem rc_10_166 : rCst 10 166 = some (0, 1000000) := by decide +kernel
theorem rc_10_232 : rCst 10 232 = some (1, -9223372036854775808) := by decide +kernel
theorem rc_10_349 : rCst 10 349 = some (1, -1000000000000) := by decide +kernel
theorem rc_10_351 : rCst 10 351 = some (1, 1000000000000) := by decide +kernel
theorem rc_11_143 : rCst 11 143 = some (1, 2) := by decide +kernel
theorem rc_11_183 : rCst 11 183 = some (1, -1) := by decide +kernel
theorem rc_11_197 : rCst 11 197 = some (1, 4095) := by decide +kernel
theorem rc_11_203 : rCst 11 203 = some (1, 4) := by decide +kernel
theorem rc_11_211 : rCst 11 211 = some (1, 6) := by decide +kernel
theorem rc_11_213 : rCst 11 213 = some (1, -1000000) := by decide +kernel
theorem rc_11_215 : rCst 11 215 = some (1, 1000000) := by decide +kernel
theorem rc_11_217 : rCst 11 217 = some (1, 11) := by decide +kernel
theorem rc_11_223 : rCst 11 223 = some (1, 100) := by decide +kernel
theorem rc_11_228 : rCst 11 228 = some (1, 3) := by decide +kernel
theorem rc_11_262 : rCst 11 262 = some (1, -9223372036854775808) := by decide +kernel
theorem rc_11_264 : rCst 11 264 = some (1, 1000000000000) := by decide +kernel
theorem rc_11_266 : rCst 11 266 = some (1, -1000000000000) := by decide +kernel
theorem rc_11_279 : rCst 11 279 = some (1, 1000) := by decide +kernel
theorem rc_11_327 : rCst 11 327 = some (1, 12) := by decide +kernel
theorem rc_13_265 : rCst 13 265 = some (0, 1431655765) := by decide +kernel
theorem rc_13_266 : rCst 13 266 = some (0, 858993459) := by decide +kernel
theorem rc_13_267 : rCst 13 267 = some (0, 252645135) := by decide +kernel
theorem rt_10_108 : rThr 10 108 = some 1 := by decide +kernel
theorem rt_10_270 : rThr 10 270 = some 2 := by decide +kernel
theorem rt_10_335 : rThr 10 335 = some 3 := by decide +kernel
theorem rt_12_13 : rThr 12 13 = some 1 := by decide +kernel
theorem rt_12_15 : rThr 12 15 = some 2 := by decide +kernel
theorem rt_12_17 : rThr 12 17 = some 3 := by decide +kernel
