theorem dX0_init_0 : decode cX0_init 0 = .ok (.aload_n 0, 1) := by decide +kernel
theorem dX0_init_1 : decode cX0_init 1 = .ok (.invokespecial 3, 3) := by decide +kernel
theorem dX0_init_4 : decode cX0_init 4 = .ok (.aload_n 0, 1) := by decide +kernel
theorem dX0_init_5 : decode cX0_init 5 = .ok (.iconst 1, 1) := by decide +kernel
theorem dX0_init_6 : decode cX0_init 6 = .ok (.putfield 9, 3) := by decide +kernel
theorem dX0_init_9 : decode cX0_init 9 = .ok (.aload_n 0, 1) := by decide +kernel
theorem dX0_init_10 : decode cX0_init 10 = .ok (.new 15, 3) := by decide +kernel
theorem dX0_init_13 : decode cX0_init 13 = .ok (.dup, 1) := by decide +kernel
theorem dX0_init_14 : decode cX0_init 14 = .ok (.invokespecial 17, 3) := by decide +kernel
theorem dX0_init_17 : decode cX0_init 17 = .ok (.putfield 18, 3) := by decide +kernel
theorem dX0_init_20 : decode cX0_init 20 = .ok (.aload_n 0, 1) := by decide +kernel
theorem dX0_init_21 : decode cX0_init 21 = .ok (.bipush 12, 2) := by decide +kernel
theorem dX0_init_23 : decode cX0_init 23 = .ok (.newarray .int, 2) := by decide +kernel
theorem dX0_init_25 : decode cX0_init 25 = .ok (.putfield 22, 3) := by decide +kernel
theorem dX0_init_28 : decode cX0_init 28 = .ok (.aload_n 0, 1) := by decide +kernel
theorem dX0_init_29 : decode cX0_init 29 = .ok (.bipush 12, 2) := by decide +kernel
theorem dX0_init_31 : decode cX0_init 31 = .ok (.newarray .int, 2) := by decide +kernel
theorem dX0_init_33 : decode cX0_init 33 = .ok (.putfield 26, 3) := by decide +kernel
theorem dX0_init_36 : decode cX0_init 36 = .ok (.aload_n 0, 1) := by decide +kernel
theorem dX0_init_37 : decode cX0_init 37 = .ok (.bipush 12, 2) := by decide +kernel
theorem dX0_init_39 : decode cX0_init 39 = .ok (.newarray .int, 2) := by decide +kernel
theorem dX0_init_41 : decode cX0_init 41 = .ok (.putfield 29, 3) := by decide +kernel
theorem dX0_init_44 : decode cX0_init 44 = .ok (.aload_n 0, 1) := by decide +kernel
theorem dX0_init_45 : decode cX0_init 45 = .ok (.bipush 12, 2) := by decide +kernel
theorem dX0_init_47 : decode cX0_init 47 = .ok (.newarray .int, 2) := by decide +kernel
theorem dX0_init_49 : decode cX0_init 49 = .ok (.putfield 32, 3) := by decide +kernel
theorem dX0_init_52 : decode cX0_init 52 = .ok (.aload_n 0, 1) := by decide +kernel
theorem dX0_init_53 : decode cX0_init 53 = .ok (.bipush 12, 2) := by decide +kernel
theorem dX0_init_55 : decode cX0_init 55 = .ok (.newarray .int, 2) := by decide +kernel
theorem dX0_init_57 : decode cX0_init 57 = .ok (.putfield 35, 3) := by decide +kernel
theorem dX0_init_60 : decode cX0_init 60 = .ok (.aload_n 0, 1) := by decide +kernel
theorem dX0_init_61 : decode cX0_init 61 = .ok (.bipush 12, 2) := by decide +kernel
theorem dX0_init_63 : decode cX0_init 63 = .ok (.newarray .boolean, 2) := by decide +kernel
theorem dX0_init_65 : decode cX0_init 65 = .ok (.putfield 38, 3) := by decide +kernel
theorem dX0_init_68 : decode cX0_init 68 = .ok (.aload_n 0, 1) := by decide +kernel
theorem dX0_init_69 : decode cX0_init 69 = .ok (.bipush 12, 2) := by decide +kernel
theorem dX0_init_71 : decode cX0_init 71 = .ok (.anewarray 42, 3) := by decide +kernel
theorem dX0_init_74 : decode cX0_init 74 = .ok (.putfield 44, 3) := by decide +kernel
theorem dX0_init_77 : decode cX0_init 77 = .ok (.aload_n 0, 1) := by decide +kernel
theorem dX0_init_78 : decode cX0_init 78 = .ok (.bipush 12, 2) := by decide +kernel
theorem dX0_init_80 : decode cX0_init 80 = .ok (.newarray .int, 2) := by decide +kernel
theorem dX0_init_82 : decode cX0_init 82 = .ok (.putfield 48, 3) := by decide +kernel
theorem dX0_init_85 : decode cX0_init 85 = .ok (.aload_n 0, 1) := by decide +kernel
theorem dX0_init_86 : decode cX0_init 86 = .ok (.bipush 12, 2) := by decide +kernel
theorem dX0_init_88 : decode cX0_init 88 = .ok (.newarray .int, 2) := by decide +kernel
theorem dX0_init_90 : decode cX0_init 90 = .ok (.putfield 51, 3) := by decide +kernel
theorem dX0_init_93 : decode cX0_init 93 = .ok (.aload_n 0, 1) := by decide +kernel
theorem dX0_init_94 : decode cX0_init 94 = .ok (.bipush 12, 2) := by decide +kernel
theorem dX0_init_96 : decode cX0_init 96 = .ok (.newarray .int, 2) := by decide +kernel
theorem dX0_init_98 : decode cX0_init 98 = .ok (.putfield 54, 3) := by decide +kernel
theorem dX0_init_101 : decode cX0_init 101 = .ok (.aload_n 0, 1) := by decide +kernel
theorem dX0_init_102 : decode cX0_init 102 = .ok (.bipush 12, 2) := by decide +kernel
theorem dX0_init_104 : decode cX0_init 104 = .ok (.newarray .boolean, 2) := by decide +kernel
theorem dX0_init_106 : decode cX0_init 106 = .ok (.putfield 57, 3) := by decide +kernel
theorem dX0_init_109 : decode cX0_init 109 = .ok (.aload_n 0, 1) := by decide +kernel
theorem dX0_init_110 : decode cX0_init 110 = .ok (.bipush 13, 2) := by decide +kernel
theorem dX0_init_112 : decode cX0_init 112 = .ok (.sipush 144, 3) := by decide +kernel
theorem dX0_init_115 : decode cX0_init 115 = .ok (.multianewarray 60 2, 4) := by decide +kernel
theorem dX0_init_119 : decode cX0_init 119 = .ok (.putfield 62, 3) := by decide +kernel
theorem dX0_init_122 : decode cX0_init 122 = .ok (.aload_n 0, 1) := by decide +kernel
theorem dX0_init_123 : decode cX0_init 123 = .ok (.getfield 51, 3) := by decide +kernel
theorem dX0_init_126 : decode cX0_init 126 = .ok (.iconst 0, 1) := by decide +kernel
theorem dX0_init_127 : decode cX0_init 127 = .ok (.iconst (-1), 1) := by decide +kernel
theorem dX0_init_128 : decode cX0_init 128 = .ok (.iastore, 1) := by decide +kernel
theorem dX0_init_129 : decode cX0_init 129 = .ok (.aload_n 0, 1) := by decide +kernel
theorem dX0_init_130 : decode cX0_init 130 = .ok (.getfield 57, 3) := by decide +kernel
theorem dX0_init_133 : decode cX0_init 133 = .ok (.iconst 0, 1) := by decide +kernel
theorem dX0_init_134 : decode cX0_init 134 = .ok (.iconst 1, 1) := by decide +kernel
theorem dX0_init_135 : decode cX0_init 135 = .ok (.bastore, 1) := by decide +kernel
theorem dX0_init_136 : decode cX0_init 136 = .ok (.iconst 0, 1) := by decide +kernel
theorem dX0_init_137 : decode cX0_init 137 = .ok (.istore_n 1, 1) := by decide +kernel
theorem dX0_init_138 : decode cX0_init 138 = .ok (.iload_n 1, 1) := by decide +kernel
theorem dX0_init_139 : decode cX0_init 139 = .ok (.bipush 12, 2) := by decide +kernel
theorem dX0_init_141 : decode cX0_init 141 = .ok (.if_icmp .gt 18, 3) := by decide +kernel
theorem dX0_init_144 : decode cX0_init 144 = .ok (.aload_n 0, 1) := by decide +kernel
theorem dX0_init_145 : decode cX0_init 145 = .ok (.getfield 62, 3) := by decide +kernel
theorem dX0_init_148 : decode cX0_init 148 = .ok (.iload_n 1, 1) := by decide +kernel
theorem dX0_init_149 : decode cX0_init 149 = .ok (.aaload, 1) := by decide +kernel
theorem dX0_init_150 : decode cX0_init 150 = .ok (.iconst 0, 1) := by decide +kernel
theorem dX0_init_151 : decode cX0_init 151 = .ok (.iconst 1, 1) := by decide +kernel
theorem dX0_init_152 : decode cX0_init 152 = .ok (.iastore, 1) := by decide +kernel
theorem dX0_init_153 : decode cX0_init 153 = .ok (.iinc 1 1, 3) := by decide +kernel
theorem dX0_init_156 : decode cX0_init 156 = .ok (.goto (-18), 3) := by decide +kernel
theorem dX0_init_159 : decode cX0_init 159 = .ok (.return_, 1) := by decide +kernel
theorem dX0_has_0 : decode cX0_has 0 = .ok (.iload_n 1, 1) := by decide +kernel
theorem dX0_has_1 : decode cX0_has 1 = .ok (.ifCond .lt 21, 3) := by decide +kernel
theorem dX0_has_4 : decode cX0_has 4 = .ok (.iload_n 1, 1) := by decide +kernel
theorem dX0_has_5 : decode cX0_has 5 = .ok (.aload_n 0, 1) := by decide +kernel
theorem dX0_has_6 : decode cX0_has 6 = .ok (.getfield 9, 3) := by decide +kernel
theorem dX0_has_9 : decode cX0_has 9 = .ok (.if_icmp .ge 13, 3) := by decide +kernel
theorem dX0_has_12 : decode cX0_has 12 = .ok (.iload_n 1, 1) := by decide +kernel
theorem dX0_has_13 : decode cX0_has 13 = .ok (.bipush 12, 2) := by decide +kernel
theorem dX0_has_15 : decode cX0_has 15 = .ok (.if_icmp .ge 7, 3) := by decide +kernel
theorem dX0_has_18 : decode cX0_has 18 = .ok (.iconst 1, 1) := by decide +kernel
theorem dX0_has_19 : decode cX0_has 19 = .ok (.goto 4, 3) := by decide +kernel
theorem dX0_has_22 : decode cX0_has 22 = .ok (.iconst 0, 1) := by decide +kernel
theorem dX0_has_23 : decode cX0_has 23 = .ok (.ireturn, 1) := by decide +kernel
theorem dX0_kindOf_0 : decode cX0_kindOf 0 = .ok (.aload_n 0, 1) := by decide +kernel
theorem dX0_kindOf_1 : decode cX0_kindOf 1 = .ok (.iload_n 1, 1) := by decide +kernel
theorem dX0_kindOf_2 : decode cX0_kindOf 2 = .ok (.invokevirtual 65, 3) := by decide +kernel
theorem dX0_kindOf_5 : decode cX0_kindOf 5 = .ok (.ifCond .eq 12, 3) := by decide +kernel
theorem dX0_kindOf_8 : decode cX0_kindOf 8 = .ok (.aload_n 0, 1) := by decide +kernel
theorem dX0_kindOf_9 : decode cX0_kindOf 9 = .ok (.getfield 22, 3) := by decide +kernel
theorem dX0_kindOf_12 : decode cX0_kindOf 12 = .ok (.iload_n 1, 1) := by decide +kernel
theorem dX0_kindOf_13 : decode cX0_kindOf 13 = .ok (.iaload, 1) := by decide +kernel
theorem dX0_kindOf_14 : decode cX0_kindOf 14 = .ok (.goto 4, 3) := by decide +kernel
theorem dX0_kindOf_17 : decode cX0_kindOf 17 = .ok (.iconst (-1), 1) := by decide +kernel
theorem dX0_kindOf_18 : decode cX0_kindOf 18 = .ok (.ireturn, 1) := by decide +kernel
theorem dX0_isPlain_0 : decode cX0_isPlain 0 = .ok (.aload_n 0, 1) := by decide +kernel
theorem dX0_isPlain_1 : decode cX0_isPlain 1 = .ok (.iload_n 1, 1) := by decide +kernel
theorem dX0_isPlain_2 : decode cX0_isPlain 2 = .ok (.invokevirtual 65, 3) := by decide +kernel
theorem dX0_isPlain_5 : decode cX0_isPlain 5 = .ok (.ifCond .eq 16, 3) := by decide +kernel
theorem dX0_isPlain_8 : decode cX0_isPlain 8 = .ok (.aload_n 0, 1) := by decide +kernel
theorem dX0_isPlain_9 : decode cX0_isPlain 9 = .ok (.getfield 22, 3) := by decide +kernel
theorem dX0_isPlain_12 : decode cX0_isPlain 12 = .ok (.iload_n 1, 1) := by decide +kernel
theorem dX0_isPlain_13 : decode cX0_isPlain 13 = .ok (.iaload, 1) := by decide +kernel
theorem dX0_isPlain_14 : decode cX0_isPlain 14 = .ok (.ifCond .ne 7, 3) := by decide +kernel
theorem dX0_isPlain_17 : decode cX0_isPlain 17 = .ok (.iconst 1, 1) := by decide +kernel
theorem dX0_isPlain_18 : decode cX0_isPlain 18 = .ok (.goto 4, 3) := by decide +kernel
theorem dX0_isPlain_21 : decode cX0_isPlain 21 = .ok (.iconst 0, 1) := by decide +kernel
theorem dX0_isPlain_22 : decode cX0_isPlain 22 = .ok (.ireturn, 1) := by decide +kernel
theorem dX0_parentOf_0 : decode cX0_parentOf 0 = .ok (.aload_n 0, 1) := by decide +kernel
theorem dX0_parentOf_1 : decode cX0_parentOf 1 = .ok (.iload_n 1, 1) := by decide +kernel
theorem dX0_parentOf_2 : decode cX0_parentOf 2 = .ok (.invokevirtual 65, 3) := by decide +kernel
theorem dX0_parentOf_5 : decode cX0_parentOf 5 = .ok (.ifCond .eq 21, 3) := by decide +kernel
theorem dX0_parentOf_8 : decode cX0_parentOf 8 = .ok (.aload_n 0, 1) := by decide +kernel
theorem dX0_parentOf_9 : decode cX0_parentOf 9 = .ok (.getfield 22, 3) := by decide +kernel
theorem dX0_parentOf_12 : decode cX0_parentOf 12 = .ok (.iload_n 1, 1) := by decide +kernel
theorem dX0_parentOf_13 : decode cX0_parentOf 13 = .ok (.iaload, 1) := by decide +kernel
theorem dX0_parentOf_14 : decode cX0_parentOf 14 = .ok (.ifCond .ne 12, 3) := by decide +kernel
theorem dX0_parentOf_17 : decode cX0_parentOf 17 = .ok (.aload_n 0, 1) := by decide +kernel
theorem dX0_parentOf_18 : decode cX0_parentOf 18 = .ok (.getfield 51, 3) := by decide +kernel
theorem dX0_parentOf_21 : decode cX0_parentOf 21 = .ok (.iload_n 1, 1) := by decide +kernel
theorem dX0_parentOf_22 : decode cX0_parentOf 22 = .ok (.iaload, 1) := by decide +kernel
theorem dX0_parentOf_23 : decode cX0_parentOf 23 = .ok (.goto 4, 3) := by decide +kernel
theorem dX0_parentOf_26 : decode cX0_parentOf 26 = .ok (.iconst (-1), 1) := by decide +kernel
theorem dX0_parentOf_27 : decode cX0_parentOf 27 = .ok (.ireturn, 1) := by decide +kernel
theorem dX0_depthOf_0 : decode cX0_depthOf 0 = .ok (.aload_n 0, 1) := by decide +kernel
theorem dX0_depthOf_1 : decode cX0_depthOf 1 = .ok (.iload_n 1, 1) := by decide +kernel
theorem dX0_depthOf_2 : decode cX0_depthOf 2 = .ok (.invokevirtual 65, 3) := by decide +kernel
theorem dX0_depthOf_5 : decode cX0_depthOf 5 = .ok (.ifCond .eq 21, 3) := by decide +kernel
theorem dX0_depthOf_8 : decode cX0_depthOf 8 = .ok (.aload_n 0, 1) := by decide +kernel
theorem dX0_depthOf_9 : decode cX0_depthOf 9 = .ok (.getfield 22, 3) := by decide +kernel
theorem dX0_depthOf_12 : decode cX0_depthOf 12 = .ok (.iload_n 1, 1) := by decide +kernel
theorem dX0_depthOf_13 : decode cX0_depthOf 13 = .ok (.iaload, 1) := by decide +kernel
theorem dX0_depthOf_14 : decode cX0_depthOf 14 = .ok (.ifCond .ne 12, 3) := by decide +kernel
theorem dX0_depthOf_17 : decode cX0_depthOf 17 = .ok (.aload_n 0, 1) := by decide +kernel
theorem dX0_depthOf_18 : decode cX0_depthOf 18 = .ok (.getfield 54, 3) := by decide +kernel
theorem dX0_depthOf_21 : decode cX0_depthOf 21 = .ok (.iload_n 1, 1) := by decide +kernel
theorem dX0_depthOf_22 : decode cX0_depthOf 22 = .ok (.iaload, 1) := by decide +kernel
theorem dX0_depthOf_23 : decode cX0_depthOf 23 = .ok (.goto 4, 3) := by decide +kernel
theorem dX0_depthOf_26 : decode cX0_depthOf 26 = .ok (.iconst (-1), 1) := by decide +kernel
theorem dX0_depthOf_27 : decode cX0_depthOf 27 = .ok (.ireturn, 1) := by decide +kernel
theorem dX0_orderOf_0 : decode cX0_orderOf 0 = .ok (.aload_n 0, 1) := by decide +kernel
theorem dX0_orderOf_1 : decode cX0_orderOf 1 = .ok (.iload_n 1, 1) := by decide +kernel
theorem dX0_orderOf_2 : decode cX0_orderOf 2 = .ok (.invokevirtual 65, 3) := by decide +kernel
theorem dX0_orderOf_5 : decode cX0_orderOf 5 = .ok (.ifCond .eq 22, 3) := by decide +kernel
theorem dX0_orderOf_8 : decode cX0_orderOf 8 = .ok (.aload_n 0, 1) := by decide +kernel
theorem dX0_orderOf_9 : decode cX0_orderOf 9 = .ok (.getfield 22, 3) := by decide +kernel
theorem dX0_orderOf_12 : decode cX0_orderOf 12 = .ok (.iload_n 1, 1) := by decide +kernel
theorem dX0_orderOf_13 : decode cX0_orderOf 13 = .ok (.iaload, 1) := by decide +kernel
theorem dX0_orderOf_14 : decode cX0_orderOf 14 = .ok (.iconst 2, 1) := by decide +kernel
theorem dX0_orderOf_15 : decode cX0_orderOf 15 = .ok (.if_icmp .ne 12, 3) := by decide +kernel
theorem dX0_orderOf_18 : decode cX0_orderOf 18 = .ok (.aload_n 0, 1) := by decide +kernel
theorem dX0_orderOf_19 : decode cX0_orderOf 19 = .ok (.getfield 35, 3) := by decide +kernel
theorem dX0_orderOf_22 : decode cX0_orderOf 22 = .ok (.iload_n 1, 1) := by decide +kernel
theorem dX0_orderOf_23 : decode cX0_orderOf 23 = .ok (.iaload, 1) := by decide +kernel
theorem dX0_orderOf_24 : decode cX0_orderOf 24 = .ok (.goto 4, 3) := by decide +kernel
theorem dX0_orderOf_27 : decode cX0_orderOf 27 = .ok (.iconst (-1), 1) := by decide +kernel
theorem dX0_orderOf_28 : decode cX0_orderOf 28 = .ok (.ireturn, 1) := by decide +kernel
theorem dX0_formulaOf_0 : decode cX0_formulaOf 0 = .ok (.aload_n 0, 1) := by decide +kernel
theorem dX0_formulaOf_1 : decode cX0_formulaOf 1 = .ok (.iload_n 1, 1) := by decide +kernel
theorem dX0_formulaOf_2 : decode cX0_formulaOf 2 = .ok (.invokevirtual 65, 3) := by decide +kernel
theorem dX0_formulaOf_5 : decode cX0_formulaOf 5 = .ok (.ifCond .eq 12, 3) := by decide +kernel
theorem dX0_formulaOf_8 : decode cX0_formulaOf 8 = .ok (.aload_n 0, 1) := by decide +kernel
theorem dX0_formulaOf_9 : decode cX0_formulaOf 9 = .ok (.getfield 44, 3) := by decide +kernel
theorem dX0_formulaOf_12 : decode cX0_formulaOf 12 = .ok (.iload_n 1, 1) := by decide +kernel
theorem dX0_formulaOf_13 : decode cX0_formulaOf 13 = .ok (.aaload, 1) := by decide +kernel
theorem dX0_formulaOf_14 : decode cX0_formulaOf 14 = .ok (.goto 4, 3) := by decide +kernel
theorem dX0_formulaOf_17 : decode cX0_formulaOf 17 = .ok (.aconst_null, 1) := by decide +kernel
theorem dX0_formulaOf_18 : decode cX0_formulaOf 18 = .ok (.areturn, 1) := by decide +kernel
theorem dX0_isSeen_0 : decode cX0_isSeen 0 = .ok (.iload_n 1, 1) := by decide +kernel
theorem dX0_isSeen_1 : decode cX0_isSeen 1 = .ok (.ifCond .lt 24, 3) := by decide +kernel
theorem dX0_isSeen_4 : decode cX0_isSeen 4 = .ok (.iload_n 1, 1) := by decide +kernel
theorem dX0_isSeen_5 : decode cX0_isSeen 5 = .ok (.aload_n 0, 1) := by decide +kernel
theorem dX0_isSeen_6 : decode cX0_isSeen 6 = .ok (.getfield 9, 3) := by decide +kernel
theorem dX0_isSeen_9 : decode cX0_isSeen 9 = .ok (.if_icmp .ge 16, 3) := by decide +kernel
theorem dX0_isSeen_12 : decode cX0_isSeen 12 = .ok (.aload_n 0, 1) := by decide +kernel
theorem dX0_isSeen_13 : decode cX0_isSeen 13 = .ok (.getfield 57, 3) := by decide +kernel
theorem dX0_isSeen_16 : decode cX0_isSeen 16 = .ok (.iload_n 1, 1) := by decide +kernel
theorem dX0_isSeen_17 : decode cX0_isSeen 17 = .ok (.baload, 1) := by decide +kernel
theorem dX0_isSeen_18 : decode cX0_isSeen 18 = .ok (.ifCond .eq 7, 3) := by decide +kernel
theorem dX0_isSeen_21 : decode cX0_isSeen 21 = .ok (.iconst 1, 1) := by decide +kernel
theorem dX0_isSeen_22 : decode cX0_isSeen 22 = .ok (.goto 4, 3) := by decide +kernel
theorem dX0_isSeen_25 : decode cX0_isSeen 25 = .ok (.iconst 0, 1) := by decide +kernel
theorem dX0_isSeen_26 : decode cX0_isSeen 26 = .ok (.ireturn, 1) := by decide +kernel
theorem dX0_standsFor_0 : decode cX0_standsFor 0 = .ok (.aload_n 0, 1) := by decide +kernel
theorem dX0_standsFor_1 : decode cX0_standsFor 1 = .ok (.getfield 22, 3) := by decide +kernel
theorem dX0_standsFor_4 : decode cX0_standsFor 4 = .ok (.iload_n 1, 1) := by decide +kernel
theorem dX0_standsFor_5 : decode cX0_standsFor 5 = .ok (.iaload, 1) := by decide +kernel
theorem dX0_standsFor_6 : decode cX0_standsFor 6 = .ok (.iconst 1, 1) := by decide +kernel
theorem dX0_standsFor_7 : decode cX0_standsFor 7 = .ok (.if_icmp .ne 21, 3) := by decide +kernel
theorem dX0_standsFor_10 : decode cX0_standsFor 10 = .ok (.aload_n 0, 1) := by decide +kernel
theorem dX0_standsFor_11 : decode cX0_standsFor 11 = .ok (.getfield 32, 3) := by decide +kernel
theorem dX0_standsFor_14 : decode cX0_standsFor 14 = .ok (.iload_n 1, 1) := by decide +kernel
theorem dX0_standsFor_15 : decode cX0_standsFor 15 = .ok (.iaload, 1) := by decide +kernel
theorem dX0_standsFor_16 : decode cX0_standsFor 16 = .ok (.iload_n 2, 1) := by decide +kernel
theorem dX0_standsFor_17 : decode cX0_standsFor 17 = .ok (.ishr, 1) := by decide +kernel
theorem dX0_standsFor_18 : decode cX0_standsFor 18 = .ok (.iconst 1, 1) := by decide +kernel
theorem dX0_standsFor_19 : decode cX0_standsFor 19 = .ok (.iand, 1) := by decide +kernel
theorem dX0_standsFor_20 : decode cX0_standsFor 20 = .ok (.iconst 1, 1) := by decide +kernel
theorem dX0_standsFor_21 : decode cX0_standsFor 21 = .ok (.if_icmp .ne 7, 3) := by decide +kernel
theorem dX0_standsFor_24 : decode cX0_standsFor 24 = .ok (.iconst 1, 1) := by decide +kernel
theorem dX0_standsFor_25 : decode cX0_standsFor 25 = .ok (.goto 4, 3) := by decide +kernel
theorem dX0_standsFor_28 : decode cX0_standsFor 28 = .ok (.iconst 0, 1) := by decide +kernel
theorem dX0_standsFor_29 : decode cX0_standsFor 29 = .ok (.ireturn, 1) := by decide +kernel
theorem dX0_areAllPlain_0 : decode cX0_areAllPlain 0 = .ok (.iconst 0, 1) := by decide +kernel
theorem dX0_areAllPlain_1 : decode cX0_areAllPlain 1 = .ok (.istore_n 2, 1) := by decide +kernel
theorem dX0_areAllPlain_2 : decode cX0_areAllPlain 2 = .ok (.iload_n 2, 1) := by decide +kernel
theorem dX0_areAllPlain_3 : decode cX0_areAllPlain 3 = .ok (.bipush 12, 2) := by decide +kernel
theorem dX0_areAllPlain_5 : decode cX0_areAllPlain 5 = .ok (.if_icmp .ge 28, 3) := by decide +kernel
theorem dX0_areAllPlain_8 : decode cX0_areAllPlain 8 = .ok (.iload_n 1, 1) := by decide +kernel
theorem dX0_areAllPlain_9 : decode cX0_areAllPlain 9 = .ok (.iload_n 2, 1) := by decide +kernel
theorem dX0_areAllPlain_10 : decode cX0_areAllPlain 10 = .ok (.ishr, 1) := by decide +kernel
theorem dX0_areAllPlain_11 : decode cX0_areAllPlain 11 = .ok (.iconst 1, 1) := by decide +kernel
theorem dX0_areAllPlain_12 : decode cX0_areAllPlain 12 = .ok (.iand, 1) := by decide +kernel
theorem dX0_areAllPlain_13 : decode cX0_areAllPlain 13 = .ok (.iconst 1, 1) := by decide +kernel
theorem dX0_areAllPlain_14 : decode cX0_areAllPlain 14 = .ok (.if_icmp .ne 13, 3) := by decide +kernel
theorem dX0_areAllPlain_17 : decode cX0_areAllPlain 17 = .ok (.aload_n 0, 1) := by decide +kernel
theorem dX0_areAllPlain_18 : decode cX0_areAllPlain 18 = .ok (.iload_n 2, 1) := by decide +kernel
theorem dX0_areAllPlain_19 : decode cX0_areAllPlain 19 = .ok (.invokevirtual 69, 3) := by decide +kernel
theorem dX0_areAllPlain_22 : decode cX0_areAllPlain 22 = .ok (.ifCond .ne 5, 3) := by decide +kernel
theorem dX0_areAllPlain_25 : decode cX0_areAllPlain 25 = .ok (.iconst 0, 1) := by decide +kernel
theorem dX0_areAllPlain_26 : decode cX0_areAllPlain 26 = .ok (.ireturn, 1) := by decide +kernel
theorem dX0_areAllPlain_27 : decode cX0_areAllPlain 27 = .ok (.iinc 2 1, 3) := by decide +kernel
theorem dX0_areAllPlain_30 : decode cX0_areAllPlain 30 = .ok (.goto (-28), 3) := by decide +kernel
theorem dX0_areAllPlain_33 : decode cX0_areAllPlain 33 = .ok (.iconst 1, 1) := by decide +kernel
theorem dX0_areAllPlain_34 : decode cX0_areAllPlain 34 = .ok (.ireturn, 1) := by decide +kernel
theorem dX0_addPlain_0 : decode cX0_addPlain 0 = .ok (.aload_n 0, 1) := by decide +kernel
theorem dX0_addPlain_1 : decode cX0_addPlain 1 = .ok (.iconst 0, 1) := by decide +kernel
theorem dX0_addPlain_2 : decode cX0_addPlain 2 = .ok (.invokevirtual 72, 3) := by decide +kernel
theorem dX0_addPlain_5 : decode cX0_addPlain 5 = .ok (.istore_n 3, 1) := by decide +kernel
theorem dX0_addPlain_6 : decode cX0_addPlain 6 = .ok (.aload_n 0, 1) := by decide +kernel
theorem dX0_addPlain_7 : decode cX0_addPlain 7 = .ok (.iload_n 3, 1) := by decide +kernel
theorem dX0_addPlain_8 : decode cX0_addPlain 8 = .ok (.invokevirtual 65, 3) := by decide +kernel
theorem dX0_addPlain_11 : decode cX0_addPlain 11 = .ok (.ifCond .eq 17, 3) := by decide +kernel
theorem dX0_addPlain_14 : decode cX0_addPlain 14 = .ok (.aload_n 0, 1) := by decide +kernel
theorem dX0_addPlain_15 : decode cX0_addPlain 15 = .ok (.getfield 26, 3) := by decide +kernel
theorem dX0_addPlain_18 : decode cX0_addPlain 18 = .ok (.iload_n 3, 1) := by decide +kernel
theorem dX0_addPlain_19 : decode cX0_addPlain 19 = .ok (.iload_n 1, 1) := by decide +kernel
theorem dX0_addPlain_20 : decode cX0_addPlain 20 = .ok (.iastore, 1) := by decide +kernel
theorem dX0_addPlain_21 : decode cX0_addPlain 21 = .ok (.aload_n 0, 1) := by decide +kernel
theorem dX0_addPlain_22 : decode cX0_addPlain 22 = .ok (.getfield 29, 3) := by decide +kernel
theorem dX0_addPlain_25 : decode cX0_addPlain 25 = .ok (.iload_n 3, 1) := by decide +kernel
theorem dX0_addPlain_26 : decode cX0_addPlain 26 = .ok (.iload_n 2, 1) := by decide +kernel
theorem dX0_addPlain_27 : decode cX0_addPlain 27 = .ok (.iastore, 1) := by decide +kernel
theorem dX0_addPlain_28 : decode cX0_addPlain 28 = .ok (.iload_n 3, 1) := by decide +kernel
theorem dX0_addPlain_29 : decode cX0_addPlain 29 = .ok (.ireturn, 1) := by decide +kernel
theorem dX0_addBridge_0 : decode cX0_addBridge 0 = .ok (.aload_n 0, 1) := by decide +kernel
theorem dX0_addBridge_1 : decode cX0_addBridge 1 = .ok (.iconst 1, 1) := by decide +kernel
theorem dX0_addBridge_2 : decode cX0_addBridge 2 = .ok (.invokevirtual 72, 3) := by decide +kernel
theorem dX0_addBridge_5 : decode cX0_addBridge 5 = .ok (.istore_n 2, 1) := by decide +kernel
theorem dX0_addBridge_6 : decode cX0_addBridge 6 = .ok (.aload_n 0, 1) := by decide +kernel
theorem dX0_addBridge_7 : decode cX0_addBridge 7 = .ok (.iload_n 2, 1) := by decide +kernel
theorem dX0_addBridge_8 : decode cX0_addBridge 8 = .ok (.invokevirtual 65, 3) := by decide +kernel
theorem dX0_addBridge_11 : decode cX0_addBridge 11 = .ok (.ifCond .eq 10, 3) := by decide +kernel
theorem dX0_addBridge_14 : decode cX0_addBridge 14 = .ok (.aload_n 0, 1) := by decide +kernel
theorem dX0_addBridge_15 : decode cX0_addBridge 15 = .ok (.getfield 32, 3) := by decide +kernel
theorem dX0_addBridge_18 : decode cX0_addBridge 18 = .ok (.iload_n 2, 1) := by decide +kernel
theorem dX0_addBridge_19 : decode cX0_addBridge 19 = .ok (.iload_n 1, 1) := by decide +kernel
theorem dX0_addBridge_20 : decode cX0_addBridge 20 = .ok (.iastore, 1) := by decide +kernel
theorem dX0_addBridge_21 : decode cX0_addBridge 21 = .ok (.iload_n 2, 1) := by decide +kernel
theorem dX0_addBridge_22 : decode cX0_addBridge 22 = .ok (.ireturn, 1) := by decide +kernel
theorem dX0_addCalculated_0 : decode cX0_addCalculated 0 = .ok (.aload_n 0, 1) := by decide +kernel
theorem dX0_addCalculated_1 : decode cX0_addCalculated 1 = .ok (.iconst 2, 1) := by decide +kernel
theorem dX0_addCalculated_2 : decode cX0_addCalculated 2 = .ok (.invokevirtual 72, 3) := by decide +kernel
theorem dX0_addCalculated_5 : decode cX0_addCalculated 5 = .ok (.istore_n 3, 1) := by decide +kernel
theorem dX0_addCalculated_6 : decode cX0_addCalculated 6 = .ok (.aload_n 0, 1) := by decide +kernel
theorem dX0_addCalculated_7 : decode cX0_addCalculated 7 = .ok (.iload_n 3, 1) := by decide +kernel
theorem dX0_addCalculated_8 : decode cX0_addCalculated 8 = .ok (.invokevirtual 65, 3) := by decide +kernel
theorem dX0_addCalculated_11 : decode cX0_addCalculated 11 = .ok (.ifCond .eq 24, 3) := by decide +kernel
theorem dX0_addCalculated_14 : decode cX0_addCalculated 14 = .ok (.aload_n 0, 1) := by decide +kernel
theorem dX0_addCalculated_15 : decode cX0_addCalculated 15 = .ok (.getfield 44, 3) := by decide +kernel
theorem dX0_addCalculated_18 : decode cX0_addCalculated 18 = .ok (.iload_n 3, 1) := by decide +kernel
theorem dX0_addCalculated_19 : decode cX0_addCalculated 19 = .ok (.aload_n 1, 1) := by decide +kernel
theorem dX0_addCalculated_20 : decode cX0_addCalculated 20 = .ok (.aastore, 1) := by decide +kernel
theorem dX0_addCalculated_21 : decode cX0_addCalculated 21 = .ok (.aload_n 0, 1) := by decide +kernel
theorem dX0_addCalculated_22 : decode cX0_addCalculated 22 = .ok (.getfield 35, 3) := by decide +kernel
theorem dX0_addCalculated_25 : decode cX0_addCalculated 25 = .ok (.iload_n 3, 1) := by decide +kernel
theorem dX0_addCalculated_26 : decode cX0_addCalculated 26 = .ok (.iload_n 2, 1) := by decide +kernel
theorem dX0_addCalculated_27 : decode cX0_addCalculated 27 = .ok (.iastore, 1) := by decide +kernel
theorem dX0_addCalculated_28 : decode cX0_addCalculated 28 = .ok (.aload_n 0, 1) := by decide +kernel
theorem dX0_addCalculated_29 : decode cX0_addCalculated 29 = .ok (.getfield 57, 3) := by decide +kernel
theorem dX0_addCalculated_32 : decode cX0_addCalculated 32 = .ok (.iload_n 3, 1) := by decide +kernel
theorem dX0_addCalculated_33 : decode cX0_addCalculated 33 = .ok (.iconst 1, 1) := by decide +kernel
theorem dX0_addCalculated_34 : decode cX0_addCalculated 34 = .ok (.bastore, 1) := by decide +kernel
theorem dX0_addCalculated_35 : decode cX0_addCalculated 35 = .ok (.iload_n 3, 1) := by decide +kernel
theorem dX0_addCalculated_36 : decode cX0_addCalculated 36 = .ok (.ireturn, 1) := by decide +kernel
theorem dX0_addKind_0 : decode cX0_addKind 0 = .ok (.aload_n 0, 1) := by decide +kernel
theorem dX0_addKind_1 : decode cX0_addKind 1 = .ok (.getfield 9, 3) := by decide +kernel
theorem dX0_addKind_4 : decode cX0_addKind 4 = .ok (.bipush 12, 2) := by decide +kernel
theorem dX0_addKind_6 : decode cX0_addKind 6 = .ok (.if_icmp .lt 5, 3) := by decide +kernel
theorem dX0_addKind_9 : decode cX0_addKind 9 = .ok (.iconst (-1), 1) := by decide +kernel
theorem dX0_addKind_10 : decode cX0_addKind 10 = .ok (.ireturn, 1) := by decide +kernel
theorem dX0_addKind_11 : decode cX0_addKind 11 = .ok (.aload_n 0, 1) := by decide +kernel
theorem dX0_addKind_12 : decode cX0_addKind 12 = .ok (.getfield 22, 3) := by decide +kernel
theorem dX0_addKind_15 : decode cX0_addKind 15 = .ok (.aload_n 0, 1) := by decide +kernel
theorem dX0_addKind_16 : decode cX0_addKind 16 = .ok (.getfield 9, 3) := by decide +kernel
theorem dX0_addKind_19 : decode cX0_addKind 19 = .ok (.iload_n 1, 1) := by decide +kernel
theorem dX0_addKind_20 : decode cX0_addKind 20 = .ok (.iastore, 1) := by decide +kernel
theorem dX0_addKind_21 : decode cX0_addKind 21 = .ok (.aload_n 0, 1) := by decide +kernel
theorem dX0_addKind_22 : decode cX0_addKind 22 = .ok (.dup, 1) := by decide +kernel
theorem dX0_addKind_23 : decode cX0_addKind 23 = .ok (.getfield 9, 3) := by decide +kernel
theorem dX0_addKind_26 : decode cX0_addKind 26 = .ok (.iconst 1, 1) := by decide +kernel
theorem dX0_addKind_27 : decode cX0_addKind 27 = .ok (.iadd, 1) := by decide +kernel
theorem dX0_addKind_28 : decode cX0_addKind 28 = .ok (.putfield 9, 3) := by decide +kernel
theorem dX0_addKind_31 : decode cX0_addKind 31 = .ok (.aload_n 0, 1) := by decide +kernel
theorem dX0_addKind_32 : decode cX0_addKind 32 = .ok (.getfield 9, 3) := by decide +kernel
theorem dX0_addKind_35 : decode cX0_addKind 35 = .ok (.iconst 1, 1) := by decide +kernel
theorem dX0_addKind_36 : decode cX0_addKind 36 = .ok (.isub, 1) := by decide +kernel
theorem dX0_addKind_37 : decode cX0_addKind 37 = .ok (.ireturn, 1) := by decide +kernel
theorem dX0_setHidden_0 : decode cX0_setHidden 0 = .ok (.aload_n 0, 1) := by decide +kernel
theorem dX0_setHidden_1 : decode cX0_setHidden 1 = .ok (.iload_n 1, 1) := by decide +kernel
theorem dX0_setHidden_2 : decode cX0_setHidden 2 = .ok (.invokevirtual 65, 3) := by decide +kernel
theorem dX0_setHidden_5 : decode cX0_setHidden 5 = .ok (.ifCond .ne 5, 3) := by decide +kernel
theorem dX0_setHidden_8 : decode cX0_setHidden 8 = .ok (.iconst 0, 1) := by decide +kernel
theorem dX0_setHidden_9 : decode cX0_setHidden 9 = .ok (.ireturn, 1) := by decide +kernel
theorem dX0_setHidden_10 : decode cX0_setHidden 10 = .ok (.aload_n 0, 1) := by decide +kernel
theorem dX0_setHidden_11 : decode cX0_setHidden 11 = .ok (.getfield 38, 3) := by decide +kernel
theorem dX0_setHidden_14 : decode cX0_setHidden 14 = .ok (.iload_n 1, 1) := by decide +kernel
theorem dX0_setHidden_15 : decode cX0_setHidden 15 = .ok (.baload, 1) := by decide +kernel
theorem dX0_setHidden_16 : decode cX0_setHidden 16 = .ok (.istore_n 3, 1) := by decide +kernel
theorem dX0_setHidden_17 : decode cX0_setHidden 17 = .ok (.aload_n 0, 1) := by decide +kernel
theorem dX0_setHidden_18 : decode cX0_setHidden 18 = .ok (.getfield 38, 3) := by decide +kernel
theorem dX0_setHidden_21 : decode cX0_setHidden 21 = .ok (.iload_n 1, 1) := by decide +kernel
theorem dX0_setHidden_22 : decode cX0_setHidden 22 = .ok (.iload_n 2, 1) := by decide +kernel
theorem dX0_setHidden_23 : decode cX0_setHidden 23 = .ok (.bastore, 1) := by decide +kernel
theorem dX0_setHidden_24 : decode cX0_setHidden 24 = .ok (.aload_n 0, 1) := by decide +kernel
theorem dX0_setHidden_25 : decode cX0_setHidden 25 = .ok (.invokevirtual 76, 3) := by decide +kernel
theorem dX0_setHidden_28 : decode cX0_setHidden 28 = .ok (.iload_n 3, 1) := by decide +kernel
theorem dX0_setHidden_29 : decode cX0_setHidden 29 = .ok (.ireturn, 1) := by decide +kernel
theorem dX0_settle_0 : decode cX0_settle 0 = .ok (.iconst 1, 1) := by decide +kernel
theorem dX0_settle_1 : decode cX0_settle 1 = .ok (.istore_n 1, 1) := by decide +kernel
theorem dX0_settle_2 : decode cX0_settle 2 = .ok (.iload_n 1, 1) := by decide +kernel
theorem dX0_settle_3 : decode cX0_settle 3 = .ok (.aload_n 0, 1) := by decide +kernel
theorem dX0_settle_4 : decode cX0_settle 4 = .ok (.getfield 9, 3) := by decide +kernel
theorem dX0_settle_7 : decode cX0_settle 7 = .ok (.if_icmp .ge 82, 3) := by decide +kernel
theorem dX0_settle_10 : decode cX0_settle 10 = .ok (.aload_n 0, 1) := by decide +kernel
theorem dX0_settle_11 : decode cX0_settle 11 = .ok (.iload_n 1, 1) := by decide +kernel
theorem dX0_settle_12 : decode cX0_settle 12 = .ok (.invokevirtual 69, 3) := by decide +kernel
theorem dX0_settle_15 : decode cX0_settle 15 = .ok (.ifCond .eq 57, 3) := by decide +kernel
theorem dX0_settle_18 : decode cX0_settle 18 = .ok (.aload_n 0, 1) := by decide +kernel
theorem dX0_settle_19 : decode cX0_settle 19 = .ok (.getfield 54, 3) := by decide +kernel
theorem dX0_settle_22 : decode cX0_settle 22 = .ok (.iload_n 1, 1) := by decide +kernel
theorem dX0_settle_23 : decode cX0_settle 23 = .ok (.aload_n 0, 1) := by decide +kernel
theorem dX0_settle_24 : decode cX0_settle 24 = .ok (.aload_n 0, 1) := by decide +kernel
theorem dX0_settle_25 : decode cX0_settle 25 = .ok (.getfield 51, 3) := by decide +kernel
theorem dX0_settle_28 : decode cX0_settle 28 = .ok (.iload_n 1, 1) := by decide +kernel
theorem dX0_settle_29 : decode cX0_settle 29 = .ok (.iaload, 1) := by decide +kernel
theorem dX0_settle_30 : decode cX0_settle 30 = .ok (.invokevirtual 79, 3) := by decide +kernel
theorem dX0_settle_33 : decode cX0_settle 33 = .ok (.iconst 1, 1) := by decide +kernel
theorem dX0_settle_34 : decode cX0_settle 34 = .ok (.iadd, 1) := by decide +kernel
theorem dX0_settle_35 : decode cX0_settle 35 = .ok (.iastore, 1) := by decide +kernel
theorem dX0_settle_36 : decode cX0_settle 36 = .ok (.aload_n 0, 1) := by decide +kernel
theorem dX0_settle_37 : decode cX0_settle 37 = .ok (.getfield 57, 3) := by decide +kernel
theorem dX0_settle_40 : decode cX0_settle 40 = .ok (.iload_n 1, 1) := by decide +kernel
theorem dX0_settle_41 : decode cX0_settle 41 = .ok (.aload_n 0, 1) := by decide +kernel
theorem dX0_settle_42 : decode cX0_settle 42 = .ok (.getfield 38, 3) := by decide +kernel
theorem dX0_settle_45 : decode cX0_settle 45 = .ok (.iload_n 1, 1) := by decide +kernel
theorem dX0_settle_46 : decode cX0_settle 46 = .ok (.baload, 1) := by decide +kernel
theorem dX0_settle_47 : decode cX0_settle 47 = .ok (.ifCond .ne 20, 3) := by decide +kernel
theorem dX0_settle_50 : decode cX0_settle 50 = .ok (.aload_n 0, 1) := by decide +kernel
theorem dX0_settle_51 : decode cX0_settle 51 = .ok (.aload_n 0, 1) := by decide +kernel
theorem dX0_settle_52 : decode cX0_settle 52 = .ok (.getfield 51, 3) := by decide +kernel
theorem dX0_settle_55 : decode cX0_settle 55 = .ok (.iload_n 1, 1) := by decide +kernel
theorem dX0_settle_56 : decode cX0_settle 56 = .ok (.iaload, 1) := by decide +kernel
theorem dX0_settle_57 : decode cX0_settle 57 = .ok (.invokevirtual 82, 3) := by decide +kernel
theorem dX0_settle_60 : decode cX0_settle 60 = .ok (.ifCond .eq 7, 3) := by decide +kernel
theorem dX0_settle_63 : decode cX0_settle 63 = .ok (.iconst 1, 1) := by decide +kernel
theorem dX0_settle_64 : decode cX0_settle 64 = .ok (.goto 4, 3) := by decide +kernel
theorem dX0_settle_67 : decode cX0_settle 67 = .ok (.iconst 0, 1) := by decide +kernel
theorem dX0_settle_68 : decode cX0_settle 68 = .ok (.bastore, 1) := by decide +kernel
theorem dX0_settle_69 : decode cX0_settle 69 = .ok (.goto 14, 3) := by decide +kernel
theorem dX0_settle_72 : decode cX0_settle 72 = .ok (.aload_n 0, 1) := by decide +kernel
theorem dX0_settle_73 : decode cX0_settle 73 = .ok (.getfield 57, 3) := by decide +kernel
theorem dX0_settle_76 : decode cX0_settle 76 = .ok (.iload_n 1, 1) := by decide +kernel
theorem dX0_settle_77 : decode cX0_settle 77 = .ok (.aload_n 0, 1) := by decide +kernel
theorem dX0_settle_78 : decode cX0_settle 78 = .ok (.iload_n 1, 1) := by decide +kernel
theorem dX0_settle_79 : decode cX0_settle 79 = .ok (.invokevirtual 85, 3) := by decide +kernel
theorem dX0_settle_82 : decode cX0_settle 82 = .ok (.bastore, 1) := by decide +kernel
theorem dX0_settle_83 : decode cX0_settle 83 = .ok (.iinc 1 1, 3) := by decide +kernel
theorem dX0_settle_86 : decode cX0_settle 86 = .ok (.goto (-84), 3) := by decide +kernel
theorem dX0_settle_89 : decode cX0_settle 89 = .ok (.return_, 1) := by decide +kernel
theorem dX0_isBridgeSeen_0 : decode cX0_isBridgeSeen 0 = .ok (.iconst 0, 1) := by decide +kernel
theorem dX0_isBridgeSeen_1 : decode cX0_isBridgeSeen 1 = .ok (.istore_n 2, 1) := by decide +kernel
theorem dX0_isBridgeSeen_2 : decode cX0_isBridgeSeen 2 = .ok (.iload_n 2, 1) := by decide +kernel
theorem dX0_isBridgeSeen_3 : decode cX0_isBridgeSeen 3 = .ok (.iload_n 1, 1) := by decide +kernel
theorem dX0_isBridgeSeen_4 : decode cX0_isBridgeSeen 4 = .ok (.if_icmp .ge 28, 3) := by decide +kernel
theorem dX0_isBridgeSeen_7 : decode cX0_isBridgeSeen 7 = .ok (.aload_n 0, 1) := by decide +kernel
theorem dX0_isBridgeSeen_8 : decode cX0_isBridgeSeen 8 = .ok (.iload_n 1, 1) := by decide +kernel
theorem dX0_isBridgeSeen_9 : decode cX0_isBridgeSeen 9 = .ok (.iload_n 2, 1) := by decide +kernel
theorem dX0_isBridgeSeen_10 : decode cX0_isBridgeSeen 10 = .ok (.invokevirtual 88, 3) := by decide +kernel
theorem dX0_isBridgeSeen_13 : decode cX0_isBridgeSeen 13 = .ok (.ifCond .eq 13, 3) := by decide +kernel
theorem dX0_isBridgeSeen_16 : decode cX0_isBridgeSeen 16 = .ok (.aload_n 0, 1) := by decide +kernel
theorem dX0_isBridgeSeen_17 : decode cX0_isBridgeSeen 17 = .ok (.iload_n 2, 1) := by decide +kernel
theorem dX0_isBridgeSeen_18 : decode cX0_isBridgeSeen 18 = .ok (.invokevirtual 82, 3) := by decide +kernel
theorem dX0_isBridgeSeen_21 : decode cX0_isBridgeSeen 21 = .ok (.ifCond .ne 5, 3) := by decide +kernel
theorem dX0_isBridgeSeen_24 : decode cX0_isBridgeSeen 24 = .ok (.iconst 0, 1) := by decide +kernel
theorem dX0_isBridgeSeen_25 : decode cX0_isBridgeSeen 25 = .ok (.ireturn, 1) := by decide +kernel
theorem dX0_isBridgeSeen_26 : decode cX0_isBridgeSeen 26 = .ok (.iinc 2 1, 3) := by decide +kernel
theorem dX0_isBridgeSeen_29 : decode cX0_isBridgeSeen 29 = .ok (.goto (-27), 3) := by decide +kernel
theorem dX0_isBridgeSeen_32 : decode cX0_isBridgeSeen 32 = .ok (.iconst 1, 1) := by decide +kernel
theorem dX0_isBridgeSeen_33 : decode cX0_isBridgeSeen 33 = .ok (.ireturn, 1) := by decide +kernel
theorem dX0_weigh_0 : decode cX0_weigh 0 = .ok (.iconst 1, 1) := by decide +kernel
theorem dX0_weigh_1 : decode cX0_weigh 1 = .ok (.istore_n 2, 1) := by decide +kernel
theorem dX0_weigh_2 : decode cX0_weigh 2 = .ok (.iload_n 2, 1) := by decide +kernel
theorem dX0_weigh_3 : decode cX0_weigh 3 = .ok (.aload_n 0, 1) := by decide +kernel
theorem dX0_weigh_4 : decode cX0_weigh 4 = .ok (.getfield 9, 3) := by decide +kernel
theorem dX0_weigh_7 : decode cX0_weigh 7 = .ok (.if_icmp .ge 40, 3) := by decide +kernel
theorem dX0_weigh_10 : decode cX0_weigh 10 = .ok (.aload_n 0, 1) := by decide +kernel
theorem dX0_weigh_11 : decode cX0_weigh 11 = .ok (.iload_n 2, 1) := by decide +kernel
theorem dX0_weigh_12 : decode cX0_weigh 12 = .ok (.invokevirtual 69, 3) := by decide +kernel
theorem dX0_weigh_15 : decode cX0_weigh 15 = .ok (.ifCond .eq 26, 3) := by decide +kernel
theorem dX0_weigh_18 : decode cX0_weigh 18 = .ok (.aload_n 0, 1) := by decide +kernel
theorem dX0_weigh_19 : decode cX0_weigh 19 = .ok (.getfield 51, 3) := by decide +kernel
theorem dX0_weigh_22 : decode cX0_weigh 22 = .ok (.iload_n 2, 1) := by decide +kernel
theorem dX0_weigh_23 : decode cX0_weigh 23 = .ok (.aload_n 0, 1) := by decide +kernel
theorem dX0_weigh_24 : decode cX0_weigh 24 = .ok (.getfield 18, 3) := by decide +kernel
theorem dX0_weigh_27 : decode cX0_weigh 27 = .ok (.iload_n 2, 1) := by decide +kernel
theorem dX0_weigh_28 : decode cX0_weigh 28 = .ok (.aload_n 0, 1) := by decide +kernel
theorem dX0_weigh_29 : decode cX0_weigh 29 = .ok (.getfield 26, 3) := by decide +kernel
theorem dX0_weigh_32 : decode cX0_weigh 32 = .ok (.iload_n 2, 1) := by decide +kernel
theorem dX0_weigh_33 : decode cX0_weigh 33 = .ok (.iaload, 1) := by decide +kernel
theorem dX0_weigh_34 : decode cX0_weigh 34 = .ok (.bipush 12, 2) := by decide +kernel
theorem dX0_weigh_36 : decode cX0_weigh 36 = .ok (.aload_n 1, 1) := by decide +kernel
theorem dX0_weigh_37 : decode cX0_weigh 37 = .ok (.invokevirtual 92, 3) := by decide +kernel
theorem dX0_weigh_40 : decode cX0_weigh 40 = .ok (.iastore, 1) := by decide +kernel
theorem dX0_weigh_41 : decode cX0_weigh 41 = .ok (.iinc 2 1, 3) := by decide +kernel
theorem dX0_weigh_44 : decode cX0_weigh 44 = .ok (.goto (-42), 3) := by decide +kernel
theorem dX0_weigh_47 : decode cX0_weigh 47 = .ok (.aload_n 0, 1) := by decide +kernel
theorem dX0_weigh_48 : decode cX0_weigh 48 = .ok (.invokevirtual 76, 3) := by decide +kernel
theorem dX0_weigh_51 : decode cX0_weigh 51 = .ok (.iconst 0, 1) := by decide +kernel
theorem dX0_weigh_52 : decode cX0_weigh 52 = .ok (.istore_n 2, 1) := by decide +kernel
theorem dX0_weigh_53 : decode cX0_weigh 53 = .ok (.iload_n 2, 1) := by decide +kernel
theorem dX0_weigh_54 : decode cX0_weigh 54 = .ok (.aload_n 1, 1) := by decide +kernel
theorem dX0_weigh_55 : decode cX0_weigh 55 = .ok (.getfield 96, 3) := by decide +kernel
theorem dX0_weigh_58 : decode cX0_weigh 58 = .ok (.if_icmp .ge 21, 3) := by decide +kernel
theorem dX0_weigh_61 : decode cX0_weigh 61 = .ok (.aload_n 0, 1) := by decide +kernel
theorem dX0_weigh_62 : decode cX0_weigh 62 = .ok (.aload_n 1, 1) := by decide +kernel
theorem dX0_weigh_63 : decode cX0_weigh 63 = .ok (.getfield 99, 3) := by decide +kernel
theorem dX0_weigh_66 : decode cX0_weigh 66 = .ok (.iload_n 2, 1) := by decide +kernel
theorem dX0_weigh_67 : decode cX0_weigh 67 = .ok (.iaload, 1) := by decide +kernel
theorem dX0_weigh_68 : decode cX0_weigh 68 = .ok (.iload_n 2, 1) := by decide +kernel
theorem dX0_weigh_69 : decode cX0_weigh 69 = .ok (.aload_n 1, 1) := by decide +kernel
theorem dX0_weigh_70 : decode cX0_weigh 70 = .ok (.invokevirtual 102, 3) := by decide +kernel
theorem dX0_weigh_73 : decode cX0_weigh 73 = .ok (.iinc 2 1, 3) := by decide +kernel
theorem dX0_weigh_76 : decode cX0_weigh 76 = .ok (.goto (-23), 3) := by decide +kernel
theorem dX0_weigh_79 : decode cX0_weigh 79 = .ok (.aload_n 0, 1) := by decide +kernel
theorem dX0_weigh_80 : decode cX0_weigh 80 = .ok (.bipush 12, 2) := by decide +kernel
theorem dX0_weigh_82 : decode cX0_weigh 82 = .ok (.bipush 12, 2) := by decide +kernel
theorem dX0_weigh_84 : decode cX0_weigh 84 = .ok (.aload_n 1, 1) := by decide +kernel
theorem dX0_weigh_85 : decode cX0_weigh 85 = .ok (.invokevirtual 102, 3) := by decide +kernel
theorem dX0_weigh_88 : decode cX0_weigh 88 = .ok (.return_, 1) := by decide +kernel
theorem dX0_weighRow_0 : decode cX0_weighRow 0 = .ok (.iconst 0, 1) := by decide +kernel
theorem dX0_weighRow_1 : decode cX0_weighRow 1 = .ok (.istore 4, 2) := by decide +kernel
theorem dX0_weighRow_3 : decode cX0_weighRow 3 = .ok (.iload 4, 2) := by decide +kernel
theorem dX0_weighRow_5 : decode cX0_weighRow 5 = .ok (.aload_n 0, 1) := by decide +kernel
theorem dX0_weighRow_6 : decode cX0_weighRow 6 = .ok (.getfield 9, 3) := by decide +kernel
theorem dX0_weighRow_9 : decode cX0_weighRow 9 = .ok (.if_icmp .ge 91, 3) := by decide +kernel
theorem dX0_weighRow_12 : decode cX0_weighRow 12 = .ok (.aload_n 0, 1) := by decide +kernel
theorem dX0_weighRow_13 : decode cX0_weighRow 13 = .ok (.iload 4, 2) := by decide +kernel
theorem dX0_weighRow_15 : decode cX0_weighRow 15 = .ok (.invokevirtual 69, 3) := by decide +kernel
theorem dX0_weighRow_18 : decode cX0_weighRow 18 = .ok (.ifCond .eq 76, 3) := by decide +kernel
theorem dX0_weighRow_21 : decode cX0_weighRow 21 = .ok (.iload 4, 2) := by decide +kernel
theorem dX0_weighRow_23 : decode cX0_weighRow 23 = .ok (.ifCond .ne 7, 3) := by decide +kernel
theorem dX0_weighRow_26 : decode cX0_weighRow 26 = .ok (.iconst (-1), 1) := by decide +kernel
theorem dX0_weighRow_27 : decode cX0_weighRow 27 = .ok (.goto 21, 3) := by decide +kernel
theorem dX0_weighRow_30 : decode cX0_weighRow 30 = .ok (.aload_n 0, 1) := by decide +kernel
theorem dX0_weighRow_31 : decode cX0_weighRow 31 = .ok (.getfield 18, 3) := by decide +kernel
theorem dX0_weighRow_34 : decode cX0_weighRow 34 = .ok (.iload 4, 2) := by decide +kernel
theorem dX0_weighRow_36 : decode cX0_weighRow 36 = .ok (.aload_n 0, 1) := by decide +kernel
theorem dX0_weighRow_37 : decode cX0_weighRow 37 = .ok (.getfield 26, 3) := by decide +kernel
theorem dX0_weighRow_40 : decode cX0_weighRow 40 = .ok (.iload 4, 2) := by decide +kernel
theorem dX0_weighRow_42 : decode cX0_weighRow 42 = .ok (.iaload, 1) := by decide +kernel
theorem dX0_weighRow_43 : decode cX0_weighRow 43 = .ok (.iload_n 2, 1) := by decide +kernel
theorem dX0_weighRow_44 : decode cX0_weighRow 44 = .ok (.aload_n 3, 1) := by decide +kernel
theorem dX0_weighRow_45 : decode cX0_weighRow 45 = .ok (.invokevirtual 92, 3) := by decide +kernel
theorem dX0_weighRow_48 : decode cX0_weighRow 48 = .ok (.istore 5, 2) := by decide +kernel
theorem dX0_weighRow_50 : decode cX0_weighRow 50 = .ok (.iconst 0, 1) := by decide +kernel
theorem dX0_weighRow_51 : decode cX0_weighRow 51 = .ok (.istore 6, 2) := by decide +kernel
theorem dX0_weighRow_53 : decode cX0_weighRow 53 = .ok (.iload 6, 2) := by decide +kernel
theorem dX0_weighRow_55 : decode cX0_weighRow 55 = .ok (.aload_n 0, 1) := by decide +kernel
theorem dX0_weighRow_56 : decode cX0_weighRow 56 = .ok (.getfield 9, 3) := by decide +kernel
theorem dX0_weighRow_59 : decode cX0_weighRow 59 = .ok (.if_icmp .ge 35, 3) := by decide +kernel
theorem dX0_weighRow_62 : decode cX0_weighRow 62 = .ok (.aload_n 0, 1) := by decide +kernel
theorem dX0_weighRow_63 : decode cX0_weighRow 63 = .ok (.getfield 62, 3) := by decide +kernel
theorem dX0_weighRow_66 : decode cX0_weighRow 66 = .ok (.iload_n 1, 1) := by decide +kernel
theorem dX0_weighRow_67 : decode cX0_weighRow 67 = .ok (.aaload, 1) := by decide +kernel
theorem dX0_weighRow_68 : decode cX0_weighRow 68 = .ok (.iload 4, 2) := by decide +kernel
theorem dX0_weighRow_70 : decode cX0_weighRow 70 = .ok (.bipush 12, 2) := by decide +kernel
theorem dX0_weighRow_72 : decode cX0_weighRow 72 = .ok (.imul, 1) := by decide +kernel
theorem dX0_weighRow_73 : decode cX0_weighRow 73 = .ok (.iload 6, 2) := by decide +kernel
theorem dX0_weighRow_75 : decode cX0_weighRow 75 = .ok (.iadd, 1) := by decide +kernel
theorem dX0_weighRow_76 : decode cX0_weighRow 76 = .ok (.aload_n 0, 1) := by decide +kernel
theorem dX0_weighRow_77 : decode cX0_weighRow 77 = .ok (.iload_n 1, 1) := by decide +kernel
theorem dX0_weighRow_78 : decode cX0_weighRow 78 = .ok (.iload 4, 2) := by decide +kernel
theorem dX0_weighRow_80 : decode cX0_weighRow 80 = .ok (.iload 5, 2) := by decide +kernel
theorem dX0_weighRow_82 : decode cX0_weighRow 82 = .ok (.iload 6, 2) := by decide +kernel
theorem dX0_weighRow_84 : decode cX0_weighRow 84 = .ok (.invokevirtual 106, 3) := by decide +kernel
theorem dX0_weighRow_87 : decode cX0_weighRow 87 = .ok (.iastore, 1) := by decide +kernel
theorem dX0_weighRow_88 : decode cX0_weighRow 88 = .ok (.iinc 6 1, 3) := by decide +kernel
theorem dX0_weighRow_91 : decode cX0_weighRow 91 = .ok (.goto (-38), 3) := by decide +kernel
theorem dX0_weighRow_94 : decode cX0_weighRow 94 = .ok (.iinc 4 1, 3) := by decide +kernel
theorem dX0_weighRow_97 : decode cX0_weighRow 97 = .ok (.goto (-94), 3) := by decide +kernel
theorem dX0_weighRow_100 : decode cX0_weighRow 100 = .ok (.return_, 1) := by decide +kernel
theorem dX0_weightOver_0 : decode cX0_weightOver 0 = .ok (.aload_n 0, 1) := by decide +kernel
theorem dX0_weightOver_1 : decode cX0_weightOver 1 = .ok (.iload 4, 2) := by decide +kernel
theorem dX0_weightOver_3 : decode cX0_weightOver 3 = .ok (.invokevirtual 69, 3) := by decide +kernel
theorem dX0_weightOver_6 : decode cX0_weightOver 6 = .ok (.ifCond .ne 12, 3) := by decide +kernel
theorem dX0_weightOver_9 : decode cX0_weightOver 9 = .ok (.aload_n 0, 1) := by decide +kernel
theorem dX0_weightOver_10 : decode cX0_weightOver 10 = .ok (.iload_n 1, 1) := by decide +kernel
theorem dX0_weightOver_11 : decode cX0_weightOver 11 = .ok (.iload_n 2, 1) := by decide +kernel
theorem dX0_weightOver_12 : decode cX0_weightOver 12 = .ok (.iload 4, 2) := by decide +kernel
theorem dX0_weightOver_14 : decode cX0_weightOver 14 = .ok (.invokevirtual 110, 3) := by decide +kernel
theorem dX0_weightOver_17 : decode cX0_weightOver 17 = .ok (.ireturn, 1) := by decide +kernel
theorem dX0_weightOver_18 : decode cX0_weightOver 18 = .ok (.iload 4, 2) := by decide +kernel
theorem dX0_weightOver_20 : decode cX0_weightOver 20 = .ok (.iload_n 2, 1) := by decide +kernel
theorem dX0_weightOver_21 : decode cX0_weightOver 21 = .ok (.if_icmp .ne 5, 3) := by decide +kernel
theorem dX0_weightOver_24 : decode cX0_weightOver 24 = .ok (.iconst 1, 1) := by decide +kernel
theorem dX0_weightOver_25 : decode cX0_weightOver 25 = .ok (.ireturn, 1) := by decide +kernel
theorem dX0_weightOver_26 : decode cX0_weightOver 26 = .ok (.iload_n 3, 1) := by decide +kernel
theorem dX0_weightOver_27 : decode cX0_weightOver 27 = .ok (.iload 4, 2) := by decide +kernel
theorem dX0_weightOver_29 : decode cX0_weightOver 29 = .ok (.if_icmp .ge 7, 3) := by decide +kernel
theorem dX0_weightOver_32 : decode cX0_weightOver 32 = .ok (.iconst 2, 1) := by decide +kernel
theorem dX0_weightOver_33 : decode cX0_weightOver 33 = .ok (.goto 17, 3) := by decide +kernel
theorem dX0_weightOver_36 : decode cX0_weightOver 36 = .ok (.aload_n 0, 1) := by decide +kernel
theorem dX0_weightOver_37 : decode cX0_weightOver 37 = .ok (.getfield 62, 3) := by decide +kernel
theorem dX0_weightOver_40 : decode cX0_weightOver 40 = .ok (.iload_n 1, 1) := by decide +kernel
theorem dX0_weightOver_41 : decode cX0_weightOver 41 = .ok (.aaload, 1) := by decide +kernel
theorem dX0_weightOver_42 : decode cX0_weightOver 42 = .ok (.iload_n 3, 1) := by decide +kernel
theorem dX0_weightOver_43 : decode cX0_weightOver 43 = .ok (.bipush 12, 2) := by decide +kernel
theorem dX0_weightOver_45 : decode cX0_weightOver 45 = .ok (.imul, 1) := by decide +kernel
theorem dX0_weightOver_46 : decode cX0_weightOver 46 = .ok (.iload 4, 2) := by decide +kernel
theorem dX0_weightOver_48 : decode cX0_weightOver 48 = .ok (.iadd, 1) := by decide +kernel
theorem dX0_weightOver_49 : decode cX0_weightOver 49 = .ok (.iaload, 1) := by decide +kernel
theorem dX0_weightOver_50 : decode cX0_weightOver 50 = .ok (.istore 5, 2) := by decide +kernel
theorem dX0_weightOver_52 : decode cX0_weightOver 52 = .ok (.iload 5, 2) := by decide +kernel
theorem dX0_weightOver_54 : decode cX0_weightOver 54 = .ok (.iconst 2, 1) := by decide +kernel
theorem dX0_weightOver_55 : decode cX0_weightOver 55 = .ok (.if_icmp .ne 7, 3) := by decide +kernel
theorem dX0_weightOver_58 : decode cX0_weightOver 58 = .ok (.iconst 2, 1) := by decide +kernel
theorem dX0_weightOver_59 : decode cX0_weightOver 59 = .ok (.goto 12, 3) := by decide +kernel
theorem dX0_weightOver_62 : decode cX0_weightOver 62 = .ok (.iload 5, 2) := by decide +kernel
theorem dX0_weightOver_64 : decode cX0_weightOver 64 = .ok (.aload_n 0, 1) := by decide +kernel
theorem dX0_weightOver_65 : decode cX0_weightOver 65 = .ok (.getfield 29, 3) := by decide +kernel
theorem dX0_weightOver_68 : decode cX0_weightOver 68 = .ok (.iload_n 2, 1) := by decide +kernel
theorem dX0_weightOver_69 : decode cX0_weightOver 69 = .ok (.iaload, 1) := by decide +kernel
theorem dX0_weightOver_70 : decode cX0_weightOver 70 = .ok (.imul, 1) := by decide +kernel
theorem dX0_weightOver_71 : decode cX0_weightOver 71 = .ok (.ireturn, 1) := by decide +kernel
theorem dX0_weightByBridge_0 : decode cX0_weightByBridge 0 = .ok (.iconst 0, 1) := by decide +kernel
theorem dX0_weightByBridge_1 : decode cX0_weightByBridge 1 = .ok (.istore 4, 2) := by decide +kernel
theorem dX0_weightByBridge_3 : decode cX0_weightByBridge 3 = .ok (.iload 4, 2) := by decide +kernel
theorem dX0_weightByBridge_5 : decode cX0_weightByBridge 5 = .ok (.iload_n 3, 1) := by decide +kernel
theorem dX0_weightByBridge_6 : decode cX0_weightByBridge 6 = .ok (.if_icmp .ge 44, 3) := by decide +kernel
theorem dX0_weightByBridge_9 : decode cX0_weightByBridge 9 = .ok (.aload_n 0, 1) := by decide +kernel
theorem dX0_weightByBridge_10 : decode cX0_weightByBridge 10 = .ok (.getfield 62, 3) := by decide +kernel
theorem dX0_weightByBridge_13 : decode cX0_weightByBridge 13 = .ok (.iload_n 1, 1) := by decide +kernel
theorem dX0_weightByBridge_14 : decode cX0_weightByBridge 14 = .ok (.aaload, 1) := by decide +kernel
theorem dX0_weightByBridge_15 : decode cX0_weightByBridge 15 = .ok (.iload_n 2, 1) := by decide +kernel
theorem dX0_weightByBridge_16 : decode cX0_weightByBridge 16 = .ok (.bipush 12, 2) := by decide +kernel
theorem dX0_weightByBridge_18 : decode cX0_weightByBridge 18 = .ok (.imul, 1) := by decide +kernel
theorem dX0_weightByBridge_19 : decode cX0_weightByBridge 19 = .ok (.iload 4, 2) := by decide +kernel
theorem dX0_weightByBridge_21 : decode cX0_weightByBridge 21 = .ok (.iadd, 1) := by decide +kernel
theorem dX0_weightByBridge_22 : decode cX0_weightByBridge 22 = .ok (.iaload, 1) := by decide +kernel
theorem dX0_weightByBridge_23 : decode cX0_weightByBridge 23 = .ok (.istore 5, 2) := by decide +kernel
theorem dX0_weightByBridge_25 : decode cX0_weightByBridge 25 = .ok (.aload_n 0, 1) := by decide +kernel
theorem dX0_weightByBridge_26 : decode cX0_weightByBridge 26 = .ok (.iload_n 3, 1) := by decide +kernel
theorem dX0_weightByBridge_27 : decode cX0_weightByBridge 27 = .ok (.iload 4, 2) := by decide +kernel
theorem dX0_weightByBridge_29 : decode cX0_weightByBridge 29 = .ok (.invokevirtual 88, 3) := by decide +kernel
theorem dX0_weightByBridge_32 : decode cX0_weightByBridge 32 = .ok (.ifCond .eq 12, 3) := by decide +kernel
theorem dX0_weightByBridge_35 : decode cX0_weightByBridge 35 = .ok (.iload 5, 2) := by decide +kernel
theorem dX0_weightByBridge_37 : decode cX0_weightByBridge 37 = .ok (.iconst 2, 1) := by decide +kernel
theorem dX0_weightByBridge_38 : decode cX0_weightByBridge 38 = .ok (.if_icmp .eq 6, 3) := by decide +kernel
theorem dX0_weightByBridge_41 : decode cX0_weightByBridge 41 = .ok (.iload 5, 2) := by decide +kernel
theorem dX0_weightByBridge_43 : decode cX0_weightByBridge 43 = .ok (.ireturn, 1) := by decide +kernel
theorem dX0_weightByBridge_44 : decode cX0_weightByBridge 44 = .ok (.iinc 4 1, 3) := by decide +kernel
theorem dX0_weightByBridge_47 : decode cX0_weightByBridge 47 = .ok (.goto (-44), 3) := by decide +kernel
theorem dX0_weightByBridge_50 : decode cX0_weightByBridge 50 = .ok (.iconst 2, 1) := by decide +kernel
theorem dX0_weightByBridge_51 : decode cX0_weightByBridge 51 = .ok (.ireturn, 1) := by decide +kernel
theorem dX0_weight_0 : decode cX0_weight 0 = .ok (.iload_n 1, 1) := by decide +kernel
theorem dX0_weight_1 : decode cX0_weight 1 = .ok (.ifCond .lt 33, 3) := by decide +kernel
theorem dX0_weight_4 : decode cX0_weight 4 = .ok (.iload_n 1, 1) := by decide +kernel
theorem dX0_weight_5 : decode cX0_weight 5 = .ok (.bipush 12, 2) := by decide +kernel
theorem dX0_weight_7 : decode cX0_weight 7 = .ok (.if_icmp .gt 27, 3) := by decide +kernel
theorem dX0_weight_10 : decode cX0_weight 10 = .ok (.iload_n 2, 1) := by decide +kernel
theorem dX0_weight_11 : decode cX0_weight 11 = .ok (.ifCond .lt 23, 3) := by decide +kernel
theorem dX0_weight_14 : decode cX0_weight 14 = .ok (.iload_n 2, 1) := by decide +kernel
theorem dX0_weight_15 : decode cX0_weight 15 = .ok (.aload_n 0, 1) := by decide +kernel
theorem dX0_weight_16 : decode cX0_weight 16 = .ok (.getfield 9, 3) := by decide +kernel
theorem dX0_weight_19 : decode cX0_weight 19 = .ok (.if_icmp .ge 15, 3) := by decide +kernel
theorem dX0_weight_22 : decode cX0_weight 22 = .ok (.iload_n 3, 1) := by decide +kernel
theorem dX0_weight_23 : decode cX0_weight 23 = .ok (.ifCond .lt 11, 3) := by decide +kernel
theorem dX0_weight_26 : decode cX0_weight 26 = .ok (.iload_n 3, 1) := by decide +kernel
theorem dX0_weight_27 : decode cX0_weight 27 = .ok (.aload_n 0, 1) := by decide +kernel
theorem dX0_weight_28 : decode cX0_weight 28 = .ok (.getfield 9, 3) := by decide +kernel
theorem dX0_weight_31 : decode cX0_weight 31 = .ok (.if_icmp .lt 5, 3) := by decide +kernel
theorem dX0_weight_34 : decode cX0_weight 34 = .ok (.iconst 0, 1) := by decide +kernel
theorem dX0_weight_35 : decode cX0_weight 35 = .ok (.ireturn, 1) := by decide +kernel
theorem dX0_weight_36 : decode cX0_weight 36 = .ok (.aload_n 0, 1) := by decide +kernel
theorem dX0_weight_37 : decode cX0_weight 37 = .ok (.getfield 62, 3) := by decide +kernel
theorem dX0_weight_40 : decode cX0_weight 40 = .ok (.iload_n 1, 1) := by decide +kernel
theorem dX0_weight_41 : decode cX0_weight 41 = .ok (.aaload, 1) := by decide +kernel
theorem dX0_weight_42 : decode cX0_weight 42 = .ok (.iload_n 2, 1) := by decide +kernel
theorem dX0_weight_43 : decode cX0_weight 43 = .ok (.bipush 12, 2) := by decide +kernel
theorem dX0_weight_45 : decode cX0_weight 45 = .ok (.imul, 1) := by decide +kernel
theorem dX0_weight_46 : decode cX0_weight 46 = .ok (.iload_n 3, 1) := by decide +kernel
theorem dX0_weight_47 : decode cX0_weight 47 = .ok (.iadd, 1) := by decide +kernel
theorem dX0_weight_48 : decode cX0_weight 48 = .ok (.iaload, 1) := by decide +kernel
theorem dX0_weight_49 : decode cX0_weight 49 = .ok (.istore 4, 2) := by decide +kernel
theorem dX0_weight_51 : decode cX0_weight 51 = .ok (.iload 4, 2) := by decide +kernel
theorem dX0_weight_53 : decode cX0_weight 53 = .ok (.iconst 2, 1) := by decide +kernel
theorem dX0_weight_54 : decode cX0_weight 54 = .ok (.if_icmp .ne 7, 3) := by decide +kernel
theorem dX0_weight_57 : decode cX0_weight 57 = .ok (.iconst 0, 1) := by decide +kernel
theorem dX0_weight_58 : decode cX0_weight 58 = .ok (.goto 5, 3) := by decide +kernel
theorem dX0_weight_61 : decode cX0_weight 61 = .ok (.iload 4, 2) := by decide +kernel
theorem dX0_weight_63 : decode cX0_weight 63 = .ok (.ireturn, 1) := by decide +kernel
theorem dX0_pickAll_0 : decode cX0_pickAll 0 = .ok (.aload_n 0, 1) := by decide +kernel
theorem dX0_pickAll_1 : decode cX0_pickAll 1 = .ok (.iconst 0, 1) := by decide +kernel
theorem dX0_pickAll_2 : decode cX0_pickAll 2 = .ok (.putfield 114, 3) := by decide +kernel
theorem dX0_pickAll_5 : decode cX0_pickAll 5 = .ok (.iconst 0, 1) := by decide +kernel
theorem dX0_pickAll_6 : decode cX0_pickAll 6 = .ok (.istore_n 3, 1) := by decide +kernel
theorem dX0_pickAll_7 : decode cX0_pickAll 7 = .ok (.iload_n 3, 1) := by decide +kernel
theorem dX0_pickAll_8 : decode cX0_pickAll 8 = .ok (.aload_n 0, 1) := by decide +kernel
theorem dX0_pickAll_9 : decode cX0_pickAll 9 = .ok (.getfield 9, 3) := by decide +kernel
theorem dX0_pickAll_12 : decode cX0_pickAll 12 = .ok (.if_icmp .ge 56, 3) := by decide +kernel
theorem dX0_pickAll_15 : decode cX0_pickAll 15 = .ok (.aload_n 0, 1) := by decide +kernel
theorem dX0_pickAll_16 : decode cX0_pickAll 16 = .ok (.getfield 57, 3) := by decide +kernel
theorem dX0_pickAll_19 : decode cX0_pickAll 19 = .ok (.iload_n 3, 1) := by decide +kernel
theorem dX0_pickAll_20 : decode cX0_pickAll 20 = .ok (.baload, 1) := by decide +kernel
theorem dX0_pickAll_21 : decode cX0_pickAll 21 = .ok (.ifCond .eq 41, 3) := by decide +kernel
theorem dX0_pickAll_24 : decode cX0_pickAll 24 = .ok (.aload_n 0, 1) := by decide +kernel
theorem dX0_pickAll_25 : decode cX0_pickAll 25 = .ok (.iload_n 3, 1) := by decide +kernel
theorem dX0_pickAll_26 : decode cX0_pickAll 26 = .ok (.invokevirtual 69, 3) := by decide +kernel
theorem dX0_pickAll_29 : decode cX0_pickAll 29 = .ok (.ifCond .eq 33, 3) := by decide +kernel
theorem dX0_pickAll_32 : decode cX0_pickAll 32 = .ok (.aload_n 0, 1) := by decide +kernel
theorem dX0_pickAll_33 : decode cX0_pickAll 33 = .ok (.iload_n 1, 1) := by decide +kernel
theorem dX0_pickAll_34 : decode cX0_pickAll 34 = .ok (.iload_n 2, 1) := by decide +kernel
theorem dX0_pickAll_35 : decode cX0_pickAll 35 = .ok (.iload_n 3, 1) := by decide +kernel
theorem dX0_pickAll_36 : decode cX0_pickAll 36 = .ok (.invokevirtual 117, 3) := by decide +kernel
theorem dX0_pickAll_39 : decode cX0_pickAll 39 = .ok (.ifCond .eq 23, 3) := by decide +kernel
theorem dX0_pickAll_42 : decode cX0_pickAll 42 = .ok (.aload_n 0, 1) := by decide +kernel
theorem dX0_pickAll_43 : decode cX0_pickAll 43 = .ok (.getfield 48, 3) := by decide +kernel
theorem dX0_pickAll_46 : decode cX0_pickAll 46 = .ok (.aload_n 0, 1) := by decide +kernel
theorem dX0_pickAll_47 : decode cX0_pickAll 47 = .ok (.getfield 114, 3) := by decide +kernel
theorem dX0_pickAll_50 : decode cX0_pickAll 50 = .ok (.iload_n 3, 1) := by decide +kernel
theorem dX0_pickAll_51 : decode cX0_pickAll 51 = .ok (.iastore, 1) := by decide +kernel
theorem dX0_pickAll_52 : decode cX0_pickAll 52 = .ok (.aload_n 0, 1) := by decide +kernel
theorem dX0_pickAll_53 : decode cX0_pickAll 53 = .ok (.dup, 1) := by decide +kernel
theorem dX0_pickAll_54 : decode cX0_pickAll 54 = .ok (.getfield 114, 3) := by decide +kernel
theorem dX0_pickAll_57 : decode cX0_pickAll 57 = .ok (.iconst 1, 1) := by decide +kernel
theorem dX0_pickAll_58 : decode cX0_pickAll 58 = .ok (.iadd, 1) := by decide +kernel
theorem dX0_pickAll_59 : decode cX0_pickAll 59 = .ok (.putfield 114, 3) := by decide +kernel
theorem dX0_pickAll_62 : decode cX0_pickAll 62 = .ok (.iinc 3 1, 3) := by decide +kernel
theorem dX0_pickAll_65 : decode cX0_pickAll 65 = .ok (.goto (-58), 3) := by decide +kernel
theorem dX0_pickAll_68 : decode cX0_pickAll 68 = .ok (.return_, 1) := by decide +kernel
theorem dX0_isAsked_0 : decode cX0_isAsked 0 = .ok (.iload_n 1, 1) := by decide +kernel
theorem dX0_isAsked_1 : decode cX0_isAsked 1 = .ok (.ifCond .ne 19, 3) := by decide +kernel
theorem dX0_isAsked_4 : decode cX0_isAsked 4 = .ok (.aload_n 0, 1) := by decide +kernel
theorem dX0_isAsked_5 : decode cX0_isAsked 5 = .ok (.getfield 51, 3) := by decide +kernel
theorem dX0_isAsked_8 : decode cX0_isAsked 8 = .ok (.iload_n 3, 1) := by decide +kernel
theorem dX0_isAsked_9 : decode cX0_isAsked 9 = .ok (.iaload, 1) := by decide +kernel
theorem dX0_isAsked_10 : decode cX0_isAsked 10 = .ok (.iload_n 2, 1) := by decide +kernel
theorem dX0_isAsked_11 : decode cX0_isAsked 11 = .ok (.if_icmp .ne 7, 3) := by decide +kernel
theorem dX0_isAsked_14 : decode cX0_isAsked 14 = .ok (.iconst 1, 1) := by decide +kernel
theorem dX0_isAsked_15 : decode cX0_isAsked 15 = .ok (.goto 4, 3) := by decide +kernel
theorem dX0_isAsked_18 : decode cX0_isAsked 18 = .ok (.iconst 0, 1) := by decide +kernel
theorem dX0_isAsked_19 : decode cX0_isAsked 19 = .ok (.ireturn, 1) := by decide +kernel
theorem dX0_isAsked_20 : decode cX0_isAsked 20 = .ok (.iload_n 1, 1) := by decide +kernel
theorem dX0_isAsked_21 : decode cX0_isAsked 21 = .ok (.iconst 2, 1) := by decide +kernel
theorem dX0_isAsked_22 : decode cX0_isAsked 22 = .ok (.if_icmp .ne 19, 3) := by decide +kernel
theorem dX0_isAsked_25 : decode cX0_isAsked 25 = .ok (.aload_n 0, 1) := by decide +kernel
theorem dX0_isAsked_26 : decode cX0_isAsked 26 = .ok (.getfield 54, 3) := by decide +kernel
theorem dX0_isAsked_29 : decode cX0_isAsked 29 = .ok (.iload_n 3, 1) := by decide +kernel
theorem dX0_isAsked_30 : decode cX0_isAsked 30 = .ok (.iaload, 1) := by decide +kernel
theorem dX0_isAsked_31 : decode cX0_isAsked 31 = .ok (.iload_n 2, 1) := by decide +kernel
theorem dX0_isAsked_32 : decode cX0_isAsked 32 = .ok (.if_icmp .ne 7, 3) := by decide +kernel
theorem dX0_isAsked_35 : decode cX0_isAsked 35 = .ok (.iconst 1, 1) := by decide +kernel
theorem dX0_isAsked_36 : decode cX0_isAsked 36 = .ok (.goto 4, 3) := by decide +kernel
theorem dX0_isAsked_39 : decode cX0_isAsked 39 = .ok (.iconst 0, 1) := by decide +kernel
theorem dX0_isAsked_40 : decode cX0_isAsked 40 = .ok (.ireturn, 1) := by decide +kernel
theorem dX0_isAsked_41 : decode cX0_isAsked 41 = .ok (.aload_n 0, 1) := by decide +kernel
theorem dX0_isAsked_42 : decode cX0_isAsked 42 = .ok (.iload_n 2, 1) := by decide +kernel
theorem dX0_isAsked_43 : decode cX0_isAsked 43 = .ok (.invokevirtual 65, 3) := by decide +kernel
theorem dX0_isAsked_46 : decode cX0_isAsked 46 = .ok (.ifCond .eq 33, 3) := by decide +kernel
theorem dX0_isAsked_49 : decode cX0_isAsked 49 = .ok (.aload_n 0, 1) := by decide +kernel
theorem dX0_isAsked_50 : decode cX0_isAsked 50 = .ok (.iload_n 3, 1) := by decide +kernel
theorem dX0_isAsked_51 : decode cX0_isAsked 51 = .ok (.invokevirtual 121, 3) := by decide +kernel
theorem dX0_isAsked_54 : decode cX0_isAsked 54 = .ok (.ifCond .eq 25, 3) := by decide +kernel
theorem dX0_isAsked_57 : decode cX0_isAsked 57 = .ok (.aload_n 0, 1) := by decide +kernel
theorem dX0_isAsked_58 : decode cX0_isAsked 58 = .ok (.getfield 62, 3) := by decide +kernel
theorem dX0_isAsked_61 : decode cX0_isAsked 61 = .ok (.bipush 12, 2) := by decide +kernel
theorem dX0_isAsked_63 : decode cX0_isAsked 63 = .ok (.aaload, 1) := by decide +kernel
theorem dX0_isAsked_64 : decode cX0_isAsked 64 = .ok (.iload_n 3, 1) := by decide +kernel
theorem dX0_isAsked_65 : decode cX0_isAsked 65 = .ok (.bipush 12, 2) := by decide +kernel
theorem dX0_isAsked_67 : decode cX0_isAsked 67 = .ok (.imul, 1) := by decide +kernel
theorem dX0_isAsked_68 : decode cX0_isAsked 68 = .ok (.iload_n 2, 1) := by decide +kernel
theorem dX0_isAsked_69 : decode cX0_isAsked 69 = .ok (.iadd, 1) := by decide +kernel
theorem dX0_isAsked_70 : decode cX0_isAsked 70 = .ok (.iaload, 1) := by decide +kernel
theorem dX0_isAsked_71 : decode cX0_isAsked 71 = .ok (.iconst 2, 1) := by decide +kernel
theorem dX0_isAsked_72 : decode cX0_isAsked 72 = .ok (.if_icmp .eq 7, 3) := by decide +kernel
theorem dX0_isAsked_75 : decode cX0_isAsked 75 = .ok (.iconst 1, 1) := by decide +kernel
theorem dX0_isAsked_76 : decode cX0_isAsked 76 = .ok (.goto 4, 3) := by decide +kernel
theorem dX0_isAsked_79 : decode cX0_isAsked 79 = .ok (.iconst 0, 1) := by decide +kernel
theorem dX0_isAsked_80 : decode cX0_isAsked 80 = .ok (.ireturn, 1) := by decide +kernel
theorem dX0_isLeaf_0 : decode cX0_isLeaf 0 = .ok (.iconst 1, 1) := by decide +kernel
theorem dX0_isLeaf_1 : decode cX0_isLeaf 1 = .ok (.istore_n 2, 1) := by decide +kernel
theorem dX0_isLeaf_2 : decode cX0_isLeaf 2 = .ok (.iload_n 2, 1) := by decide +kernel
theorem dX0_isLeaf_3 : decode cX0_isLeaf 3 = .ok (.aload_n 0, 1) := by decide +kernel
theorem dX0_isLeaf_4 : decode cX0_isLeaf 4 = .ok (.getfield 9, 3) := by decide +kernel
theorem dX0_isLeaf_7 : decode cX0_isLeaf 7 = .ok (.if_icmp .ge 20, 3) := by decide +kernel
theorem dX0_isLeaf_10 : decode cX0_isLeaf 10 = .ok (.aload_n 0, 1) := by decide +kernel
theorem dX0_isLeaf_11 : decode cX0_isLeaf 11 = .ok (.iload_n 2, 1) := by decide +kernel
theorem dX0_isLeaf_12 : decode cX0_isLeaf 12 = .ok (.invokevirtual 124, 3) := by decide +kernel
theorem dX0_isLeaf_15 : decode cX0_isLeaf 15 = .ok (.iload_n 1, 1) := by decide +kernel
theorem dX0_isLeaf_16 : decode cX0_isLeaf 16 = .ok (.if_icmp .ne 5, 3) := by decide +kernel
theorem dX0_isLeaf_19 : decode cX0_isLeaf 19 = .ok (.iconst 0, 1) := by decide +kernel
theorem dX0_isLeaf_20 : decode cX0_isLeaf 20 = .ok (.ireturn, 1) := by decide +kernel
theorem dX0_isLeaf_21 : decode cX0_isLeaf 21 = .ok (.iinc 2 1, 3) := by decide +kernel
theorem dX0_isLeaf_24 : decode cX0_isLeaf 24 = .ok (.goto (-22), 3) := by decide +kernel
theorem dX0_isLeaf_27 : decode cX0_isLeaf 27 = .ok (.iconst 1, 1) := by decide +kernel
theorem dX0_isLeaf_28 : decode cX0_isLeaf 28 = .ok (.ireturn, 1) := by decide +kernel
theorem dX0_pickedAt_0 : decode cX0_pickedAt 0 = .ok (.iload_n 1, 1) := by decide +kernel
theorem dX0_pickedAt_1 : decode cX0_pickedAt 1 = .ok (.ifCond .lt 26, 3) := by decide +kernel
theorem dX0_pickedAt_4 : decode cX0_pickedAt 4 = .ok (.iload_n 1, 1) := by decide +kernel
theorem dX0_pickedAt_5 : decode cX0_pickedAt 5 = .ok (.aload_n 0, 1) := by decide +kernel
theorem dX0_pickedAt_6 : decode cX0_pickedAt 6 = .ok (.getfield 114, 3) := by decide +kernel
theorem dX0_pickedAt_9 : decode cX0_pickedAt 9 = .ok (.if_icmp .ge 18, 3) := by decide +kernel
theorem dX0_pickedAt_12 : decode cX0_pickedAt 12 = .ok (.iload_n 1, 1) := by decide +kernel
theorem dX0_pickedAt_13 : decode cX0_pickedAt 13 = .ok (.bipush 12, 2) := by decide +kernel
theorem dX0_pickedAt_15 : decode cX0_pickedAt 15 = .ok (.if_icmp .ge 12, 3) := by decide +kernel
theorem dX0_pickedAt_18 : decode cX0_pickedAt 18 = .ok (.aload_n 0, 1) := by decide +kernel
theorem dX0_pickedAt_19 : decode cX0_pickedAt 19 = .ok (.getfield 48, 3) := by decide +kernel
theorem dX0_pickedAt_22 : decode cX0_pickedAt 22 = .ok (.iload_n 1, 1) := by decide +kernel
theorem dX0_pickedAt_23 : decode cX0_pickedAt 23 = .ok (.iaload, 1) := by decide +kernel
theorem dX0_pickedAt_24 : decode cX0_pickedAt 24 = .ok (.goto 4, 3) := by decide +kernel
theorem dX0_pickedAt_27 : decode cX0_pickedAt 27 = .ok (.iconst (-1), 1) := by decide +kernel
theorem dX0_pickedAt_28 : decode cX0_pickedAt 28 = .ok (.ireturn, 1) := by decide +kernel
theorem dX1_init_0 : decode cX1_init 0 = .ok (.aload_n 0, 1) := by decide +kernel
theorem dX1_init_1 : decode cX1_init 1 = .ok (.invokespecial 3, 3) := by decide +kernel
theorem dX1_init_4 : decode cX1_init 4 = .ok (.aload_n 0, 1) := by decide +kernel
theorem dX1_init_5 : decode cX1_init 5 = .ok (.bipush 50, 2) := by decide +kernel
theorem dX1_init_7 : decode cX1_init 7 = .ok (.newarray .int, 2) := by decide +kernel
theorem dX1_init_9 : decode cX1_init 9 = .ok (.putfield 9, 3) := by decide +kernel
theorem dX1_init_12 : decode cX1_init 12 = .ok (.aload_n 0, 1) := by decide +kernel
theorem dX1_init_13 : decode cX1_init 13 = .ok (.bipush 50, 2) := by decide +kernel
theorem dX1_init_15 : decode cX1_init 15 = .ok (.newarray .int, 2) := by decide +kernel
theorem dX1_init_17 : decode cX1_init 17 = .ok (.putfield 15, 3) := by decide +kernel
theorem dX1_init_20 : decode cX1_init 20 = .ok (.aload_n 0, 1) := by decide +kernel
theorem dX1_init_21 : decode cX1_init 21 = .ok (.bipush 50, 2) := by decide +kernel
theorem dX1_init_23 : decode cX1_init 23 = .ok (.newarray .int, 2) := by decide +kernel
theorem dX1_init_25 : decode cX1_init 25 = .ok (.putfield 18, 3) := by decide +kernel
theorem dX1_init_28 : decode cX1_init 28 = .ok (.aload_n 0, 1) := by decide +kernel
theorem dX1_init_29 : decode cX1_init 29 = .ok (.bipush 50, 2) := by decide +kernel
theorem dX1_init_31 : decode cX1_init 31 = .ok (.newarray .int, 2) := by decide +kernel
theorem dX1_init_33 : decode cX1_init 33 = .ok (.putfield 21, 3) := by decide +kernel
theorem dX1_init_36 : decode cX1_init 36 = .ok (.aload_n 0, 1) := by decide +kernel
theorem dX1_init_37 : decode cX1_init 37 = .ok (.bipush 50, 2) := by decide +kernel
theorem dX1_init_39 : decode cX1_init 39 = .ok (.newarray .int, 2) := by decide +kernel
theorem dX1_init_41 : decode cX1_init 41 = .ok (.putfield 24, 3) := by decide +kernel
theorem dX1_init_44 : decode cX1_init 44 = .ok (.aload_n 0, 1) := by decide +kernel
theorem dX1_init_45 : decode cX1_init 45 = .ok (.bipush 50, 2) := by decide +kernel
theorem dX1_init_47 : decode cX1_init 47 = .ok (.newarray .int, 2) := by decide +kernel
theorem dX1_init_49 : decode cX1_init 49 = .ok (.putfield 27, 3) := by decide +kernel
theorem dX1_init_52 : decode cX1_init 52 = .ok (.return_, 1) := by decide +kernel
theorem dX1_has_0 : decode cX1_has 0 = .ok (.iload_n 1, 1) := by decide +kernel
theorem dX1_has_1 : decode cX1_has 1 = .ok (.ifCond .lt 21, 3) := by decide +kernel
theorem dX1_has_4 : decode cX1_has 4 = .ok (.iload_n 1, 1) := by decide +kernel
theorem dX1_has_5 : decode cX1_has 5 = .ok (.aload_n 0, 1) := by decide +kernel
theorem dX1_has_6 : decode cX1_has 6 = .ok (.getfield 30, 3) := by decide +kernel
theorem dX1_has_9 : decode cX1_has 9 = .ok (.if_icmp .ge 13, 3) := by decide +kernel
theorem dX1_has_12 : decode cX1_has 12 = .ok (.iload_n 1, 1) := by decide +kernel
theorem dX1_has_13 : decode cX1_has 13 = .ok (.bipush 50, 2) := by decide +kernel
theorem dX1_has_15 : decode cX1_has 15 = .ok (.if_icmp .ge 7, 3) := by decide +kernel
theorem dX1_has_18 : decode cX1_has 18 = .ok (.iconst 1, 1) := by decide +kernel
theorem dX1_has_19 : decode cX1_has 19 = .ok (.goto 4, 3) := by decide +kernel
theorem dX1_has_22 : decode cX1_has 22 = .ok (.iconst 0, 1) := by decide +kernel
theorem dX1_has_23 : decode cX1_has 23 = .ok (.ireturn, 1) := by decide +kernel
theorem dX1_find_0 : decode cX1_find 0 = .ok (.iconst 0, 1) := by decide +kernel
theorem dX1_find_1 : decode cX1_find 1 = .ok (.istore_n 3, 1) := by decide +kernel
theorem dX1_find_2 : decode cX1_find 2 = .ok (.iload_n 3, 1) := by decide +kernel
theorem dX1_find_3 : decode cX1_find 3 = .ok (.aload_n 0, 1) := by decide +kernel
theorem dX1_find_4 : decode cX1_find 4 = .ok (.getfield 30, 3) := by decide +kernel
theorem dX1_find_7 : decode cX1_find 7 = .ok (.if_icmp .ge 31, 3) := by decide +kernel
theorem dX1_find_10 : decode cX1_find 10 = .ok (.aload_n 0, 1) := by decide +kernel
theorem dX1_find_11 : decode cX1_find 11 = .ok (.getfield 9, 3) := by decide +kernel
theorem dX1_find_14 : decode cX1_find 14 = .ok (.iload_n 3, 1) := by decide +kernel
theorem dX1_find_15 : decode cX1_find 15 = .ok (.iaload, 1) := by decide +kernel
theorem dX1_find_16 : decode cX1_find 16 = .ok (.iload_n 1, 1) := by decide +kernel
theorem dX1_find_17 : decode cX1_find 17 = .ok (.if_icmp .ne 15, 3) := by decide +kernel
theorem dX1_find_20 : decode cX1_find 20 = .ok (.aload_n 0, 1) := by decide +kernel
theorem dX1_find_21 : decode cX1_find 21 = .ok (.getfield 15, 3) := by decide +kernel
theorem dX1_find_24 : decode cX1_find 24 = .ok (.iload_n 3, 1) := by decide +kernel
theorem dX1_find_25 : decode cX1_find 25 = .ok (.iaload, 1) := by decide +kernel
theorem dX1_find_26 : decode cX1_find 26 = .ok (.iload_n 2, 1) := by decide +kernel
theorem dX1_find_27 : decode cX1_find 27 = .ok (.if_icmp .ne 5, 3) := by decide +kernel
theorem dX1_find_30 : decode cX1_find 30 = .ok (.iload_n 3, 1) := by decide +kernel
theorem dX1_find_31 : decode cX1_find 31 = .ok (.ireturn, 1) := by decide +kernel
theorem dX1_find_32 : decode cX1_find 32 = .ok (.iinc 3 1, 3) := by decide +kernel
theorem dX1_find_35 : decode cX1_find 35 = .ok (.goto (-33), 3) := by decide +kernel
theorem dX1_find_38 : decode cX1_find 38 = .ok (.iconst (-1), 1) := by decide +kernel
theorem dX1_find_39 : decode cX1_find 39 = .ok (.ireturn, 1) := by decide +kernel
theorem dX1_cellAt_0 : decode cX1_cellAt 0 = .ok (.aload_n 0, 1) := by decide +kernel
theorem dX1_cellAt_1 : decode cX1_cellAt 1 = .ok (.iload_n 1, 1) := by decide +kernel
theorem dX1_cellAt_2 : decode cX1_cellAt 2 = .ok (.invokevirtual 34, 3) := by decide +kernel
theorem dX1_cellAt_5 : decode cX1_cellAt 5 = .ok (.ifCond .eq 12, 3) := by decide +kernel
theorem dX1_cellAt_8 : decode cX1_cellAt 8 = .ok (.aload_n 0, 1) := by decide +kernel
theorem dX1_cellAt_9 : decode cX1_cellAt 9 = .ok (.getfield 9, 3) := by decide +kernel
theorem dX1_cellAt_12 : decode cX1_cellAt 12 = .ok (.iload_n 1, 1) := by decide +kernel
theorem dX1_cellAt_13 : decode cX1_cellAt 13 = .ok (.iaload, 1) := by decide +kernel
theorem dX1_cellAt_14 : decode cX1_cellAt 14 = .ok (.goto 4, 3) := by decide +kernel
theorem dX1_cellAt_17 : decode cX1_cellAt 17 = .ok (.iconst 0, 1) := by decide +kernel
theorem dX1_cellAt_18 : decode cX1_cellAt 18 = .ok (.ireturn, 1) := by decide +kernel
theorem dX1_measureAt_0 : decode cX1_measureAt 0 = .ok (.aload_n 0, 1) := by decide +kernel
theorem dX1_measureAt_1 : decode cX1_measureAt 1 = .ok (.iload_n 1, 1) := by decide +kernel
theorem dX1_measureAt_2 : decode cX1_measureAt 2 = .ok (.invokevirtual 34, 3) := by decide +kernel
theorem dX1_measureAt_5 : decode cX1_measureAt 5 = .ok (.ifCond .eq 12, 3) := by decide +kernel
theorem dX1_measureAt_8 : decode cX1_measureAt 8 = .ok (.aload_n 0, 1) := by decide +kernel
theorem dX1_measureAt_9 : decode cX1_measureAt 9 = .ok (.getfield 15, 3) := by decide +kernel
theorem dX1_measureAt_12 : decode cX1_measureAt 12 = .ok (.iload_n 1, 1) := by decide +kernel
theorem dX1_measureAt_13 : decode cX1_measureAt 13 = .ok (.iaload, 1) := by decide +kernel
theorem dX1_measureAt_14 : decode cX1_measureAt 14 = .ok (.goto 4, 3) := by decide +kernel
theorem dX1_measureAt_17 : decode cX1_measureAt 17 = .ok (.iconst (-1), 1) := by decide +kernel
theorem dX1_measureAt_18 : decode cX1_measureAt 18 = .ok (.ireturn, 1) := by decide +kernel
theorem dX1_numberAt_0 : decode cX1_numberAt 0 = .ok (.aload_n 0, 1) := by decide +kernel
theorem dX1_numberAt_1 : decode cX1_numberAt 1 = .ok (.iload_n 1, 1) := by decide +kernel
theorem dX1_numberAt_2 : decode cX1_numberAt 2 = .ok (.invokevirtual 34, 3) := by decide +kernel
theorem dX1_numberAt_5 : decode cX1_numberAt 5 = .ok (.ifCond .eq 12, 3) := by decide +kernel
theorem dX1_numberAt_8 : decode cX1_numberAt 8 = .ok (.aload_n 0, 1) := by decide +kernel
theorem dX1_numberAt_9 : decode cX1_numberAt 9 = .ok (.getfield 18, 3) := by decide +kernel
theorem dX1_numberAt_12 : decode cX1_numberAt 12 = .ok (.iload_n 1, 1) := by decide +kernel
theorem dX1_numberAt_13 : decode cX1_numberAt 13 = .ok (.iaload, 1) := by decide +kernel
theorem dX1_numberAt_14 : decode cX1_numberAt 14 = .ok (.goto 4, 3) := by decide +kernel
theorem dX1_numberAt_17 : decode cX1_numberAt 17 = .ok (.iconst 0, 1) := by decide +kernel
theorem dX1_numberAt_18 : decode cX1_numberAt 18 = .ok (.ireturn, 1) := by decide +kernel
theorem dX1_setNumber_0 : decode cX1_setNumber 0 = .ok (.aload_n 0, 1) := by decide +kernel
theorem dX1_setNumber_1 : decode cX1_setNumber 1 = .ok (.iload_n 1, 1) := by decide +kernel
theorem dX1_setNumber_2 : decode cX1_setNumber 2 = .ok (.invokevirtual 34, 3) := by decide +kernel
theorem dX1_setNumber_5 : decode cX1_setNumber 5 = .ok (.ifCond .eq 10, 3) := by decide +kernel
theorem dX1_setNumber_8 : decode cX1_setNumber 8 = .ok (.aload_n 0, 1) := by decide +kernel
theorem dX1_setNumber_9 : decode cX1_setNumber 9 = .ok (.getfield 18, 3) := by decide +kernel
theorem dX1_setNumber_12 : decode cX1_setNumber 12 = .ok (.iload_n 1, 1) := by decide +kernel
theorem dX1_setNumber_13 : decode cX1_setNumber 13 = .ok (.iload_n 2, 1) := by decide +kernel
theorem dX1_setNumber_14 : decode cX1_setNumber 14 = .ok (.iastore, 1) := by decide +kernel
theorem dX1_setNumber_15 : decode cX1_setNumber 15 = .ok (.return_, 1) := by decide +kernel
theorem dX1_add_0 : decode cX1_add 0 = .ok (.aload_n 0, 1) := by decide +kernel
theorem dX1_add_1 : decode cX1_add 1 = .ok (.getfield 30, 3) := by decide +kernel
theorem dX1_add_4 : decode cX1_add 4 = .ok (.bipush 50, 2) := by decide +kernel
theorem dX1_add_6 : decode cX1_add 6 = .ok (.if_icmp .ge 43, 3) := by decide +kernel
theorem dX1_add_9 : decode cX1_add 9 = .ok (.aload_n 0, 1) := by decide +kernel
theorem dX1_add_10 : decode cX1_add 10 = .ok (.getfield 9, 3) := by decide +kernel
theorem dX1_add_13 : decode cX1_add 13 = .ok (.aload_n 0, 1) := by decide +kernel
theorem dX1_add_14 : decode cX1_add 14 = .ok (.getfield 30, 3) := by decide +kernel
theorem dX1_add_17 : decode cX1_add 17 = .ok (.iload_n 1, 1) := by decide +kernel
theorem dX1_add_18 : decode cX1_add 18 = .ok (.iastore, 1) := by decide +kernel
theorem dX1_add_19 : decode cX1_add 19 = .ok (.aload_n 0, 1) := by decide +kernel
theorem dX1_add_20 : decode cX1_add 20 = .ok (.getfield 15, 3) := by decide +kernel
theorem dX1_add_23 : decode cX1_add 23 = .ok (.aload_n 0, 1) := by decide +kernel
theorem dX1_add_24 : decode cX1_add 24 = .ok (.getfield 30, 3) := by decide +kernel
theorem dX1_add_27 : decode cX1_add 27 = .ok (.iload_n 2, 1) := by decide +kernel
theorem dX1_add_28 : decode cX1_add 28 = .ok (.iastore, 1) := by decide +kernel
theorem dX1_add_29 : decode cX1_add 29 = .ok (.aload_n 0, 1) := by decide +kernel
theorem dX1_add_30 : decode cX1_add 30 = .ok (.getfield 18, 3) := by decide +kernel
theorem dX1_add_33 : decode cX1_add 33 = .ok (.aload_n 0, 1) := by decide +kernel
theorem dX1_add_34 : decode cX1_add 34 = .ok (.getfield 30, 3) := by decide +kernel
theorem dX1_add_37 : decode cX1_add 37 = .ok (.iload_n 3, 1) := by decide +kernel
theorem dX1_add_38 : decode cX1_add 38 = .ok (.iastore, 1) := by decide +kernel
theorem dX1_add_39 : decode cX1_add 39 = .ok (.aload_n 0, 1) := by decide +kernel
theorem dX1_add_40 : decode cX1_add 40 = .ok (.dup, 1) := by decide +kernel
theorem dX1_add_41 : decode cX1_add 41 = .ok (.getfield 30, 3) := by decide +kernel
theorem dX1_add_44 : decode cX1_add 44 = .ok (.iconst 1, 1) := by decide +kernel
theorem dX1_add_45 : decode cX1_add 45 = .ok (.iadd, 1) := by decide +kernel
theorem dX1_add_46 : decode cX1_add 46 = .ok (.putfield 30, 3) := by decide +kernel
theorem dX1_add_49 : decode cX1_add 49 = .ok (.return_, 1) := by decide +kernel
theorem dX1_save_0 : decode cX1_save 0 = .ok (.aload_n 0, 1) := by decide +kernel
theorem dX1_save_1 : decode cX1_save 1 = .ok (.iconst 1, 1) := by decide +kernel
theorem dX1_save_2 : decode cX1_save 2 = .ok (.putfield 38, 3) := by decide +kernel
theorem dX1_save_5 : decode cX1_save 5 = .ok (.aload_n 0, 1) := by decide +kernel
theorem dX1_save_6 : decode cX1_save 6 = .ok (.aload_n 0, 1) := by decide +kernel
theorem dX1_save_7 : decode cX1_save 7 = .ok (.getfield 30, 3) := by decide +kernel
theorem dX1_save_10 : decode cX1_save 10 = .ok (.putfield 42, 3) := by decide +kernel
theorem dX1_save_13 : decode cX1_save 13 = .ok (.aload_n 0, 1) := by decide +kernel
theorem dX1_save_14 : decode cX1_save 14 = .ok (.getfield 9, 3) := by decide +kernel
theorem dX1_save_17 : decode cX1_save 17 = .ok (.iconst 0, 1) := by decide +kernel
theorem dX1_save_18 : decode cX1_save 18 = .ok (.aload_n 0, 1) := by decide +kernel
theorem dX1_save_19 : decode cX1_save 19 = .ok (.getfield 21, 3) := by decide +kernel
theorem dX1_save_22 : decode cX1_save 22 = .ok (.iconst 0, 1) := by decide +kernel
theorem dX1_save_23 : decode cX1_save 23 = .ok (.bipush 50, 2) := by decide +kernel
theorem dX1_save_25 : decode cX1_save 25 = .ok (.invokestatic 45, 3) := by decide +kernel
theorem dX1_save_28 : decode cX1_save 28 = .ok (.aload_n 0, 1) := by decide +kernel
theorem dX1_save_29 : decode cX1_save 29 = .ok (.getfield 15, 3) := by decide +kernel
theorem dX1_save_32 : decode cX1_save 32 = .ok (.iconst 0, 1) := by decide +kernel
theorem dX1_save_33 : decode cX1_save 33 = .ok (.aload_n 0, 1) := by decide +kernel
theorem dX1_save_34 : decode cX1_save 34 = .ok (.getfield 24, 3) := by decide +kernel
theorem dX1_save_37 : decode cX1_save 37 = .ok (.iconst 0, 1) := by decide +kernel
theorem dX1_save_38 : decode cX1_save 38 = .ok (.bipush 50, 2) := by decide +kernel
theorem dX1_save_40 : decode cX1_save 40 = .ok (.invokestatic 45, 3) := by decide +kernel
theorem dX1_save_43 : decode cX1_save 43 = .ok (.aload_n 0, 1) := by decide +kernel
theorem dX1_save_44 : decode cX1_save 44 = .ok (.getfield 18, 3) := by decide +kernel
theorem dX1_save_47 : decode cX1_save 47 = .ok (.iconst 0, 1) := by decide +kernel
theorem dX1_save_48 : decode cX1_save 48 = .ok (.aload_n 0, 1) := by decide +kernel
theorem dX1_save_49 : decode cX1_save 49 = .ok (.getfield 27, 3) := by decide +kernel
theorem dX1_save_52 : decode cX1_save 52 = .ok (.iconst 0, 1) := by decide +kernel
theorem dX1_save_53 : decode cX1_save 53 = .ok (.bipush 50, 2) := by decide +kernel
theorem dX1_save_55 : decode cX1_save 55 = .ok (.invokestatic 45, 3) := by decide +kernel
theorem dX1_save_58 : decode cX1_save 58 = .ok (.return_, 1) := by decide +kernel
theorem dX1_restore_0 : decode cX1_restore 0 = .ok (.aload_n 0, 1) := by decide +kernel
theorem dX1_restore_1 : decode cX1_restore 1 = .ok (.aload_n 0, 1) := by decide +kernel
theorem dX1_restore_2 : decode cX1_restore 2 = .ok (.getfield 42, 3) := by decide +kernel
theorem dX1_restore_5 : decode cX1_restore 5 = .ok (.putfield 30, 3) := by decide +kernel
theorem dX1_restore_8 : decode cX1_restore 8 = .ok (.aload_n 0, 1) := by decide +kernel
theorem dX1_restore_9 : decode cX1_restore 9 = .ok (.getfield 21, 3) := by decide +kernel
theorem dX1_restore_12 : decode cX1_restore 12 = .ok (.iconst 0, 1) := by decide +kernel
theorem dX1_restore_13 : decode cX1_restore 13 = .ok (.aload_n 0, 1) := by decide +kernel
theorem dX1_restore_14 : decode cX1_restore 14 = .ok (.getfield 9, 3) := by decide +kernel
theorem dX1_restore_17 : decode cX1_restore 17 = .ok (.iconst 0, 1) := by decide +kernel
theorem dX1_restore_18 : decode cX1_restore 18 = .ok (.bipush 50, 2) := by decide +kernel
theorem dX1_restore_20 : decode cX1_restore 20 = .ok (.invokestatic 45, 3) := by decide +kernel
theorem dX1_restore_23 : decode cX1_restore 23 = .ok (.aload_n 0, 1) := by decide +kernel
theorem dX1_restore_24 : decode cX1_restore 24 = .ok (.getfield 24, 3) := by decide +kernel
theorem dX1_restore_27 : decode cX1_restore 27 = .ok (.iconst 0, 1) := by decide +kernel
theorem dX1_restore_28 : decode cX1_restore 28 = .ok (.aload_n 0, 1) := by decide +kernel
theorem dX1_restore_29 : decode cX1_restore 29 = .ok (.getfield 15, 3) := by decide +kernel
theorem dX1_restore_32 : decode cX1_restore 32 = .ok (.iconst 0, 1) := by decide +kernel
theorem dX1_restore_33 : decode cX1_restore 33 = .ok (.bipush 50, 2) := by decide +kernel
theorem dX1_restore_35 : decode cX1_restore 35 = .ok (.invokestatic 45, 3) := by decide +kernel
theorem dX1_restore_38 : decode cX1_restore 38 = .ok (.aload_n 0, 1) := by decide +kernel
theorem dX1_restore_39 : decode cX1_restore 39 = .ok (.getfield 27, 3) := by decide +kernel
theorem dX1_restore_42 : decode cX1_restore 42 = .ok (.iconst 0, 1) := by decide +kernel
theorem dX1_restore_43 : decode cX1_restore 43 = .ok (.aload_n 0, 1) := by decide +kernel
theorem dX1_restore_44 : decode cX1_restore 44 = .ok (.getfield 18, 3) := by decide +kernel
theorem dX1_restore_47 : decode cX1_restore 47 = .ok (.iconst 0, 1) := by decide +kernel
theorem dX1_restore_48 : decode cX1_restore 48 = .ok (.bipush 50, 2) := by decide +kernel
theorem dX1_restore_50 : decode cX1_restore 50 = .ok (.invokestatic 45, 3) := by decide +kernel
theorem dX1_restore_53 : decode cX1_restore 53 = .ok (.return_, 1) := by decide +kernel
theorem dX2_init_0 : decode cX2_init 0 = .ok (.aload_n 0, 1) := by decide +kernel
theorem dX2_init_1 : decode cX2_init 1 = .ok (.invokespecial 3, 3) := by decide +kernel
theorem dX2_init_4 : decode cX2_init 4 = .ok (.aload_n 0, 1) := by decide +kernel
theorem dX2_init_5 : decode cX2_init 5 = .ok (.bipush 10, 2) := by decide +kernel
theorem dX2_init_7 : decode cX2_init 7 = .ok (.newarray .int, 2) := by decide +kernel
theorem dX2_init_9 : decode cX2_init 9 = .ok (.putfield 9, 3) := by decide +kernel
theorem dX2_init_12 : decode cX2_init 12 = .ok (.aload_n 0, 1) := by decide +kernel
theorem dX2_init_13 : decode cX2_init 13 = .ok (.bipush 10, 2) := by decide +kernel
theorem dX2_init_15 : decode cX2_init 15 = .ok (.newarray .int, 2) := by decide +kernel
theorem dX2_init_17 : decode cX2_init 17 = .ok (.putfield 15, 3) := by decide +kernel
theorem dX2_init_20 : decode cX2_init 20 = .ok (.aload_n 0, 1) := by decide +kernel
theorem dX2_init_21 : decode cX2_init 21 = .ok (.bipush 10, 2) := by decide +kernel
theorem dX2_init_23 : decode cX2_init 23 = .ok (.newarray .int, 2) := by decide +kernel
theorem dX2_init_25 : decode cX2_init 25 = .ok (.putfield 18, 3) := by decide +kernel
theorem dX2_init_28 : decode cX2_init 28 = .ok (.return_, 1) := by decide +kernel
theorem dX2_hasRoomFor_0 : decode cX2_hasRoomFor 0 = .ok (.aload_n 0, 1) := by decide +kernel
theorem dX2_hasRoomFor_1 : decode cX2_hasRoomFor 1 = .ok (.getfield 21, 3) := by decide +kernel
theorem dX2_hasRoomFor_4 : decode cX2_hasRoomFor 4 = .ok (.bipush 10, 2) := by decide +kernel
theorem dX2_hasRoomFor_6 : decode cX2_hasRoomFor 6 = .ok (.if_icmp .ge 20, 3) := by decide +kernel
theorem dX2_hasRoomFor_9 : decode cX2_hasRoomFor 9 = .ok (.iload_n 1, 1) := by decide +kernel
theorem dX2_hasRoomFor_10 : decode cX2_hasRoomFor 10 = .ok (.iconst 2, 1) := by decide +kernel
theorem dX2_hasRoomFor_11 : decode cX2_hasRoomFor 11 = .ok (.if_icmp .le 11, 3) := by decide +kernel
theorem dX2_hasRoomFor_14 : decode cX2_hasRoomFor 14 = .ok (.aload_n 0, 1) := by decide +kernel
theorem dX2_hasRoomFor_15 : decode cX2_hasRoomFor 15 = .ok (.getfield 25, 3) := by decide +kernel
theorem dX2_hasRoomFor_18 : decode cX2_hasRoomFor 18 = .ok (.iconst 2, 1) := by decide +kernel
theorem dX2_hasRoomFor_19 : decode cX2_hasRoomFor 19 = .ok (.if_icmp .lt 7, 3) := by decide +kernel
theorem dX2_hasRoomFor_22 : decode cX2_hasRoomFor 22 = .ok (.iconst 1, 1) := by decide +kernel
theorem dX2_hasRoomFor_23 : decode cX2_hasRoomFor 23 = .ok (.goto 4, 3) := by decide +kernel
theorem dX2_hasRoomFor_26 : decode cX2_hasRoomFor 26 = .ok (.iconst 0, 1) := by decide +kernel
theorem dX2_hasRoomFor_27 : decode cX2_hasRoomFor 27 = .ok (.ireturn, 1) := by decide +kernel
theorem dX2_put_0 : decode cX2_put 0 = .ok (.aload_n 0, 1) := by decide +kernel
theorem dX2_put_1 : decode cX2_put 1 = .ok (.getfield 21, 3) := by decide +kernel
theorem dX2_put_4 : decode cX2_put 4 = .ok (.bipush 10, 2) := by decide +kernel
theorem dX2_put_6 : decode cX2_put 6 = .ok (.if_icmp .ge 62, 3) := by decide +kernel
theorem dX2_put_9 : decode cX2_put 9 = .ok (.aload_n 0, 1) := by decide +kernel
theorem dX2_put_10 : decode cX2_put 10 = .ok (.getfield 9, 3) := by decide +kernel
theorem dX2_put_13 : decode cX2_put 13 = .ok (.aload_n 0, 1) := by decide +kernel
theorem dX2_put_14 : decode cX2_put 14 = .ok (.getfield 21, 3) := by decide +kernel
theorem dX2_put_17 : decode cX2_put 17 = .ok (.iload_n 1, 1) := by decide +kernel
theorem dX2_put_18 : decode cX2_put 18 = .ok (.iastore, 1) := by decide +kernel
theorem dX2_put_19 : decode cX2_put 19 = .ok (.aload_n 0, 1) := by decide +kernel
theorem dX2_put_20 : decode cX2_put 20 = .ok (.getfield 15, 3) := by decide +kernel
theorem dX2_put_23 : decode cX2_put 23 = .ok (.aload_n 0, 1) := by decide +kernel
theorem dX2_put_24 : decode cX2_put 24 = .ok (.getfield 21, 3) := by decide +kernel
theorem dX2_put_27 : decode cX2_put 27 = .ok (.iload_n 2, 1) := by decide +kernel
theorem dX2_put_28 : decode cX2_put 28 = .ok (.iastore, 1) := by decide +kernel
theorem dX2_put_29 : decode cX2_put 29 = .ok (.aload_n 0, 1) := by decide +kernel
theorem dX2_put_30 : decode cX2_put 30 = .ok (.getfield 18, 3) := by decide +kernel
theorem dX2_put_33 : decode cX2_put 33 = .ok (.aload_n 0, 1) := by decide +kernel
theorem dX2_put_34 : decode cX2_put 34 = .ok (.getfield 21, 3) := by decide +kernel
theorem dX2_put_37 : decode cX2_put 37 = .ok (.iload_n 3, 1) := by decide +kernel
theorem dX2_put_38 : decode cX2_put 38 = .ok (.iastore, 1) := by decide +kernel
theorem dX2_put_39 : decode cX2_put 39 = .ok (.aload_n 0, 1) := by decide +kernel
theorem dX2_put_40 : decode cX2_put 40 = .ok (.dup, 1) := by decide +kernel
theorem dX2_put_41 : decode cX2_put 41 = .ok (.getfield 21, 3) := by decide +kernel
theorem dX2_put_44 : decode cX2_put 44 = .ok (.iconst 1, 1) := by decide +kernel
theorem dX2_put_45 : decode cX2_put 45 = .ok (.iadd, 1) := by decide +kernel
theorem dX2_put_46 : decode cX2_put 46 = .ok (.putfield 21, 3) := by decide +kernel
theorem dX2_put_49 : decode cX2_put 49 = .ok (.aload_n 0, 1) := by decide +kernel
theorem dX2_put_50 : decode cX2_put 50 = .ok (.dup, 1) := by decide +kernel
theorem dX2_put_51 : decode cX2_put 51 = .ok (.getfield 25, 3) := by decide +kernel
theorem dX2_put_54 : decode cX2_put 54 = .ok (.iload_n 1, 1) := by decide +kernel
theorem dX2_put_55 : decode cX2_put 55 = .ok (.iconst 2, 1) := by decide +kernel
theorem dX2_put_56 : decode cX2_put 56 = .ok (.if_icmp .gt 7, 3) := by decide +kernel
theorem dX2_put_59 : decode cX2_put 59 = .ok (.iconst 1, 1) := by decide +kernel
theorem dX2_put_60 : decode cX2_put 60 = .ok (.goto 4, 3) := by decide +kernel
theorem dX2_put_63 : decode cX2_put 63 = .ok (.iconst (-1), 1) := by decide +kernel
theorem dX2_put_64 : decode cX2_put 64 = .ok (.iadd, 1) := by decide +kernel
theorem dX2_put_65 : decode cX2_put 65 = .ok (.putfield 25, 3) := by decide +kernel
theorem dX2_put_68 : decode cX2_put 68 = .ok (.return_, 1) := by decide +kernel
theorem dX2_looksBeyond_0 : decode cX2_looksBeyond 0 = .ok (.iconst 0, 1) := by decide +kernel
theorem dX2_looksBeyond_1 : decode cX2_looksBeyond 1 = .ok (.istore_n 2, 1) := by decide +kernel
theorem dX2_looksBeyond_2 : decode cX2_looksBeyond 2 = .ok (.iload_n 2, 1) := by decide +kernel
theorem dX2_looksBeyond_3 : decode cX2_looksBeyond 3 = .ok (.aload_n 0, 1) := by decide +kernel
theorem dX2_looksBeyond_4 : decode cX2_looksBeyond 4 = .ok (.getfield 21, 3) := by decide +kernel
theorem dX2_looksBeyond_7 : decode cX2_looksBeyond 7 = .ok (.if_icmp .ge 41, 3) := by decide +kernel
theorem dX2_looksBeyond_10 : decode cX2_looksBeyond 10 = .ok (.aload_n 0, 1) := by decide +kernel
theorem dX2_looksBeyond_11 : decode cX2_looksBeyond 11 = .ok (.getfield 9, 3) := by decide +kernel
theorem dX2_looksBeyond_14 : decode cX2_looksBeyond 14 = .ok (.iload_n 2, 1) := by decide +kernel
theorem dX2_looksBeyond_15 : decode cX2_looksBeyond 15 = .ok (.iaload, 1) := by decide +kernel
theorem dX2_looksBeyond_16 : decode cX2_looksBeyond 16 = .ok (.iconst 1, 1) := by decide +kernel
theorem dX2_looksBeyond_17 : decode cX2_looksBeyond 17 = .ok (.if_icmp .eq 13, 3) := by decide +kernel
theorem dX2_looksBeyond_20 : decode cX2_looksBeyond 20 = .ok (.aload_n 0, 1) := by decide +kernel
theorem dX2_looksBeyond_21 : decode cX2_looksBeyond 21 = .ok (.getfield 9, 3) := by decide +kernel
theorem dX2_looksBeyond_24 : decode cX2_looksBeyond 24 = .ok (.iload_n 2, 1) := by decide +kernel
theorem dX2_looksBeyond_25 : decode cX2_looksBeyond 25 = .ok (.iaload, 1) := by decide +kernel
theorem dX2_looksBeyond_26 : decode cX2_looksBeyond 26 = .ok (.iconst 2, 1) := by decide +kernel
theorem dX2_looksBeyond_27 : decode cX2_looksBeyond 27 = .ok (.if_icmp .ne 15, 3) := by decide +kernel
theorem dX2_looksBeyond_30 : decode cX2_looksBeyond 30 = .ok (.aload_n 0, 1) := by decide +kernel
theorem dX2_looksBeyond_31 : decode cX2_looksBeyond 31 = .ok (.getfield 15, 3) := by decide +kernel
theorem dX2_looksBeyond_34 : decode cX2_looksBeyond 34 = .ok (.iload_n 2, 1) := by decide +kernel
theorem dX2_looksBeyond_35 : decode cX2_looksBeyond 35 = .ok (.iaload, 1) := by decide +kernel
theorem dX2_looksBeyond_36 : decode cX2_looksBeyond 36 = .ok (.iload_n 1, 1) := by decide +kernel
theorem dX2_looksBeyond_37 : decode cX2_looksBeyond 37 = .ok (.if_icmp .lt 5, 3) := by decide +kernel
theorem dX2_looksBeyond_40 : decode cX2_looksBeyond 40 = .ok (.iconst 1, 1) := by decide +kernel
theorem dX2_looksBeyond_41 : decode cX2_looksBeyond 41 = .ok (.ireturn, 1) := by decide +kernel
theorem dX2_looksBeyond_42 : decode cX2_looksBeyond 42 = .ok (.iinc 2 1, 3) := by decide +kernel
theorem dX2_looksBeyond_45 : decode cX2_looksBeyond 45 = .ok (.goto (-43), 3) := by decide +kernel
theorem dX2_looksBeyond_48 : decode cX2_looksBeyond 48 = .ok (.iconst 0, 1) := by decide +kernel
theorem dX2_looksBeyond_49 : decode cX2_looksBeyond 49 = .ok (.ireturn, 1) := by decide +kernel
theorem dX3_init_0 : decode cX3_init 0 = .ok (.aload_n 0, 1) := by decide +kernel
theorem dX3_init_1 : decode cX3_init 1 = .ok (.invokespecial 3, 3) := by decide +kernel
theorem dX3_init_4 : decode cX3_init 4 = .ok (.aload_n 0, 1) := by decide +kernel
theorem dX3_init_5 : decode cX3_init 5 = .ok (.bipush 20, 2) := by decide +kernel
theorem dX3_init_7 : decode cX3_init 7 = .ok (.newarray .int, 2) := by decide +kernel
theorem dX3_init_9 : decode cX3_init 9 = .ok (.putfield 9, 3) := by decide +kernel
theorem dX3_init_12 : decode cX3_init 12 = .ok (.aload_n 0, 1) := by decide +kernel
theorem dX3_init_13 : decode cX3_init 13 = .ok (.bipush 20, 2) := by decide +kernel
theorem dX3_init_15 : decode cX3_init 15 = .ok (.newarray .int, 2) := by decide +kernel
theorem dX3_init_17 : decode cX3_init 17 = .ok (.putfield 15, 3) := by decide +kernel
theorem dX3_init_20 : decode cX3_init 20 = .ok (.aload_n 0, 1) := by decide +kernel
theorem dX3_init_21 : decode cX3_init 21 = .ok (.bipush 20, 2) := by decide +kernel
theorem dX3_init_23 : decode cX3_init 23 = .ok (.newarray .long, 2) := by decide +kernel
theorem dX3_init_25 : decode cX3_init 25 = .ok (.putfield 18, 3) := by decide +kernel
theorem dX3_init_28 : decode cX3_init 28 = .ok (.return_, 1) := by decide +kernel
theorem dX3_has_0 : decode cX3_has 0 = .ok (.iload_n 1, 1) := by decide +kernel
theorem dX3_has_1 : decode cX3_has 1 = .ok (.ifCond .lt 21, 3) := by decide +kernel
theorem dX3_has_4 : decode cX3_has 4 = .ok (.iload_n 1, 1) := by decide +kernel
theorem dX3_has_5 : decode cX3_has 5 = .ok (.aload_n 0, 1) := by decide +kernel
theorem dX3_has_6 : decode cX3_has 6 = .ok (.getfield 22, 3) := by decide +kernel
theorem dX3_has_9 : decode cX3_has 9 = .ok (.if_icmp .ge 13, 3) := by decide +kernel
theorem dX3_has_12 : decode cX3_has 12 = .ok (.iload_n 1, 1) := by decide +kernel
theorem dX3_has_13 : decode cX3_has 13 = .ok (.bipush 20, 2) := by decide +kernel
theorem dX3_has_15 : decode cX3_has 15 = .ok (.if_icmp .ge 7, 3) := by decide +kernel
theorem dX3_has_18 : decode cX3_has 18 = .ok (.iconst 1, 1) := by decide +kernel
theorem dX3_has_19 : decode cX3_has 19 = .ok (.goto 4, 3) := by decide +kernel
theorem dX3_has_22 : decode cX3_has 22 = .ok (.iconst 0, 1) := by decide +kernel
theorem dX3_has_23 : decode cX3_has 23 = .ok (.ireturn, 1) := by decide +kernel
theorem dX3_find_0 : decode cX3_find 0 = .ok (.iconst 0, 1) := by decide +kernel
theorem dX3_find_1 : decode cX3_find 1 = .ok (.istore_n 3, 1) := by decide +kernel
theorem dX3_find_2 : decode cX3_find 2 = .ok (.iload_n 3, 1) := by decide +kernel
theorem dX3_find_3 : decode cX3_find 3 = .ok (.aload_n 0, 1) := by decide +kernel
theorem dX3_find_4 : decode cX3_find 4 = .ok (.getfield 22, 3) := by decide +kernel
theorem dX3_find_7 : decode cX3_find 7 = .ok (.if_icmp .ge 31, 3) := by decide +kernel
theorem dX3_find_10 : decode cX3_find 10 = .ok (.aload_n 0, 1) := by decide +kernel
theorem dX3_find_11 : decode cX3_find 11 = .ok (.getfield 9, 3) := by decide +kernel
theorem dX3_find_14 : decode cX3_find 14 = .ok (.iload_n 3, 1) := by decide +kernel
theorem dX3_find_15 : decode cX3_find 15 = .ok (.iaload, 1) := by decide +kernel
theorem dX3_find_16 : decode cX3_find 16 = .ok (.iload_n 1, 1) := by decide +kernel
theorem dX3_find_17 : decode cX3_find 17 = .ok (.if_icmp .ne 15, 3) := by decide +kernel
theorem dX3_find_20 : decode cX3_find 20 = .ok (.aload_n 0, 1) := by decide +kernel
theorem dX3_find_21 : decode cX3_find 21 = .ok (.getfield 15, 3) := by decide +kernel
theorem dX3_find_24 : decode cX3_find 24 = .ok (.iload_n 3, 1) := by decide +kernel
theorem dX3_find_25 : decode cX3_find 25 = .ok (.iaload, 1) := by decide +kernel
theorem dX3_find_26 : decode cX3_find 26 = .ok (.iload_n 2, 1) := by decide +kernel
theorem dX3_find_27 : decode cX3_find 27 = .ok (.if_icmp .ne 5, 3) := by decide +kernel
theorem dX3_find_30 : decode cX3_find 30 = .ok (.iload_n 3, 1) := by decide +kernel
theorem dX3_find_31 : decode cX3_find 31 = .ok (.ireturn, 1) := by decide +kernel
theorem dX3_find_32 : decode cX3_find 32 = .ok (.iinc 3 1, 3) := by decide +kernel
theorem dX3_find_35 : decode cX3_find 35 = .ok (.goto (-33), 3) := by decide +kernel
theorem dX3_find_38 : decode cX3_find 38 = .ok (.iconst (-1), 1) := by decide +kernel
theorem dX3_find_39 : decode cX3_find 39 = .ok (.ireturn, 1) := by decide +kernel
theorem dX3_cellAt_0 : decode cX3_cellAt 0 = .ok (.aload_n 0, 1) := by decide +kernel
theorem dX3_cellAt_1 : decode cX3_cellAt 1 = .ok (.iload_n 1, 1) := by decide +kernel
theorem dX3_cellAt_2 : decode cX3_cellAt 2 = .ok (.invokevirtual 26, 3) := by decide +kernel
theorem dX3_cellAt_5 : decode cX3_cellAt 5 = .ok (.ifCond .eq 12, 3) := by decide +kernel
theorem dX3_cellAt_8 : decode cX3_cellAt 8 = .ok (.aload_n 0, 1) := by decide +kernel
theorem dX3_cellAt_9 : decode cX3_cellAt 9 = .ok (.getfield 9, 3) := by decide +kernel
theorem dX3_cellAt_12 : decode cX3_cellAt 12 = .ok (.iload_n 1, 1) := by decide +kernel
theorem dX3_cellAt_13 : decode cX3_cellAt 13 = .ok (.iaload, 1) := by decide +kernel
theorem dX3_cellAt_14 : decode cX3_cellAt 14 = .ok (.goto 4, 3) := by decide +kernel
theorem dX3_cellAt_17 : decode cX3_cellAt 17 = .ok (.iconst 0, 1) := by decide +kernel
theorem dX3_cellAt_18 : decode cX3_cellAt 18 = .ok (.ireturn, 1) := by decide +kernel
theorem dX3_measureAt_0 : decode cX3_measureAt 0 = .ok (.aload_n 0, 1) := by decide +kernel
theorem dX3_measureAt_1 : decode cX3_measureAt 1 = .ok (.iload_n 1, 1) := by decide +kernel
theorem dX3_measureAt_2 : decode cX3_measureAt 2 = .ok (.invokevirtual 26, 3) := by decide +kernel
theorem dX3_measureAt_5 : decode cX3_measureAt 5 = .ok (.ifCond .eq 12, 3) := by decide +kernel
theorem dX3_measureAt_8 : decode cX3_measureAt 8 = .ok (.aload_n 0, 1) := by decide +kernel
theorem dX3_measureAt_9 : decode cX3_measureAt 9 = .ok (.getfield 15, 3) := by decide +kernel
theorem dX3_measureAt_12 : decode cX3_measureAt 12 = .ok (.iload_n 1, 1) := by decide +kernel
theorem dX3_measureAt_13 : decode cX3_measureAt 13 = .ok (.iaload, 1) := by decide +kernel
theorem dX3_measureAt_14 : decode cX3_measureAt 14 = .ok (.goto 4, 3) := by decide +kernel
theorem dX3_measureAt_17 : decode cX3_measureAt 17 = .ok (.iconst (-1), 1) := by decide +kernel
theorem dX3_measureAt_18 : decode cX3_measureAt 18 = .ok (.ireturn, 1) := by decide +kernel
theorem dX3_valueAt_0 : decode cX3_valueAt 0 = .ok (.aload_n 0, 1) := by decide +kernel
theorem dX3_valueAt_1 : decode cX3_valueAt 1 = .ok (.iload_n 1, 1) := by decide +kernel
theorem dX3_valueAt_2 : decode cX3_valueAt 2 = .ok (.invokevirtual 26, 3) := by decide +kernel
theorem dX3_valueAt_5 : decode cX3_valueAt 5 = .ok (.ifCond .eq 12, 3) := by decide +kernel
theorem dX3_valueAt_8 : decode cX3_valueAt 8 = .ok (.aload_n 0, 1) := by decide +kernel
theorem dX3_valueAt_9 : decode cX3_valueAt 9 = .ok (.getfield 18, 3) := by decide +kernel
theorem dX3_valueAt_12 : decode cX3_valueAt 12 = .ok (.iload_n 1, 1) := by decide +kernel
theorem dX3_valueAt_13 : decode cX3_valueAt 13 = .ok (.laload, 1) := by decide +kernel
theorem dX3_valueAt_14 : decode cX3_valueAt 14 = .ok (.goto 6, 3) := by decide +kernel
theorem dX3_valueAt_17 : decode cX3_valueAt 17 = .ok (.ldc2_w 30, 3) := by decide +kernel
theorem dX3_valueAt_20 : decode cX3_valueAt 20 = .ok (.lreturn, 1) := by decide +kernel
theorem dX3_shift_0 : decode cX3_shift 0 = .ok (.aload_n 0, 1) := by decide +kernel
theorem dX3_shift_1 : decode cX3_shift 1 = .ok (.iload_n 1, 1) := by decide +kernel
theorem dX3_shift_2 : decode cX3_shift 2 = .ok (.invokevirtual 26, 3) := by decide +kernel
theorem dX3_shift_5 : decode cX3_shift 5 = .ok (.ifCond .eq 47, 3) := by decide +kernel
theorem dX3_shift_8 : decode cX3_shift 8 = .ok (.aload_n 0, 1) := by decide +kernel
theorem dX3_shift_9 : decode cX3_shift 9 = .ok (.iload_n 2, 1) := by decide +kernel
theorem dX3_shift_10 : decode cX3_shift 10 = .ok (.invokevirtual 26, 3) := by decide +kernel
theorem dX3_shift_13 : decode cX3_shift 13 = .ok (.ifCond .eq 39, 3) := by decide +kernel
theorem dX3_shift_16 : decode cX3_shift 16 = .ok (.aload_n 0, 1) := by decide +kernel
theorem dX3_shift_17 : decode cX3_shift 17 = .ok (.getfield 9, 3) := by decide +kernel
theorem dX3_shift_20 : decode cX3_shift 20 = .ok (.iload_n 2, 1) := by decide +kernel
theorem dX3_shift_21 : decode cX3_shift 21 = .ok (.aload_n 0, 1) := by decide +kernel
theorem dX3_shift_22 : decode cX3_shift 22 = .ok (.getfield 9, 3) := by decide +kernel
theorem dX3_shift_25 : decode cX3_shift 25 = .ok (.iload_n 1, 1) := by decide +kernel
theorem dX3_shift_26 : decode cX3_shift 26 = .ok (.iaload, 1) := by decide +kernel
theorem dX3_shift_27 : decode cX3_shift 27 = .ok (.iastore, 1) := by decide +kernel
theorem dX3_shift_28 : decode cX3_shift 28 = .ok (.aload_n 0, 1) := by decide +kernel
theorem dX3_shift_29 : decode cX3_shift 29 = .ok (.getfield 15, 3) := by decide +kernel
theorem dX3_shift_32 : decode cX3_shift 32 = .ok (.iload_n 2, 1) := by decide +kernel
theorem dX3_shift_33 : decode cX3_shift 33 = .ok (.aload_n 0, 1) := by decide +kernel
theorem dX3_shift_34 : decode cX3_shift 34 = .ok (.getfield 15, 3) := by decide +kernel
theorem dX3_shift_37 : decode cX3_shift 37 = .ok (.iload_n 1, 1) := by decide +kernel
theorem dX3_shift_38 : decode cX3_shift 38 = .ok (.iaload, 1) := by decide +kernel
theorem dX3_shift_39 : decode cX3_shift 39 = .ok (.iastore, 1) := by decide +kernel
theorem dX3_shift_40 : decode cX3_shift 40 = .ok (.aload_n 0, 1) := by decide +kernel
theorem dX3_shift_41 : decode cX3_shift 41 = .ok (.getfield 18, 3) := by decide +kernel
theorem dX3_shift_44 : decode cX3_shift 44 = .ok (.iload_n 2, 1) := by decide +kernel
theorem dX3_shift_45 : decode cX3_shift 45 = .ok (.aload_n 0, 1) := by decide +kernel
theorem dX3_shift_46 : decode cX3_shift 46 = .ok (.getfield 18, 3) := by decide +kernel
theorem dX3_shift_49 : decode cX3_shift 49 = .ok (.iload_n 1, 1) := by decide +kernel
theorem dX3_shift_50 : decode cX3_shift 50 = .ok (.laload, 1) := by decide +kernel
theorem dX3_shift_51 : decode cX3_shift 51 = .ok (.lastore, 1) := by decide +kernel
theorem dX3_shift_52 : decode cX3_shift 52 = .ok (.return_, 1) := by decide +kernel
theorem dX3_keep_0 : decode cX3_keep 0 = .ok (.aload_n 0, 1) := by decide +kernel
theorem dX3_keep_1 : decode cX3_keep 1 = .ok (.getfield 22, 3) := by decide +kernel
theorem dX3_keep_4 : decode cX3_keep 4 = .ok (.bipush 20, 2) := by decide +kernel
theorem dX3_keep_6 : decode cX3_keep 6 = .ok (.if_icmp .lt 35, 3) := by decide +kernel
theorem dX3_keep_9 : decode cX3_keep 9 = .ok (.iconst 1, 1) := by decide +kernel
theorem dX3_keep_10 : decode cX3_keep 10 = .ok (.istore 5, 2) := by decide +kernel
theorem dX3_keep_12 : decode cX3_keep 12 = .ok (.iload 5, 2) := by decide +kernel
theorem dX3_keep_14 : decode cX3_keep 14 = .ok (.bipush 20, 2) := by decide +kernel
theorem dX3_keep_16 : decode cX3_keep 16 = .ok (.if_icmp .ge 19, 3) := by decide +kernel
theorem dX3_keep_19 : decode cX3_keep 19 = .ok (.aload_n 0, 1) := by decide +kernel
theorem dX3_keep_20 : decode cX3_keep 20 = .ok (.iload 5, 2) := by decide +kernel
theorem dX3_keep_22 : decode cX3_keep 22 = .ok (.iload 5, 2) := by decide +kernel
theorem dX3_keep_24 : decode cX3_keep 24 = .ok (.iconst 1, 1) := by decide +kernel
theorem dX3_keep_25 : decode cX3_keep 25 = .ok (.isub, 1) := by decide +kernel
theorem dX3_keep_26 : decode cX3_keep 26 = .ok (.invokevirtual 32, 3) := by decide +kernel
theorem dX3_keep_29 : decode cX3_keep 29 = .ok (.iinc 5 1, 3) := by decide +kernel
theorem dX3_keep_32 : decode cX3_keep 32 = .ok (.goto (-20), 3) := by decide +kernel
theorem dX3_keep_35 : decode cX3_keep 35 = .ok (.aload_n 0, 1) := by decide +kernel
theorem dX3_keep_36 : decode cX3_keep 36 = .ok (.bipush 19, 2) := by decide +kernel
theorem dX3_keep_38 : decode cX3_keep 38 = .ok (.putfield 22, 3) := by decide +kernel
theorem dX3_keep_41 : decode cX3_keep 41 = .ok (.aload_n 0, 1) := by decide +kernel
theorem dX3_keep_42 : decode cX3_keep 42 = .ok (.getfield 9, 3) := by decide +kernel
theorem dX3_keep_45 : decode cX3_keep 45 = .ok (.aload_n 0, 1) := by decide +kernel
theorem dX3_keep_46 : decode cX3_keep 46 = .ok (.getfield 22, 3) := by decide +kernel
theorem dX3_keep_49 : decode cX3_keep 49 = .ok (.iload_n 1, 1) := by decide +kernel
theorem dX3_keep_50 : decode cX3_keep 50 = .ok (.iastore, 1) := by decide +kernel
theorem dX3_keep_51 : decode cX3_keep 51 = .ok (.aload_n 0, 1) := by decide +kernel
theorem dX3_keep_52 : decode cX3_keep 52 = .ok (.getfield 15, 3) := by decide +kernel
theorem dX3_keep_55 : decode cX3_keep 55 = .ok (.aload_n 0, 1) := by decide +kernel
theorem dX3_keep_56 : decode cX3_keep 56 = .ok (.getfield 22, 3) := by decide +kernel
theorem dX3_keep_59 : decode cX3_keep 59 = .ok (.iload_n 2, 1) := by decide +kernel
theorem dX3_keep_60 : decode cX3_keep 60 = .ok (.iastore, 1) := by decide +kernel
theorem dX3_keep_61 : decode cX3_keep 61 = .ok (.aload_n 0, 1) := by decide +kernel
theorem dX3_keep_62 : decode cX3_keep 62 = .ok (.getfield 18, 3) := by decide +kernel
theorem dX3_keep_65 : decode cX3_keep 65 = .ok (.aload_n 0, 1) := by decide +kernel
theorem dX3_keep_66 : decode cX3_keep 66 = .ok (.getfield 22, 3) := by decide +kernel
theorem dX3_keep_69 : decode cX3_keep 69 = .ok (.lload_n 3, 1) := by decide +kernel
theorem dX3_keep_70 : decode cX3_keep 70 = .ok (.lastore, 1) := by decide +kernel
theorem dX3_keep_71 : decode cX3_keep 71 = .ok (.aload_n 0, 1) := by decide +kernel
theorem dX3_keep_72 : decode cX3_keep 72 = .ok (.dup, 1) := by decide +kernel
theorem dX3_keep_73 : decode cX3_keep 73 = .ok (.getfield 22, 3) := by decide +kernel
theorem dX3_keep_76 : decode cX3_keep 76 = .ok (.iconst 1, 1) := by decide +kernel
theorem dX3_keep_77 : decode cX3_keep 77 = .ok (.iadd, 1) := by decide +kernel
theorem dX3_keep_78 : decode cX3_keep 78 = .ok (.putfield 22, 3) := by decide +kernel
theorem dX3_keep_81 : decode cX3_keep 81 = .ok (.return_, 1) := by decide +kernel
theorem dX3_dropAll_0 : decode cX3_dropAll 0 = .ok (.aload_n 0, 1) := by decide +kernel
theorem dX3_dropAll_1 : decode cX3_dropAll 1 = .ok (.iconst 0, 1) := by decide +kernel
theorem dX3_dropAll_2 : decode cX3_dropAll 2 = .ok (.putfield 22, 3) := by decide +kernel
theorem dX3_dropAll_5 : decode cX3_dropAll 5 = .ok (.return_, 1) := by decide +kernel
theorem dX4_init_0 : decode cX4_init 0 = .ok (.aload_n 0, 1) := by decide +kernel
theorem dX4_init_1 : decode cX4_init 1 = .ok (.invokespecial 3, 3) := by decide +kernel
theorem dX4_init_4 : decode cX4_init 4 = .ok (.aload_n 0, 1) := by decide +kernel
theorem dX4_init_5 : decode cX4_init 5 = .ok (.iconst 4, 1) := by decide +kernel
theorem dX4_init_6 : decode cX4_init 6 = .ok (.newarray .int, 2) := by decide +kernel
theorem dX4_init_8 : decode cX4_init 8 = .ok (.putfield 9, 3) := by decide +kernel
theorem dX4_init_11 : decode cX4_init 11 = .ok (.aload_n 0, 1) := by decide +kernel
theorem dX4_init_12 : decode cX4_init 12 = .ok (.iconst 4, 1) := by decide +kernel
theorem dX4_init_13 : decode cX4_init 13 = .ok (.newarray .int, 2) := by decide +kernel
theorem dX4_init_15 : decode cX4_init 15 = .ok (.putfield 15, 3) := by decide +kernel
theorem dX4_init_18 : decode cX4_init 18 = .ok (.aload_n 0, 1) := by decide +kernel
theorem dX4_init_19 : decode cX4_init 19 = .ok (.iconst 4, 1) := by decide +kernel
theorem dX4_init_20 : decode cX4_init 20 = .ok (.newarray .int, 2) := by decide +kernel
theorem dX4_init_22 : decode cX4_init 22 = .ok (.putfield 18, 3) := by decide +kernel
theorem dX4_init_25 : decode cX4_init 25 = .ok (.aload_n 0, 1) := by decide +kernel
theorem dX4_init_26 : decode cX4_init 26 = .ok (.iconst 4, 1) := by decide +kernel
theorem dX4_init_27 : decode cX4_init 27 = .ok (.newarray .int, 2) := by decide +kernel
theorem dX4_init_29 : decode cX4_init 29 = .ok (.putfield 21, 3) := by decide +kernel
theorem dX4_init_32 : decode cX4_init 32 = .ok (.aload_n 0, 1) := by decide +kernel
theorem dX4_init_33 : decode cX4_init 33 = .ok (.bipush 12, 2) := by decide +kernel
theorem dX4_init_35 : decode cX4_init 35 = .ok (.newarray .int, 2) := by decide +kernel
theorem dX4_init_37 : decode cX4_init 37 = .ok (.putfield 24, 3) := by decide +kernel
theorem dX4_init_40 : decode cX4_init 40 = .ok (.return_, 1) := by decide +kernel
theorem dX4_has_0 : decode cX4_has 0 = .ok (.iload_n 1, 1) := by decide +kernel
theorem dX4_has_1 : decode cX4_has 1 = .ok (.ifCond .lt 20, 3) := by decide +kernel
theorem dX4_has_4 : decode cX4_has 4 = .ok (.iload_n 1, 1) := by decide +kernel
theorem dX4_has_5 : decode cX4_has 5 = .ok (.aload_n 0, 1) := by decide +kernel
theorem dX4_has_6 : decode cX4_has 6 = .ok (.getfield 27, 3) := by decide +kernel
theorem dX4_has_9 : decode cX4_has 9 = .ok (.if_icmp .ge 12, 3) := by decide +kernel
theorem dX4_has_12 : decode cX4_has 12 = .ok (.iload_n 1, 1) := by decide +kernel
theorem dX4_has_13 : decode cX4_has 13 = .ok (.iconst 4, 1) := by decide +kernel
theorem dX4_has_14 : decode cX4_has 14 = .ok (.if_icmp .ge 7, 3) := by decide +kernel
theorem dX4_has_17 : decode cX4_has 17 = .ok (.iconst 1, 1) := by decide +kernel
theorem dX4_has_18 : decode cX4_has 18 = .ok (.goto 4, 3) := by decide +kernel
theorem dX4_has_21 : decode cX4_has 21 = .ok (.iconst 0, 1) := by decide +kernel
theorem dX4_has_22 : decode cX4_has 22 = .ok (.ireturn, 1) := by decide +kernel
theorem dX4_kindOf_0 : decode cX4_kindOf 0 = .ok (.aload_n 0, 1) := by decide +kernel
theorem dX4_kindOf_1 : decode cX4_kindOf 1 = .ok (.iload_n 1, 1) := by decide +kernel
theorem dX4_kindOf_2 : decode cX4_kindOf 2 = .ok (.invokevirtual 31, 3) := by decide +kernel
theorem dX4_kindOf_5 : decode cX4_kindOf 5 = .ok (.ifCond .eq 12, 3) := by decide +kernel
theorem dX4_kindOf_8 : decode cX4_kindOf 8 = .ok (.aload_n 0, 1) := by decide +kernel
theorem dX4_kindOf_9 : decode cX4_kindOf 9 = .ok (.getfield 9, 3) := by decide +kernel
theorem dX4_kindOf_12 : decode cX4_kindOf 12 = .ok (.iload_n 1, 1) := by decide +kernel
theorem dX4_kindOf_13 : decode cX4_kindOf 13 = .ok (.iaload, 1) := by decide +kernel
theorem dX4_kindOf_14 : decode cX4_kindOf 14 = .ok (.goto 4, 3) := by decide +kernel
theorem dX4_kindOf_17 : decode cX4_kindOf 17 = .ok (.iconst (-1), 1) := by decide +kernel
theorem dX4_kindOf_18 : decode cX4_kindOf 18 = .ok (.ireturn, 1) := by decide +kernel
theorem dX4_add_0 : decode cX4_add 0 = .ok (.aload_n 0, 1) := by decide +kernel
theorem dX4_add_1 : decode cX4_add 1 = .ok (.getfield 27, 3) := by decide +kernel
theorem dX4_add_4 : decode cX4_add 4 = .ok (.iconst 4, 1) := by decide +kernel
theorem dX4_add_5 : decode cX4_add 5 = .ok (.if_icmp .lt 5, 3) := by decide +kernel
theorem dX4_add_8 : decode cX4_add 8 = .ok (.iconst (-1), 1) := by decide +kernel
theorem dX4_add_9 : decode cX4_add 9 = .ok (.ireturn, 1) := by decide +kernel
theorem dX4_add_10 : decode cX4_add 10 = .ok (.aload_n 0, 1) := by decide +kernel
theorem dX4_add_11 : decode cX4_add 11 = .ok (.getfield 9, 3) := by decide +kernel
theorem dX4_add_14 : decode cX4_add 14 = .ok (.aload_n 0, 1) := by decide +kernel
theorem dX4_add_15 : decode cX4_add 15 = .ok (.getfield 27, 3) := by decide +kernel
theorem dX4_add_18 : decode cX4_add 18 = .ok (.iload_n 1, 1) := by decide +kernel
theorem dX4_add_19 : decode cX4_add 19 = .ok (.iastore, 1) := by decide +kernel
theorem dX4_add_20 : decode cX4_add 20 = .ok (.aload_n 0, 1) := by decide +kernel
theorem dX4_add_21 : decode cX4_add 21 = .ok (.getfield 21, 3) := by decide +kernel
theorem dX4_add_24 : decode cX4_add 24 = .ok (.aload_n 0, 1) := by decide +kernel
theorem dX4_add_25 : decode cX4_add 25 = .ok (.getfield 27, 3) := by decide +kernel
theorem dX4_add_28 : decode cX4_add 28 = .ok (.iconst 1, 1) := by decide +kernel
theorem dX4_add_29 : decode cX4_add 29 = .ok (.aload_n 0, 1) := by decide +kernel
theorem dX4_add_30 : decode cX4_add 30 = .ok (.getfield 27, 3) := by decide +kernel
theorem dX4_add_33 : decode cX4_add 33 = .ok (.ishl, 1) := by decide +kernel
theorem dX4_add_34 : decode cX4_add 34 = .ok (.iastore, 1) := by decide +kernel
theorem dX4_add_35 : decode cX4_add 35 = .ok (.iload_n 1, 1) := by decide +kernel
theorem dX4_add_36 : decode cX4_add 36 = .ok (.iconst 3, 1) := by decide +kernel
theorem dX4_add_37 : decode cX4_add 37 = .ok (.if_icmp .ne 64, 3) := by decide +kernel
theorem dX4_add_40 : decode cX4_add 40 = .ok (.aload_n 0, 1) := by decide +kernel
theorem dX4_add_41 : decode cX4_add 41 = .ok (.iload_n 2, 1) := by decide +kernel
theorem dX4_add_42 : decode cX4_add 42 = .ok (.invokevirtual 31, 3) := by decide +kernel
theorem dX4_add_45 : decode cX4_add 45 = .ok (.ifCond .eq 56, 3) := by decide +kernel
theorem dX4_add_48 : decode cX4_add 48 = .ok (.aload_n 0, 1) := by decide +kernel
theorem dX4_add_49 : decode cX4_add 49 = .ok (.iload_n 3, 1) := by decide +kernel
theorem dX4_add_50 : decode cX4_add 50 = .ok (.invokevirtual 31, 3) := by decide +kernel
theorem dX4_add_53 : decode cX4_add 53 = .ok (.ifCond .eq 48, 3) := by decide +kernel
theorem dX4_add_56 : decode cX4_add 56 = .ok (.aload_n 0, 1) := by decide +kernel
theorem dX4_add_57 : decode cX4_add 57 = .ok (.getfield 15, 3) := by decide +kernel
theorem dX4_add_60 : decode cX4_add 60 = .ok (.aload_n 0, 1) := by decide +kernel
theorem dX4_add_61 : decode cX4_add 61 = .ok (.getfield 27, 3) := by decide +kernel
theorem dX4_add_64 : decode cX4_add 64 = .ok (.iload_n 2, 1) := by decide +kernel
theorem dX4_add_65 : decode cX4_add 65 = .ok (.iastore, 1) := by decide +kernel
theorem dX4_add_66 : decode cX4_add 66 = .ok (.aload_n 0, 1) := by decide +kernel
theorem dX4_add_67 : decode cX4_add 67 = .ok (.getfield 18, 3) := by decide +kernel
theorem dX4_add_70 : decode cX4_add 70 = .ok (.aload_n 0, 1) := by decide +kernel
theorem dX4_add_71 : decode cX4_add 71 = .ok (.getfield 27, 3) := by decide +kernel
theorem dX4_add_74 : decode cX4_add 74 = .ok (.iload_n 3, 1) := by decide +kernel
theorem dX4_add_75 : decode cX4_add 75 = .ok (.iastore, 1) := by decide +kernel
theorem dX4_add_76 : decode cX4_add 76 = .ok (.aload_n 0, 1) := by decide +kernel
theorem dX4_add_77 : decode cX4_add 77 = .ok (.getfield 21, 3) := by decide +kernel
theorem dX4_add_80 : decode cX4_add 80 = .ok (.aload_n 0, 1) := by decide +kernel
theorem dX4_add_81 : decode cX4_add 81 = .ok (.getfield 27, 3) := by decide +kernel
theorem dX4_add_84 : decode cX4_add 84 = .ok (.dup2, 1) := by decide +kernel
theorem dX4_add_85 : decode cX4_add 85 = .ok (.iaload, 1) := by decide +kernel
theorem dX4_add_86 : decode cX4_add 86 = .ok (.aload_n 0, 1) := by decide +kernel
theorem dX4_add_87 : decode cX4_add 87 = .ok (.getfield 21, 3) := by decide +kernel
theorem dX4_add_90 : decode cX4_add 90 = .ok (.iload_n 2, 1) := by decide +kernel
theorem dX4_add_91 : decode cX4_add 91 = .ok (.iaload, 1) := by decide +kernel
theorem dX4_add_92 : decode cX4_add 92 = .ok (.aload_n 0, 1) := by decide +kernel
theorem dX4_add_93 : decode cX4_add 93 = .ok (.getfield 21, 3) := by decide +kernel
theorem dX4_add_96 : decode cX4_add 96 = .ok (.iload_n 3, 1) := by decide +kernel
theorem dX4_add_97 : decode cX4_add 97 = .ok (.iaload, 1) := by decide +kernel
theorem dX4_add_98 : decode cX4_add 98 = .ok (.ior, 1) := by decide +kernel
theorem dX4_add_99 : decode cX4_add 99 = .ok (.ior, 1) := by decide +kernel
theorem dX4_add_100 : decode cX4_add 100 = .ok (.iastore, 1) := by decide +kernel
theorem dX4_add_101 : decode cX4_add 101 = .ok (.aload_n 0, 1) := by decide +kernel
theorem dX4_add_102 : decode cX4_add 102 = .ok (.dup, 1) := by decide +kernel
theorem dX4_add_103 : decode cX4_add 103 = .ok (.getfield 27, 3) := by decide +kernel
theorem dX4_add_106 : decode cX4_add 106 = .ok (.iconst 1, 1) := by decide +kernel
theorem dX4_add_107 : decode cX4_add 107 = .ok (.iadd, 1) := by decide +kernel
theorem dX4_add_108 : decode cX4_add 108 = .ok (.putfield 27, 3) := by decide +kernel
theorem dX4_add_111 : decode cX4_add 111 = .ok (.aload_n 0, 1) := by decide +kernel
theorem dX4_add_112 : decode cX4_add 112 = .ok (.getfield 27, 3) := by decide +kernel
theorem dX4_add_115 : decode cX4_add 115 = .ok (.iconst 1, 1) := by decide +kernel
theorem dX4_add_116 : decode cX4_add 116 = .ok (.isub, 1) := by decide +kernel
theorem dX4_add_117 : decode cX4_add 117 = .ok (.ireturn, 1) := by decide +kernel
theorem dX4_needs_0 : decode cX4_needs 0 = .ok (.aload_n 0, 1) := by decide +kernel
theorem dX4_needs_1 : decode cX4_needs 1 = .ok (.iload_n 1, 1) := by decide +kernel
theorem dX4_needs_2 : decode cX4_needs 2 = .ok (.invokevirtual 31, 3) := by decide +kernel
theorem dX4_needs_5 : decode cX4_needs 5 = .ok (.ifCond .eq 29, 3) := by decide +kernel
theorem dX4_needs_8 : decode cX4_needs 8 = .ok (.aload_n 0, 1) := by decide +kernel
theorem dX4_needs_9 : decode cX4_needs 9 = .ok (.iload_n 2, 1) := by decide +kernel
theorem dX4_needs_10 : decode cX4_needs 10 = .ok (.invokevirtual 31, 3) := by decide +kernel
theorem dX4_needs_13 : decode cX4_needs 13 = .ok (.ifCond .eq 21, 3) := by decide +kernel
theorem dX4_needs_16 : decode cX4_needs 16 = .ok (.aload_n 0, 1) := by decide +kernel
theorem dX4_needs_17 : decode cX4_needs 17 = .ok (.getfield 21, 3) := by decide +kernel
theorem dX4_needs_20 : decode cX4_needs 20 = .ok (.iload_n 1, 1) := by decide +kernel
theorem dX4_needs_21 : decode cX4_needs 21 = .ok (.iaload, 1) := by decide +kernel
theorem dX4_needs_22 : decode cX4_needs 22 = .ok (.iload_n 2, 1) := by decide +kernel
theorem dX4_needs_23 : decode cX4_needs 23 = .ok (.ishr, 1) := by decide +kernel
theorem dX4_needs_24 : decode cX4_needs 24 = .ok (.iconst 1, 1) := by decide +kernel
theorem dX4_needs_25 : decode cX4_needs 25 = .ok (.iand, 1) := by decide +kernel
theorem dX4_needs_26 : decode cX4_needs 26 = .ok (.iconst 1, 1) := by decide +kernel
theorem dX4_needs_27 : decode cX4_needs 27 = .ok (.if_icmp .ne 7, 3) := by decide +kernel
theorem dX4_needs_30 : decode cX4_needs 30 = .ok (.iconst 1, 1) := by decide +kernel
theorem dX4_needs_31 : decode cX4_needs 31 = .ok (.goto 4, 3) := by decide +kernel
theorem dX4_needs_34 : decode cX4_needs 34 = .ok (.iconst 0, 1) := by decide +kernel
theorem dX4_needs_35 : decode cX4_needs 35 = .ok (.ireturn, 1) := by decide +kernel
theorem dX4_leastDepth_0 : decode cX4_leastDepth 0 = .ok (.aload_n 0, 1) := by decide +kernel
theorem dX4_leastDepth_1 : decode cX4_leastDepth 1 = .ok (.iload_n 1, 1) := by decide +kernel
theorem dX4_leastDepth_2 : decode cX4_leastDepth 2 = .ok (.invokevirtual 31, 3) := by decide +kernel
theorem dX4_leastDepth_5 : decode cX4_leastDepth 5 = .ok (.ifCond .eq 16, 3) := by decide +kernel
theorem dX4_leastDepth_8 : decode cX4_leastDepth 8 = .ok (.iload_n 2, 1) := by decide +kernel
theorem dX4_leastDepth_9 : decode cX4_leastDepth 9 = .ok (.ifCond .lt 12, 3) := by decide +kernel
theorem dX4_leastDepth_12 : decode cX4_leastDepth 12 = .ok (.iload_n 2, 1) := by decide +kernel
theorem dX4_leastDepth_13 : decode cX4_leastDepth 13 = .ok (.iconst 3, 1) := by decide +kernel
theorem dX4_leastDepth_14 : decode cX4_leastDepth 14 = .ok (.if_icmp .ge 7, 3) := by decide +kernel
theorem dX4_leastDepth_17 : decode cX4_leastDepth 17 = .ok (.iconst 1, 1) := by decide +kernel
theorem dX4_leastDepth_18 : decode cX4_leastDepth 18 = .ok (.goto 4, 3) := by decide +kernel
theorem dX4_leastDepth_21 : decode cX4_leastDepth 21 = .ok (.iconst 0, 1) := by decide +kernel
theorem dX4_leastDepth_22 : decode cX4_leastDepth 22 = .ok (.istore_n 3, 1) := by decide +kernel
theorem dX4_leastDepth_23 : decode cX4_leastDepth 23 = .ok (.iload_n 3, 1) := by decide +kernel
theorem dX4_leastDepth_24 : decode cX4_leastDepth 24 = .ok (.ifCond .eq 16, 3) := by decide +kernel
theorem dX4_leastDepth_27 : decode cX4_leastDepth 27 = .ok (.aload_n 0, 1) := by decide +kernel
theorem dX4_leastDepth_28 : decode cX4_leastDepth 28 = .ok (.getfield 24, 3) := by decide +kernel
theorem dX4_leastDepth_31 : decode cX4_leastDepth 31 = .ok (.iload_n 1, 1) := by decide +kernel
theorem dX4_leastDepth_32 : decode cX4_leastDepth 32 = .ok (.iconst 3, 1) := by decide +kernel
theorem dX4_leastDepth_33 : decode cX4_leastDepth 33 = .ok (.imul, 1) := by decide +kernel
theorem dX4_leastDepth_34 : decode cX4_leastDepth 34 = .ok (.iload_n 2, 1) := by decide +kernel
theorem dX4_leastDepth_35 : decode cX4_leastDepth 35 = .ok (.iadd, 1) := by decide +kernel
theorem dX4_leastDepth_36 : decode cX4_leastDepth 36 = .ok (.iaload, 1) := by decide +kernel
theorem dX4_leastDepth_37 : decode cX4_leastDepth 37 = .ok (.goto 4, 3) := by decide +kernel
theorem dX4_leastDepth_40 : decode cX4_leastDepth 40 = .ok (.iconst 0, 1) := by decide +kernel
theorem dX4_leastDepth_41 : decode cX4_leastDepth 41 = .ok (.ireturn, 1) := by decide +kernel
theorem dX4_setLeastDepth_0 : decode cX4_setLeastDepth 0 = .ok (.aload_n 0, 1) := by decide +kernel
theorem dX4_setLeastDepth_1 : decode cX4_setLeastDepth 1 = .ok (.iload_n 1, 1) := by decide +kernel
theorem dX4_setLeastDepth_2 : decode cX4_setLeastDepth 2 = .ok (.iload_n 2, 1) := by decide +kernel
theorem dX4_setLeastDepth_3 : decode cX4_setLeastDepth 3 = .ok (.invokevirtual 35, 3) := by decide +kernel
theorem dX4_setLeastDepth_6 : decode cX4_setLeastDepth 6 = .ok (.istore 4, 2) := by decide +kernel
theorem dX4_setLeastDepth_8 : decode cX4_setLeastDepth 8 = .ok (.aload_n 0, 1) := by decide +kernel
theorem dX4_setLeastDepth_9 : decode cX4_setLeastDepth 9 = .ok (.iload_n 1, 1) := by decide +kernel
theorem dX4_setLeastDepth_10 : decode cX4_setLeastDepth 10 = .ok (.invokevirtual 31, 3) := by decide +kernel
theorem dX4_setLeastDepth_13 : decode cX4_setLeastDepth 13 = .ok (.ifCond .eq 23, 3) := by decide +kernel
theorem dX4_setLeastDepth_16 : decode cX4_setLeastDepth 16 = .ok (.iload_n 2, 1) := by decide +kernel
theorem dX4_setLeastDepth_17 : decode cX4_setLeastDepth 17 = .ok (.ifCond .lt 19, 3) := by decide +kernel
theorem dX4_setLeastDepth_20 : decode cX4_setLeastDepth 20 = .ok (.iload_n 2, 1) := by decide +kernel
theorem dX4_setLeastDepth_21 : decode cX4_setLeastDepth 21 = .ok (.iconst 3, 1) := by decide +kernel
theorem dX4_setLeastDepth_22 : decode cX4_setLeastDepth 22 = .ok (.if_icmp .ge 14, 3) := by decide +kernel
theorem dX4_setLeastDepth_25 : decode cX4_setLeastDepth 25 = .ok (.aload_n 0, 1) := by decide +kernel
theorem dX4_setLeastDepth_26 : decode cX4_setLeastDepth 26 = .ok (.getfield 24, 3) := by decide +kernel
theorem dX4_setLeastDepth_29 : decode cX4_setLeastDepth 29 = .ok (.iload_n 1, 1) := by decide +kernel
theorem dX4_setLeastDepth_30 : decode cX4_setLeastDepth 30 = .ok (.iconst 3, 1) := by decide +kernel
theorem dX4_setLeastDepth_31 : decode cX4_setLeastDepth 31 = .ok (.imul, 1) := by decide +kernel
theorem dX4_setLeastDepth_32 : decode cX4_setLeastDepth 32 = .ok (.iload_n 2, 1) := by decide +kernel
theorem dX4_setLeastDepth_33 : decode cX4_setLeastDepth 33 = .ok (.iadd, 1) := by decide +kernel
theorem dX4_setLeastDepth_34 : decode cX4_setLeastDepth 34 = .ok (.iload_n 3, 1) := by decide +kernel
theorem dX4_setLeastDepth_35 : decode cX4_setLeastDepth 35 = .ok (.iastore, 1) := by decide +kernel
theorem dX4_setLeastDepth_36 : decode cX4_setLeastDepth 36 = .ok (.iload 4, 2) := by decide +kernel
theorem dX4_setLeastDepth_38 : decode cX4_setLeastDepth 38 = .ok (.ireturn, 1) := by decide +kernel
theorem dX5_init_0 : decode cX5_init 0 = .ok (.aload_n 0, 1) := by decide +kernel
theorem dX5_init_1 : decode cX5_init 1 = .ok (.invokespecial 3, 3) := by decide +kernel
theorem dX5_init_4 : decode cX5_init 4 = .ok (.aload_n 0, 1) := by decide +kernel
theorem dX5_init_5 : decode cX5_init 5 = .ok (.bipush 10, 2) := by decide +kernel
theorem dX5_init_7 : decode cX5_init 7 = .ok (.newarray .int, 2) := by decide +kernel
theorem dX5_init_9 : decode cX5_init 9 = .ok (.putfield 9, 3) := by decide +kernel
theorem dX5_init_12 : decode cX5_init 12 = .ok (.aload_n 0, 1) := by decide +kernel
theorem dX5_init_13 : decode cX5_init 13 = .ok (.bipush 10, 2) := by decide +kernel
theorem dX5_init_15 : decode cX5_init 15 = .ok (.newarray .int, 2) := by decide +kernel
theorem dX5_init_17 : decode cX5_init 17 = .ok (.putfield 15, 3) := by decide +kernel
theorem dX5_init_20 : decode cX5_init 20 = .ok (.aload_n 0, 1) := by decide +kernel
theorem dX5_init_21 : decode cX5_init 21 = .ok (.bipush 10, 2) := by decide +kernel
theorem dX5_init_23 : decode cX5_init 23 = .ok (.newarray .int, 2) := by decide +kernel
theorem dX5_init_25 : decode cX5_init 25 = .ok (.putfield 18, 3) := by decide +kernel
theorem dX5_init_28 : decode cX5_init 28 = .ok (.return_, 1) := by decide +kernel
theorem dX5_tell_0 : decode cX5_tell 0 = .ok (.aload_n 0, 1) := by decide +kernel
theorem dX5_tell_1 : decode cX5_tell 1 = .ok (.getfield 21, 3) := by decide +kernel
theorem dX5_tell_4 : decode cX5_tell 4 = .ok (.bipush 10, 2) := by decide +kernel
theorem dX5_tell_6 : decode cX5_tell 6 = .ok (.if_icmp .ge 43, 3) := by decide +kernel
theorem dX5_tell_9 : decode cX5_tell 9 = .ok (.aload_n 0, 1) := by decide +kernel
theorem dX5_tell_10 : decode cX5_tell 10 = .ok (.getfield 9, 3) := by decide +kernel
theorem dX5_tell_13 : decode cX5_tell 13 = .ok (.aload_n 0, 1) := by decide +kernel
theorem dX5_tell_14 : decode cX5_tell 14 = .ok (.getfield 21, 3) := by decide +kernel
theorem dX5_tell_17 : decode cX5_tell 17 = .ok (.iload_n 1, 1) := by decide +kernel
theorem dX5_tell_18 : decode cX5_tell 18 = .ok (.iastore, 1) := by decide +kernel
theorem dX5_tell_19 : decode cX5_tell 19 = .ok (.aload_n 0, 1) := by decide +kernel
theorem dX5_tell_20 : decode cX5_tell 20 = .ok (.getfield 15, 3) := by decide +kernel
theorem dX5_tell_23 : decode cX5_tell 23 = .ok (.aload_n 0, 1) := by decide +kernel
theorem dX5_tell_24 : decode cX5_tell 24 = .ok (.getfield 21, 3) := by decide +kernel
theorem dX5_tell_27 : decode cX5_tell 27 = .ok (.iload_n 2, 1) := by decide +kernel
theorem dX5_tell_28 : decode cX5_tell 28 = .ok (.iastore, 1) := by decide +kernel
theorem dX5_tell_29 : decode cX5_tell 29 = .ok (.aload_n 0, 1) := by decide +kernel
theorem dX5_tell_30 : decode cX5_tell 30 = .ok (.getfield 18, 3) := by decide +kernel
theorem dX5_tell_33 : decode cX5_tell 33 = .ok (.aload_n 0, 1) := by decide +kernel
theorem dX5_tell_34 : decode cX5_tell 34 = .ok (.getfield 21, 3) := by decide +kernel
theorem dX5_tell_37 : decode cX5_tell 37 = .ok (.iload_n 3, 1) := by decide +kernel
theorem dX5_tell_38 : decode cX5_tell 38 = .ok (.iastore, 1) := by decide +kernel
theorem dX5_tell_39 : decode cX5_tell 39 = .ok (.aload_n 0, 1) := by decide +kernel
theorem dX5_tell_40 : decode cX5_tell 40 = .ok (.dup, 1) := by decide +kernel
theorem dX5_tell_41 : decode cX5_tell 41 = .ok (.getfield 21, 3) := by decide +kernel
theorem dX5_tell_44 : decode cX5_tell 44 = .ok (.iconst 1, 1) := by decide +kernel
theorem dX5_tell_45 : decode cX5_tell 45 = .ok (.iadd, 1) := by decide +kernel
theorem dX5_tell_46 : decode cX5_tell 46 = .ok (.putfield 21, 3) := by decide +kernel
theorem dX5_tell_49 : decode cX5_tell 49 = .ok (.return_, 1) := by decide +kernel
theorem dX5_parentAt_0 : decode cX5_parentAt 0 = .ok (.iload_n 2, 1) := by decide +kernel
theorem dX5_parentAt_1 : decode cX5_parentAt 1 = .ok (.istore 5, 2) := by decide +kernel
theorem dX5_parentAt_3 : decode cX5_parentAt 3 = .ok (.iconst (-1), 1) := by decide +kernel
theorem dX5_parentAt_4 : decode cX5_parentAt 4 = .ok (.istore 6, 2) := by decide +kernel
theorem dX5_parentAt_6 : decode cX5_parentAt 6 = .ok (.iconst 0, 1) := by decide +kernel
theorem dX5_parentAt_7 : decode cX5_parentAt 7 = .ok (.istore 7, 2) := by decide +kernel
theorem dX5_parentAt_9 : decode cX5_parentAt 9 = .ok (.iload 7, 2) := by decide +kernel
theorem dX5_parentAt_11 : decode cX5_parentAt 11 = .ok (.aload_n 0, 1) := by decide +kernel
theorem dX5_parentAt_12 : decode cX5_parentAt 12 = .ok (.getfield 21, 3) := by decide +kernel
theorem dX5_parentAt_15 : decode cX5_parentAt 15 = .ok (.if_icmp .ge 60, 3) := by decide +kernel
theorem dX5_parentAt_18 : decode cX5_parentAt 18 = .ok (.aload 4, 2) := by decide +kernel
theorem dX5_parentAt_20 : decode cX5_parentAt 20 = .ok (.aload_n 0, 1) := by decide +kernel
theorem dX5_parentAt_21 : decode cX5_parentAt 21 = .ok (.getfield 18, 3) := by decide +kernel
theorem dX5_parentAt_24 : decode cX5_parentAt 24 = .ok (.iload 7, 2) := by decide +kernel
theorem dX5_parentAt_26 : decode cX5_parentAt 26 = .ok (.iaload, 1) := by decide +kernel
theorem dX5_parentAt_27 : decode cX5_parentAt 27 = .ok (.invokevirtual 25, 3) := by decide +kernel
theorem dX5_parentAt_30 : decode cX5_parentAt 30 = .ok (.istore 8, 2) := by decide +kernel
theorem dX5_parentAt_32 : decode cX5_parentAt 32 = .ok (.aload_n 0, 1) := by decide +kernel
theorem dX5_parentAt_33 : decode cX5_parentAt 33 = .ok (.getfield 9, 3) := by decide +kernel
theorem dX5_parentAt_36 : decode cX5_parentAt 36 = .ok (.iload 7, 2) := by decide +kernel
theorem dX5_parentAt_38 : decode cX5_parentAt 38 = .ok (.iaload, 1) := by decide +kernel
theorem dX5_parentAt_39 : decode cX5_parentAt 39 = .ok (.iload_n 1, 1) := by decide +kernel
theorem dX5_parentAt_40 : decode cX5_parentAt 40 = .ok (.if_icmp .ne 29, 3) := by decide +kernel
theorem dX5_parentAt_43 : decode cX5_parentAt 43 = .ok (.iload 8, 2) := by decide +kernel
theorem dX5_parentAt_45 : decode cX5_parentAt 45 = .ok (.iload_n 3, 1) := by decide +kernel
theorem dX5_parentAt_46 : decode cX5_parentAt 46 = .ok (.if_icmp .gt 23, 3) := by decide +kernel
theorem dX5_parentAt_49 : decode cX5_parentAt 49 = .ok (.iload 8, 2) := by decide +kernel
theorem dX5_parentAt_51 : decode cX5_parentAt 51 = .ok (.iload 6, 2) := by decide +kernel
theorem dX5_parentAt_53 : decode cX5_parentAt 53 = .ok (.if_icmp .lt 16, 3) := by decide +kernel
theorem dX5_parentAt_56 : decode cX5_parentAt 56 = .ok (.iload 8, 2) := by decide +kernel
theorem dX5_parentAt_58 : decode cX5_parentAt 58 = .ok (.istore 6, 2) := by decide +kernel
theorem dX5_parentAt_60 : decode cX5_parentAt 60 = .ok (.aload_n 0, 1) := by decide +kernel
theorem dX5_parentAt_61 : decode cX5_parentAt 61 = .ok (.getfield 15, 3) := by decide +kernel
theorem dX5_parentAt_64 : decode cX5_parentAt 64 = .ok (.iload 7, 2) := by decide +kernel
theorem dX5_parentAt_66 : decode cX5_parentAt 66 = .ok (.iaload, 1) := by decide +kernel
theorem dX5_parentAt_67 : decode cX5_parentAt 67 = .ok (.istore 5, 2) := by decide +kernel
theorem dX5_parentAt_69 : decode cX5_parentAt 69 = .ok (.iinc 7 1, 3) := by decide +kernel
theorem dX5_parentAt_72 : decode cX5_parentAt 72 = .ok (.goto (-63), 3) := by decide +kernel
theorem dX5_parentAt_75 : decode cX5_parentAt 75 = .ok (.iload 5, 2) := by decide +kernel
theorem dX5_parentAt_77 : decode cX5_parentAt 77 = .ok (.ireturn, 1) := by decide +kernel
theorem dX6_init_0 : decode cX6_init 0 = .ok (.aload_n 0, 1) := by decide +kernel
theorem dX6_init_1 : decode cX6_init 1 = .ok (.invokespecial 3, 3) := by decide +kernel
theorem dX6_init_4 : decode cX6_init 4 = .ok (.aload_n 0, 1) := by decide +kernel
theorem dX6_init_5 : decode cX6_init 5 = .ok (.sipush 1728, 3) := by decide +kernel
theorem dX6_init_8 : decode cX6_init 8 = .ok (.newarray .int, 2) := by decide +kernel
theorem dX6_init_10 : decode cX6_init 10 = .ok (.putfield 9, 3) := by decide +kernel
theorem dX6_init_13 : decode cX6_init 13 = .ok (.aload_n 0, 1) := by decide +kernel
theorem dX6_init_14 : decode cX6_init 14 = .ok (.sipush 1728, 3) := by decide +kernel
theorem dX6_init_17 : decode cX6_init 17 = .ok (.newarray .long, 2) := by decide +kernel
theorem dX6_init_19 : decode cX6_init 19 = .ok (.putfield 15, 3) := by decide +kernel
theorem dX6_init_22 : decode cX6_init 22 = .ok (.aload_n 0, 1) := by decide +kernel
theorem dX6_init_23 : decode cX6_init 23 = .ok (.sipush 410, 3) := by decide +kernel
theorem dX6_init_26 : decode cX6_init 26 = .ok (.newarray .long, 2) := by decide +kernel
theorem dX6_init_28 : decode cX6_init 28 = .ok (.putfield 19, 3) := by decide +kernel
theorem dX6_init_31 : decode cX6_init 31 = .ok (.aload_n 0, 1) := by decide +kernel
theorem dX6_init_32 : decode cX6_init 32 = .ok (.iconst 4, 1) := by decide +kernel
theorem dX6_init_33 : decode cX6_init 33 = .ok (.newarray .long, 2) := by decide +kernel
theorem dX6_init_35 : decode cX6_init 35 = .ok (.putfield 22, 3) := by decide +kernel
theorem dX6_init_38 : decode cX6_init 38 = .ok (.aload_n 0, 1) := by decide +kernel
theorem dX6_init_39 : decode cX6_init 39 = .ok (.bipush 50, 2) := by decide +kernel
theorem dX6_init_41 : decode cX6_init 41 = .ok (.newarray .int, 2) := by decide +kernel
theorem dX6_init_43 : decode cX6_init 43 = .ok (.putfield 25, 3) := by decide +kernel
theorem dX6_init_46 : decode cX6_init 46 = .ok (.aload_n 0, 1) := by decide +kernel
theorem dX6_init_47 : decode cX6_init 47 = .ok (.bipush 50, 2) := by decide +kernel
theorem dX6_init_49 : decode cX6_init 49 = .ok (.newarray .int, 2) := by decide +kernel
theorem dX6_init_51 : decode cX6_init 51 = .ok (.putfield 28, 3) := by decide +kernel
theorem dX6_init_54 : decode cX6_init 54 = .ok (.aload_n 0, 1) := by decide +kernel
theorem dX6_init_55 : decode cX6_init 55 = .ok (.bipush 50, 2) := by decide +kernel
theorem dX6_init_57 : decode cX6_init 57 = .ok (.newarray .int, 2) := by decide +kernel
theorem dX6_init_59 : decode cX6_init 59 = .ok (.putfield 31, 3) := by decide +kernel
theorem dX6_init_62 : decode cX6_init 62 = .ok (.aload_n 0, 1) := by decide +kernel
theorem dX6_init_63 : decode cX6_init 63 = .ok (.bipush 12, 2) := by decide +kernel
theorem dX6_init_65 : decode cX6_init 65 = .ok (.newarray .long, 2) := by decide +kernel
theorem dX6_init_67 : decode cX6_init 67 = .ok (.putfield 34, 3) := by decide +kernel
theorem dX6_init_70 : decode cX6_init 70 = .ok (.aload_n 0, 1) := by decide +kernel
theorem dX6_init_71 : decode cX6_init 71 = .ok (.aload_n 1, 1) := by decide +kernel
theorem dX6_init_72 : decode cX6_init 72 = .ok (.putfield 37, 3) := by decide +kernel
theorem dX6_init_75 : decode cX6_init 75 = .ok (.aload_n 0, 1) := by decide +kernel
theorem dX6_init_76 : decode cX6_init 76 = .ok (.aload_n 2, 1) := by decide +kernel
theorem dX6_init_77 : decode cX6_init 77 = .ok (.putfield 41, 3) := by decide +kernel
theorem dX6_init_80 : decode cX6_init 80 = .ok (.aload_n 0, 1) := by decide +kernel
theorem dX6_init_81 : decode cX6_init 81 = .ok (.aload_n 3, 1) := by decide +kernel
theorem dX6_init_82 : decode cX6_init 82 = .ok (.putfield 45, 3) := by decide +kernel
theorem dX6_init_85 : decode cX6_init 85 = .ok (.return_, 1) := by decide +kernel
theorem dX6_begins_0 : decode cX6_begins 0 = .ok (.aload_n 0, 1) := by decide +kernel
theorem dX6_begins_1 : decode cX6_begins 1 = .ok (.iload_n 1, 1) := by decide +kernel
theorem dX6_begins_2 : decode cX6_begins 2 = .ok (.putfield 49, 3) := by decide +kernel
theorem dX6_begins_5 : decode cX6_begins 5 = .ok (.aload_n 0, 1) := by decide +kernel
theorem dX6_begins_6 : decode cX6_begins 6 = .ok (.dup, 1) := by decide +kernel
theorem dX6_begins_7 : decode cX6_begins 7 = .ok (.getfield 53, 3) := by decide +kernel
theorem dX6_begins_10 : decode cX6_begins 10 = .ok (.iconst 1, 1) := by decide +kernel
theorem dX6_begins_11 : decode cX6_begins 11 = .ok (.iadd, 1) := by decide +kernel
theorem dX6_begins_12 : decode cX6_begins 12 = .ok (.putfield 53, 3) := by decide +kernel
theorem dX6_begins_15 : decode cX6_begins 15 = .ok (.return_, 1) := by decide +kernel
theorem dX6_asAsked_0 : decode cX6_asAsked 0 = .ok (.aload_n 0, 1) := by decide +kernel
theorem dX6_asAsked_1 : decode cX6_asAsked 1 = .ok (.getfield 37, 3) := by decide +kernel
theorem dX6_asAsked_4 : decode cX6_asAsked 4 = .ok (.iload_n 1, 1) := by decide +kernel
theorem dX6_asAsked_5 : decode cX6_asAsked 5 = .ok (.invokevirtual 56, 3) := by decide +kernel
theorem dX6_asAsked_8 : decode cX6_asAsked 8 = .ok (.ifCond .eq 12, 3) := by decide +kernel
theorem dX6_asAsked_11 : decode cX6_asAsked 11 = .ok (.aload_n 0, 1) := by decide +kernel
theorem dX6_asAsked_12 : decode cX6_asAsked 12 = .ok (.iload_n 1, 1) := by decide +kernel
theorem dX6_asAsked_13 : decode cX6_asAsked 13 = .ok (.iconst 0, 1) := by decide +kernel
theorem dX6_asAsked_14 : decode cX6_asAsked 14 = .ok (.invokevirtual 62, 3) := by decide +kernel
theorem dX6_asAsked_17 : decode cX6_asAsked 17 = .ok (.goto 6, 3) := by decide +kernel
theorem dX6_asAsked_20 : decode cX6_asAsked 20 = .ok (.ldc2_w 66, 3) := by decide +kernel
theorem dX6_asAsked_23 : decode cX6_asAsked 23 = .ok (.lreturn, 1) := by decide +kernel
theorem dX6_valueOf_0 : decode cX6_valueOf 0 = .ok (.iload_n 1, 1) := by decide +kernel
theorem dX6_valueOf_1 : decode cX6_valueOf 1 = .ok (.ifCond .lt 16, 3) := by decide +kernel
theorem dX6_valueOf_4 : decode cX6_valueOf 4 = .ok (.iload_n 1, 1) := by decide +kernel
theorem dX6_valueOf_5 : decode cX6_valueOf 5 = .ok (.sipush 1728, 3) := by decide +kernel
theorem dX6_valueOf_8 : decode cX6_valueOf 8 = .ok (.if_icmp .ge 9, 3) := by decide +kernel
theorem dX6_valueOf_11 : decode cX6_valueOf 11 = .ok (.iload_n 2, 1) := by decide +kernel
theorem dX6_valueOf_12 : decode cX6_valueOf 12 = .ok (.bipush 40, 2) := by decide +kernel
theorem dX6_valueOf_14 : decode cX6_valueOf 14 = .ok (.if_icmp .le 7, 3) := by decide +kernel
theorem dX6_valueOf_17 : decode cX6_valueOf 17 = .ok (.ldc2_w 66, 3) := by decide +kernel
theorem dX6_valueOf_20 : decode cX6_valueOf 20 = .ok (.lreturn, 1) := by decide +kernel
theorem dX6_valueOf_21 : decode cX6_valueOf 21 = .ok (.aload_n 0, 1) := by decide +kernel
theorem dX6_valueOf_22 : decode cX6_valueOf 22 = .ok (.getfield 9, 3) := by decide +kernel
theorem dX6_valueOf_25 : decode cX6_valueOf 25 = .ok (.iload_n 1, 1) := by decide +kernel
theorem dX6_valueOf_26 : decode cX6_valueOf 26 = .ok (.iaload, 1) := by decide +kernel
theorem dX6_valueOf_27 : decode cX6_valueOf 27 = .ok (.aload_n 0, 1) := by decide +kernel
theorem dX6_valueOf_28 : decode cX6_valueOf 28 = .ok (.getfield 53, 3) := by decide +kernel
theorem dX6_valueOf_31 : decode cX6_valueOf 31 = .ok (.if_icmp .eq 48, 3) := by decide +kernel
theorem dX6_valueOf_34 : decode cX6_valueOf 34 = .ok (.aload_n 0, 1) := by decide +kernel
theorem dX6_valueOf_35 : decode cX6_valueOf 35 = .ok (.getfield 37, 3) := by decide +kernel
theorem dX6_valueOf_38 : decode cX6_valueOf 38 = .ok (.iload_n 1, 1) := by decide +kernel
theorem dX6_valueOf_39 : decode cX6_valueOf 39 = .ok (.invokevirtual 68, 3) := by decide +kernel
theorem dX6_valueOf_42 : decode cX6_valueOf 42 = .ok (.istore_n 3, 1) := by decide +kernel
theorem dX6_valueOf_43 : decode cX6_valueOf 43 = .ok (.aload_n 0, 1) := by decide +kernel
theorem dX6_valueOf_44 : decode cX6_valueOf 44 = .ok (.getfield 15, 3) := by decide +kernel
theorem dX6_valueOf_47 : decode cX6_valueOf 47 = .ok (.iload_n 1, 1) := by decide +kernel
theorem dX6_valueOf_48 : decode cX6_valueOf 48 = .ok (.iload_n 3, 1) := by decide +kernel
theorem dX6_valueOf_49 : decode cX6_valueOf 49 = .ok (.iconst (-1), 1) := by decide +kernel
theorem dX6_valueOf_50 : decode cX6_valueOf 50 = .ok (.if_icmp .ne 11, 3) := by decide +kernel
theorem dX6_valueOf_53 : decode cX6_valueOf 53 = .ok (.aload_n 0, 1) := by decide +kernel
theorem dX6_valueOf_54 : decode cX6_valueOf 54 = .ok (.iload_n 1, 1) := by decide +kernel
theorem dX6_valueOf_55 : decode cX6_valueOf 55 = .ok (.invokevirtual 72, 3) := by decide +kernel
theorem dX6_valueOf_58 : decode cX6_valueOf 58 = .ok (.goto 10, 3) := by decide +kernel
theorem dX6_valueOf_61 : decode cX6_valueOf 61 = .ok (.aload_n 0, 1) := by decide +kernel
theorem dX6_valueOf_62 : decode cX6_valueOf 62 = .ok (.iload_n 1, 1) := by decide +kernel
theorem dX6_valueOf_63 : decode cX6_valueOf 63 = .ok (.iload_n 3, 1) := by decide +kernel
theorem dX6_valueOf_64 : decode cX6_valueOf 64 = .ok (.iload_n 2, 1) := by decide +kernel
theorem dX6_valueOf_65 : decode cX6_valueOf 65 = .ok (.invokevirtual 76, 3) := by decide +kernel
theorem dX6_valueOf_68 : decode cX6_valueOf 68 = .ok (.lastore, 1) := by decide +kernel
theorem dX6_valueOf_69 : decode cX6_valueOf 69 = .ok (.aload_n 0, 1) := by decide +kernel
theorem dX6_valueOf_70 : decode cX6_valueOf 70 = .ok (.getfield 9, 3) := by decide +kernel
theorem dX6_valueOf_73 : decode cX6_valueOf 73 = .ok (.iload_n 1, 1) := by decide +kernel
theorem dX6_valueOf_74 : decode cX6_valueOf 74 = .ok (.aload_n 0, 1) := by decide +kernel
theorem dX6_valueOf_75 : decode cX6_valueOf 75 = .ok (.getfield 53, 3) := by decide +kernel
theorem dX6_valueOf_78 : decode cX6_valueOf 78 = .ok (.iastore, 1) := by decide +kernel
theorem dX6_valueOf_79 : decode cX6_valueOf 79 = .ok (.aload_n 0, 1) := by decide +kernel
theorem dX6_valueOf_80 : decode cX6_valueOf 80 = .ok (.getfield 15, 3) := by decide +kernel
theorem dX6_valueOf_83 : decode cX6_valueOf 83 = .ok (.iload_n 1, 1) := by decide +kernel
theorem dX6_valueOf_84 : decode cX6_valueOf 84 = .ok (.laload, 1) := by decide +kernel
theorem dX6_valueOf_85 : decode cX6_valueOf 85 = .ok (.lreturn, 1) := by decide +kernel
theorem dX6_formulaValue_0 : decode cX6_formulaValue 0 = .ok (.aload_n 0, 1) := by decide +kernel
theorem dX6_formulaValue_1 : decode cX6_formulaValue 1 = .ok (.getfield 37, 3) := by decide +kernel
theorem dX6_formulaValue_4 : decode cX6_formulaValue 4 = .ok (.iload_n 2, 1) := by decide +kernel
theorem dX6_formulaValue_5 : decode cX6_formulaValue 5 = .ok (.invokevirtual 80, 3) := by decide +kernel
theorem dX6_formulaValue_8 : decode cX6_formulaValue 8 = .ok (.iload_n 1, 1) := by decide +kernel
theorem dX6_formulaValue_9 : decode cX6_formulaValue 9 = .ok (.iload_n 2, 1) := by decide +kernel
theorem dX6_formulaValue_10 : decode cX6_formulaValue 10 = .ok (.invokestatic 84, 3) := by decide +kernel
theorem dX6_formulaValue_13 : decode cX6_formulaValue 13 = .ok (.invokevirtual 88, 3) := by decide +kernel
theorem dX6_formulaValue_16 : decode cX6_formulaValue 16 = .ok (.astore 4, 2) := by decide +kernel
theorem dX6_formulaValue_18 : decode cX6_formulaValue 18 = .ok (.aload 4, 2) := by decide +kernel
theorem dX6_formulaValue_20 : decode cX6_formulaValue 20 = .ok (.ifnonnull 7, 3) := by decide +kernel
theorem dX6_formulaValue_23 : decode cX6_formulaValue 23 = .ok (.ldc2_w 66, 3) := by decide +kernel
theorem dX6_formulaValue_26 : decode cX6_formulaValue 26 = .ok (.lreturn, 1) := by decide +kernel
theorem dX6_formulaValue_27 : decode cX6_formulaValue 27 = .ok (.iload_n 3, 1) := by decide +kernel
theorem dX6_formulaValue_28 : decode cX6_formulaValue 28 = .ok (.bipush 10, 2) := by decide +kernel
theorem dX6_formulaValue_30 : decode cX6_formulaValue 30 = .ok (.imul, 1) := by decide +kernel
theorem dX6_formulaValue_31 : decode cX6_formulaValue 31 = .ok (.istore 5, 2) := by decide +kernel
theorem dX6_formulaValue_33 : decode cX6_formulaValue 33 = .ok (.iload 5, 2) := by decide +kernel
theorem dX6_formulaValue_35 : decode cX6_formulaValue 35 = .ok (.istore 6, 2) := by decide +kernel
theorem dX6_formulaValue_37 : decode cX6_formulaValue 37 = .ok (.iconst 0, 1) := by decide +kernel
theorem dX6_formulaValue_38 : decode cX6_formulaValue 38 = .ok (.istore 7, 2) := by decide +kernel
theorem dX6_formulaValue_40 : decode cX6_formulaValue 40 = .ok (.iload 7, 2) := by decide +kernel
theorem dX6_formulaValue_42 : decode cX6_formulaValue 42 = .ok (.aload 4, 2) := by decide +kernel
theorem dX6_formulaValue_44 : decode cX6_formulaValue 44 = .ok (.getfield 94, 3) := by decide +kernel
theorem dX6_formulaValue_47 : decode cX6_formulaValue 47 = .ok (.if_icmp .ge 153, 3) := by decide +kernel
theorem dX6_formulaValue_50 : decode cX6_formulaValue 50 = .ok (.aload 4, 2) := by decide +kernel
theorem dX6_formulaValue_52 : decode cX6_formulaValue 52 = .ok (.getfield 99, 3) := by decide +kernel
theorem dX6_formulaValue_55 : decode cX6_formulaValue 55 = .ok (.iload 7, 2) := by decide +kernel
theorem dX6_formulaValue_57 : decode cX6_formulaValue 57 = .ok (.iaload, 1) := by decide +kernel
theorem dX6_formulaValue_58 : decode cX6_formulaValue 58 = .ok (.istore 8, 2) := by decide +kernel
theorem dX6_formulaValue_60 : decode cX6_formulaValue 60 = .ok (.iload 8, 2) := by decide +kernel
theorem dX6_formulaValue_62 : decode cX6_formulaValue 62 = .ok (.ifCond .ne 25, 3) := by decide +kernel
theorem dX6_formulaValue_65 : decode cX6_formulaValue 65 = .ok (.aload_n 0, 1) := by decide +kernel
theorem dX6_formulaValue_66 : decode cX6_formulaValue 66 = .ok (.getfield 19, 3) := by decide +kernel
theorem dX6_formulaValue_69 : decode cX6_formulaValue 69 = .ok (.iload 6, 2) := by decide +kernel
theorem dX6_formulaValue_71 : decode cX6_formulaValue 71 = .ok (.aload 4, 2) := by decide +kernel
theorem dX6_formulaValue_73 : decode cX6_formulaValue 73 = .ok (.getfield 102, 3) := by decide +kernel
theorem dX6_formulaValue_76 : decode cX6_formulaValue 76 = .ok (.iload 7, 2) := by decide +kernel
theorem dX6_formulaValue_78 : decode cX6_formulaValue 78 = .ok (.iaload, 1) := by decide +kernel
theorem dX6_formulaValue_79 : decode cX6_formulaValue 79 = .ok (.i2l, 1) := by decide +kernel
theorem dX6_formulaValue_80 : decode cX6_formulaValue 80 = .ok (.lastore, 1) := by decide +kernel
theorem dX6_formulaValue_81 : decode cX6_formulaValue 81 = .ok (.iinc 6 1, 3) := by decide +kernel
theorem dX6_formulaValue_84 : decode cX6_formulaValue 84 = .ok (.goto 110, 3) := by decide +kernel
theorem dX6_formulaValue_87 : decode cX6_formulaValue 87 = .ok (.iload 8, 2) := by decide +kernel
theorem dX6_formulaValue_89 : decode cX6_formulaValue 89 = .ok (.iconst 2, 1) := by decide +kernel
theorem dX6_formulaValue_90 : decode cX6_formulaValue 90 = .ok (.if_icmp .gt 62, 3) := by decide +kernel
theorem dX6_formulaValue_93 : decode cX6_formulaValue 93 = .ok (.iload_n 1, 1) := by decide +kernel
theorem dX6_formulaValue_94 : decode cX6_formulaValue 94 = .ok (.iload_n 2, 1) := by decide +kernel
theorem dX6_formulaValue_95 : decode cX6_formulaValue 95 = .ok (.aload 4, 2) := by decide +kernel
theorem dX6_formulaValue_97 : decode cX6_formulaValue 97 = .ok (.getfield 102, 3) := by decide +kernel
theorem dX6_formulaValue_100 : decode cX6_formulaValue 100 = .ok (.iload 7, 2) := by decide +kernel
theorem dX6_formulaValue_102 : decode cX6_formulaValue 102 = .ok (.iaload, 1) := by decide +kernel
theorem dX6_formulaValue_103 : decode cX6_formulaValue 103 = .ok (.invokestatic 105, 3) := by decide +kernel
theorem dX6_formulaValue_106 : decode cX6_formulaValue 106 = .ok (.istore 9, 2) := by decide +kernel
theorem dX6_formulaValue_108 : decode cX6_formulaValue 108 = .ok (.aload_n 0, 1) := by decide +kernel
theorem dX6_formulaValue_109 : decode cX6_formulaValue 109 = .ok (.getfield 19, 3) := by decide +kernel
theorem dX6_formulaValue_112 : decode cX6_formulaValue 112 = .ok (.iload 6, 2) := by decide +kernel
theorem dX6_formulaValue_114 : decode cX6_formulaValue 114 = .ok (.iload 8, 2) := by decide +kernel
theorem dX6_formulaValue_116 : decode cX6_formulaValue 116 = .ok (.iconst 2, 1) := by decide +kernel
theorem dX6_formulaValue_117 : decode cX6_formulaValue 117 = .ok (.if_icmp .ne 13, 3) := by decide +kernel
theorem dX6_formulaValue_120 : decode cX6_formulaValue 120 = .ok (.aload_n 0, 1) := by decide +kernel
theorem dX6_formulaValue_121 : decode cX6_formulaValue 121 = .ok (.iload 9, 2) := by decide +kernel
theorem dX6_formulaValue_123 : decode cX6_formulaValue 123 = .ok (.iload_n 3, 1) := by decide +kernel
theorem dX6_formulaValue_124 : decode cX6_formulaValue 124 = .ok (.invokevirtual 109, 3) := by decide +kernel
theorem dX6_formulaValue_127 : decode cX6_formulaValue 127 = .ok (.goto 18, 3) := by decide +kernel
theorem dX6_formulaValue_130 : decode cX6_formulaValue 130 = .ok (.aload_n 0, 1) := by decide +kernel
theorem dX6_formulaValue_131 : decode cX6_formulaValue 131 = .ok (.iload 9, 2) := by decide +kernel
theorem dX6_formulaValue_133 : decode cX6_formulaValue 133 = .ok (.aload 4, 2) := by decide +kernel
theorem dX6_formulaValue_135 : decode cX6_formulaValue 135 = .ok (.getfield 112, 3) := by decide +kernel
theorem dX6_formulaValue_138 : decode cX6_formulaValue 138 = .ok (.iload 7, 2) := by decide +kernel
theorem dX6_formulaValue_140 : decode cX6_formulaValue 140 = .ok (.iaload, 1) := by decide +kernel
theorem dX6_formulaValue_141 : decode cX6_formulaValue 141 = .ok (.iload_n 3, 1) := by decide +kernel
theorem dX6_formulaValue_142 : decode cX6_formulaValue 142 = .ok (.invokevirtual 115, 3) := by decide +kernel
theorem dX6_formulaValue_145 : decode cX6_formulaValue 145 = .ok (.lastore, 1) := by decide +kernel
theorem dX6_formulaValue_146 : decode cX6_formulaValue 146 = .ok (.iinc 6 1, 3) := by decide +kernel
theorem dX6_formulaValue_149 : decode cX6_formulaValue 149 = .ok (.goto 45, 3) := by decide +kernel
theorem dX6_formulaValue_152 : decode cX6_formulaValue 152 = .ok (.iload 6, 2) := by decide +kernel
theorem dX6_formulaValue_154 : decode cX6_formulaValue 154 = .ok (.iload 5, 2) := by decide +kernel
theorem dX6_formulaValue_156 : decode cX6_formulaValue 156 = .ok (.isub, 1) := by decide +kernel
theorem dX6_formulaValue_157 : decode cX6_formulaValue 157 = .ok (.iconst 2, 1) := by decide +kernel
theorem dX6_formulaValue_158 : decode cX6_formulaValue 158 = .ok (.if_icmp .lt 36, 3) := by decide +kernel
theorem dX6_formulaValue_161 : decode cX6_formulaValue 161 = .ok (.iinc 6 (-1), 3) := by decide +kernel
theorem dX6_formulaValue_164 : decode cX6_formulaValue 164 = .ok (.aload_n 0, 1) := by decide +kernel
theorem dX6_formulaValue_165 : decode cX6_formulaValue 165 = .ok (.getfield 19, 3) := by decide +kernel
theorem dX6_formulaValue_168 : decode cX6_formulaValue 168 = .ok (.iload 6, 2) := by decide +kernel
theorem dX6_formulaValue_170 : decode cX6_formulaValue 170 = .ok (.iconst 1, 1) := by decide +kernel
theorem dX6_formulaValue_171 : decode cX6_formulaValue 171 = .ok (.isub, 1) := by decide +kernel
theorem dX6_formulaValue_172 : decode cX6_formulaValue 172 = .ok (.iload 8, 2) := by decide +kernel
theorem dX6_formulaValue_174 : decode cX6_formulaValue 174 = .ok (.aload_n 0, 1) := by decide +kernel
theorem dX6_formulaValue_175 : decode cX6_formulaValue 175 = .ok (.getfield 19, 3) := by decide +kernel
theorem dX6_formulaValue_178 : decode cX6_formulaValue 178 = .ok (.iload 6, 2) := by decide +kernel
theorem dX6_formulaValue_180 : decode cX6_formulaValue 180 = .ok (.iconst 1, 1) := by decide +kernel
theorem dX6_formulaValue_181 : decode cX6_formulaValue 181 = .ok (.isub, 1) := by decide +kernel
theorem dX6_formulaValue_182 : decode cX6_formulaValue 182 = .ok (.laload, 1) := by decide +kernel
theorem dX6_formulaValue_183 : decode cX6_formulaValue 183 = .ok (.aload_n 0, 1) := by decide +kernel
theorem dX6_formulaValue_184 : decode cX6_formulaValue 184 = .ok (.getfield 19, 3) := by decide +kernel
theorem dX6_formulaValue_187 : decode cX6_formulaValue 187 = .ok (.iload 6, 2) := by decide +kernel
theorem dX6_formulaValue_189 : decode cX6_formulaValue 189 = .ok (.laload, 1) := by decide +kernel
theorem dX6_formulaValue_190 : decode cX6_formulaValue 190 = .ok (.invokestatic 118, 3) := by decide +kernel
theorem dX6_formulaValue_193 : decode cX6_formulaValue 193 = .ok (.lastore, 1) := by decide +kernel
theorem dX6_formulaValue_194 : decode cX6_formulaValue 194 = .ok (.iinc 7 1, 3) := by decide +kernel
theorem dX6_formulaValue_197 : decode cX6_formulaValue 197 = .ok (.goto (-157), 3) := by decide +kernel
theorem dX6_formulaValue_200 : decode cX6_formulaValue 200 = .ok (.iload 6, 2) := by decide +kernel
theorem dX6_formulaValue_202 : decode cX6_formulaValue 202 = .ok (.iload 5, 2) := by decide +kernel
theorem dX6_formulaValue_204 : decode cX6_formulaValue 204 = .ok (.if_icmp .le 13, 3) := by decide +kernel
theorem dX6_formulaValue_207 : decode cX6_formulaValue 207 = .ok (.aload_n 0, 1) := by decide +kernel
theorem dX6_formulaValue_208 : decode cX6_formulaValue 208 = .ok (.getfield 19, 3) := by decide +kernel
theorem dX6_formulaValue_211 : decode cX6_formulaValue 211 = .ok (.iload 5, 2) := by decide +kernel
theorem dX6_formulaValue_213 : decode cX6_formulaValue 213 = .ok (.laload, 1) := by decide +kernel
theorem dX6_formulaValue_214 : decode cX6_formulaValue 214 = .ok (.goto 6, 3) := by decide +kernel
theorem dX6_formulaValue_217 : decode cX6_formulaValue 217 = .ok (.ldc2_w 66, 3) := by decide +kernel
theorem dX6_formulaValue_220 : decode cX6_formulaValue 220 = .ok (.lreturn, 1) := by decide +kernel
theorem dX6_back_0 : decode cX6_back 0 = .ok (.iload_n 2, 1) := by decide +kernel
theorem dX6_back_1 : decode cX6_back 1 = .ok (.ifCond .ne 12, 3) := by decide +kernel
theorem dX6_back_4 : decode cX6_back 4 = .ok (.aload_n 0, 1) := by decide +kernel
theorem dX6_back_5 : decode cX6_back 5 = .ok (.iload_n 1, 1) := by decide +kernel
theorem dX6_back_6 : decode cX6_back 6 = .ok (.iload_n 3, 1) := by decide +kernel
theorem dX6_back_7 : decode cX6_back 7 = .ok (.iconst 1, 1) := by decide +kernel
theorem dX6_back_8 : decode cX6_back 8 = .ok (.iadd, 1) := by decide +kernel
theorem dX6_back_9 : decode cX6_back 9 = .ok (.invokevirtual 62, 3) := by decide +kernel
theorem dX6_back_12 : decode cX6_back 12 = .ok (.lreturn, 1) := by decide +kernel
theorem dX6_back_13 : decode cX6_back 13 = .ok (.iload_n 1, 1) := by decide +kernel
theorem dX6_back_14 : decode cX6_back 14 = .ok (.iconst 0, 1) := by decide +kernel
theorem dX6_back_15 : decode cX6_back 15 = .ok (.invokestatic 84, 3) := by decide +kernel
theorem dX6_back_18 : decode cX6_back 18 = .ok (.istore 4, 2) := by decide +kernel
theorem dX6_back_20 : decode cX6_back 20 = .ok (.aload_n 0, 1) := by decide +kernel
theorem dX6_back_21 : decode cX6_back 21 = .ok (.getfield 37, 3) := by decide +kernel
theorem dX6_back_24 : decode cX6_back 24 = .ok (.getfield 122, 3) := by decide +kernel
theorem dX6_back_27 : decode cX6_back 27 = .ok (.iload 4, 2) := by decide +kernel
theorem dX6_back_29 : decode cX6_back 29 = .ok (.invokevirtual 126, 3) := by decide +kernel
theorem dX6_back_32 : decode cX6_back 32 = .ok (.ifCond .eq 26, 3) := by decide +kernel
theorem dX6_back_35 : decode cX6_back 35 = .ok (.aload_n 0, 1) := by decide +kernel
theorem dX6_back_36 : decode cX6_back 36 = .ok (.getfield 37, 3) := by decide +kernel
theorem dX6_back_39 : decode cX6_back 39 = .ok (.getfield 129, 3) := by decide +kernel
theorem dX6_back_42 : decode cX6_back 42 = .ok (.iload 4, 2) := by decide +kernel
theorem dX6_back_44 : decode cX6_back 44 = .ok (.iload_n 2, 1) := by decide +kernel
theorem dX6_back_45 : decode cX6_back 45 = .ok (.aload_n 0, 1) := by decide +kernel
theorem dX6_back_46 : decode cX6_back 46 = .ok (.getfield 37, 3) := by decide +kernel
theorem dX6_back_49 : decode cX6_back 49 = .ok (.getfield 122, 3) := by decide +kernel
theorem dX6_back_52 : decode cX6_back 52 = .ok (.invokevirtual 133, 3) := by decide +kernel
theorem dX6_back_55 : decode cX6_back 55 = .ok (.goto 4, 3) := by decide +kernel
theorem dX6_back_58 : decode cX6_back 58 = .ok (.iconst (-1), 1) := by decide +kernel
theorem dX6_back_59 : decode cX6_back 59 = .ok (.istore 5, 2) := by decide +kernel
theorem dX6_back_61 : decode cX6_back 61 = .ok (.iload 5, 2) := by decide +kernel
theorem dX6_back_63 : decode cX6_back 63 = .ok (.iconst (-1), 1) := by decide +kernel
theorem dX6_back_64 : decode cX6_back 64 = .ok (.if_icmp .ne 9, 3) := by decide +kernel
theorem dX6_back_67 : decode cX6_back 67 = .ok (.ldc2_w 66, 3) := by decide +kernel
theorem dX6_back_70 : decode cX6_back 70 = .ok (.goto 17, 3) := by decide +kernel
theorem dX6_back_73 : decode cX6_back 73 = .ok (.aload_n 0, 1) := by decide +kernel
theorem dX6_back_74 : decode cX6_back 74 = .ok (.iload_n 1, 1) := by decide +kernel
theorem dX6_back_75 : decode cX6_back 75 = .ok (.iconst 0, 1) := by decide +kernel
theorem dX6_back_76 : decode cX6_back 76 = .ok (.iload 5, 2) := by decide +kernel
theorem dX6_back_78 : decode cX6_back 78 = .ok (.invokestatic 105, 3) := by decide +kernel
theorem dX6_back_81 : decode cX6_back 81 = .ok (.iload_n 3, 1) := by decide +kernel
theorem dX6_back_82 : decode cX6_back 82 = .ok (.iconst 1, 1) := by decide +kernel
theorem dX6_back_83 : decode cX6_back 83 = .ok (.iadd, 1) := by decide +kernel
theorem dX6_back_84 : decode cX6_back 84 = .ok (.invokevirtual 62, 3) := by decide +kernel
theorem dX6_back_87 : decode cX6_back 87 = .ok (.lreturn, 1) := by decide +kernel
theorem dX6_toDate_0 : decode cX6_toDate 0 = .ok (.iload_n 1, 1) := by decide +kernel
theorem dX6_toDate_1 : decode cX6_toDate 1 = .ok (.iconst 0, 1) := by decide +kernel
theorem dX6_toDate_2 : decode cX6_toDate 2 = .ok (.invokestatic 84, 3) := by decide +kernel
theorem dX6_toDate_5 : decode cX6_toDate 5 = .ok (.istore_n 3, 1) := by decide +kernel
theorem dX6_toDate_6 : decode cX6_toDate 6 = .ok (.aload_n 0, 1) := by decide +kernel
theorem dX6_toDate_7 : decode cX6_toDate 7 = .ok (.getfield 37, 3) := by decide +kernel
theorem dX6_toDate_10 : decode cX6_toDate 10 = .ok (.getfield 122, 3) := by decide +kernel
theorem dX6_toDate_13 : decode cX6_toDate 13 = .ok (.iload_n 3, 1) := by decide +kernel
theorem dX6_toDate_14 : decode cX6_toDate 14 = .ok (.invokevirtual 126, 3) := by decide +kernel
theorem dX6_toDate_17 : decode cX6_toDate 17 = .ok (.ifCond .ne 7, 3) := by decide +kernel
theorem dX6_toDate_20 : decode cX6_toDate 20 = .ok (.ldc2_w 66, 3) := by decide +kernel
theorem dX6_toDate_23 : decode cX6_toDate 23 = .ok (.lreturn, 1) := by decide +kernel
theorem dX6_toDate_24 : decode cX6_toDate 24 = .ok (.aload_n 0, 1) := by decide +kernel
theorem dX6_toDate_25 : decode cX6_toDate 25 = .ok (.getfield 37, 3) := by decide +kernel
theorem dX6_toDate_28 : decode cX6_toDate 28 = .ok (.getfield 122, 3) := by decide +kernel
theorem dX6_toDate_31 : decode cX6_toDate 31 = .ok (.iload_n 3, 1) := by decide +kernel
theorem dX6_toDate_32 : decode cX6_toDate 32 = .ok (.invokevirtual 139, 3) := by decide +kernel
theorem dX6_toDate_35 : decode cX6_toDate 35 = .ok (.istore 4, 2) := by decide +kernel
theorem dX6_toDate_37 : decode cX6_toDate 37 = .ok (.ldc2_w 66, 3) := by decide +kernel
theorem dX6_toDate_40 : decode cX6_toDate 40 = .ok (.lstore 5, 2) := by decide +kernel
theorem dX6_toDate_42 : decode cX6_toDate 42 = .ok (.iconst 0, 1) := by decide +kernel
theorem dX6_toDate_43 : decode cX6_toDate 43 = .ok (.istore 7, 2) := by decide +kernel
theorem dX6_toDate_45 : decode cX6_toDate 45 = .ok (.iload 7, 2) := by decide +kernel
theorem dX6_toDate_47 : decode cX6_toDate 47 = .ok (.iload_n 3, 1) := by decide +kernel
theorem dX6_toDate_48 : decode cX6_toDate 48 = .ok (.if_icmp .gt 63, 3) := by decide +kernel
theorem dX6_toDate_51 : decode cX6_toDate 51 = .ok (.aload_n 0, 1) := by decide +kernel
theorem dX6_toDate_52 : decode cX6_toDate 52 = .ok (.getfield 37, 3) := by decide +kernel
theorem dX6_toDate_55 : decode cX6_toDate 55 = .ok (.getfield 122, 3) := by decide +kernel
theorem dX6_toDate_58 : decode cX6_toDate 58 = .ok (.iload 7, 2) := by decide +kernel
theorem dX6_toDate_60 : decode cX6_toDate 60 = .ok (.invokevirtual 126, 3) := by decide +kernel
theorem dX6_toDate_63 : decode cX6_toDate 63 = .ok (.ifCond .eq 42, 3) := by decide +kernel
theorem dX6_toDate_66 : decode cX6_toDate 66 = .ok (.aload_n 0, 1) := by decide +kernel
theorem dX6_toDate_67 : decode cX6_toDate 67 = .ok (.getfield 37, 3) := by decide +kernel
theorem dX6_toDate_70 : decode cX6_toDate 70 = .ok (.getfield 122, 3) := by decide +kernel
theorem dX6_toDate_73 : decode cX6_toDate 73 = .ok (.iload 7, 2) := by decide +kernel
theorem dX6_toDate_75 : decode cX6_toDate 75 = .ok (.invokevirtual 139, 3) := by decide +kernel
theorem dX6_toDate_78 : decode cX6_toDate 78 = .ok (.iload 4, 2) := by decide +kernel
theorem dX6_toDate_80 : decode cX6_toDate 80 = .ok (.if_icmp .ne 25, 3) := by decide +kernel
theorem dX6_toDate_83 : decode cX6_toDate 83 = .ok (.lload 5, 2) := by decide +kernel
theorem dX6_toDate_85 : decode cX6_toDate 85 = .ok (.aload_n 0, 1) := by decide +kernel
theorem dX6_toDate_86 : decode cX6_toDate 86 = .ok (.iload_n 1, 1) := by decide +kernel
theorem dX6_toDate_87 : decode cX6_toDate 87 = .ok (.iconst 0, 1) := by decide +kernel
theorem dX6_toDate_88 : decode cX6_toDate 88 = .ok (.iload 7, 2) := by decide +kernel
theorem dX6_toDate_90 : decode cX6_toDate 90 = .ok (.invokestatic 105, 3) := by decide +kernel
theorem dX6_toDate_93 : decode cX6_toDate 93 = .ok (.iload_n 2, 1) := by decide +kernel
theorem dX6_toDate_94 : decode cX6_toDate 94 = .ok (.iconst 1, 1) := by decide +kernel
theorem dX6_toDate_95 : decode cX6_toDate 95 = .ok (.iadd, 1) := by decide +kernel
theorem dX6_toDate_96 : decode cX6_toDate 96 = .ok (.invokevirtual 62, 3) := by decide +kernel
theorem dX6_toDate_99 : decode cX6_toDate 99 = .ok (.iconst 1, 1) := by decide +kernel
theorem dX6_toDate_100 : decode cX6_toDate 100 = .ok (.invokestatic 142, 3) := by decide +kernel
theorem dX6_toDate_103 : decode cX6_toDate 103 = .ok (.lstore 5, 2) := by decide +kernel
theorem dX6_toDate_105 : decode cX6_toDate 105 = .ok (.iinc 7 1, 3) := by decide +kernel
theorem dX6_toDate_108 : decode cX6_toDate 108 = .ok (.goto (-63), 3) := by decide +kernel
theorem dX6_toDate_111 : decode cX6_toDate 111 = .ok (.lload 5, 2) := by decide +kernel
theorem dX6_toDate_113 : decode cX6_toDate 113 = .ok (.lreturn, 1) := by decide +kernel
theorem dX6_joined_0 : decode cX6_joined 0 = .ok (.iload_n 0, 1) := by decide +kernel
theorem dX6_joined_1 : decode cX6_joined 1 = .ok (.iconst 3, 1) := by decide +kernel
theorem dX6_joined_2 : decode cX6_joined 2 = .ok (.if_icmp .eq 8, 3) := by decide +kernel
theorem dX6_joined_5 : decode cX6_joined 5 = .ok (.iload_n 0, 1) := by decide +kernel
theorem dX6_joined_6 : decode cX6_joined 6 = .ok (.iconst 4, 1) := by decide +kernel
theorem dX6_joined_7 : decode cX6_joined 7 = .ok (.if_icmp .ne 19, 3) := by decide +kernel
theorem dX6_joined_10 : decode cX6_joined 10 = .ok (.lload_n 1, 1) := by decide +kernel
theorem dX6_joined_11 : decode cX6_joined 11 = .ok (.lload_n 3, 1) := by decide +kernel
theorem dX6_joined_12 : decode cX6_joined 12 = .ok (.iload_n 0, 1) := by decide +kernel
theorem dX6_joined_13 : decode cX6_joined 13 = .ok (.iconst 3, 1) := by decide +kernel
theorem dX6_joined_14 : decode cX6_joined 14 = .ok (.if_icmp .ne 7, 3) := by decide +kernel
theorem dX6_joined_17 : decode cX6_joined 17 = .ok (.iconst 1, 1) := by decide +kernel
theorem dX6_joined_18 : decode cX6_joined 18 = .ok (.goto 4, 3) := by decide +kernel
theorem dX6_joined_21 : decode cX6_joined 21 = .ok (.iconst (-1), 1) := by decide +kernel
theorem dX6_joined_22 : decode cX6_joined 22 = .ok (.invokestatic 142, 3) := by decide +kernel
theorem dX6_joined_25 : decode cX6_joined 25 = .ok (.lreturn, 1) := by decide +kernel
theorem dX6_joined_26 : decode cX6_joined 26 = .ok (.iload_n 0, 1) := by decide +kernel
theorem dX6_joined_27 : decode cX6_joined 27 = .ok (.iconst 5, 1) := by decide +kernel
theorem dX6_joined_28 : decode cX6_joined 28 = .ok (.if_icmp .ne 11, 3) := by decide +kernel
theorem dX6_joined_31 : decode cX6_joined 31 = .ok (.lload_n 1, 1) := by decide +kernel
theorem dX6_joined_32 : decode cX6_joined 32 = .ok (.lload_n 3, 1) := by decide +kernel
theorem dX6_joined_33 : decode cX6_joined 33 = .ok (.invokestatic 146, 3) := by decide +kernel
theorem dX6_joined_36 : decode cX6_joined 36 = .ok (.goto 8, 3) := by decide +kernel
theorem dX6_joined_39 : decode cX6_joined 39 = .ok (.lload_n 1, 1) := by decide +kernel
theorem dX6_joined_40 : decode cX6_joined 40 = .ok (.lload_n 3, 1) := by decide +kernel
theorem dX6_joined_41 : decode cX6_joined 41 = .ok (.invokestatic 150, 3) := by decide +kernel
theorem dX6_joined_44 : decode cX6_joined 44 = .ok (.lreturn, 1) := by decide +kernel
theorem dX6_plus_0 : decode cX6_plus 0 = .ok (.lload_n 0, 1) := by decide +kernel
theorem dX6_plus_1 : decode cX6_plus 1 = .ok (.ldc2_w 66, 3) := by decide +kernel
theorem dX6_plus_4 : decode cX6_plus 4 = .ok (.lcmp, 1) := by decide +kernel
theorem dX6_plus_5 : decode cX6_plus 5 = .ok (.ifCond .ne 15, 3) := by decide +kernel
theorem dX6_plus_8 : decode cX6_plus 8 = .ok (.lload_n 2, 1) := by decide +kernel
theorem dX6_plus_9 : decode cX6_plus 9 = .ok (.ldc2_w 66, 3) := by decide +kernel
theorem dX6_plus_12 : decode cX6_plus 12 = .ok (.lcmp, 1) := by decide +kernel
theorem dX6_plus_13 : decode cX6_plus 13 = .ok (.ifCond .ne 7, 3) := by decide +kernel
theorem dX6_plus_16 : decode cX6_plus 16 = .ok (.ldc2_w 66, 3) := by decide +kernel
theorem dX6_plus_19 : decode cX6_plus 19 = .ok (.lreturn, 1) := by decide +kernel
theorem dX6_plus_20 : decode cX6_plus 20 = .ok (.lload_n 0, 1) := by decide +kernel
theorem dX6_plus_21 : decode cX6_plus 21 = .ok (.ldc2_w 66, 3) := by decide +kernel
theorem dX6_plus_24 : decode cX6_plus 24 = .ok (.lcmp, 1) := by decide +kernel
theorem dX6_plus_25 : decode cX6_plus 25 = .ok (.ifCond .ne 7, 3) := by decide +kernel
theorem dX6_plus_28 : decode cX6_plus 28 = .ok (.lconst 0, 1) := by decide +kernel
theorem dX6_plus_29 : decode cX6_plus 29 = .ok (.goto 4, 3) := by decide +kernel
theorem dX6_plus_32 : decode cX6_plus 32 = .ok (.lload_n 0, 1) := by decide +kernel
theorem dX6_plus_33 : decode cX6_plus 33 = .ok (.lload_n 2, 1) := by decide +kernel
theorem dX6_plus_34 : decode cX6_plus 34 = .ok (.ldc2_w 66, 3) := by decide +kernel
theorem dX6_plus_37 : decode cX6_plus 37 = .ok (.lcmp, 1) := by decide +kernel
theorem dX6_plus_38 : decode cX6_plus 38 = .ok (.ifCond .ne 7, 3) := by decide +kernel
theorem dX6_plus_41 : decode cX6_plus 41 = .ok (.lconst 0, 1) := by decide +kernel
theorem dX6_plus_42 : decode cX6_plus 42 = .ok (.goto 8, 3) := by decide +kernel
theorem dX6_plus_45 : decode cX6_plus 45 = .ok (.iload 4, 2) := by decide +kernel
theorem dX6_plus_47 : decode cX6_plus 47 = .ok (.i2l, 1) := by decide +kernel
theorem dX6_plus_48 : decode cX6_plus 48 = .ok (.lload_n 2, 1) := by decide +kernel
theorem dX6_plus_49 : decode cX6_plus 49 = .ok (.lmul, 1) := by decide +kernel
theorem dX6_plus_50 : decode cX6_plus 50 = .ok (.ladd, 1) := by decide +kernel
theorem dX6_plus_51 : decode cX6_plus 51 = .ok (.invokestatic 153, 3) := by decide +kernel
theorem dX6_plus_54 : decode cX6_plus 54 = .ok (.lreturn, 1) := by decide +kernel
theorem dX6_product_0 : decode cX6_product 0 = .ok (.lload_n 0, 1) := by decide +kernel
theorem dX6_product_1 : decode cX6_product 1 = .ok (.ldc2_w 66, 3) := by decide +kernel
theorem dX6_product_4 : decode cX6_product 4 = .ok (.lcmp, 1) := by decide +kernel
theorem dX6_product_5 : decode cX6_product 5 = .ok (.ifCond .eq 11, 3) := by decide +kernel
theorem dX6_product_8 : decode cX6_product 8 = .ok (.lload_n 2, 1) := by decide +kernel
theorem dX6_product_9 : decode cX6_product 9 = .ok (.ldc2_w 66, 3) := by decide +kernel
theorem dX6_product_12 : decode cX6_product 12 = .ok (.lcmp, 1) := by decide +kernel
theorem dX6_product_13 : decode cX6_product 13 = .ok (.ifCond .ne 7, 3) := by decide +kernel
theorem dX6_product_16 : decode cX6_product 16 = .ok (.ldc2_w 66, 3) := by decide +kernel
theorem dX6_product_19 : decode cX6_product 19 = .ok (.lreturn, 1) := by decide +kernel
theorem dX6_product_20 : decode cX6_product 20 = .ok (.lload_n 0, 1) := by decide +kernel
theorem dX6_product_21 : decode cX6_product 21 = .ok (.lconst 0, 1) := by decide +kernel
theorem dX6_product_22 : decode cX6_product 22 = .ok (.lcmp, 1) := by decide +kernel
theorem dX6_product_23 : decode cX6_product 23 = .ok (.ifCond .eq 9, 3) := by decide +kernel
theorem dX6_product_26 : decode cX6_product 26 = .ok (.lload_n 2, 1) := by decide +kernel
theorem dX6_product_27 : decode cX6_product 27 = .ok (.lconst 0, 1) := by decide +kernel
theorem dX6_product_28 : decode cX6_product 28 = .ok (.lcmp, 1) := by decide +kernel
theorem dX6_product_29 : decode cX6_product 29 = .ok (.ifCond .ne 5, 3) := by decide +kernel
theorem dX6_product_32 : decode cX6_product 32 = .ok (.lconst 0, 1) := by decide +kernel
theorem dX6_product_33 : decode cX6_product 33 = .ok (.lreturn, 1) := by decide +kernel
theorem dX6_product_34 : decode cX6_product 34 = .ok (.lload_n 0, 1) := by decide +kernel
theorem dX6_product_35 : decode cX6_product 35 = .ok (.invokestatic 157, 3) := by decide +kernel
theorem dX6_product_38 : decode cX6_product 38 = .ok (.ldc2_w 162, 3) := by decide +kernel
theorem dX6_product_41 : decode cX6_product 41 = .ok (.lload_n 2, 1) := by decide +kernel
theorem dX6_product_42 : decode cX6_product 42 = .ok (.invokestatic 157, 3) := by decide +kernel
theorem dX6_product_45 : decode cX6_product 45 = .ok (.ldiv, 1) := by decide +kernel
theorem dX6_product_46 : decode cX6_product 46 = .ok (.lcmp, 1) := by decide +kernel
theorem dX6_product_47 : decode cX6_product 47 = .ok (.ifCond .le 38, 3) := by decide +kernel
theorem dX6_product_50 : decode cX6_product 50 = .ok (.lload_n 0, 1) := by decide +kernel
theorem dX6_product_51 : decode cX6_product 51 = .ok (.lconst 0, 1) := by decide +kernel
theorem dX6_product_52 : decode cX6_product 52 = .ok (.lcmp, 1) := by decide +kernel
theorem dX6_product_53 : decode cX6_product 53 = .ok (.ifCond .ge 7, 3) := by decide +kernel
theorem dX6_product_56 : decode cX6_product 56 = .ok (.iconst 1, 1) := by decide +kernel
theorem dX6_product_57 : decode cX6_product 57 = .ok (.goto 4, 3) := by decide +kernel
theorem dX6_product_60 : decode cX6_product 60 = .ok (.iconst 0, 1) := by decide +kernel
theorem dX6_product_61 : decode cX6_product 61 = .ok (.lload_n 2, 1) := by decide +kernel
theorem dX6_product_62 : decode cX6_product 62 = .ok (.lconst 0, 1) := by decide +kernel
theorem dX6_product_63 : decode cX6_product 63 = .ok (.lcmp, 1) := by decide +kernel
theorem dX6_product_64 : decode cX6_product 64 = .ok (.ifCond .ge 7, 3) := by decide +kernel
theorem dX6_product_67 : decode cX6_product 67 = .ok (.iconst 1, 1) := by decide +kernel
theorem dX6_product_68 : decode cX6_product 68 = .ok (.goto 4, 3) := by decide +kernel
theorem dX6_product_71 : decode cX6_product 71 = .ok (.iconst 0, 1) := by decide +kernel
theorem dX6_product_72 : decode cX6_product 72 = .ok (.if_icmp .ne 9, 3) := by decide +kernel
theorem dX6_product_75 : decode cX6_product 75 = .ok (.ldc2_w 162, 3) := by decide +kernel
theorem dX6_product_78 : decode cX6_product 78 = .ok (.goto 6, 3) := by decide +kernel
theorem dX6_product_81 : decode cX6_product 81 = .ok (.ldc2_w 164, 3) := by decide +kernel
theorem dX6_product_84 : decode cX6_product 84 = .ok (.lreturn, 1) := by decide +kernel
theorem dX6_product_85 : decode cX6_product 85 = .ok (.lload_n 0, 1) := by decide +kernel
theorem dX6_product_86 : decode cX6_product 86 = .ok (.lload_n 2, 1) := by decide +kernel
theorem dX6_product_87 : decode cX6_product 87 = .ok (.lmul, 1) := by decide +kernel
theorem dX6_product_88 : decode cX6_product 88 = .ok (.lreturn, 1) := by decide +kernel
theorem dX6_ratio_0 : decode cX6_ratio 0 = .ok (.lload_n 0, 1) := by decide +kernel
theorem dX6_ratio_1 : decode cX6_ratio 1 = .ok (.ldc2_w 66, 3) := by decide +kernel
theorem dX6_ratio_4 : decode cX6_ratio 4 = .ok (.lcmp, 1) := by decide +kernel
theorem dX6_ratio_5 : decode cX6_ratio 5 = .ok (.ifCond .eq 17, 3) := by decide +kernel
theorem dX6_ratio_8 : decode cX6_ratio 8 = .ok (.lload_n 2, 1) := by decide +kernel
theorem dX6_ratio_9 : decode cX6_ratio 9 = .ok (.ldc2_w 66, 3) := by decide +kernel
theorem dX6_ratio_12 : decode cX6_ratio 12 = .ok (.lcmp, 1) := by decide +kernel
theorem dX6_ratio_13 : decode cX6_ratio 13 = .ok (.ifCond .eq 9, 3) := by decide +kernel
theorem dX6_ratio_16 : decode cX6_ratio 16 = .ok (.lload_n 2, 1) := by decide +kernel
theorem dX6_ratio_17 : decode cX6_ratio 17 = .ok (.lconst 0, 1) := by decide +kernel
theorem dX6_ratio_18 : decode cX6_ratio 18 = .ok (.lcmp, 1) := by decide +kernel
theorem dX6_ratio_19 : decode cX6_ratio 19 = .ok (.ifCond .ne 7, 3) := by decide +kernel
theorem dX6_ratio_22 : decode cX6_ratio 22 = .ok (.ldc2_w 66, 3) := by decide +kernel
theorem dX6_ratio_25 : decode cX6_ratio 25 = .ok (.lreturn, 1) := by decide +kernel
theorem dX6_ratio_26 : decode cX6_ratio 26 = .ok (.ldc2_w 166, 3) := by decide +kernel
theorem dX6_ratio_29 : decode cX6_ratio 29 = .ok (.lload_n 0, 1) := by decide +kernel
theorem dX6_ratio_30 : decode cX6_ratio 30 = .ok (.lmul, 1) := by decide +kernel
theorem dX6_ratio_31 : decode cX6_ratio 31 = .ok (.lload_n 2, 1) := by decide +kernel
theorem dX6_ratio_32 : decode cX6_ratio 32 = .ok (.ldiv, 1) := by decide +kernel
theorem dX6_ratio_33 : decode cX6_ratio 33 = .ok (.invokestatic 153, 3) := by decide +kernel
theorem dX6_ratio_36 : decode cX6_ratio 36 = .ok (.lreturn, 1) := by decide +kernel
theorem dX6_plainValue_0 : decode cX6_plainValue 0 = .ok (.aload_n 0, 1) := by decide +kernel
theorem dX6_plainValue_1 : decode cX6_plainValue 1 = .ok (.iload_n 1, 1) := by decide +kernel
theorem dX6_plainValue_2 : decode cX6_plainValue 2 = .ok (.invokevirtual 168, 3) := by decide +kernel
theorem dX6_plainValue_5 : decode cX6_plainValue 5 = .ok (.ifCond .eq 7, 3) := by decide +kernel
theorem dX6_plainValue_8 : decode cX6_plainValue 8 = .ok (.ldc2_w 66, 3) := by decide +kernel
theorem dX6_plainValue_11 : decode cX6_plainValue 11 = .ok (.lreturn, 1) := by decide +kernel
theorem dX6_plainValue_12 : decode cX6_plainValue 12 = .ok (.iconst 0, 1) := by decide +kernel
theorem dX6_plainValue_13 : decode cX6_plainValue 13 = .ok (.istore_n 2, 1) := by decide +kernel
theorem dX6_plainValue_14 : decode cX6_plainValue 14 = .ok (.iload_n 2, 1) := by decide +kernel
theorem dX6_plainValue_15 : decode cX6_plainValue 15 = .ok (.aload_n 0, 1) := by decide +kernel
theorem dX6_plainValue_16 : decode cX6_plainValue 16 = .ok (.getfield 49, 3) := by decide +kernel
theorem dX6_plainValue_19 : decode cX6_plainValue 19 = .ok (.if_icmp .gt 46, 3) := by decide +kernel
theorem dX6_plainValue_22 : decode cX6_plainValue 22 = .ok (.iload_n 2, 1) := by decide +kernel
theorem dX6_plainValue_23 : decode cX6_plainValue 23 = .ok (.iconst 4, 1) := by decide +kernel
theorem dX6_plainValue_24 : decode cX6_plainValue 24 = .ok (.if_icmp .ge 41, 3) := by decide +kernel
theorem dX6_plainValue_27 : decode cX6_plainValue 27 = .ok (.aload_n 0, 1) := by decide +kernel
theorem dX6_plainValue_28 : decode cX6_plainValue 28 = .ok (.getfield 41, 3) := by decide +kernel
theorem dX6_plainValue_31 : decode cX6_plainValue 31 = .ok (.aload_n 0, 1) := by decide +kernel
theorem dX6_plainValue_32 : decode cX6_plainValue 32 = .ok (.getfield 49, 3) := by decide +kernel
theorem dX6_plainValue_35 : decode cX6_plainValue 35 = .ok (.iload_n 2, 1) := by decide +kernel
theorem dX6_plainValue_36 : decode cX6_plainValue 36 = .ok (.invokevirtual 171, 3) := by decide +kernel
theorem dX6_plainValue_39 : decode cX6_plainValue 39 = .ok (.ifCond .eq 20, 3) := by decide +kernel
theorem dX6_plainValue_42 : decode cX6_plainValue 42 = .ok (.aload_n 0, 1) := by decide +kernel
theorem dX6_plainValue_43 : decode cX6_plainValue 43 = .ok (.iload_n 1, 1) := by decide +kernel
theorem dX6_plainValue_44 : decode cX6_plainValue 44 = .ok (.iload_n 2, 1) := by decide +kernel
theorem dX6_plainValue_45 : decode cX6_plainValue 45 = .ok (.invokevirtual 177, 3) := by decide +kernel
theorem dX6_plainValue_48 : decode cX6_plainValue 48 = .ok (.aload_n 0, 1) := by decide +kernel
theorem dX6_plainValue_49 : decode cX6_plainValue 49 = .ok (.getfield 22, 3) := by decide +kernel
theorem dX6_plainValue_52 : decode cX6_plainValue 52 = .ok (.iload_n 2, 1) := by decide +kernel
theorem dX6_plainValue_53 : decode cX6_plainValue 53 = .ok (.aload_n 0, 1) := by decide +kernel
theorem dX6_plainValue_54 : decode cX6_plainValue 54 = .ok (.iload_n 2, 1) := by decide +kernel
theorem dX6_plainValue_55 : decode cX6_plainValue 55 = .ok (.invokevirtual 181, 3) := by decide +kernel
theorem dX6_plainValue_58 : decode cX6_plainValue 58 = .ok (.lastore, 1) := by decide +kernel
theorem dX6_plainValue_59 : decode cX6_plainValue 59 = .ok (.iinc 2 1, 3) := by decide +kernel
theorem dX6_plainValue_62 : decode cX6_plainValue 62 = .ok (.goto (-48), 3) := by decide +kernel
theorem dX6_plainValue_65 : decode cX6_plainValue 65 = .ok (.aload_n 0, 1) := by decide +kernel
theorem dX6_plainValue_66 : decode cX6_plainValue 66 = .ok (.getfield 41, 3) := by decide +kernel
theorem dX6_plainValue_69 : decode cX6_plainValue 69 = .ok (.aload_n 0, 1) := by decide +kernel
theorem dX6_plainValue_70 : decode cX6_plainValue 70 = .ok (.getfield 49, 3) := by decide +kernel
theorem dX6_plainValue_73 : decode cX6_plainValue 73 = .ok (.invokevirtual 184, 3) := by decide +kernel
theorem dX6_plainValue_76 : decode cX6_plainValue 76 = .ok (.ifCond .eq 15, 3) := by decide +kernel
theorem dX6_plainValue_79 : decode cX6_plainValue 79 = .ok (.aload_n 0, 1) := by decide +kernel
theorem dX6_plainValue_80 : decode cX6_plainValue 80 = .ok (.getfield 22, 3) := by decide +kernel
theorem dX6_plainValue_83 : decode cX6_plainValue 83 = .ok (.aload_n 0, 1) := by decide +kernel
theorem dX6_plainValue_84 : decode cX6_plainValue 84 = .ok (.getfield 49, 3) := by decide +kernel
theorem dX6_plainValue_87 : decode cX6_plainValue 87 = .ok (.laload, 1) := by decide +kernel
theorem dX6_plainValue_88 : decode cX6_plainValue 88 = .ok (.goto 6, 3) := by decide +kernel
theorem dX6_plainValue_91 : decode cX6_plainValue 91 = .ok (.ldc2_w 66, 3) := by decide +kernel
theorem dX6_plainValue_94 : decode cX6_plainValue 94 = .ok (.lreturn, 1) := by decide +kernel
theorem dX6_meansNothing_0 : decode cX6_meansNothing 0 = .ok (.iconst 0, 1) := by decide +kernel
theorem dX6_meansNothing_1 : decode cX6_meansNothing 1 = .ok (.istore_n 2, 1) := by decide +kernel
theorem dX6_meansNothing_2 : decode cX6_meansNothing 2 = .ok (.iload_n 2, 1) := by decide +kernel
theorem dX6_meansNothing_3 : decode cX6_meansNothing 3 = .ok (.iconst 3, 1) := by decide +kernel
theorem dX6_meansNothing_4 : decode cX6_meansNothing 4 = .ok (.if_icmp .ge 57, 3) := by decide +kernel
theorem dX6_meansNothing_7 : decode cX6_meansNothing 7 = .ok (.aload_n 0, 1) := by decide +kernel
theorem dX6_meansNothing_8 : decode cX6_meansNothing 8 = .ok (.getfield 37, 3) := by decide +kernel
theorem dX6_meansNothing_11 : decode cX6_meansNothing 11 = .ok (.iload_n 2, 1) := by decide +kernel
theorem dX6_meansNothing_12 : decode cX6_meansNothing 12 = .ok (.invokevirtual 80, 3) := by decide +kernel
theorem dX6_meansNothing_15 : decode cX6_meansNothing 15 = .ok (.astore_n 3, 1) := by decide +kernel
theorem dX6_meansNothing_16 : decode cX6_meansNothing 16 = .ok (.iload_n 1, 1) := by decide +kernel
theorem dX6_meansNothing_17 : decode cX6_meansNothing 17 = .ok (.iload_n 2, 1) := by decide +kernel
theorem dX6_meansNothing_18 : decode cX6_meansNothing 18 = .ok (.invokestatic 84, 3) := by decide +kernel
theorem dX6_meansNothing_21 : decode cX6_meansNothing 21 = .ok (.istore 4, 2) := by decide +kernel
theorem dX6_meansNothing_23 : decode cX6_meansNothing 23 = .ok (.aload_n 3, 1) := by decide +kernel
theorem dX6_meansNothing_24 : decode cX6_meansNothing 24 = .ok (.iload 4, 2) := by decide +kernel
theorem dX6_meansNothing_26 : decode cX6_meansNothing 26 = .ok (.invokevirtual 126, 3) := by decide +kernel
theorem dX6_meansNothing_29 : decode cX6_meansNothing 29 = .ok (.ifCond .eq 26, 3) := by decide +kernel
theorem dX6_meansNothing_32 : decode cX6_meansNothing 32 = .ok (.aload_n 3, 1) := by decide +kernel
theorem dX6_meansNothing_33 : decode cX6_meansNothing 33 = .ok (.iload 4, 2) := by decide +kernel
theorem dX6_meansNothing_35 : decode cX6_meansNothing 35 = .ok (.invokevirtual 187, 3) := by decide +kernel
theorem dX6_meansNothing_38 : decode cX6_meansNothing 38 = .ok (.aload_n 0, 1) := by decide +kernel
theorem dX6_meansNothing_39 : decode cX6_meansNothing 39 = .ok (.getfield 41, 3) := by decide +kernel
theorem dX6_meansNothing_42 : decode cX6_meansNothing 42 = .ok (.aload_n 0, 1) := by decide +kernel
theorem dX6_meansNothing_43 : decode cX6_meansNothing 43 = .ok (.getfield 49, 3) := by decide +kernel
theorem dX6_meansNothing_46 : decode cX6_meansNothing 46 = .ok (.iload_n 2, 1) := by decide +kernel
theorem dX6_meansNothing_47 : decode cX6_meansNothing 47 = .ok (.invokevirtual 190, 3) := by decide +kernel
theorem dX6_meansNothing_50 : decode cX6_meansNothing 50 = .ok (.if_icmp .ge 5, 3) := by decide +kernel
theorem dX6_meansNothing_53 : decode cX6_meansNothing 53 = .ok (.iconst 1, 1) := by decide +kernel
theorem dX6_meansNothing_54 : decode cX6_meansNothing 54 = .ok (.ireturn, 1) := by decide +kernel
theorem dX6_meansNothing_55 : decode cX6_meansNothing 55 = .ok (.iinc 2 1, 3) := by decide +kernel
theorem dX6_meansNothing_58 : decode cX6_meansNothing 58 = .ok (.goto (-56), 3) := by decide +kernel
theorem dX6_meansNothing_61 : decode cX6_meansNothing 61 = .ok (.iconst 0, 1) := by decide +kernel
theorem dX6_meansNothing_62 : decode cX6_meansNothing 62 = .ok (.ireturn, 1) := by decide +kernel
theorem dX6_ofGathered_0 : decode cX6_ofGathered 0 = .ok (.aload_n 0, 1) := by decide +kernel
theorem dX6_ofGathered_1 : decode cX6_ofGathered 1 = .ok (.getfield 41, 3) := by decide +kernel
theorem dX6_ofGathered_4 : decode cX6_ofGathered 4 = .ok (.iload_n 1, 1) := by decide +kernel
theorem dX6_ofGathered_5 : decode cX6_ofGathered 5 = .ok (.invokevirtual 193, 3) := by decide +kernel
theorem dX6_ofGathered_8 : decode cX6_ofGathered 8 = .ok (.istore_n 2, 1) := by decide +kernel
theorem dX6_ofGathered_9 : decode cX6_ofGathered 9 = .ok (.iload_n 2, 1) := by decide +kernel
theorem dX6_ofGathered_10 : decode cX6_ofGathered 10 = .ok (.iconst 3, 1) := by decide +kernel
theorem dX6_ofGathered_11 : decode cX6_ofGathered 11 = .ok (.if_icmp .ne 35, 3) := by decide +kernel
theorem dX6_ofGathered_14 : decode cX6_ofGathered 14 = .ok (.aload_n 0, 1) := by decide +kernel
theorem dX6_ofGathered_15 : decode cX6_ofGathered 15 = .ok (.getfield 22, 3) := by decide +kernel
theorem dX6_ofGathered_18 : decode cX6_ofGathered 18 = .ok (.aload_n 0, 1) := by decide +kernel
theorem dX6_ofGathered_19 : decode cX6_ofGathered 19 = .ok (.getfield 41, 3) := by decide +kernel
theorem dX6_ofGathered_22 : decode cX6_ofGathered 22 = .ok (.getfield 196, 3) := by decide +kernel
theorem dX6_ofGathered_25 : decode cX6_ofGathered 25 = .ok (.iload_n 1, 1) := by decide +kernel
theorem dX6_ofGathered_26 : decode cX6_ofGathered 26 = .ok (.iaload, 1) := by decide +kernel
theorem dX6_ofGathered_27 : decode cX6_ofGathered 27 = .ok (.laload, 1) := by decide +kernel
theorem dX6_ofGathered_28 : decode cX6_ofGathered 28 = .ok (.aload_n 0, 1) := by decide +kernel
theorem dX6_ofGathered_29 : decode cX6_ofGathered 29 = .ok (.getfield 22, 3) := by decide +kernel
theorem dX6_ofGathered_32 : decode cX6_ofGathered 32 = .ok (.aload_n 0, 1) := by decide +kernel
theorem dX6_ofGathered_33 : decode cX6_ofGathered 33 = .ok (.getfield 41, 3) := by decide +kernel
theorem dX6_ofGathered_36 : decode cX6_ofGathered 36 = .ok (.getfield 199, 3) := by decide +kernel
theorem dX6_ofGathered_39 : decode cX6_ofGathered 39 = .ok (.iload_n 1, 1) := by decide +kernel
theorem dX6_ofGathered_40 : decode cX6_ofGathered 40 = .ok (.iaload, 1) := by decide +kernel
theorem dX6_ofGathered_41 : decode cX6_ofGathered 41 = .ok (.laload, 1) := by decide +kernel
theorem dX6_ofGathered_42 : decode cX6_ofGathered 42 = .ok (.invokestatic 150, 3) := by decide +kernel
theorem dX6_ofGathered_45 : decode cX6_ofGathered 45 = .ok (.lreturn, 1) := by decide +kernel
theorem dX6_ofGathered_46 : decode cX6_ofGathered 46 = .ok (.aload_n 0, 1) := by decide +kernel
theorem dX6_ofGathered_47 : decode cX6_ofGathered 47 = .ok (.getfield 202, 3) := by decide +kernel
theorem dX6_ofGathered_50 : decode cX6_ofGathered 50 = .ok (.ifCond .ne 7, 3) := by decide +kernel
theorem dX6_ofGathered_53 : decode cX6_ofGathered 53 = .ok (.ldc2_w 66, 3) := by decide +kernel
theorem dX6_ofGathered_56 : decode cX6_ofGathered 56 = .ok (.lreturn, 1) := by decide +kernel
theorem dX6_ofGathered_57 : decode cX6_ofGathered 57 = .ok (.iload_n 2, 1) := by decide +kernel
theorem dX6_ofGathered_58 : decode cX6_ofGathered 58 = .ok (.iconst 2, 1) := by decide +kernel
theorem dX6_ofGathered_59 : decode cX6_ofGathered 59 = .ok (.if_icmp .ne 8, 3) := by decide +kernel
theorem dX6_ofGathered_62 : decode cX6_ofGathered 62 = .ok (.aload_n 0, 1) := by decide +kernel
theorem dX6_ofGathered_63 : decode cX6_ofGathered 63 = .ok (.invokevirtual 205, 3) := by decide +kernel
theorem dX6_ofGathered_66 : decode cX6_ofGathered 66 = .ok (.lreturn, 1) := by decide +kernel
theorem dX6_ofGathered_67 : decode cX6_ofGathered 67 = .ok (.iload_n 2, 1) := by decide +kernel
theorem dX6_ofGathered_68 : decode cX6_ofGathered 68 = .ok (.iconst 1, 1) := by decide +kernel
theorem dX6_ofGathered_69 : decode cX6_ofGathered 69 = .ok (.if_icmp .ne 14, 3) := by decide +kernel
theorem dX6_ofGathered_72 : decode cX6_ofGathered 72 = .ok (.aload_n 0, 1) := by decide +kernel
theorem dX6_ofGathered_73 : decode cX6_ofGathered 73 = .ok (.aload_n 0, 1) := by decide +kernel
theorem dX6_ofGathered_74 : decode cX6_ofGathered 74 = .ok (.invokevirtual 209, 3) := by decide +kernel
theorem dX6_ofGathered_77 : decode cX6_ofGathered 77 = .ok (.invokevirtual 213, 3) := by decide +kernel
theorem dX6_ofGathered_80 : decode cX6_ofGathered 80 = .ok (.goto 8, 3) := by decide +kernel
theorem dX6_ofGathered_83 : decode cX6_ofGathered 83 = .ok (.aload_n 0, 1) := by decide +kernel
theorem dX6_ofGathered_84 : decode cX6_ofGathered 84 = .ok (.iconst (-1), 1) := by decide +kernel
theorem dX6_ofGathered_85 : decode cX6_ofGathered 85 = .ok (.invokevirtual 213, 3) := by decide +kernel
theorem dX6_ofGathered_88 : decode cX6_ofGathered 88 = .ok (.lreturn, 1) := by decide +kernel
theorem dX6_gather_0 : decode cX6_gather 0 = .ok (.aload_n 0, 1) := by decide +kernel
theorem dX6_gather_1 : decode cX6_gather 1 = .ok (.iconst 0, 1) := by decide +kernel
theorem dX6_gather_2 : decode cX6_gather 2 = .ok (.putfield 202, 3) := by decide +kernel
theorem dX6_gather_5 : decode cX6_gather 5 = .ok (.iconst 0, 1) := by decide +kernel
theorem dX6_gather_6 : decode cX6_gather 6 = .ok (.istore_n 3, 1) := by decide +kernel
theorem dX6_gather_7 : decode cX6_gather 7 = .ok (.iload_n 3, 1) := by decide +kernel
theorem dX6_gather_8 : decode cX6_gather 8 = .ok (.aload_n 0, 1) := by decide +kernel
theorem dX6_gather_9 : decode cX6_gather 9 = .ok (.getfield 45, 3) := by decide +kernel
theorem dX6_gather_12 : decode cX6_gather 12 = .ok (.getfield 216, 3) := by decide +kernel
theorem dX6_gather_15 : decode cX6_gather 15 = .ok (.if_icmp .ge 110, 3) := by decide +kernel
theorem dX6_gather_18 : decode cX6_gather 18 = .ok (.aload_n 0, 1) := by decide +kernel
theorem dX6_gather_19 : decode cX6_gather 19 = .ok (.getfield 45, 3) := by decide +kernel
theorem dX6_gather_22 : decode cX6_gather 22 = .ok (.iload_n 3, 1) := by decide +kernel
theorem dX6_gather_23 : decode cX6_gather 23 = .ok (.invokevirtual 219, 3) := by decide +kernel
theorem dX6_gather_26 : decode cX6_gather 26 = .ok (.iload_n 2, 1) := by decide +kernel
theorem dX6_gather_27 : decode cX6_gather 27 = .ok (.if_icmp .ne 22, 3) := by decide +kernel
theorem dX6_gather_30 : decode cX6_gather 30 = .ok (.aload_n 0, 1) := by decide +kernel
theorem dX6_gather_31 : decode cX6_gather 31 = .ok (.getfield 37, 3) := by decide +kernel
theorem dX6_gather_34 : decode cX6_gather 34 = .ok (.aload_n 0, 1) := by decide +kernel
theorem dX6_gather_35 : decode cX6_gather 35 = .ok (.getfield 45, 3) := by decide +kernel
theorem dX6_gather_38 : decode cX6_gather 38 = .ok (.iload_n 3, 1) := by decide +kernel
theorem dX6_gather_39 : decode cX6_gather 39 = .ok (.invokevirtual 222, 3) := by decide +kernel
theorem dX6_gather_42 : decode cX6_gather 42 = .ok (.iload_n 1, 1) := by decide +kernel
theorem dX6_gather_43 : decode cX6_gather 43 = .ok (.invokevirtual 225, 3) := by decide +kernel
theorem dX6_gather_46 : decode cX6_gather 46 = .ok (.goto 4, 3) := by decide +kernel
theorem dX6_gather_49 : decode cX6_gather 49 = .ok (.iconst 0, 1) := by decide +kernel
theorem dX6_gather_50 : decode cX6_gather 50 = .ok (.istore 4, 2) := by decide +kernel
theorem dX6_gather_52 : decode cX6_gather 52 = .ok (.iload 4, 2) := by decide +kernel
theorem dX6_gather_54 : decode cX6_gather 54 = .ok (.ifCond .eq 65, 3) := by decide +kernel
theorem dX6_gather_57 : decode cX6_gather 57 = .ok (.aload_n 0, 1) := by decide +kernel
theorem dX6_gather_58 : decode cX6_gather 58 = .ok (.getfield 25, 3) := by decide +kernel
theorem dX6_gather_61 : decode cX6_gather 61 = .ok (.aload_n 0, 1) := by decide +kernel
theorem dX6_gather_62 : decode cX6_gather 62 = .ok (.getfield 202, 3) := by decide +kernel
theorem dX6_gather_65 : decode cX6_gather 65 = .ok (.iload_n 3, 1) := by decide +kernel
theorem dX6_gather_66 : decode cX6_gather 66 = .ok (.iastore, 1) := by decide +kernel
theorem dX6_gather_67 : decode cX6_gather 67 = .ok (.aload_n 0, 1) := by decide +kernel
theorem dX6_gather_68 : decode cX6_gather 68 = .ok (.getfield 28, 3) := by decide +kernel
theorem dX6_gather_71 : decode cX6_gather 71 = .ok (.aload_n 0, 1) := by decide +kernel
theorem dX6_gather_72 : decode cX6_gather 72 = .ok (.getfield 202, 3) := by decide +kernel
theorem dX6_gather_75 : decode cX6_gather 75 = .ok (.iload 4, 2) := by decide +kernel
theorem dX6_gather_77 : decode cX6_gather 77 = .ok (.iastore, 1) := by decide +kernel
theorem dX6_gather_78 : decode cX6_gather 78 = .ok (.aload_n 0, 1) := by decide +kernel
theorem dX6_gather_79 : decode cX6_gather 79 = .ok (.getfield 31, 3) := by decide +kernel
theorem dX6_gather_82 : decode cX6_gather 82 = .ok (.aload_n 0, 1) := by decide +kernel
theorem dX6_gather_83 : decode cX6_gather 83 = .ok (.getfield 202, 3) := by decide +kernel
theorem dX6_gather_86 : decode cX6_gather 86 = .ok (.aload_n 0, 1) := by decide +kernel
theorem dX6_gather_87 : decode cX6_gather 87 = .ok (.getfield 37, 3) := by decide +kernel
theorem dX6_gather_90 : decode cX6_gather 90 = .ok (.getfield 129, 3) := by decide +kernel
theorem dX6_gather_93 : decode cX6_gather 93 = .ok (.aload_n 0, 1) := by decide +kernel
theorem dX6_gather_94 : decode cX6_gather 94 = .ok (.getfield 45, 3) := by decide +kernel
theorem dX6_gather_97 : decode cX6_gather 97 = .ok (.iload_n 3, 1) := by decide +kernel
theorem dX6_gather_98 : decode cX6_gather 98 = .ok (.invokevirtual 222, 3) := by decide +kernel
theorem dX6_gather_101 : decode cX6_gather 101 = .ok (.iconst 0, 1) := by decide +kernel
theorem dX6_gather_102 : decode cX6_gather 102 = .ok (.invokestatic 84, 3) := by decide +kernel
theorem dX6_gather_105 : decode cX6_gather 105 = .ok (.invokevirtual 228, 3) := by decide +kernel
theorem dX6_gather_108 : decode cX6_gather 108 = .ok (.iastore, 1) := by decide +kernel
theorem dX6_gather_109 : decode cX6_gather 109 = .ok (.aload_n 0, 1) := by decide +kernel
theorem dX6_gather_110 : decode cX6_gather 110 = .ok (.dup, 1) := by decide +kernel
theorem dX6_gather_111 : decode cX6_gather 111 = .ok (.getfield 202, 3) := by decide +kernel
theorem dX6_gather_114 : decode cX6_gather 114 = .ok (.iconst 1, 1) := by decide +kernel
theorem dX6_gather_115 : decode cX6_gather 115 = .ok (.iadd, 1) := by decide +kernel
theorem dX6_gather_116 : decode cX6_gather 116 = .ok (.putfield 202, 3) := by decide +kernel
theorem dX6_gather_119 : decode cX6_gather 119 = .ok (.iinc 3 1, 3) := by decide +kernel
theorem dX6_gather_122 : decode cX6_gather 122 = .ok (.goto (-115), 3) := by decide +kernel
theorem dX6_gather_125 : decode cX6_gather 125 = .ok (.return_, 1) := by decide +kernel
theorem dX6_rowAt_0 : decode cX6_rowAt 0 = .ok (.iload_n 1, 1) := by decide +kernel
theorem dX6_rowAt_1 : decode cX6_rowAt 1 = .ok (.ifCond .lt 26, 3) := by decide +kernel
theorem dX6_rowAt_4 : decode cX6_rowAt 4 = .ok (.iload_n 1, 1) := by decide +kernel
theorem dX6_rowAt_5 : decode cX6_rowAt 5 = .ok (.aload_n 0, 1) := by decide +kernel
theorem dX6_rowAt_6 : decode cX6_rowAt 6 = .ok (.getfield 202, 3) := by decide +kernel
theorem dX6_rowAt_9 : decode cX6_rowAt 9 = .ok (.if_icmp .ge 18, 3) := by decide +kernel
theorem dX6_rowAt_12 : decode cX6_rowAt 12 = .ok (.iload_n 1, 1) := by decide +kernel
theorem dX6_rowAt_13 : decode cX6_rowAt 13 = .ok (.bipush 50, 2) := by decide +kernel
theorem dX6_rowAt_15 : decode cX6_rowAt 15 = .ok (.if_icmp .ge 12, 3) := by decide +kernel
theorem dX6_rowAt_18 : decode cX6_rowAt 18 = .ok (.aload_n 0, 1) := by decide +kernel
theorem dX6_rowAt_19 : decode cX6_rowAt 19 = .ok (.getfield 25, 3) := by decide +kernel
theorem dX6_rowAt_22 : decode cX6_rowAt 22 = .ok (.iload_n 1, 1) := by decide +kernel
theorem dX6_rowAt_23 : decode cX6_rowAt 23 = .ok (.iaload, 1) := by decide +kernel
theorem dX6_rowAt_24 : decode cX6_rowAt 24 = .ok (.goto 4, 3) := by decide +kernel
theorem dX6_rowAt_27 : decode cX6_rowAt 27 = .ok (.iconst (-1), 1) := by decide +kernel
theorem dX6_rowAt_28 : decode cX6_rowAt 28 = .ok (.ireturn, 1) := by decide +kernel
theorem dX6_allWeighOne_0 : decode cX6_allWeighOne 0 = .ok (.iconst 0, 1) := by decide +kernel
theorem dX6_allWeighOne_1 : decode cX6_allWeighOne 1 = .ok (.istore_n 1, 1) := by decide +kernel
theorem dX6_allWeighOne_2 : decode cX6_allWeighOne 2 = .ok (.iload_n 1, 1) := by decide +kernel
theorem dX6_allWeighOne_3 : decode cX6_allWeighOne 3 = .ok (.aload_n 0, 1) := by decide +kernel
theorem dX6_allWeighOne_4 : decode cX6_allWeighOne 4 = .ok (.getfield 202, 3) := by decide +kernel
theorem dX6_allWeighOne_7 : decode cX6_allWeighOne 7 = .ok (.if_icmp .ge 21, 3) := by decide +kernel
theorem dX6_allWeighOne_10 : decode cX6_allWeighOne 10 = .ok (.aload_n 0, 1) := by decide +kernel
theorem dX6_allWeighOne_11 : decode cX6_allWeighOne 11 = .ok (.getfield 28, 3) := by decide +kernel
theorem dX6_allWeighOne_14 : decode cX6_allWeighOne 14 = .ok (.iload_n 1, 1) := by decide +kernel
theorem dX6_allWeighOne_15 : decode cX6_allWeighOne 15 = .ok (.iaload, 1) := by decide +kernel
theorem dX6_allWeighOne_16 : decode cX6_allWeighOne 16 = .ok (.iconst 1, 1) := by decide +kernel
theorem dX6_allWeighOne_17 : decode cX6_allWeighOne 17 = .ok (.if_icmp .eq 5, 3) := by decide +kernel
theorem dX6_allWeighOne_20 : decode cX6_allWeighOne 20 = .ok (.iconst 0, 1) := by decide +kernel
theorem dX6_allWeighOne_21 : decode cX6_allWeighOne 21 = .ok (.ireturn, 1) := by decide +kernel
theorem dX6_allWeighOne_22 : decode cX6_allWeighOne 22 = .ok (.iinc 1 1, 3) := by decide +kernel
theorem dX6_allWeighOne_25 : decode cX6_allWeighOne 25 = .ok (.goto (-23), 3) := by decide +kernel
theorem dX6_allWeighOne_28 : decode cX6_allWeighOne 28 = .ok (.iconst 1, 1) := by decide +kernel
theorem dX6_allWeighOne_29 : decode cX6_allWeighOne 29 = .ok (.ireturn, 1) := by decide +kernel
theorem dX6_lastPlace_0 : decode cX6_lastPlace 0 = .ok (.iconst (-1), 1) := by decide +kernel
theorem dX6_lastPlace_1 : decode cX6_lastPlace 1 = .ok (.istore_n 1, 1) := by decide +kernel
theorem dX6_lastPlace_2 : decode cX6_lastPlace 2 = .ok (.iconst 0, 1) := by decide +kernel
theorem dX6_lastPlace_3 : decode cX6_lastPlace 3 = .ok (.istore_n 2, 1) := by decide +kernel
theorem dX6_lastPlace_4 : decode cX6_lastPlace 4 = .ok (.iload_n 2, 1) := by decide +kernel
theorem dX6_lastPlace_5 : decode cX6_lastPlace 5 = .ok (.aload_n 0, 1) := by decide +kernel
theorem dX6_lastPlace_6 : decode cX6_lastPlace 6 = .ok (.getfield 202, 3) := by decide +kernel
theorem dX6_lastPlace_9 : decode cX6_lastPlace 9 = .ok (.if_icmp .ge 20, 3) := by decide +kernel
theorem dX6_lastPlace_12 : decode cX6_lastPlace 12 = .ok (.iload_n 1, 1) := by decide +kernel
theorem dX6_lastPlace_13 : decode cX6_lastPlace 13 = .ok (.aload_n 0, 1) := by decide +kernel
theorem dX6_lastPlace_14 : decode cX6_lastPlace 14 = .ok (.getfield 31, 3) := by decide +kernel
theorem dX6_lastPlace_17 : decode cX6_lastPlace 17 = .ok (.iload_n 2, 1) := by decide +kernel
theorem dX6_lastPlace_18 : decode cX6_lastPlace 18 = .ok (.iaload, 1) := by decide +kernel
theorem dX6_lastPlace_19 : decode cX6_lastPlace 19 = .ok (.invokestatic 231, 3) := by decide +kernel
theorem dX6_lastPlace_22 : decode cX6_lastPlace 22 = .ok (.istore_n 1, 1) := by decide +kernel
theorem dX6_lastPlace_23 : decode cX6_lastPlace 23 = .ok (.iinc 2 1, 3) := by decide +kernel
theorem dX6_lastPlace_26 : decode cX6_lastPlace 26 = .ok (.goto (-22), 3) := by decide +kernel
theorem dX6_lastPlace_29 : decode cX6_lastPlace 29 = .ok (.iload_n 1, 1) := by decide +kernel
theorem dX6_lastPlace_30 : decode cX6_lastPlace 30 = .ok (.ireturn, 1) := by decide +kernel
theorem dX6_sum_0 : decode cX6_sum 0 = .ok (.lconst 0, 1) := by decide +kernel
theorem dX6_sum_1 : decode cX6_sum 1 = .ok (.lstore_n 2, 1) := by decide +kernel
theorem dX6_sum_2 : decode cX6_sum 2 = .ok (.iconst 0, 1) := by decide +kernel
theorem dX6_sum_3 : decode cX6_sum 3 = .ok (.istore 4, 2) := by decide +kernel
theorem dX6_sum_5 : decode cX6_sum 5 = .ok (.iload 4, 2) := by decide +kernel
theorem dX6_sum_7 : decode cX6_sum 7 = .ok (.aload_n 0, 1) := by decide +kernel
theorem dX6_sum_8 : decode cX6_sum 8 = .ok (.getfield 202, 3) := by decide +kernel
theorem dX6_sum_11 : decode cX6_sum 11 = .ok (.if_icmp .ge 52, 3) := by decide +kernel
theorem dX6_sum_14 : decode cX6_sum 14 = .ok (.iload_n 1, 1) := by decide +kernel
theorem dX6_sum_15 : decode cX6_sum 15 = .ok (.iconst (-1), 1) := by decide +kernel
theorem dX6_sum_16 : decode cX6_sum 16 = .ok (.if_icmp .eq 14, 3) := by decide +kernel
theorem dX6_sum_19 : decode cX6_sum 19 = .ok (.aload_n 0, 1) := by decide +kernel
theorem dX6_sum_20 : decode cX6_sum 20 = .ok (.getfield 31, 3) := by decide +kernel
theorem dX6_sum_23 : decode cX6_sum 23 = .ok (.iload 4, 2) := by decide +kernel
theorem dX6_sum_25 : decode cX6_sum 25 = .ok (.iaload, 1) := by decide +kernel
theorem dX6_sum_26 : decode cX6_sum 26 = .ok (.iload_n 1, 1) := by decide +kernel
theorem dX6_sum_27 : decode cX6_sum 27 = .ok (.if_icmp .ne 30, 3) := by decide +kernel
theorem dX6_sum_30 : decode cX6_sum 30 = .ok (.lload_n 2, 1) := by decide +kernel
theorem dX6_sum_31 : decode cX6_sum 31 = .ok (.aload_n 0, 1) := by decide +kernel
theorem dX6_sum_32 : decode cX6_sum 32 = .ok (.getfield 28, 3) := by decide +kernel
theorem dX6_sum_35 : decode cX6_sum 35 = .ok (.iload 4, 2) := by decide +kernel
theorem dX6_sum_37 : decode cX6_sum 37 = .ok (.iaload, 1) := by decide +kernel
theorem dX6_sum_38 : decode cX6_sum 38 = .ok (.i2l, 1) := by decide +kernel
theorem dX6_sum_39 : decode cX6_sum 39 = .ok (.aload_n 0, 1) := by decide +kernel
theorem dX6_sum_40 : decode cX6_sum 40 = .ok (.getfield 45, 3) := by decide +kernel
theorem dX6_sum_43 : decode cX6_sum 43 = .ok (.aload_n 0, 1) := by decide +kernel
theorem dX6_sum_44 : decode cX6_sum 44 = .ok (.getfield 25, 3) := by decide +kernel
theorem dX6_sum_47 : decode cX6_sum 47 = .ok (.iload 4, 2) := by decide +kernel
theorem dX6_sum_49 : decode cX6_sum 49 = .ok (.iaload, 1) := by decide +kernel
theorem dX6_sum_50 : decode cX6_sum 50 = .ok (.invokevirtual 234, 3) := by decide +kernel
theorem dX6_sum_53 : decode cX6_sum 53 = .ok (.i2l, 1) := by decide +kernel
theorem dX6_sum_54 : decode cX6_sum 54 = .ok (.lmul, 1) := by decide +kernel
theorem dX6_sum_55 : decode cX6_sum 55 = .ok (.ladd, 1) := by decide +kernel
theorem dX6_sum_56 : decode cX6_sum 56 = .ok (.lstore_n 2, 1) := by decide +kernel
theorem dX6_sum_57 : decode cX6_sum 57 = .ok (.iinc 4 1, 3) := by decide +kernel
theorem dX6_sum_60 : decode cX6_sum 60 = .ok (.goto (-55), 3) := by decide +kernel
theorem dX6_sum_63 : decode cX6_sum 63 = .ok (.lload_n 2, 1) := by decide +kernel
theorem dX6_sum_64 : decode cX6_sum 64 = .ok (.lreturn, 1) := by decide +kernel
theorem dX6_different_0 : decode cX6_different 0 = .ok (.iconst 0, 1) := by decide +kernel
theorem dX6_different_1 : decode cX6_different 1 = .ok (.istore_n 1, 1) := by decide +kernel
theorem dX6_different_2 : decode cX6_different 2 = .ok (.iconst 0, 1) := by decide +kernel
theorem dX6_different_3 : decode cX6_different 3 = .ok (.istore_n 2, 1) := by decide +kernel
theorem dX6_different_4 : decode cX6_different 4 = .ok (.iload_n 2, 1) := by decide +kernel
theorem dX6_different_5 : decode cX6_different 5 = .ok (.aload_n 0, 1) := by decide +kernel
theorem dX6_different_6 : decode cX6_different 6 = .ok (.getfield 202, 3) := by decide +kernel
theorem dX6_different_9 : decode cX6_different 9 = .ok (.if_icmp .ge 73, 3) := by decide +kernel
theorem dX6_different_12 : decode cX6_different 12 = .ok (.iconst 1, 1) := by decide +kernel
theorem dX6_different_13 : decode cX6_different 13 = .ok (.istore_n 3, 1) := by decide +kernel
theorem dX6_different_14 : decode cX6_different 14 = .ok (.iconst 0, 1) := by decide +kernel
theorem dX6_different_15 : decode cX6_different 15 = .ok (.istore 4, 2) := by decide +kernel
theorem dX6_different_17 : decode cX6_different 17 = .ok (.iload 4, 2) := by decide +kernel
theorem dX6_different_19 : decode cX6_different 19 = .ok (.iload_n 2, 1) := by decide +kernel
theorem dX6_different_20 : decode cX6_different 20 = .ok (.if_icmp .ge 49, 3) := by decide +kernel
theorem dX6_different_23 : decode cX6_different 23 = .ok (.iload_n 3, 1) := by decide +kernel
theorem dX6_different_24 : decode cX6_different 24 = .ok (.ifCond .eq 45, 3) := by decide +kernel
theorem dX6_different_27 : decode cX6_different 27 = .ok (.aload_n 0, 1) := by decide +kernel
theorem dX6_different_28 : decode cX6_different 28 = .ok (.getfield 45, 3) := by decide +kernel
theorem dX6_different_31 : decode cX6_different 31 = .ok (.aload_n 0, 1) := by decide +kernel
theorem dX6_different_32 : decode cX6_different 32 = .ok (.getfield 25, 3) := by decide +kernel
theorem dX6_different_35 : decode cX6_different 35 = .ok (.iload 4, 2) := by decide +kernel
theorem dX6_different_37 : decode cX6_different 37 = .ok (.iaload, 1) := by decide +kernel
theorem dX6_different_38 : decode cX6_different 38 = .ok (.invokevirtual 234, 3) := by decide +kernel
theorem dX6_different_41 : decode cX6_different 41 = .ok (.aload_n 0, 1) := by decide +kernel
theorem dX6_different_42 : decode cX6_different 42 = .ok (.getfield 45, 3) := by decide +kernel
theorem dX6_different_45 : decode cX6_different 45 = .ok (.aload_n 0, 1) := by decide +kernel
theorem dX6_different_46 : decode cX6_different 46 = .ok (.getfield 25, 3) := by decide +kernel
theorem dX6_different_49 : decode cX6_different 49 = .ok (.iload_n 2, 1) := by decide +kernel
theorem dX6_different_50 : decode cX6_different 50 = .ok (.iaload, 1) := by decide +kernel
theorem dX6_different_51 : decode cX6_different 51 = .ok (.invokevirtual 234, 3) := by decide +kernel
theorem dX6_different_54 : decode cX6_different 54 = .ok (.if_icmp .eq 7, 3) := by decide +kernel
theorem dX6_different_57 : decode cX6_different 57 = .ok (.iconst 1, 1) := by decide +kernel
theorem dX6_different_58 : decode cX6_different 58 = .ok (.goto 4, 3) := by decide +kernel
theorem dX6_different_61 : decode cX6_different 61 = .ok (.iconst 0, 1) := by decide +kernel
theorem dX6_different_62 : decode cX6_different 62 = .ok (.istore_n 3, 1) := by decide +kernel
theorem dX6_different_63 : decode cX6_different 63 = .ok (.iinc 4 1, 3) := by decide +kernel
theorem dX6_different_66 : decode cX6_different 66 = .ok (.goto (-49), 3) := by decide +kernel
theorem dX6_different_69 : decode cX6_different 69 = .ok (.iload_n 3, 1) := by decide +kernel
theorem dX6_different_70 : decode cX6_different 70 = .ok (.ifCond .eq 6, 3) := by decide +kernel
theorem dX6_different_73 : decode cX6_different 73 = .ok (.iinc 1 1, 3) := by decide +kernel
theorem dX6_different_76 : decode cX6_different 76 = .ok (.iinc 2 1, 3) := by decide +kernel
theorem dX6_different_79 : decode cX6_different 79 = .ok (.goto (-75), 3) := by decide +kernel
theorem dX6_different_82 : decode cX6_different 82 = .ok (.iload_n 1, 1) := by decide +kernel
theorem dX6_different_83 : decode cX6_different 83 = .ok (.i2l, 1) := by decide +kernel
theorem dX6_different_84 : decode cX6_different 84 = .ok (.lreturn, 1) := by decide +kernel
theorem dX6_keepTop_0 : decode cX6_keepTop 0 = .ok (.aload_n 0, 1) := by decide +kernel
theorem dX6_keepTop_1 : decode cX6_keepTop 1 = .ok (.getfield 37, 3) := by decide +kernel
theorem dX6_keepTop_4 : decode cX6_keepTop 4 = .ok (.iload_n 1, 1) := by decide +kernel
theorem dX6_keepTop_5 : decode cX6_keepTop 5 = .ok (.invokevirtual 80, 3) := by decide +kernel
theorem dX6_keepTop_8 : decode cX6_keepTop 8 = .ok (.astore_n 3, 1) := by decide +kernel
theorem dX6_keepTop_9 : decode cX6_keepTop 9 = .ok (.aload_n 3, 1) := by decide +kernel
theorem dX6_keepTop_10 : decode cX6_keepTop 10 = .ok (.getfield 237, 3) := by decide +kernel
theorem dX6_keepTop_13 : decode cX6_keepTop 13 = .ok (.istore 4, 2) := by decide +kernel
theorem dX6_keepTop_15 : decode cX6_keepTop 15 = .ok (.iconst 0, 1) := by decide +kernel
theorem dX6_keepTop_16 : decode cX6_keepTop 16 = .ok (.istore 5, 2) := by decide +kernel
theorem dX6_keepTop_18 : decode cX6_keepTop 18 = .ok (.iconst 0, 1) := by decide +kernel
theorem dX6_keepTop_19 : decode cX6_keepTop 19 = .ok (.istore 6, 2) := by decide +kernel
theorem dX6_keepTop_21 : decode cX6_keepTop 21 = .ok (.iload 6, 2) := by decide +kernel
theorem dX6_keepTop_23 : decode cX6_keepTop 23 = .ok (.iload 4, 2) := by decide +kernel
theorem dX6_keepTop_25 : decode cX6_keepTop 25 = .ok (.if_icmp .ge 89, 3) := by decide +kernel
theorem dX6_keepTop_28 : decode cX6_keepTop 28 = .ok (.iload 5, 2) := by decide +kernel
theorem dX6_keepTop_30 : decode cX6_keepTop 30 = .ok (.bipush 12, 2) := by decide +kernel
theorem dX6_keepTop_32 : decode cX6_keepTop 32 = .ok (.if_icmp .ge 82, 3) := by decide +kernel
theorem dX6_keepTop_35 : decode cX6_keepTop 35 = .ok (.aload_n 3, 1) := by decide +kernel
theorem dX6_keepTop_36 : decode cX6_keepTop 36 = .ok (.iload 6, 2) := by decide +kernel
theorem dX6_keepTop_38 : decode cX6_keepTop 38 = .ok (.invokevirtual 240, 3) := by decide +kernel
theorem dX6_keepTop_41 : decode cX6_keepTop 41 = .ok (.istore 7, 2) := by decide +kernel
theorem dX6_keepTop_43 : decode cX6_keepTop 43 = .ok (.aload_n 0, 1) := by decide +kernel
theorem dX6_keepTop_44 : decode cX6_keepTop 44 = .ok (.getfield 37, 3) := by decide +kernel
theorem dX6_keepTop_47 : decode cX6_keepTop 47 = .ok (.invokevirtual 243, 3) := by decide +kernel
theorem dX6_keepTop_50 : decode cX6_keepTop 50 = .ok (.iload_n 1, 1) := by decide +kernel
theorem dX6_keepTop_51 : decode cX6_keepTop 51 = .ok (.iload 7, 2) := by decide +kernel
theorem dX6_keepTop_53 : decode cX6_keepTop 53 = .ok (.invokestatic 105, 3) := by decide +kernel
theorem dX6_keepTop_56 : decode cX6_keepTop 56 = .ok (.istore 8, 2) := by decide +kernel
theorem dX6_keepTop_58 : decode cX6_keepTop 58 = .ok (.aload_n 0, 1) := by decide +kernel
theorem dX6_keepTop_59 : decode cX6_keepTop 59 = .ok (.getfield 37, 3) := by decide +kernel
theorem dX6_keepTop_62 : decode cX6_keepTop 62 = .ok (.iload 8, 2) := by decide +kernel
theorem dX6_keepTop_64 : decode cX6_keepTop 64 = .ok (.invokevirtual 56, 3) := by decide +kernel
theorem dX6_keepTop_67 : decode cX6_keepTop 67 = .ok (.ifCond .eq 13, 3) := by decide +kernel
theorem dX6_keepTop_70 : decode cX6_keepTop 70 = .ok (.aload_n 0, 1) := by decide +kernel
theorem dX6_keepTop_71 : decode cX6_keepTop 71 = .ok (.iload 8, 2) := by decide +kernel
theorem dX6_keepTop_73 : decode cX6_keepTop 73 = .ok (.iconst 0, 1) := by decide +kernel
theorem dX6_keepTop_74 : decode cX6_keepTop 74 = .ok (.invokevirtual 62, 3) := by decide +kernel
theorem dX6_keepTop_77 : decode cX6_keepTop 77 = .ok (.goto 6, 3) := by decide +kernel
theorem dX6_keepTop_80 : decode cX6_keepTop 80 = .ok (.ldc2_w 66, 3) := by decide +kernel
theorem dX6_keepTop_83 : decode cX6_keepTop 83 = .ok (.lstore 9, 2) := by decide +kernel
theorem dX6_keepTop_85 : decode cX6_keepTop 85 = .ok (.lload 9, 2) := by decide +kernel
theorem dX6_keepTop_87 : decode cX6_keepTop 87 = .ok (.ldc2_w 66, 3) := by decide +kernel
theorem dX6_keepTop_90 : decode cX6_keepTop 90 = .ok (.lcmp, 1) := by decide +kernel
theorem dX6_keepTop_91 : decode cX6_keepTop 91 = .ok (.ifCond .eq 17, 3) := by decide +kernel
theorem dX6_keepTop_94 : decode cX6_keepTop 94 = .ok (.aload_n 0, 1) := by decide +kernel
theorem dX6_keepTop_95 : decode cX6_keepTop 95 = .ok (.aload_n 3, 1) := by decide +kernel
theorem dX6_keepTop_96 : decode cX6_keepTop 96 = .ok (.iload 5, 2) := by decide +kernel
theorem dX6_keepTop_98 : decode cX6_keepTop 98 = .ok (.iload 7, 2) := by decide +kernel
theorem dX6_keepTop_100 : decode cX6_keepTop 100 = .ok (.lload 9, 2) := by decide +kernel
theorem dX6_keepTop_102 : decode cX6_keepTop 102 = .ok (.invokevirtual 246, 3) := by decide +kernel
theorem dX6_keepTop_105 : decode cX6_keepTop 105 = .ok (.iinc 5 1, 3) := by decide +kernel
theorem dX6_keepTop_108 : decode cX6_keepTop 108 = .ok (.iinc 6 1, 3) := by decide +kernel
theorem dX6_keepTop_111 : decode cX6_keepTop 111 = .ok (.goto (-90), 3) := by decide +kernel
theorem dX6_keepTop_114 : decode cX6_keepTop 114 = .ok (.aload_n 3, 1) := by decide +kernel
theorem dX6_keepTop_115 : decode cX6_keepTop 115 = .ok (.iload 5, 2) := by decide +kernel
theorem dX6_keepTop_117 : decode cX6_keepTop 117 = .ok (.iload_n 2, 1) := by decide +kernel
theorem dX6_keepTop_118 : decode cX6_keepTop 118 = .ok (.invokestatic 250, 3) := by decide +kernel
theorem dX6_keepTop_121 : decode cX6_keepTop 121 = .ok (.putfield 237, 3) := by decide +kernel
theorem dX6_keepTop_124 : decode cX6_keepTop 124 = .ok (.return_, 1) := by decide +kernel
theorem dX6_rank_0 : decode cX6_rank 0 = .ok (.iload_n 2, 1) := by decide +kernel
theorem dX6_rank_1 : decode cX6_rank 1 = .ok (.istore 6, 2) := by decide +kernel
theorem dX6_rank_3 : decode cX6_rank 3 = .ok (.iload 6, 2) := by decide +kernel
theorem dX6_rank_5 : decode cX6_rank 5 = .ok (.ifCond .le 56, 3) := by decide +kernel
theorem dX6_rank_8 : decode cX6_rank 8 = .ok (.aload_n 0, 1) := by decide +kernel
theorem dX6_rank_9 : decode cX6_rank 9 = .ok (.getfield 34, 3) := by decide +kernel
theorem dX6_rank_12 : decode cX6_rank 12 = .ok (.iload 6, 2) := by decide +kernel
theorem dX6_rank_14 : decode cX6_rank 14 = .ok (.iconst 1, 1) := by decide +kernel
theorem dX6_rank_15 : decode cX6_rank 15 = .ok (.isub, 1) := by decide +kernel
theorem dX6_rank_16 : decode cX6_rank 16 = .ok (.laload, 1) := by decide +kernel
theorem dX6_rank_17 : decode cX6_rank 17 = .ok (.lload 4, 2) := by decide +kernel
theorem dX6_rank_19 : decode cX6_rank 19 = .ok (.lcmp, 1) := by decide +kernel
theorem dX6_rank_20 : decode cX6_rank 20 = .ok (.ifCond .ge 41, 3) := by decide +kernel
theorem dX6_rank_23 : decode cX6_rank 23 = .ok (.aload_n 0, 1) := by decide +kernel
theorem dX6_rank_24 : decode cX6_rank 24 = .ok (.getfield 34, 3) := by decide +kernel
theorem dX6_rank_27 : decode cX6_rank 27 = .ok (.iload 6, 2) := by decide +kernel
theorem dX6_rank_29 : decode cX6_rank 29 = .ok (.aload_n 0, 1) := by decide +kernel
theorem dX6_rank_30 : decode cX6_rank 30 = .ok (.getfield 34, 3) := by decide +kernel
theorem dX6_rank_33 : decode cX6_rank 33 = .ok (.iload 6, 2) := by decide +kernel
theorem dX6_rank_35 : decode cX6_rank 35 = .ok (.iconst 1, 1) := by decide +kernel
theorem dX6_rank_36 : decode cX6_rank 36 = .ok (.isub, 1) := by decide +kernel
theorem dX6_rank_37 : decode cX6_rank 37 = .ok (.laload, 1) := by decide +kernel
theorem dX6_rank_38 : decode cX6_rank 38 = .ok (.lastore, 1) := by decide +kernel
theorem dX6_rank_39 : decode cX6_rank 39 = .ok (.aload_n 1, 1) := by decide +kernel
theorem dX6_rank_40 : decode cX6_rank 40 = .ok (.getfield 253, 3) := by decide +kernel
theorem dX6_rank_43 : decode cX6_rank 43 = .ok (.iload 6, 2) := by decide +kernel
theorem dX6_rank_45 : decode cX6_rank 45 = .ok (.aload_n 1, 1) := by decide +kernel
theorem dX6_rank_46 : decode cX6_rank 46 = .ok (.getfield 253, 3) := by decide +kernel
theorem dX6_rank_49 : decode cX6_rank 49 = .ok (.iload 6, 2) := by decide +kernel
theorem dX6_rank_51 : decode cX6_rank 51 = .ok (.iconst 1, 1) := by decide +kernel
theorem dX6_rank_52 : decode cX6_rank 52 = .ok (.isub, 1) := by decide +kernel
theorem dX6_rank_53 : decode cX6_rank 53 = .ok (.iaload, 1) := by decide +kernel
theorem dX6_rank_54 : decode cX6_rank 54 = .ok (.iastore, 1) := by decide +kernel
theorem dX6_rank_55 : decode cX6_rank 55 = .ok (.iinc 6 (-1), 3) := by decide +kernel
theorem dX6_rank_58 : decode cX6_rank 58 = .ok (.goto (-55), 3) := by decide +kernel
theorem dX6_rank_61 : decode cX6_rank 61 = .ok (.aload_n 0, 1) := by decide +kernel
theorem dX6_rank_62 : decode cX6_rank 62 = .ok (.getfield 34, 3) := by decide +kernel
theorem dX6_rank_65 : decode cX6_rank 65 = .ok (.iload 6, 2) := by decide +kernel
theorem dX6_rank_67 : decode cX6_rank 67 = .ok (.lload 4, 2) := by decide +kernel
theorem dX6_rank_69 : decode cX6_rank 69 = .ok (.lastore, 1) := by decide +kernel
theorem dX6_rank_70 : decode cX6_rank 70 = .ok (.aload_n 1, 1) := by decide +kernel
theorem dX6_rank_71 : decode cX6_rank 71 = .ok (.getfield 253, 3) := by decide +kernel
theorem dX6_rank_74 : decode cX6_rank 74 = .ok (.iload 6, 2) := by decide +kernel
theorem dX6_rank_76 : decode cX6_rank 76 = .ok (.iload_n 3, 1) := by decide +kernel
theorem dX6_rank_77 : decode cX6_rank 77 = .ok (.iastore, 1) := by decide +kernel
theorem dX6_rank_78 : decode cX6_rank 78 = .ok (.return_, 1) := by decide +kernel
theorem dX7_init_0 : decode cX7_init 0 = .ok (.aload_n 0, 1) := by decide +kernel
theorem dX7_init_1 : decode cX7_init 1 = .ok (.invokespecial 3, 3) := by decide +kernel
theorem dX7_init_4 : decode cX7_init 4 = .ok (.aload_n 0, 1) := by decide +kernel
theorem dX7_init_5 : decode cX7_init 5 = .ok (.new 9, 3) := by decide +kernel
theorem dX7_init_8 : decode cX7_init 8 = .ok (.dup, 1) := by decide +kernel
theorem dX7_init_9 : decode cX7_init 9 = .ok (.invokespecial 11, 3) := by decide +kernel
theorem dX7_init_12 : decode cX7_init 12 = .ok (.putfield 12, 3) := by decide +kernel
theorem dX7_init_15 : decode cX7_init 15 = .ok (.aload_n 0, 1) := by decide +kernel
theorem dX7_init_16 : decode cX7_init 16 = .ok (.new 9, 3) := by decide +kernel
theorem dX7_init_19 : decode cX7_init 19 = .ok (.dup, 1) := by decide +kernel
theorem dX7_init_20 : decode cX7_init 20 = .ok (.invokespecial 11, 3) := by decide +kernel
theorem dX7_init_23 : decode cX7_init 23 = .ok (.putfield 18, 3) := by decide +kernel
theorem dX7_init_26 : decode cX7_init 26 = .ok (.aload_n 0, 1) := by decide +kernel
theorem dX7_init_27 : decode cX7_init 27 = .ok (.new 9, 3) := by decide +kernel
theorem dX7_init_30 : decode cX7_init 30 = .ok (.dup, 1) := by decide +kernel
theorem dX7_init_31 : decode cX7_init 31 = .ok (.invokespecial 11, 3) := by decide +kernel
theorem dX7_init_34 : decode cX7_init 34 = .ok (.putfield 21, 3) := by decide +kernel
theorem dX7_init_37 : decode cX7_init 37 = .ok (.aload_n 0, 1) := by decide +kernel
theorem dX7_init_38 : decode cX7_init 38 = .ok (.new 24, 3) := by decide +kernel
theorem dX7_init_41 : decode cX7_init 41 = .ok (.dup, 1) := by decide +kernel
theorem dX7_init_42 : decode cX7_init 42 = .ok (.invokespecial 26, 3) := by decide +kernel
theorem dX7_init_45 : decode cX7_init 45 = .ok (.putfield 27, 3) := by decide +kernel
theorem dX7_init_48 : decode cX7_init 48 = .ok (.return_, 1) := by decide +kernel
theorem dX7_dimension_0 : decode cX7_dimension 0 = .ok (.iload_n 1, 1) := by decide +kernel
theorem dX7_dimension_1 : decode cX7_dimension 1 = .ok (.ifCond .ne 8, 3) := by decide +kernel
theorem dX7_dimension_4 : decode cX7_dimension 4 = .ok (.aload_n 0, 1) := by decide +kernel
theorem dX7_dimension_5 : decode cX7_dimension 5 = .ok (.getfield 12, 3) := by decide +kernel
theorem dX7_dimension_8 : decode cX7_dimension 8 = .ok (.areturn, 1) := by decide +kernel
theorem dX7_dimension_9 : decode cX7_dimension 9 = .ok (.iload_n 1, 1) := by decide +kernel
theorem dX7_dimension_10 : decode cX7_dimension 10 = .ok (.iconst 1, 1) := by decide +kernel
theorem dX7_dimension_11 : decode cX7_dimension 11 = .ok (.if_icmp .ne 10, 3) := by decide +kernel
theorem dX7_dimension_14 : decode cX7_dimension 14 = .ok (.aload_n 0, 1) := by decide +kernel
theorem dX7_dimension_15 : decode cX7_dimension 15 = .ok (.getfield 18, 3) := by decide +kernel
theorem dX7_dimension_18 : decode cX7_dimension 18 = .ok (.goto 7, 3) := by decide +kernel
theorem dX7_dimension_21 : decode cX7_dimension 21 = .ok (.aload_n 0, 1) := by decide +kernel
theorem dX7_dimension_22 : decode cX7_dimension 22 = .ok (.getfield 21, 3) := by decide +kernel
theorem dX7_dimension_25 : decode cX7_dimension 25 = .ok (.areturn, 1) := by decide +kernel
theorem dX7_movesTold_0 : decode cX7_movesTold 0 = .ok (.aload_n 0, 1) := by decide +kernel
theorem dX7_movesTold_1 : decode cX7_movesTold 1 = .ok (.getfield 18, 3) := by decide +kernel
theorem dX7_movesTold_4 : decode cX7_movesTold 4 = .ok (.getfield 31, 3) := by decide +kernel
theorem dX7_movesTold_7 : decode cX7_movesTold 7 = .ok (.getfield 35, 3) := by decide +kernel
theorem dX7_movesTold_10 : decode cX7_movesTold 10 = .ok (.aload_n 0, 1) := by decide +kernel
theorem dX7_movesTold_11 : decode cX7_movesTold 11 = .ok (.getfield 21, 3) := by decide +kernel
theorem dX7_movesTold_14 : decode cX7_movesTold 14 = .ok (.getfield 31, 3) := by decide +kernel
theorem dX7_movesTold_17 : decode cX7_movesTold 17 = .ok (.getfield 35, 3) := by decide +kernel
theorem dX7_movesTold_20 : decode cX7_movesTold 20 = .ok (.iadd, 1) := by decide +kernel
theorem dX7_movesTold_21 : decode cX7_movesTold 21 = .ok (.ireturn, 1) := by decide +kernel
theorem dX7_weigh_0 : decode cX7_weigh 0 = .ok (.aload_n 0, 1) := by decide +kernel
theorem dX7_weigh_1 : decode cX7_weigh 1 = .ok (.getfield 12, 3) := by decide +kernel
theorem dX7_weigh_4 : decode cX7_weigh 4 = .ok (.aload_n 0, 1) := by decide +kernel
theorem dX7_weigh_5 : decode cX7_weigh 5 = .ok (.getfield 27, 3) := by decide +kernel
theorem dX7_weigh_8 : decode cX7_weigh 8 = .ok (.invokevirtual 41, 3) := by decide +kernel
theorem dX7_weigh_11 : decode cX7_weigh 11 = .ok (.aload_n 0, 1) := by decide +kernel
theorem dX7_weigh_12 : decode cX7_weigh 12 = .ok (.getfield 18, 3) := by decide +kernel
theorem dX7_weigh_15 : decode cX7_weigh 15 = .ok (.aload_n 0, 1) := by decide +kernel
theorem dX7_weigh_16 : decode cX7_weigh 16 = .ok (.getfield 27, 3) := by decide +kernel
theorem dX7_weigh_19 : decode cX7_weigh 19 = .ok (.invokevirtual 41, 3) := by decide +kernel
theorem dX7_weigh_22 : decode cX7_weigh 22 = .ok (.aload_n 0, 1) := by decide +kernel
theorem dX7_weigh_23 : decode cX7_weigh 23 = .ok (.getfield 21, 3) := by decide +kernel
theorem dX7_weigh_26 : decode cX7_weigh 26 = .ok (.aload_n 0, 1) := by decide +kernel
theorem dX7_weigh_27 : decode cX7_weigh 27 = .ok (.getfield 27, 3) := by decide +kernel
theorem dX7_weigh_30 : decode cX7_weigh 30 = .ok (.invokevirtual 41, 3) := by decide +kernel
theorem dX7_weigh_33 : decode cX7_weigh 33 = .ok (.return_, 1) := by decide +kernel
theorem dX7_isPlain_0 : decode cX7_isPlain 0 = .ok (.aload_n 0, 1) := by decide +kernel
theorem dX7_isPlain_1 : decode cX7_isPlain 1 = .ok (.getfield 12, 3) := by decide +kernel
theorem dX7_isPlain_4 : decode cX7_isPlain 4 = .ok (.iload_n 1, 1) := by decide +kernel
theorem dX7_isPlain_5 : decode cX7_isPlain 5 = .ok (.iconst 0, 1) := by decide +kernel
theorem dX7_isPlain_6 : decode cX7_isPlain 6 = .ok (.invokestatic 45, 3) := by decide +kernel
theorem dX7_isPlain_9 : decode cX7_isPlain 9 = .ok (.invokevirtual 49, 3) := by decide +kernel
theorem dX7_isPlain_12 : decode cX7_isPlain 12 = .ok (.ifCond .eq 37, 3) := by decide +kernel
theorem dX7_isPlain_15 : decode cX7_isPlain 15 = .ok (.aload_n 0, 1) := by decide +kernel
theorem dX7_isPlain_16 : decode cX7_isPlain 16 = .ok (.getfield 18, 3) := by decide +kernel
theorem dX7_isPlain_19 : decode cX7_isPlain 19 = .ok (.iload_n 1, 1) := by decide +kernel
theorem dX7_isPlain_20 : decode cX7_isPlain 20 = .ok (.iconst 1, 1) := by decide +kernel
theorem dX7_isPlain_21 : decode cX7_isPlain 21 = .ok (.invokestatic 45, 3) := by decide +kernel
theorem dX7_isPlain_24 : decode cX7_isPlain 24 = .ok (.invokevirtual 49, 3) := by decide +kernel
theorem dX7_isPlain_27 : decode cX7_isPlain 27 = .ok (.ifCond .eq 22, 3) := by decide +kernel
theorem dX7_isPlain_30 : decode cX7_isPlain 30 = .ok (.aload_n 0, 1) := by decide +kernel
theorem dX7_isPlain_31 : decode cX7_isPlain 31 = .ok (.getfield 21, 3) := by decide +kernel
theorem dX7_isPlain_34 : decode cX7_isPlain 34 = .ok (.iload_n 1, 1) := by decide +kernel
theorem dX7_isPlain_35 : decode cX7_isPlain 35 = .ok (.iconst 2, 1) := by decide +kernel
theorem dX7_isPlain_36 : decode cX7_isPlain 36 = .ok (.invokestatic 45, 3) := by decide +kernel
theorem dX7_isPlain_39 : decode cX7_isPlain 39 = .ok (.invokevirtual 49, 3) := by decide +kernel
theorem dX7_isPlain_42 : decode cX7_isPlain 42 = .ok (.ifCond .eq 7, 3) := by decide +kernel
theorem dX7_isPlain_45 : decode cX7_isPlain 45 = .ok (.iconst 1, 1) := by decide +kernel
theorem dX7_isPlain_46 : decode cX7_isPlain 46 = .ok (.goto 4, 3) := by decide +kernel
theorem dX7_isPlain_49 : decode cX7_isPlain 49 = .ok (.iconst 0, 1) := by decide +kernel
theorem dX7_isPlain_50 : decode cX7_isPlain 50 = .ok (.ireturn, 1) := by decide +kernel
theorem dX7_isSeen_0 : decode cX7_isSeen 0 = .ok (.aload_n 0, 1) := by decide +kernel
theorem dX7_isSeen_1 : decode cX7_isSeen 1 = .ok (.getfield 12, 3) := by decide +kernel
theorem dX7_isSeen_4 : decode cX7_isSeen 4 = .ok (.iload_n 1, 1) := by decide +kernel
theorem dX7_isSeen_5 : decode cX7_isSeen 5 = .ok (.iconst 0, 1) := by decide +kernel
theorem dX7_isSeen_6 : decode cX7_isSeen 6 = .ok (.invokestatic 45, 3) := by decide +kernel
theorem dX7_isSeen_9 : decode cX7_isSeen 9 = .ok (.invokevirtual 53, 3) := by decide +kernel
theorem dX7_isSeen_12 : decode cX7_isSeen 12 = .ok (.ifCond .eq 37, 3) := by decide +kernel
theorem dX7_isSeen_15 : decode cX7_isSeen 15 = .ok (.aload_n 0, 1) := by decide +kernel
theorem dX7_isSeen_16 : decode cX7_isSeen 16 = .ok (.getfield 18, 3) := by decide +kernel
theorem dX7_isSeen_19 : decode cX7_isSeen 19 = .ok (.iload_n 1, 1) := by decide +kernel
theorem dX7_isSeen_20 : decode cX7_isSeen 20 = .ok (.iconst 1, 1) := by decide +kernel
theorem dX7_isSeen_21 : decode cX7_isSeen 21 = .ok (.invokestatic 45, 3) := by decide +kernel
theorem dX7_isSeen_24 : decode cX7_isSeen 24 = .ok (.invokevirtual 53, 3) := by decide +kernel
theorem dX7_isSeen_27 : decode cX7_isSeen 27 = .ok (.ifCond .eq 22, 3) := by decide +kernel
theorem dX7_isSeen_30 : decode cX7_isSeen 30 = .ok (.aload_n 0, 1) := by decide +kernel
theorem dX7_isSeen_31 : decode cX7_isSeen 31 = .ok (.getfield 21, 3) := by decide +kernel
theorem dX7_isSeen_34 : decode cX7_isSeen 34 = .ok (.iload_n 1, 1) := by decide +kernel
theorem dX7_isSeen_35 : decode cX7_isSeen 35 = .ok (.iconst 2, 1) := by decide +kernel
theorem dX7_isSeen_36 : decode cX7_isSeen 36 = .ok (.invokestatic 45, 3) := by decide +kernel
theorem dX7_isSeen_39 : decode cX7_isSeen 39 = .ok (.invokevirtual 53, 3) := by decide +kernel
theorem dX7_isSeen_42 : decode cX7_isSeen 42 = .ok (.ifCond .eq 7, 3) := by decide +kernel
theorem dX7_isSeen_45 : decode cX7_isSeen 45 = .ok (.iconst 1, 1) := by decide +kernel
theorem dX7_isSeen_46 : decode cX7_isSeen 46 = .ok (.goto 4, 3) := by decide +kernel
theorem dX7_isSeen_49 : decode cX7_isSeen 49 = .ok (.iconst 0, 1) := by decide +kernel
theorem dX7_isSeen_50 : decode cX7_isSeen 50 = .ok (.ireturn, 1) := by decide +kernel
theorem dX7_isCalculated_0 : decode cX7_isCalculated 0 = .ok (.aload_n 0, 1) := by decide +kernel
theorem dX7_isCalculated_1 : decode cX7_isCalculated 1 = .ok (.iload_n 1, 1) := by decide +kernel
theorem dX7_isCalculated_2 : decode cX7_isCalculated 2 = .ok (.invokevirtual 56, 3) := by decide +kernel
theorem dX7_isCalculated_5 : decode cX7_isCalculated 5 = .ok (.iconst (-1), 1) := by decide +kernel
theorem dX7_isCalculated_6 : decode cX7_isCalculated 6 = .ok (.if_icmp .eq 7, 3) := by decide +kernel
theorem dX7_isCalculated_9 : decode cX7_isCalculated 9 = .ok (.iconst 1, 1) := by decide +kernel
theorem dX7_isCalculated_10 : decode cX7_isCalculated 10 = .ok (.goto 4, 3) := by decide +kernel
theorem dX7_isCalculated_13 : decode cX7_isCalculated 13 = .ok (.iconst 0, 1) := by decide +kernel
theorem dX7_isCalculated_14 : decode cX7_isCalculated 14 = .ok (.ireturn, 1) := by decide +kernel
theorem dX7_leading_0 : decode cX7_leading 0 = .ok (.iconst (-1), 1) := by decide +kernel
theorem dX7_leading_1 : decode cX7_leading 1 = .ok (.istore_n 2, 1) := by decide +kernel
theorem dX7_leading_2 : decode cX7_leading 2 = .ok (.iconst (-1), 1) := by decide +kernel
theorem dX7_leading_3 : decode cX7_leading 3 = .ok (.istore_n 3, 1) := by decide +kernel
theorem dX7_leading_4 : decode cX7_leading 4 = .ok (.iconst 0, 1) := by decide +kernel
theorem dX7_leading_5 : decode cX7_leading 5 = .ok (.istore 4, 2) := by decide +kernel
theorem dX7_leading_7 : decode cX7_leading 7 = .ok (.iload 4, 2) := by decide +kernel
theorem dX7_leading_9 : decode cX7_leading 9 = .ok (.iconst 3, 1) := by decide +kernel
theorem dX7_leading_10 : decode cX7_leading 10 = .ok (.if_icmp .ge 44, 3) := by decide +kernel
theorem dX7_leading_13 : decode cX7_leading 13 = .ok (.aload_n 0, 1) := by decide +kernel
theorem dX7_leading_14 : decode cX7_leading 14 = .ok (.iload 4, 2) := by decide +kernel
theorem dX7_leading_16 : decode cX7_leading 16 = .ok (.invokevirtual 60, 3) := by decide +kernel
theorem dX7_leading_19 : decode cX7_leading 19 = .ok (.iload_n 1, 1) := by decide +kernel
theorem dX7_leading_20 : decode cX7_leading 20 = .ok (.iload 4, 2) := by decide +kernel
theorem dX7_leading_22 : decode cX7_leading 22 = .ok (.invokestatic 45, 3) := by decide +kernel
theorem dX7_leading_25 : decode cX7_leading 25 = .ok (.invokevirtual 64, 3) := by decide +kernel
theorem dX7_leading_28 : decode cX7_leading 28 = .ok (.istore 5, 2) := by decide +kernel
theorem dX7_leading_30 : decode cX7_leading 30 = .ok (.iload 5, 2) := by decide +kernel
theorem dX7_leading_32 : decode cX7_leading 32 = .ok (.iconst (-1), 1) := by decide +kernel
theorem dX7_leading_33 : decode cX7_leading 33 = .ok (.if_icmp .eq 15, 3) := by decide +kernel
theorem dX7_leading_36 : decode cX7_leading 36 = .ok (.iload 5, 2) := by decide +kernel
theorem dX7_leading_38 : decode cX7_leading 38 = .ok (.iload_n 3, 1) := by decide +kernel
theorem dX7_leading_39 : decode cX7_leading 39 = .ok (.if_icmp .lt 9, 3) := by decide +kernel
theorem dX7_leading_42 : decode cX7_leading 42 = .ok (.iload 5, 2) := by decide +kernel
theorem dX7_leading_44 : decode cX7_leading 44 = .ok (.istore_n 3, 1) := by decide +kernel
theorem dX7_leading_45 : decode cX7_leading 45 = .ok (.iload 4, 2) := by decide +kernel
theorem dX7_leading_47 : decode cX7_leading 47 = .ok (.istore_n 2, 1) := by decide +kernel
theorem dX7_leading_48 : decode cX7_leading 48 = .ok (.iinc 4 1, 3) := by decide +kernel
theorem dX7_leading_51 : decode cX7_leading 51 = .ok (.goto (-44), 3) := by decide +kernel
theorem dX7_leading_54 : decode cX7_leading 54 = .ok (.iload_n 2, 1) := by decide +kernel
theorem dX7_leading_55 : decode cX7_leading 55 = .ok (.ireturn, 1) := by decide +kernel
theorem dX7_chosenCell_0 : decode cX7_chosenCell 0 = .ok (.aload_n 0, 1) := by decide +kernel
theorem dX7_chosenCell_1 : decode cX7_chosenCell 1 = .ok (.getfield 12, 3) := by decide +kernel
theorem dX7_chosenCell_4 : decode cX7_chosenCell 4 = .ok (.getfield 67, 3) := by decide +kernel
theorem dX7_chosenCell_7 : decode cX7_chosenCell 7 = .ok (.sipush 144, 3) := by decide +kernel
theorem dX7_chosenCell_10 : decode cX7_chosenCell 10 = .ok (.imul, 1) := by decide +kernel
theorem dX7_chosenCell_11 : decode cX7_chosenCell 11 = .ok (.aload_n 0, 1) := by decide +kernel
theorem dX7_chosenCell_12 : decode cX7_chosenCell 12 = .ok (.getfield 18, 3) := by decide +kernel
theorem dX7_chosenCell_15 : decode cX7_chosenCell 15 = .ok (.getfield 67, 3) := by decide +kernel
theorem dX7_chosenCell_18 : decode cX7_chosenCell 18 = .ok (.bipush 12, 2) := by decide +kernel
theorem dX7_chosenCell_20 : decode cX7_chosenCell 20 = .ok (.imul, 1) := by decide +kernel
theorem dX7_chosenCell_21 : decode cX7_chosenCell 21 = .ok (.iadd, 1) := by decide +kernel
theorem dX7_chosenCell_22 : decode cX7_chosenCell 22 = .ok (.aload_n 0, 1) := by decide +kernel
theorem dX7_chosenCell_23 : decode cX7_chosenCell 23 = .ok (.getfield 21, 3) := by decide +kernel
theorem dX7_chosenCell_26 : decode cX7_chosenCell 26 = .ok (.getfield 67, 3) := by decide +kernel
theorem dX7_chosenCell_29 : decode cX7_chosenCell 29 = .ok (.iadd, 1) := by decide +kernel
theorem dX7_chosenCell_30 : decode cX7_chosenCell 30 = .ok (.ireturn, 1) := by decide +kernel
theorem dX7_weight_0 : decode cX7_weight 0 = .ok (.aload_n 0, 1) := by decide +kernel
theorem dX7_weight_1 : decode cX7_weight 1 = .ok (.getfield 70, 3) := by decide +kernel
theorem dX7_weight_4 : decode cX7_weight 4 = .ok (.ifCond .eq 13, 3) := by decide +kernel
theorem dX7_weight_7 : decode cX7_weight 7 = .ok (.aload_n 0, 1) := by decide +kernel
theorem dX7_weight_8 : decode cX7_weight 8 = .ok (.iload_n 1, 1) := by decide +kernel
theorem dX7_weight_9 : decode cX7_weight 9 = .ok (.invokevirtual 74, 3) := by decide +kernel
theorem dX7_weight_12 : decode cX7_weight 12 = .ok (.ifCond .ne 5, 3) := by decide +kernel
