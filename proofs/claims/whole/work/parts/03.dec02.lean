theorem dX11_memberAt_35 : decode cX11_memberAt 35 = .ok (.ifCond .eq 5, 3) := by decide +kernel
theorem dX11_memberAt_38 : decode cX11_memberAt 38 = .ok (.iconst (-1), 1) := by decide +kernel
theorem dX11_memberAt_39 : decode cX11_memberAt 39 = .ok (.ireturn, 1) := by decide +kernel
theorem dX11_memberAt_40 : decode cX11_memberAt 40 = .ok (.aload_n 0, 1) := by decide +kernel
theorem dX11_memberAt_41 : decode cX11_memberAt 41 = .ok (.iload_n 1, 1) := by decide +kernel
theorem dX11_memberAt_42 : decode cX11_memberAt 42 = .ok (.iload_n 2, 1) := by decide +kernel
theorem dX11_memberAt_43 : decode cX11_memberAt 43 = .ok (.invokevirtual 180, 3) := by decide +kernel
theorem dX11_memberAt_46 : decode cX11_memberAt 46 = .ok (.istore 4, 2) := by decide +kernel
theorem dX11_memberAt_48 : decode cX11_memberAt 48 = .ok (.iload_n 3, 1) := by decide +kernel
theorem dX11_memberAt_49 : decode cX11_memberAt 49 = .ok (.tableswitch 99 0 3 #[31, 43, 63, 79], 31) := by decide +kernel
theorem dX11_memberAt_80 : decode cX11_memberAt 80 = .ok (.aload_n 0, 1) := by decide +kernel
theorem dX11_memberAt_81 : decode cX11_memberAt 81 = .ok (.getfield 15, 3) := by decide +kernel
theorem dX11_memberAt_84 : decode cX11_memberAt 84 = .ok (.bipush 12, 2) := by decide +kernel
theorem dX11_memberAt_86 : decode cX11_memberAt 86 = .ok (.iload_n 1, 1) := by decide +kernel
theorem dX11_memberAt_87 : decode cX11_memberAt 87 = .ok (.imul, 1) := by decide +kernel
theorem dX11_memberAt_88 : decode cX11_memberAt 88 = .ok (.iload_n 2, 1) := by decide +kernel
theorem dX11_memberAt_89 : decode cX11_memberAt 89 = .ok (.iadd, 1) := by decide +kernel
theorem dX11_memberAt_90 : decode cX11_memberAt 90 = .ok (.iaload, 1) := by decide +kernel
theorem dX11_memberAt_91 : decode cX11_memberAt 91 = .ok (.ireturn, 1) := by decide +kernel
theorem dX11_memberAt_92 : decode cX11_memberAt 92 = .ok (.iload 4, 2) := by decide +kernel
theorem dX11_memberAt_94 : decode cX11_memberAt 94 = .ok (.ifCond .eq 16, 3) := by decide +kernel
theorem dX11_memberAt_97 : decode cX11_memberAt 97 = .ok (.iload_n 2, 1) := by decide +kernel
theorem dX11_memberAt_98 : decode cX11_memberAt 98 = .ok (.ifCond .le 12, 3) := by decide +kernel
theorem dX11_memberAt_101 : decode cX11_memberAt 101 = .ok (.aload_n 0, 1) := by decide +kernel
theorem dX11_memberAt_102 : decode cX11_memberAt 102 = .ok (.iload_n 1, 1) := by decide +kernel
theorem dX11_memberAt_103 : decode cX11_memberAt 103 = .ok (.iload_n 2, 1) := by decide +kernel
theorem dX11_memberAt_104 : decode cX11_memberAt 104 = .ok (.invokevirtual 173, 3) := by decide +kernel
theorem dX11_memberAt_107 : decode cX11_memberAt 107 = .ok (.goto 4, 3) := by decide +kernel
theorem dX11_memberAt_110 : decode cX11_memberAt 110 = .ok (.iconst (-1), 1) := by decide +kernel
theorem dX11_memberAt_111 : decode cX11_memberAt 111 = .ok (.ireturn, 1) := by decide +kernel
theorem dX11_memberAt_112 : decode cX11_memberAt 112 = .ok (.iload 4, 2) := by decide +kernel
theorem dX11_memberAt_114 : decode cX11_memberAt 114 = .ok (.ifCond .eq 12, 3) := by decide +kernel
theorem dX11_memberAt_117 : decode cX11_memberAt 117 = .ok (.aload_n 0, 1) := by decide +kernel
theorem dX11_memberAt_118 : decode cX11_memberAt 118 = .ok (.iload_n 1, 1) := by decide +kernel
theorem dX11_memberAt_119 : decode cX11_memberAt 119 = .ok (.iload_n 2, 1) := by decide +kernel
theorem dX11_memberAt_120 : decode cX11_memberAt 120 = .ok (.invokevirtual 205, 3) := by decide +kernel
theorem dX11_memberAt_123 : decode cX11_memberAt 123 = .ok (.goto 4, 3) := by decide +kernel
theorem dX11_memberAt_126 : decode cX11_memberAt 126 = .ok (.iconst (-1), 1) := by decide +kernel
theorem dX11_memberAt_127 : decode cX11_memberAt 127 = .ok (.ireturn, 1) := by decide +kernel
theorem dX11_memberAt_128 : decode cX11_memberAt 128 = .ok (.iload 4, 2) := by decide +kernel
theorem dX11_memberAt_130 : decode cX11_memberAt 130 = .ok (.ifCond .eq 16, 3) := by decide +kernel
theorem dX11_memberAt_133 : decode cX11_memberAt 133 = .ok (.iload_n 1, 1) := by decide +kernel
theorem dX11_memberAt_134 : decode cX11_memberAt 134 = .ok (.ifCond .ne 12, 3) := by decide +kernel
theorem dX11_memberAt_137 : decode cX11_memberAt 137 = .ok (.aload_n 0, 1) := by decide +kernel
theorem dX11_memberAt_138 : decode cX11_memberAt 138 = .ok (.getfield 57, 3) := by decide +kernel
theorem dX11_memberAt_141 : decode cX11_memberAt 141 = .ok (.iload_n 2, 1) := by decide +kernel
theorem dX11_memberAt_142 : decode cX11_memberAt 142 = .ok (.iaload, 1) := by decide +kernel
theorem dX11_memberAt_143 : decode cX11_memberAt 143 = .ok (.goto 4, 3) := by decide +kernel
theorem dX11_memberAt_146 : decode cX11_memberAt 146 = .ok (.iconst (-1), 1) := by decide +kernel
theorem dX11_memberAt_147 : decode cX11_memberAt 147 = .ok (.ireturn, 1) := by decide +kernel
theorem dX11_memberAt_148 : decode cX11_memberAt 148 = .ok (.aload_n 0, 1) := by decide +kernel
theorem dX11_memberAt_149 : decode cX11_memberAt 149 = .ok (.iload_n 1, 1) := by decide +kernel
theorem dX11_memberAt_150 : decode cX11_memberAt 150 = .ok (.iload_n 2, 1) := by decide +kernel
theorem dX11_memberAt_151 : decode cX11_memberAt 151 = .ok (.invokevirtual 208, 3) := by decide +kernel
theorem dX11_memberAt_154 : decode cX11_memberAt 154 = .ok (.ifCond .eq 7, 3) := by decide +kernel
theorem dX11_memberAt_157 : decode cX11_memberAt 157 = .ok (.iconst 1, 1) := by decide +kernel
theorem dX11_memberAt_158 : decode cX11_memberAt 158 = .ok (.goto 4, 3) := by decide +kernel
theorem dX11_memberAt_161 : decode cX11_memberAt 161 = .ok (.iconst 0, 1) := by decide +kernel
theorem dX11_memberAt_162 : decode cX11_memberAt 162 = .ok (.ireturn, 1) := by decide +kernel
theorem dX11_pileOf_0 : decode cX11_pileOf 0 = .ok (.iconst 0, 1) := by decide +kernel
theorem dX11_pileOf_1 : decode cX11_pileOf 1 = .ok (.istore_n 1, 1) := by decide +kernel
theorem dX11_pileOf_2 : decode cX11_pileOf 2 = .ok (.iconst 0, 1) := by decide +kernel
theorem dX11_pileOf_3 : decode cX11_pileOf 3 = .ok (.istore_n 2, 1) := by decide +kernel
theorem dX11_pileOf_4 : decode cX11_pileOf 4 = .ok (.iload_n 2, 1) := by decide +kernel
theorem dX11_pileOf_5 : decode cX11_pileOf 5 = .ok (.aload_n 0, 1) := by decide +kernel
theorem dX11_pileOf_6 : decode cX11_pileOf 6 = .ok (.getfield 42, 3) := by decide +kernel
theorem dX11_pileOf_9 : decode cX11_pileOf 9 = .ok (.bipush 36, 2) := by decide +kernel
theorem dX11_pileOf_11 : decode cX11_pileOf 11 = .ok (.iaload, 1) := by decide +kernel
theorem dX11_pileOf_12 : decode cX11_pileOf 12 = .ok (.if_icmp .ge 31, 3) := by decide +kernel
theorem dX11_pileOf_15 : decode cX11_pileOf 15 = .ok (.iload_n 1, 1) := by decide +kernel
theorem dX11_pileOf_16 : decode cX11_pileOf 16 = .ok (.aload_n 0, 1) := by decide +kernel
theorem dX11_pileOf_17 : decode cX11_pileOf 17 = .ok (.getfield 33, 3) := by decide +kernel
theorem dX11_pileOf_20 : decode cX11_pileOf 20 = .ok (.sipush 360, 3) := by decide +kernel
theorem dX11_pileOf_23 : decode cX11_pileOf 23 = .ok (.iload_n 2, 1) := by decide +kernel
theorem dX11_pileOf_24 : decode cX11_pileOf 24 = .ok (.iadd, 1) := by decide +kernel
theorem dX11_pileOf_25 : decode cX11_pileOf 25 = .ok (.iaload, 1) := by decide +kernel
theorem dX11_pileOf_26 : decode cX11_pileOf 26 = .ok (.iconst 3, 1) := by decide +kernel
theorem dX11_pileOf_27 : decode cX11_pileOf 27 = .ok (.if_icmp .ge 7, 3) := by decide +kernel
theorem dX11_pileOf_30 : decode cX11_pileOf 30 = .ok (.iconst 1, 1) := by decide +kernel
theorem dX11_pileOf_31 : decode cX11_pileOf 31 = .ok (.goto 4, 3) := by decide +kernel
theorem dX11_pileOf_34 : decode cX11_pileOf 34 = .ok (.iconst (-1), 1) := by decide +kernel
theorem dX11_pileOf_35 : decode cX11_pileOf 35 = .ok (.iadd, 1) := by decide +kernel
theorem dX11_pileOf_36 : decode cX11_pileOf 36 = .ok (.istore_n 1, 1) := by decide +kernel
theorem dX11_pileOf_37 : decode cX11_pileOf 37 = .ok (.iinc 2 1, 3) := by decide +kernel
theorem dX11_pileOf_40 : decode cX11_pileOf 40 = .ok (.goto (-36), 3) := by decide +kernel
theorem dX11_pileOf_43 : decode cX11_pileOf 43 = .ok (.iload_n 1, 1) := by decide +kernel
theorem dX11_pileOf_44 : decode cX11_pileOf 44 = .ok (.ireturn, 1) := by decide +kernel
theorem dX11_word_0 : decode cX11_word 0 = .ok (.aload_n 0, 1) := by decide +kernel
theorem dX11_word_1 : decode cX11_word 1 = .ok (.iload_n 1, 1) := by decide +kernel
theorem dX11_word_2 : decode cX11_word 2 = .ok (.i2l, 1) := by decide +kernel
theorem dX11_word_3 : decode cX11_word 3 = .ok (.lconst 0, 1) := by decide +kernel
theorem dX11_word_4 : decode cX11_word 4 = .ok (.ldc2_w 211, 3) := by decide +kernel
theorem dX11_word_7 : decode cX11_word 7 = .ok (.invokevirtual 145, 3) := by decide +kernel
theorem dX11_word_10 : decode cX11_word 10 = .ok (.ifCond .eq 67, 3) := by decide +kernel
theorem dX11_word_13 : decode cX11_word 13 = .ok (.iload_n 1, 1) := by decide +kernel
theorem dX11_word_14 : decode cX11_word 14 = .ok (.ifCond .ne 18, 3) := by decide +kernel
theorem dX11_word_17 : decode cX11_word 17 = .ok (.aload_n 0, 1) := by decide +kernel
theorem dX11_word_18 : decode cX11_word 18 = .ok (.iload_n 2, 1) := by decide +kernel
theorem dX11_word_19 : decode cX11_word 19 = .ok (.i2l, 1) := by decide +kernel
theorem dX11_word_20 : decode cX11_word 20 = .ok (.ldc2_w 213, 3) := by decide +kernel
theorem dX11_word_23 : decode cX11_word 23 = .ok (.ldc2_w 215, 3) := by decide +kernel
theorem dX11_word_26 : decode cX11_word 26 = .ok (.invokevirtual 145, 3) := by decide +kernel
theorem dX11_word_29 : decode cX11_word 29 = .ok (.ifCond .eq 48, 3) := by decide +kernel
theorem dX11_word_32 : decode cX11_word 32 = .ok (.iload_n 1, 1) := by decide +kernel
theorem dX11_word_33 : decode cX11_word 33 = .ok (.iconst 1, 1) := by decide +kernel
theorem dX11_word_34 : decode cX11_word 34 = .ok (.if_icmp .eq 8, 3) := by decide +kernel
theorem dX11_word_37 : decode cX11_word 37 = .ok (.iload_n 1, 1) := by decide +kernel
theorem dX11_word_38 : decode cX11_word 38 = .ok (.iconst 2, 1) := by decide +kernel
theorem dX11_word_39 : decode cX11_word 39 = .ok (.if_icmp .ne 16, 3) := by decide +kernel
theorem dX11_word_42 : decode cX11_word 42 = .ok (.aload_n 0, 1) := by decide +kernel
theorem dX11_word_43 : decode cX11_word 43 = .ok (.iload_n 2, 1) := by decide +kernel
theorem dX11_word_44 : decode cX11_word 44 = .ok (.i2l, 1) := by decide +kernel
theorem dX11_word_45 : decode cX11_word 45 = .ok (.lconst 0, 1) := by decide +kernel
theorem dX11_word_46 : decode cX11_word 46 = .ok (.ldc2_w 217, 3) := by decide +kernel
theorem dX11_word_49 : decode cX11_word 49 = .ok (.invokevirtual 145, 3) := by decide +kernel
theorem dX11_word_52 : decode cX11_word 52 = .ok (.ifCond .eq 25, 3) := by decide +kernel
theorem dX11_word_55 : decode cX11_word 55 = .ok (.iload_n 1, 1) := by decide +kernel
theorem dX11_word_56 : decode cX11_word 56 = .ok (.iconst 1, 1) := by decide +kernel
theorem dX11_word_57 : decode cX11_word 57 = .ok (.if_icmp .ne 16, 3) := by decide +kernel
theorem dX11_word_60 : decode cX11_word 60 = .ok (.aload_n 0, 1) := by decide +kernel
theorem dX11_word_61 : decode cX11_word 61 = .ok (.iload_n 3, 1) := by decide +kernel
theorem dX11_word_62 : decode cX11_word 62 = .ok (.i2l, 1) := by decide +kernel
theorem dX11_word_63 : decode cX11_word 63 = .ok (.lconst 0, 1) := by decide +kernel
theorem dX11_word_64 : decode cX11_word 64 = .ok (.ldc2_w 217, 3) := by decide +kernel
theorem dX11_word_67 : decode cX11_word 67 = .ok (.invokevirtual 145, 3) := by decide +kernel
theorem dX11_word_70 : decode cX11_word 70 = .ok (.ifCond .eq 7, 3) := by decide +kernel
theorem dX11_word_73 : decode cX11_word 73 = .ok (.iconst 1, 1) := by decide +kernel
theorem dX11_word_74 : decode cX11_word 74 = .ok (.goto 4, 3) := by decide +kernel
theorem dX11_word_77 : decode cX11_word 77 = .ok (.iconst 0, 1) := by decide +kernel
theorem dX11_word_78 : decode cX11_word 78 = .ok (.istore 4, 2) := by decide +kernel
theorem dX11_word_80 : decode cX11_word 80 = .ok (.aload_n 0, 1) := by decide +kernel
theorem dX11_word_81 : decode cX11_word 81 = .ok (.iload 4, 2) := by decide +kernel
theorem dX11_word_83 : decode cX11_word 83 = .ok (.ifCond .ne 7, 3) := by decide +kernel
theorem dX11_word_86 : decode cX11_word 86 = .ok (.iconst 1, 1) := by decide +kernel
theorem dX11_word_87 : decode cX11_word 87 = .ok (.goto 33, 3) := by decide +kernel
theorem dX11_word_90 : decode cX11_word 90 = .ok (.aload_n 0, 1) := by decide +kernel
theorem dX11_word_91 : decode cX11_word 91 = .ok (.getfield 42, 3) := by decide +kernel
theorem dX11_word_94 : decode cX11_word 94 = .ok (.bipush 36, 2) := by decide +kernel
theorem dX11_word_96 : decode cX11_word 96 = .ok (.iaload, 1) := by decide +kernel
theorem dX11_word_97 : decode cX11_word 97 = .ok (.bipush 10, 2) := by decide +kernel
theorem dX11_word_99 : decode cX11_word 99 = .ok (.if_icmp .eq 16, 3) := by decide +kernel
theorem dX11_word_102 : decode cX11_word 102 = .ok (.iload_n 1, 1) := by decide +kernel
theorem dX11_word_103 : decode cX11_word 103 = .ok (.iconst 2, 1) := by decide +kernel
theorem dX11_word_104 : decode cX11_word 104 = .ok (.if_icmp .le 15, 3) := by decide +kernel
theorem dX11_word_107 : decode cX11_word 107 = .ok (.aload_n 0, 1) := by decide +kernel
theorem dX11_word_108 : decode cX11_word 108 = .ok (.invokevirtual 219, 3) := by decide +kernel
theorem dX11_word_111 : decode cX11_word 111 = .ok (.iconst 2, 1) := by decide +kernel
theorem dX11_word_112 : decode cX11_word 112 = .ok (.if_icmp .ge 7, 3) := by decide +kernel
theorem dX11_word_115 : decode cX11_word 115 = .ok (.iconst 2, 1) := by decide +kernel
theorem dX11_word_116 : decode cX11_word 116 = .ok (.goto 4, 3) := by decide +kernel
theorem dX11_word_119 : decode cX11_word 119 = .ok (.iconst 0, 1) := by decide +kernel
theorem dX11_word_120 : decode cX11_word 120 = .ok (.invokevirtual 185, 3) := by decide +kernel
theorem dX11_word_123 : decode cX11_word 123 = .ok (.ifCond .eq 5, 3) := by decide +kernel
theorem dX11_word_126 : decode cX11_word 126 = .ok (.iconst (-1), 1) := by decide +kernel
theorem dX11_word_127 : decode cX11_word 127 = .ok (.ireturn, 1) := by decide +kernel
theorem dX11_word_128 : decode cX11_word 128 = .ok (.aload_n 0, 1) := by decide +kernel
theorem dX11_word_129 : decode cX11_word 129 = .ok (.getfield 33, 3) := by decide +kernel
theorem dX11_word_132 : decode cX11_word 132 = .ok (.sipush 360, 3) := by decide +kernel
theorem dX11_word_135 : decode cX11_word 135 = .ok (.aload_n 0, 1) := by decide +kernel
theorem dX11_word_136 : decode cX11_word 136 = .ok (.getfield 42, 3) := by decide +kernel
theorem dX11_word_139 : decode cX11_word 139 = .ok (.bipush 36, 2) := by decide +kernel
theorem dX11_word_141 : decode cX11_word 141 = .ok (.iaload, 1) := by decide +kernel
theorem dX11_word_142 : decode cX11_word 142 = .ok (.iadd, 1) := by decide +kernel
theorem dX11_word_143 : decode cX11_word 143 = .ok (.iload_n 1, 1) := by decide +kernel
theorem dX11_word_144 : decode cX11_word 144 = .ok (.iastore, 1) := by decide +kernel
theorem dX11_word_145 : decode cX11_word 145 = .ok (.aload_n 0, 1) := by decide +kernel
theorem dX11_word_146 : decode cX11_word 146 = .ok (.getfield 36, 3) := by decide +kernel
theorem dX11_word_149 : decode cX11_word 149 = .ok (.sipush 360, 3) := by decide +kernel
theorem dX11_word_152 : decode cX11_word 152 = .ok (.aload_n 0, 1) := by decide +kernel
theorem dX11_word_153 : decode cX11_word 153 = .ok (.getfield 42, 3) := by decide +kernel
theorem dX11_word_156 : decode cX11_word 156 = .ok (.bipush 36, 2) := by decide +kernel
theorem dX11_word_158 : decode cX11_word 158 = .ok (.iaload, 1) := by decide +kernel
theorem dX11_word_159 : decode cX11_word 159 = .ok (.iadd, 1) := by decide +kernel
theorem dX11_word_160 : decode cX11_word 160 = .ok (.iload_n 2, 1) := by decide +kernel
theorem dX11_word_161 : decode cX11_word 161 = .ok (.iastore, 1) := by decide +kernel
theorem dX11_word_162 : decode cX11_word 162 = .ok (.aload_n 0, 1) := by decide +kernel
theorem dX11_word_163 : decode cX11_word 163 = .ok (.getfield 39, 3) := by decide +kernel
theorem dX11_word_166 : decode cX11_word 166 = .ok (.sipush 360, 3) := by decide +kernel
theorem dX11_word_169 : decode cX11_word 169 = .ok (.aload_n 0, 1) := by decide +kernel
theorem dX11_word_170 : decode cX11_word 170 = .ok (.getfield 42, 3) := by decide +kernel
theorem dX11_word_173 : decode cX11_word 173 = .ok (.bipush 36, 2) := by decide +kernel
theorem dX11_word_175 : decode cX11_word 175 = .ok (.iaload, 1) := by decide +kernel
theorem dX11_word_176 : decode cX11_word 176 = .ok (.iadd, 1) := by decide +kernel
theorem dX11_word_177 : decode cX11_word 177 = .ok (.iload_n 3, 1) := by decide +kernel
theorem dX11_word_178 : decode cX11_word 178 = .ok (.iastore, 1) := by decide +kernel
theorem dX11_word_179 : decode cX11_word 179 = .ok (.aload_n 0, 1) := by decide +kernel
theorem dX11_word_180 : decode cX11_word 180 = .ok (.getfield 42, 3) := by decide +kernel
theorem dX11_word_183 : decode cX11_word 183 = .ok (.bipush 36, 2) := by decide +kernel
theorem dX11_word_185 : decode cX11_word 185 = .ok (.dup2, 1) := by decide +kernel
theorem dX11_word_186 : decode cX11_word 186 = .ok (.iaload, 1) := by decide +kernel
theorem dX11_word_187 : decode cX11_word 187 = .ok (.iconst 1, 1) := by decide +kernel
theorem dX11_word_188 : decode cX11_word 188 = .ok (.iadd, 1) := by decide +kernel
theorem dX11_word_189 : decode cX11_word 189 = .ok (.iastore, 1) := by decide +kernel
theorem dX11_word_190 : decode cX11_word 190 = .ok (.aload_n 0, 1) := by decide +kernel
theorem dX11_word_191 : decode cX11_word 191 = .ok (.getfield 42, 3) := by decide +kernel
theorem dX11_word_194 : decode cX11_word 194 = .ok (.bipush 36, 2) := by decide +kernel
theorem dX11_word_196 : decode cX11_word 196 = .ok (.iaload, 1) := by decide +kernel
theorem dX11_word_197 : decode cX11_word 197 = .ok (.ireturn, 1) := by decide +kernel
theorem dX11_calculate_0 : decode cX11_calculate 0 = .ok (.aload_n 0, 1) := by decide +kernel
theorem dX11_calculate_1 : decode cX11_calculate 1 = .ok (.iload_n 1, 1) := by decide +kernel
theorem dX11_calculate_2 : decode cX11_calculate 2 = .ok (.invokevirtual 149, 3) := by decide +kernel
theorem dX11_calculate_5 : decode cX11_calculate 5 = .ok (.istore_n 3, 1) := by decide +kernel
theorem dX11_calculate_6 : decode cX11_calculate 6 = .ok (.iload_n 3, 1) := by decide +kernel
theorem dX11_calculate_7 : decode cX11_calculate 7 = .ok (.istore 4, 2) := by decide +kernel
theorem dX11_calculate_9 : decode cX11_calculate 9 = .ok (.iconst 0, 1) := by decide +kernel
theorem dX11_calculate_10 : decode cX11_calculate 10 = .ok (.istore 5, 2) := by decide +kernel
theorem dX11_calculate_12 : decode cX11_calculate 12 = .ok (.iload 5, 2) := by decide +kernel
theorem dX11_calculate_14 : decode cX11_calculate 14 = .ok (.aload_n 0, 1) := by decide +kernel
theorem dX11_calculate_15 : decode cX11_calculate 15 = .ok (.getfield 42, 3) := by decide +kernel
theorem dX11_calculate_18 : decode cX11_calculate 18 = .ok (.bipush 36, 2) := by decide +kernel
theorem dX11_calculate_20 : decode cX11_calculate 20 = .ok (.iaload, 1) := by decide +kernel
theorem dX11_calculate_21 : decode cX11_calculate 21 = .ok (.if_icmp .ge 73, 3) := by decide +kernel
theorem dX11_calculate_24 : decode cX11_calculate 24 = .ok (.iload_n 3, 1) := by decide +kernel
theorem dX11_calculate_25 : decode cX11_calculate 25 = .ok (.ifCond .eq 69, 3) := by decide +kernel
theorem dX11_calculate_28 : decode cX11_calculate 28 = .ok (.iload 4, 2) := by decide +kernel
theorem dX11_calculate_30 : decode cX11_calculate 30 = .ok (.aload_n 0, 1) := by decide +kernel
theorem dX11_calculate_31 : decode cX11_calculate 31 = .ok (.getfield 33, 3) := by decide +kernel
theorem dX11_calculate_34 : decode cX11_calculate 34 = .ok (.sipush 360, 3) := by decide +kernel
theorem dX11_calculate_37 : decode cX11_calculate 37 = .ok (.iload 5, 2) := by decide +kernel
theorem dX11_calculate_39 : decode cX11_calculate 39 = .ok (.iadd, 1) := by decide +kernel
theorem dX11_calculate_40 : decode cX11_calculate 40 = .ok (.iaload, 1) := by decide +kernel
theorem dX11_calculate_41 : decode cX11_calculate 41 = .ok (.iconst 1, 1) := by decide +kernel
theorem dX11_calculate_42 : decode cX11_calculate 42 = .ok (.if_icmp .eq 18, 3) := by decide +kernel
theorem dX11_calculate_45 : decode cX11_calculate 45 = .ok (.aload_n 0, 1) := by decide +kernel
theorem dX11_calculate_46 : decode cX11_calculate 46 = .ok (.getfield 33, 3) := by decide +kernel
theorem dX11_calculate_49 : decode cX11_calculate 49 = .ok (.sipush 360, 3) := by decide +kernel
theorem dX11_calculate_52 : decode cX11_calculate 52 = .ok (.iload 5, 2) := by decide +kernel
theorem dX11_calculate_54 : decode cX11_calculate 54 = .ok (.iadd, 1) := by decide +kernel
theorem dX11_calculate_55 : decode cX11_calculate 55 = .ok (.iaload, 1) := by decide +kernel
theorem dX11_calculate_56 : decode cX11_calculate 56 = .ok (.iconst 2, 1) := by decide +kernel
theorem dX11_calculate_57 : decode cX11_calculate 57 = .ok (.if_icmp .ne 23, 3) := by decide +kernel
theorem dX11_calculate_60 : decode cX11_calculate 60 = .ok (.aload_n 0, 1) := by decide +kernel
theorem dX11_calculate_61 : decode cX11_calculate 61 = .ok (.getfield 36, 3) := by decide +kernel
theorem dX11_calculate_64 : decode cX11_calculate 64 = .ok (.sipush 360, 3) := by decide +kernel
theorem dX11_calculate_67 : decode cX11_calculate 67 = .ok (.iload 5, 2) := by decide +kernel
theorem dX11_calculate_69 : decode cX11_calculate 69 = .ok (.iadd, 1) := by decide +kernel
theorem dX11_calculate_70 : decode cX11_calculate 70 = .ok (.iaload, 1) := by decide +kernel
theorem dX11_calculate_71 : decode cX11_calculate 71 = .ok (.aload_n 0, 1) := by decide +kernel
theorem dX11_calculate_72 : decode cX11_calculate 72 = .ok (.getfield 9, 3) := by decide +kernel
theorem dX11_calculate_75 : decode cX11_calculate 75 = .ok (.iload_n 1, 1) := by decide +kernel
theorem dX11_calculate_76 : decode cX11_calculate 76 = .ok (.iaload, 1) := by decide +kernel
theorem dX11_calculate_77 : decode cX11_calculate 77 = .ok (.if_icmp .ge 7, 3) := by decide +kernel
theorem dX11_calculate_80 : decode cX11_calculate 80 = .ok (.iconst 1, 1) := by decide +kernel
theorem dX11_calculate_81 : decode cX11_calculate 81 = .ok (.goto 4, 3) := by decide +kernel
theorem dX11_calculate_84 : decode cX11_calculate 84 = .ok (.iconst 0, 1) := by decide +kernel
theorem dX11_calculate_85 : decode cX11_calculate 85 = .ok (.iand, 1) := by decide +kernel
theorem dX11_calculate_86 : decode cX11_calculate 86 = .ok (.istore 4, 2) := by decide +kernel
theorem dX11_calculate_88 : decode cX11_calculate 88 = .ok (.iinc 5 1, 3) := by decide +kernel
theorem dX11_calculate_91 : decode cX11_calculate 91 = .ok (.goto (-79), 3) := by decide +kernel
theorem dX11_calculate_94 : decode cX11_calculate 94 = .ok (.aload_n 0, 1) := by decide +kernel
theorem dX11_calculate_95 : decode cX11_calculate 95 = .ok (.iload_n 3, 1) := by decide +kernel
theorem dX11_calculate_96 : decode cX11_calculate 96 = .ok (.ifCond .ne 7, 3) := by decide +kernel
theorem dX11_calculate_99 : decode cX11_calculate 99 = .ok (.iconst 1, 1) := by decide +kernel
theorem dX11_calculate_100 : decode cX11_calculate 100 = .ok (.goto 49, 3) := by decide +kernel
theorem dX11_calculate_103 : decode cX11_calculate 103 = .ok (.aload_n 0, 1) := by decide +kernel
theorem dX11_calculate_104 : decode cX11_calculate 104 = .ok (.iload_n 2, 1) := by decide +kernel
theorem dX11_calculate_105 : decode cX11_calculate 105 = .ok (.i2l, 1) := by decide +kernel
theorem dX11_calculate_106 : decode cX11_calculate 106 = .ok (.lconst 0, 1) := by decide +kernel
theorem dX11_calculate_107 : decode cX11_calculate 107 = .ok (.ldc2_w 223, 3) := by decide +kernel
theorem dX11_calculate_110 : decode cX11_calculate 110 = .ok (.invokevirtual 145, 3) := by decide +kernel
theorem dX11_calculate_113 : decode cX11_calculate 113 = .ok (.ifCond .ne 7, 3) := by decide +kernel
theorem dX11_calculate_116 : decode cX11_calculate 116 = .ok (.iconst 2, 1) := by decide +kernel
theorem dX11_calculate_117 : decode cX11_calculate 117 = .ok (.goto 32, 3) := by decide +kernel
theorem dX11_calculate_120 : decode cX11_calculate 120 = .ok (.aload_n 0, 1) := by decide +kernel
theorem dX11_calculate_121 : decode cX11_calculate 121 = .ok (.invokevirtual 219, 3) := by decide +kernel
theorem dX11_calculate_124 : decode cX11_calculate 124 = .ok (.iconst 1, 1) := by decide +kernel
theorem dX11_calculate_125 : decode cX11_calculate 125 = .ok (.if_icmp .ne 19, 3) := by decide +kernel
theorem dX11_calculate_128 : decode cX11_calculate 128 = .ok (.iload 4, 2) := by decide +kernel
theorem dX11_calculate_130 : decode cX11_calculate 130 = .ok (.ifCond .eq 14, 3) := by decide +kernel
theorem dX11_calculate_133 : decode cX11_calculate 133 = .ok (.aload_n 0, 1) := by decide +kernel
theorem dX11_calculate_134 : decode cX11_calculate 134 = .ok (.getfield 9, 3) := by decide +kernel
theorem dX11_calculate_137 : decode cX11_calculate 137 = .ok (.iload_n 1, 1) := by decide +kernel
theorem dX11_calculate_138 : decode cX11_calculate 138 = .ok (.iaload, 1) := by decide +kernel
theorem dX11_calculate_139 : decode cX11_calculate 139 = .ok (.bipush 12, 2) := by decide +kernel
theorem dX11_calculate_141 : decode cX11_calculate 141 = .ok (.if_icmp .ne 7, 3) := by decide +kernel
theorem dX11_calculate_144 : decode cX11_calculate 144 = .ok (.iconst 3, 1) := by decide +kernel
theorem dX11_calculate_145 : decode cX11_calculate 145 = .ok (.goto 4, 3) := by decide +kernel
theorem dX11_calculate_148 : decode cX11_calculate 148 = .ok (.iconst 0, 1) := by decide +kernel
theorem dX11_calculate_149 : decode cX11_calculate 149 = .ok (.invokevirtual 185, 3) := by decide +kernel
theorem dX11_calculate_152 : decode cX11_calculate 152 = .ok (.ifCond .eq 5, 3) := by decide +kernel
theorem dX11_calculate_155 : decode cX11_calculate 155 = .ok (.iconst (-1), 1) := by decide +kernel
theorem dX11_calculate_156 : decode cX11_calculate 156 = .ok (.ireturn, 1) := by decide +kernel
theorem dX11_calculate_157 : decode cX11_calculate 157 = .ok (.aload_n 0, 1) := by decide +kernel
theorem dX11_calculate_158 : decode cX11_calculate 158 = .ok (.iload_n 1, 1) := by decide +kernel
theorem dX11_calculate_159 : decode cX11_calculate 159 = .ok (.iconst 2, 1) := by decide +kernel
theorem dX11_calculate_160 : decode cX11_calculate 160 = .ok (.invokevirtual 188, 3) := by decide +kernel
theorem dX11_calculate_163 : decode cX11_calculate 163 = .ok (.istore 5, 2) := by decide +kernel
theorem dX11_calculate_165 : decode cX11_calculate 165 = .ok (.bipush 12, 2) := by decide +kernel
theorem dX11_calculate_167 : decode cX11_calculate 167 = .ok (.iload_n 1, 1) := by decide +kernel
theorem dX11_calculate_168 : decode cX11_calculate 168 = .ok (.imul, 1) := by decide +kernel
theorem dX11_calculate_169 : decode cX11_calculate 169 = .ok (.iload 5, 2) := by decide +kernel
theorem dX11_calculate_171 : decode cX11_calculate 171 = .ok (.iadd, 1) := by decide +kernel
theorem dX11_calculate_172 : decode cX11_calculate 172 = .ok (.istore 6, 2) := by decide +kernel
theorem dX11_calculate_174 : decode cX11_calculate 174 = .ok (.aload_n 0, 1) := by decide +kernel
theorem dX11_calculate_175 : decode cX11_calculate 175 = .ok (.getfield 27, 3) := by decide +kernel
theorem dX11_calculate_178 : decode cX11_calculate 178 = .ok (.iload 6, 2) := by decide +kernel
theorem dX11_calculate_180 : decode cX11_calculate 180 = .ok (.iload_n 2, 1) := by decide +kernel
theorem dX11_calculate_181 : decode cX11_calculate 181 = .ok (.iastore, 1) := by decide +kernel
theorem dX11_calculate_182 : decode cX11_calculate 182 = .ok (.iconst 0, 1) := by decide +kernel
theorem dX11_calculate_183 : decode cX11_calculate 183 = .ok (.istore 7, 2) := by decide +kernel
theorem dX11_calculate_185 : decode cX11_calculate 185 = .ok (.iload 7, 2) := by decide +kernel
theorem dX11_calculate_187 : decode cX11_calculate 187 = .ok (.bipush 10, 2) := by decide +kernel
theorem dX11_calculate_189 : decode cX11_calculate 189 = .ok (.if_icmp .ge 81, 3) := by decide +kernel
theorem dX11_calculate_192 : decode cX11_calculate 192 = .ok (.aload_n 0, 1) := by decide +kernel
theorem dX11_calculate_193 : decode cX11_calculate 193 = .ok (.getfield 33, 3) := by decide +kernel
theorem dX11_calculate_196 : decode cX11_calculate 196 = .ok (.bipush 10, 2) := by decide +kernel
theorem dX11_calculate_198 : decode cX11_calculate 198 = .ok (.iload 6, 2) := by decide +kernel
theorem dX11_calculate_200 : decode cX11_calculate 200 = .ok (.imul, 1) := by decide +kernel
theorem dX11_calculate_201 : decode cX11_calculate 201 = .ok (.iload 7, 2) := by decide +kernel
theorem dX11_calculate_203 : decode cX11_calculate 203 = .ok (.iadd, 1) := by decide +kernel
theorem dX11_calculate_204 : decode cX11_calculate 204 = .ok (.aload_n 0, 1) := by decide +kernel
theorem dX11_calculate_205 : decode cX11_calculate 205 = .ok (.getfield 33, 3) := by decide +kernel
theorem dX11_calculate_208 : decode cX11_calculate 208 = .ok (.sipush 360, 3) := by decide +kernel
theorem dX11_calculate_211 : decode cX11_calculate 211 = .ok (.iload 7, 2) := by decide +kernel
theorem dX11_calculate_213 : decode cX11_calculate 213 = .ok (.iadd, 1) := by decide +kernel
theorem dX11_calculate_214 : decode cX11_calculate 214 = .ok (.iaload, 1) := by decide +kernel
theorem dX11_calculate_215 : decode cX11_calculate 215 = .ok (.iastore, 1) := by decide +kernel
theorem dX11_calculate_216 : decode cX11_calculate 216 = .ok (.aload_n 0, 1) := by decide +kernel
theorem dX11_calculate_217 : decode cX11_calculate 217 = .ok (.getfield 36, 3) := by decide +kernel
theorem dX11_calculate_220 : decode cX11_calculate 220 = .ok (.bipush 10, 2) := by decide +kernel
theorem dX11_calculate_222 : decode cX11_calculate 222 = .ok (.iload 6, 2) := by decide +kernel
theorem dX11_calculate_224 : decode cX11_calculate 224 = .ok (.imul, 1) := by decide +kernel
theorem dX11_calculate_225 : decode cX11_calculate 225 = .ok (.iload 7, 2) := by decide +kernel
theorem dX11_calculate_227 : decode cX11_calculate 227 = .ok (.iadd, 1) := by decide +kernel
theorem dX11_calculate_228 : decode cX11_calculate 228 = .ok (.aload_n 0, 1) := by decide +kernel
theorem dX11_calculate_229 : decode cX11_calculate 229 = .ok (.getfield 36, 3) := by decide +kernel
theorem dX11_calculate_232 : decode cX11_calculate 232 = .ok (.sipush 360, 3) := by decide +kernel
theorem dX11_calculate_235 : decode cX11_calculate 235 = .ok (.iload 7, 2) := by decide +kernel
theorem dX11_calculate_237 : decode cX11_calculate 237 = .ok (.iadd, 1) := by decide +kernel
theorem dX11_calculate_238 : decode cX11_calculate 238 = .ok (.iaload, 1) := by decide +kernel
theorem dX11_calculate_239 : decode cX11_calculate 239 = .ok (.iastore, 1) := by decide +kernel
theorem dX11_calculate_240 : decode cX11_calculate 240 = .ok (.aload_n 0, 1) := by decide +kernel
theorem dX11_calculate_241 : decode cX11_calculate 241 = .ok (.getfield 39, 3) := by decide +kernel
theorem dX11_calculate_244 : decode cX11_calculate 244 = .ok (.bipush 10, 2) := by decide +kernel
theorem dX11_calculate_246 : decode cX11_calculate 246 = .ok (.iload 6, 2) := by decide +kernel
theorem dX11_calculate_248 : decode cX11_calculate 248 = .ok (.imul, 1) := by decide +kernel
theorem dX11_calculate_249 : decode cX11_calculate 249 = .ok (.iload 7, 2) := by decide +kernel
theorem dX11_calculate_251 : decode cX11_calculate 251 = .ok (.iadd, 1) := by decide +kernel
theorem dX11_calculate_252 : decode cX11_calculate 252 = .ok (.aload_n 0, 1) := by decide +kernel
theorem dX11_calculate_253 : decode cX11_calculate 253 = .ok (.getfield 39, 3) := by decide +kernel
theorem dX11_calculate_256 : decode cX11_calculate 256 = .ok (.sipush 360, 3) := by decide +kernel
theorem dX11_calculate_259 : decode cX11_calculate 259 = .ok (.iload 7, 2) := by decide +kernel
theorem dX11_calculate_261 : decode cX11_calculate 261 = .ok (.iadd, 1) := by decide +kernel
theorem dX11_calculate_262 : decode cX11_calculate 262 = .ok (.iaload, 1) := by decide +kernel
theorem dX11_calculate_263 : decode cX11_calculate 263 = .ok (.iastore, 1) := by decide +kernel
theorem dX11_calculate_264 : decode cX11_calculate 264 = .ok (.iinc 7 1, 3) := by decide +kernel
theorem dX11_calculate_267 : decode cX11_calculate 267 = .ok (.goto (-82), 3) := by decide +kernel
theorem dX11_calculate_270 : decode cX11_calculate 270 = .ok (.aload_n 0, 1) := by decide +kernel
theorem dX11_calculate_271 : decode cX11_calculate 271 = .ok (.getfield 42, 3) := by decide +kernel
theorem dX11_calculate_274 : decode cX11_calculate 274 = .ok (.iload 6, 2) := by decide +kernel
theorem dX11_calculate_276 : decode cX11_calculate 276 = .ok (.aload_n 0, 1) := by decide +kernel
theorem dX11_calculate_277 : decode cX11_calculate 277 = .ok (.getfield 42, 3) := by decide +kernel
theorem dX11_calculate_280 : decode cX11_calculate 280 = .ok (.bipush 36, 2) := by decide +kernel
theorem dX11_calculate_282 : decode cX11_calculate 282 = .ok (.iaload, 1) := by decide +kernel
theorem dX11_calculate_283 : decode cX11_calculate 283 = .ok (.iastore, 1) := by decide +kernel
theorem dX11_calculate_284 : decode cX11_calculate 284 = .ok (.aload_n 0, 1) := by decide +kernel
theorem dX11_calculate_285 : decode cX11_calculate 285 = .ok (.getfield 42, 3) := by decide +kernel
theorem dX11_calculate_288 : decode cX11_calculate 288 = .ok (.bipush 36, 2) := by decide +kernel
theorem dX11_calculate_290 : decode cX11_calculate 290 = .ok (.iconst 0, 1) := by decide +kernel
theorem dX11_calculate_291 : decode cX11_calculate 291 = .ok (.iastore, 1) := by decide +kernel
theorem dX11_calculate_292 : decode cX11_calculate 292 = .ok (.aload_n 0, 1) := by decide +kernel
theorem dX11_calculate_293 : decode cX11_calculate 293 = .ok (.invokevirtual 194, 3) := by decide +kernel
theorem dX11_calculate_296 : decode cX11_calculate 296 = .ok (.iload 5, 2) := by decide +kernel
theorem dX11_calculate_298 : decode cX11_calculate 298 = .ok (.ireturn, 1) := by decide +kernel
theorem dX11_hide_0 : decode cX11_hide 0 = .ok (.aload_n 0, 1) := by decide +kernel
theorem dX11_hide_1 : decode cX11_hide 1 = .ok (.iload_n 1, 1) := by decide +kernel
theorem dX11_hide_2 : decode cX11_hide 2 = .ok (.iload_n 2, 1) := by decide +kernel
theorem dX11_hide_3 : decode cX11_hide 3 = .ok (.invokevirtual 156, 3) := by decide +kernel
theorem dX11_hide_6 : decode cX11_hide 6 = .ok (.ifCond .eq 11, 3) := by decide +kernel
theorem dX11_hide_9 : decode cX11_hide 9 = .ok (.iload_n 2, 1) := by decide +kernel
theorem dX11_hide_10 : decode cX11_hide 10 = .ok (.ifCond .le 7, 3) := by decide +kernel
theorem dX11_hide_13 : decode cX11_hide 13 = .ok (.iconst 1, 1) := by decide +kernel
theorem dX11_hide_14 : decode cX11_hide 14 = .ok (.goto 4, 3) := by decide +kernel
theorem dX11_hide_17 : decode cX11_hide 17 = .ok (.iconst 0, 1) := by decide +kernel
theorem dX11_hide_18 : decode cX11_hide 18 = .ok (.istore 4, 2) := by decide +kernel
theorem dX11_hide_20 : decode cX11_hide 20 = .ok (.aload_n 0, 1) := by decide +kernel
theorem dX11_hide_21 : decode cX11_hide 21 = .ok (.iload 4, 2) := by decide +kernel
theorem dX11_hide_23 : decode cX11_hide 23 = .ok (.ifCond .ne 7, 3) := by decide +kernel
theorem dX11_hide_26 : decode cX11_hide 26 = .ok (.iconst 1, 1) := by decide +kernel
theorem dX11_hide_27 : decode cX11_hide 27 = .ok (.goto 17, 3) := by decide +kernel
theorem dX11_hide_30 : decode cX11_hide 30 = .ok (.aload_n 0, 1) := by decide +kernel
theorem dX11_hide_31 : decode cX11_hide 31 = .ok (.iload_n 1, 1) := by decide +kernel
theorem dX11_hide_32 : decode cX11_hide 32 = .ok (.iload_n 2, 1) := by decide +kernel
theorem dX11_hide_33 : decode cX11_hide 33 = .ok (.invokevirtual 180, 3) := by decide +kernel
theorem dX11_hide_36 : decode cX11_hide 36 = .ok (.ifCond .ne 7, 3) := by decide +kernel
theorem dX11_hide_39 : decode cX11_hide 39 = .ok (.iconst 2, 1) := by decide +kernel
theorem dX11_hide_40 : decode cX11_hide 40 = .ok (.goto 4, 3) := by decide +kernel
theorem dX11_hide_43 : decode cX11_hide 43 = .ok (.iconst 0, 1) := by decide +kernel
theorem dX11_hide_44 : decode cX11_hide 44 = .ok (.invokevirtual 185, 3) := by decide +kernel
theorem dX11_hide_47 : decode cX11_hide 47 = .ok (.ifCond .eq 5, 3) := by decide +kernel
theorem dX11_hide_50 : decode cX11_hide 50 = .ok (.iconst 0, 1) := by decide +kernel
theorem dX11_hide_51 : decode cX11_hide 51 = .ok (.ireturn, 1) := by decide +kernel
theorem dX11_hide_52 : decode cX11_hide 52 = .ok (.aload_n 0, 1) := by decide +kernel
theorem dX11_hide_53 : decode cX11_hide 53 = .ok (.getfield 30, 3) := by decide +kernel
theorem dX11_hide_56 : decode cX11_hide 56 = .ok (.bipush 12, 2) := by decide +kernel
theorem dX11_hide_58 : decode cX11_hide 58 = .ok (.iload_n 1, 1) := by decide +kernel
theorem dX11_hide_59 : decode cX11_hide 59 = .ok (.imul, 1) := by decide +kernel
theorem dX11_hide_60 : decode cX11_hide 60 = .ok (.iload_n 2, 1) := by decide +kernel
theorem dX11_hide_61 : decode cX11_hide 61 = .ok (.iadd, 1) := by decide +kernel
theorem dX11_hide_62 : decode cX11_hide 62 = .ok (.iaload, 1) := by decide +kernel
theorem dX11_hide_63 : decode cX11_hide 63 = .ok (.iconst 1, 1) := by decide +kernel
theorem dX11_hide_64 : decode cX11_hide 64 = .ok (.if_icmp .ne 7, 3) := by decide +kernel
theorem dX11_hide_67 : decode cX11_hide 67 = .ok (.iconst 1, 1) := by decide +kernel
theorem dX11_hide_68 : decode cX11_hide 68 = .ok (.goto 4, 3) := by decide +kernel
theorem dX11_hide_71 : decode cX11_hide 71 = .ok (.iconst 0, 1) := by decide +kernel
theorem dX11_hide_72 : decode cX11_hide 72 = .ok (.istore 5, 2) := by decide +kernel
theorem dX11_hide_74 : decode cX11_hide 74 = .ok (.aload_n 0, 1) := by decide +kernel
theorem dX11_hide_75 : decode cX11_hide 75 = .ok (.getfield 30, 3) := by decide +kernel
theorem dX11_hide_78 : decode cX11_hide 78 = .ok (.bipush 12, 2) := by decide +kernel
theorem dX11_hide_80 : decode cX11_hide 80 = .ok (.iload_n 1, 1) := by decide +kernel
theorem dX11_hide_81 : decode cX11_hide 81 = .ok (.imul, 1) := by decide +kernel
theorem dX11_hide_82 : decode cX11_hide 82 = .ok (.iload_n 2, 1) := by decide +kernel
theorem dX11_hide_83 : decode cX11_hide 83 = .ok (.iadd, 1) := by decide +kernel
theorem dX11_hide_84 : decode cX11_hide 84 = .ok (.iload_n 3, 1) := by decide +kernel
theorem dX11_hide_85 : decode cX11_hide 85 = .ok (.ifCond .eq 7, 3) := by decide +kernel
theorem dX11_hide_88 : decode cX11_hide 88 = .ok (.iconst 1, 1) := by decide +kernel
theorem dX11_hide_89 : decode cX11_hide 89 = .ok (.goto 4, 3) := by decide +kernel
theorem dX11_hide_92 : decode cX11_hide 92 = .ok (.iconst 0, 1) := by decide +kernel
theorem dX11_hide_93 : decode cX11_hide 93 = .ok (.iastore, 1) := by decide +kernel
theorem dX11_hide_94 : decode cX11_hide 94 = .ok (.aload_n 0, 1) := by decide +kernel
theorem dX11_hide_95 : decode cX11_hide 95 = .ok (.invokevirtual 194, 3) := by decide +kernel
theorem dX11_hide_98 : decode cX11_hide 98 = .ok (.iload 5, 2) := by decide +kernel
theorem dX11_hide_100 : decode cX11_hide 100 = .ok (.ireturn, 1) := by decide +kernel
theorem dX11_totals_0 : decode cX11_totals 0 = .ok (.aload_n 0, 1) := by decide +kernel
theorem dX11_totals_1 : decode cX11_totals 1 = .ok (.iconst 0, 1) := by decide +kernel
theorem dX11_totals_2 : decode cX11_totals 2 = .ok (.invokevirtual 185, 3) := by decide +kernel
theorem dX11_totals_5 : decode cX11_totals 5 = .ok (.pop, 1) := by decide +kernel
theorem dX11_totals_6 : decode cX11_totals 6 = .ok (.aload_n 0, 1) := by decide +kernel
theorem dX11_totals_7 : decode cX11_totals 7 = .ok (.getfield 225, 3) := by decide +kernel
theorem dX11_totals_10 : decode cX11_totals 10 = .ok (.istore_n 2, 1) := by decide +kernel
theorem dX11_totals_11 : decode cX11_totals 11 = .ok (.aload_n 0, 1) := by decide +kernel
theorem dX11_totals_12 : decode cX11_totals 12 = .ok (.iload_n 1, 1) := by decide +kernel
theorem dX11_totals_13 : decode cX11_totals 13 = .ok (.putfield 225, 3) := by decide +kernel
theorem dX11_totals_16 : decode cX11_totals 16 = .ok (.aload_n 0, 1) := by decide +kernel
theorem dX11_totals_17 : decode cX11_totals 17 = .ok (.invokevirtual 194, 3) := by decide +kernel
theorem dX11_totals_20 : decode cX11_totals 20 = .ok (.iload_n 2, 1) := by decide +kernel
theorem dX11_totals_21 : decode cX11_totals 21 = .ok (.ireturn, 1) := by decide +kernel
theorem dX11_measure_0 : decode cX11_measure 0 = .ok (.iload_n 1, 1) := by decide +kernel
theorem dX11_measure_1 : decode cX11_measure 1 = .ok (.iconst 3, 1) := by decide +kernel
theorem dX11_measure_2 : decode cX11_measure 2 = .ok (.if_icmp .ne 19, 3) := by decide +kernel
theorem dX11_measure_5 : decode cX11_measure 5 = .ok (.aload_n 0, 1) := by decide +kernel
theorem dX11_measure_6 : decode cX11_measure 6 = .ok (.iload_n 2, 1) := by decide +kernel
theorem dX11_measure_7 : decode cX11_measure 7 = .ok (.invokevirtual 160, 3) := by decide +kernel
theorem dX11_measure_10 : decode cX11_measure 10 = .ok (.ifCond .eq 15, 3) := by decide +kernel
theorem dX11_measure_13 : decode cX11_measure 13 = .ok (.aload_n 0, 1) := by decide +kernel
theorem dX11_measure_14 : decode cX11_measure 14 = .ok (.iload_n 3, 1) := by decide +kernel
theorem dX11_measure_15 : decode cX11_measure 15 = .ok (.invokevirtual 160, 3) := by decide +kernel
theorem dX11_measure_18 : decode cX11_measure 18 = .ok (.ifCond .eq 7, 3) := by decide +kernel
theorem dX11_measure_21 : decode cX11_measure 21 = .ok (.iconst 1, 1) := by decide +kernel
theorem dX11_measure_22 : decode cX11_measure 22 = .ok (.goto 4, 3) := by decide +kernel
theorem dX11_measure_25 : decode cX11_measure 25 = .ok (.iconst 0, 1) := by decide +kernel
theorem dX11_measure_26 : decode cX11_measure 26 = .ok (.istore 4, 2) := by decide +kernel
theorem dX11_measure_28 : decode cX11_measure 28 = .ok (.aload_n 0, 1) := by decide +kernel
theorem dX11_measure_29 : decode cX11_measure 29 = .ok (.iload 4, 2) := by decide +kernel
theorem dX11_measure_31 : decode cX11_measure 31 = .ok (.ifCond .ne 7, 3) := by decide +kernel
theorem dX11_measure_34 : decode cX11_measure 34 = .ok (.iconst 1, 1) := by decide +kernel
theorem dX11_measure_35 : decode cX11_measure 35 = .ok (.goto 33, 3) := by decide +kernel
theorem dX11_measure_38 : decode cX11_measure 38 = .ok (.aload_n 0, 1) := by decide +kernel
theorem dX11_measure_39 : decode cX11_measure 39 = .ok (.iload_n 1, 1) := by decide +kernel
theorem dX11_measure_40 : decode cX11_measure 40 = .ok (.i2l, 1) := by decide +kernel
theorem dX11_measure_41 : decode cX11_measure 41 = .ok (.lconst 0, 1) := by decide +kernel
theorem dX11_measure_42 : decode cX11_measure 42 = .ok (.ldc2_w 228, 3) := by decide +kernel
theorem dX11_measure_45 : decode cX11_measure 45 = .ok (.invokevirtual 145, 3) := by decide +kernel
theorem dX11_measure_48 : decode cX11_measure 48 = .ok (.ifCond .ne 7, 3) := by decide +kernel
theorem dX11_measure_51 : decode cX11_measure 51 = .ok (.iconst 2, 1) := by decide +kernel
theorem dX11_measure_52 : decode cX11_measure 52 = .ok (.goto 16, 3) := by decide +kernel
theorem dX11_measure_55 : decode cX11_measure 55 = .ok (.aload_n 0, 1) := by decide +kernel
theorem dX11_measure_56 : decode cX11_measure 56 = .ok (.getfield 153, 3) := by decide +kernel
theorem dX11_measure_59 : decode cX11_measure 59 = .ok (.iconst 4, 1) := by decide +kernel
theorem dX11_measure_60 : decode cX11_measure 60 = .ok (.if_icmp .ne 7, 3) := by decide +kernel
theorem dX11_measure_63 : decode cX11_measure 63 = .ok (.iconst 3, 1) := by decide +kernel
theorem dX11_measure_64 : decode cX11_measure 64 = .ok (.goto 4, 3) := by decide +kernel
theorem dX11_measure_67 : decode cX11_measure 67 = .ok (.iconst 0, 1) := by decide +kernel
theorem dX11_measure_68 : decode cX11_measure 68 = .ok (.invokevirtual 185, 3) := by decide +kernel
theorem dX11_measure_71 : decode cX11_measure 71 = .ok (.ifCond .eq 5, 3) := by decide +kernel
theorem dX11_measure_74 : decode cX11_measure 74 = .ok (.iconst (-1), 1) := by decide +kernel
theorem dX11_measure_75 : decode cX11_measure 75 = .ok (.ireturn, 1) := by decide +kernel
theorem dX11_measure_76 : decode cX11_measure 76 = .ok (.aload_n 0, 1) := by decide +kernel
theorem dX11_measure_77 : decode cX11_measure 77 = .ok (.getfield 60, 3) := by decide +kernel
theorem dX11_measure_80 : decode cX11_measure 80 = .ok (.aload_n 0, 1) := by decide +kernel
theorem dX11_measure_81 : decode cX11_measure 81 = .ok (.getfield 153, 3) := by decide +kernel
theorem dX11_measure_84 : decode cX11_measure 84 = .ok (.iload_n 1, 1) := by decide +kernel
theorem dX11_measure_85 : decode cX11_measure 85 = .ok (.iastore, 1) := by decide +kernel
theorem dX11_measure_86 : decode cX11_measure 86 = .ok (.aload_n 0, 1) := by decide +kernel
theorem dX11_measure_87 : decode cX11_measure 87 = .ok (.getfield 63, 3) := by decide +kernel
theorem dX11_measure_90 : decode cX11_measure 90 = .ok (.aload_n 0, 1) := by decide +kernel
theorem dX11_measure_91 : decode cX11_measure 91 = .ok (.getfield 153, 3) := by decide +kernel
theorem dX11_measure_94 : decode cX11_measure 94 = .ok (.iload_n 2, 1) := by decide +kernel
theorem dX11_measure_95 : decode cX11_measure 95 = .ok (.iastore, 1) := by decide +kernel
theorem dX11_measure_96 : decode cX11_measure 96 = .ok (.aload_n 0, 1) := by decide +kernel
theorem dX11_measure_97 : decode cX11_measure 97 = .ok (.getfield 66, 3) := by decide +kernel
theorem dX11_measure_100 : decode cX11_measure 100 = .ok (.aload_n 0, 1) := by decide +kernel
theorem dX11_measure_101 : decode cX11_measure 101 = .ok (.getfield 153, 3) := by decide +kernel
theorem dX11_measure_104 : decode cX11_measure 104 = .ok (.iload_n 3, 1) := by decide +kernel
theorem dX11_measure_105 : decode cX11_measure 105 = .ok (.iastore, 1) := by decide +kernel
theorem dX11_measure_106 : decode cX11_measure 106 = .ok (.aload_n 0, 1) := by decide +kernel
theorem dX11_measure_107 : decode cX11_measure 107 = .ok (.dup, 1) := by decide +kernel
theorem dX11_measure_108 : decode cX11_measure 108 = .ok (.getfield 153, 3) := by decide +kernel
theorem dX11_measure_111 : decode cX11_measure 111 = .ok (.iconst 1, 1) := by decide +kernel
theorem dX11_measure_112 : decode cX11_measure 112 = .ok (.iadd, 1) := by decide +kernel
theorem dX11_measure_113 : decode cX11_measure 113 = .ok (.putfield 153, 3) := by decide +kernel
theorem dX11_measure_116 : decode cX11_measure 116 = .ok (.aload_n 0, 1) := by decide +kernel
theorem dX11_measure_117 : decode cX11_measure 117 = .ok (.invokevirtual 194, 3) := by decide +kernel
theorem dX11_measure_120 : decode cX11_measure 120 = .ok (.aload_n 0, 1) := by decide +kernel
theorem dX11_measure_121 : decode cX11_measure 121 = .ok (.getfield 153, 3) := by decide +kernel
theorem dX11_measure_124 : decode cX11_measure 124 = .ok (.iconst 1, 1) := by decide +kernel
theorem dX11_measure_125 : decode cX11_measure 125 = .ok (.isub, 1) := by decide +kernel
theorem dX11_measure_126 : decode cX11_measure 126 = .ok (.ireturn, 1) := by decide +kernel
theorem dX11_from_0 : decode cX11_from 0 = .ok (.aload_n 0, 1) := by decide +kernel
theorem dX11_from_1 : decode cX11_from 1 = .ok (.aload_n 0, 1) := by decide +kernel
theorem dX11_from_2 : decode cX11_from 2 = .ok (.iload_n 1, 1) := by decide +kernel
theorem dX11_from_3 : decode cX11_from 3 = .ok (.invokevirtual 160, 3) := by decide +kernel
theorem dX11_from_6 : decode cX11_from 6 = .ok (.ifCond .eq 11, 3) := by decide +kernel
theorem dX11_from_9 : decode cX11_from 9 = .ok (.aload_n 0, 1) := by decide +kernel
theorem dX11_from_10 : decode cX11_from 10 = .ok (.iload_n 2, 1) := by decide +kernel
theorem dX11_from_11 : decode cX11_from 11 = .ok (.invokevirtual 149, 3) := by decide +kernel
theorem dX11_from_14 : decode cX11_from 14 = .ok (.ifCond .ne 7, 3) := by decide +kernel
theorem dX11_from_17 : decode cX11_from 17 = .ok (.iconst 1, 1) := by decide +kernel
theorem dX11_from_18 : decode cX11_from 18 = .ok (.goto 21, 3) := by decide +kernel
theorem dX11_from_21 : decode cX11_from 21 = .ok (.aload_n 0, 1) := by decide +kernel
theorem dX11_from_22 : decode cX11_from 22 = .ok (.iload_n 3, 1) := by decide +kernel
theorem dX11_from_23 : decode cX11_from 23 = .ok (.i2l, 1) := by decide +kernel
theorem dX11_from_24 : decode cX11_from 24 = .ok (.lconst 0, 1) := by decide +kernel
theorem dX11_from_25 : decode cX11_from 25 = .ok (.ldc2_w 217, 3) := by decide +kernel
theorem dX11_from_28 : decode cX11_from 28 = .ok (.invokevirtual 145, 3) := by decide +kernel
theorem dX11_from_31 : decode cX11_from 31 = .ok (.ifCond .eq 7, 3) := by decide +kernel
theorem dX11_from_34 : decode cX11_from 34 = .ok (.iconst 0, 1) := by decide +kernel
theorem dX11_from_35 : decode cX11_from 35 = .ok (.goto 4, 3) := by decide +kernel
theorem dX11_from_38 : decode cX11_from 38 = .ok (.iconst 2, 1) := by decide +kernel
theorem dX11_from_39 : decode cX11_from 39 = .ok (.invokevirtual 185, 3) := by decide +kernel
theorem dX11_from_42 : decode cX11_from 42 = .ok (.ifCond .eq 5, 3) := by decide +kernel
theorem dX11_from_45 : decode cX11_from 45 = .ok (.iconst (-1), 1) := by decide +kernel
theorem dX11_from_46 : decode cX11_from 46 = .ok (.ireturn, 1) := by decide +kernel
theorem dX11_from_47 : decode cX11_from 47 = .ok (.aload_n 0, 1) := by decide +kernel
theorem dX11_from_48 : decode cX11_from 48 = .ok (.getfield 69, 3) := by decide +kernel
theorem dX11_from_51 : decode cX11_from 51 = .ok (.iconst 3, 1) := by decide +kernel
theorem dX11_from_52 : decode cX11_from 52 = .ok (.iload_n 1, 1) := by decide +kernel
theorem dX11_from_53 : decode cX11_from 53 = .ok (.imul, 1) := by decide +kernel
theorem dX11_from_54 : decode cX11_from 54 = .ok (.iload_n 2, 1) := by decide +kernel
theorem dX11_from_55 : decode cX11_from 55 = .ok (.iadd, 1) := by decide +kernel
theorem dX11_from_56 : decode cX11_from 56 = .ok (.iaload, 1) := by decide +kernel
theorem dX11_from_57 : decode cX11_from 57 = .ok (.istore 4, 2) := by decide +kernel
theorem dX11_from_59 : decode cX11_from 59 = .ok (.aload_n 0, 1) := by decide +kernel
theorem dX11_from_60 : decode cX11_from 60 = .ok (.getfield 69, 3) := by decide +kernel
theorem dX11_from_63 : decode cX11_from 63 = .ok (.iconst 3, 1) := by decide +kernel
theorem dX11_from_64 : decode cX11_from 64 = .ok (.iload_n 1, 1) := by decide +kernel
theorem dX11_from_65 : decode cX11_from 65 = .ok (.imul, 1) := by decide +kernel
theorem dX11_from_66 : decode cX11_from 66 = .ok (.iload_n 2, 1) := by decide +kernel
theorem dX11_from_67 : decode cX11_from 67 = .ok (.iadd, 1) := by decide +kernel
theorem dX11_from_68 : decode cX11_from 68 = .ok (.iload_n 3, 1) := by decide +kernel
theorem dX11_from_69 : decode cX11_from 69 = .ok (.iastore, 1) := by decide +kernel
theorem dX11_from_70 : decode cX11_from 70 = .ok (.aload_n 0, 1) := by decide +kernel
theorem dX11_from_71 : decode cX11_from 71 = .ok (.invokevirtual 194, 3) := by decide +kernel
theorem dX11_from_74 : decode cX11_from 74 = .ok (.iload 4, 2) := by decide +kernel
theorem dX11_from_76 : decode cX11_from 76 = .ok (.ireturn, 1) := by decide +kernel
theorem dX11_found_0 : decode cX11_found 0 = .ok (.iconst (-1), 1) := by decide +kernel
theorem dX11_found_1 : decode cX11_found 1 = .ok (.istore 5, 2) := by decide +kernel
theorem dX11_found_3 : decode cX11_found 3 = .ok (.iconst 0, 1) := by decide +kernel
theorem dX11_found_4 : decode cX11_found 4 = .ok (.istore 6, 2) := by decide +kernel
theorem dX11_found_6 : decode cX11_found 6 = .ok (.iload 6, 2) := by decide +kernel
theorem dX11_found_8 : decode cX11_found 8 = .ok (.aload_n 0, 1) := by decide +kernel
theorem dX11_found_9 : decode cX11_found 9 = .ok (.getfield 230, 3) := by decide +kernel
theorem dX11_found_12 : decode cX11_found 12 = .ok (.if_icmp .ge 63, 3) := by decide +kernel
theorem dX11_found_15 : decode cX11_found 15 = .ok (.aload_n 0, 1) := by decide +kernel
theorem dX11_found_16 : decode cX11_found 16 = .ok (.getfield 72, 3) := by decide +kernel
theorem dX11_found_19 : decode cX11_found 19 = .ok (.iload 6, 2) := by decide +kernel
theorem dX11_found_21 : decode cX11_found 21 = .ok (.iaload, 1) := by decide +kernel
theorem dX11_found_22 : decode cX11_found 22 = .ok (.iload_n 1, 1) := by decide +kernel
theorem dX11_found_23 : decode cX11_found 23 = .ok (.if_icmp .ne 42, 3) := by decide +kernel
theorem dX11_found_26 : decode cX11_found 26 = .ok (.aload_n 0, 1) := by decide +kernel
theorem dX11_found_27 : decode cX11_found 27 = .ok (.getfield 75, 3) := by decide +kernel
theorem dX11_found_30 : decode cX11_found 30 = .ok (.iload 6, 2) := by decide +kernel
theorem dX11_found_32 : decode cX11_found 32 = .ok (.iaload, 1) := by decide +kernel
theorem dX11_found_33 : decode cX11_found 33 = .ok (.iload_n 2, 1) := by decide +kernel
theorem dX11_found_34 : decode cX11_found 34 = .ok (.if_icmp .ne 31, 3) := by decide +kernel
theorem dX11_found_37 : decode cX11_found 37 = .ok (.aload_n 0, 1) := by decide +kernel
theorem dX11_found_38 : decode cX11_found 38 = .ok (.getfield 78, 3) := by decide +kernel
theorem dX11_found_41 : decode cX11_found 41 = .ok (.iload 6, 2) := by decide +kernel
theorem dX11_found_43 : decode cX11_found 43 = .ok (.iaload, 1) := by decide +kernel
theorem dX11_found_44 : decode cX11_found 44 = .ok (.iload_n 3, 1) := by decide +kernel
theorem dX11_found_45 : decode cX11_found 45 = .ok (.if_icmp .ne 20, 3) := by decide +kernel
theorem dX11_found_48 : decode cX11_found 48 = .ok (.aload_n 0, 1) := by decide +kernel
theorem dX11_found_49 : decode cX11_found 49 = .ok (.getfield 81, 3) := by decide +kernel
theorem dX11_found_52 : decode cX11_found 52 = .ok (.iload 6, 2) := by decide +kernel
theorem dX11_found_54 : decode cX11_found 54 = .ok (.iaload, 1) := by decide +kernel
theorem dX11_found_55 : decode cX11_found 55 = .ok (.iload 4, 2) := by decide +kernel
theorem dX11_found_57 : decode cX11_found 57 = .ok (.if_icmp .ne 8, 3) := by decide +kernel
theorem dX11_found_60 : decode cX11_found 60 = .ok (.iload 6, 2) := by decide +kernel
theorem dX11_found_62 : decode cX11_found 62 = .ok (.goto 5, 3) := by decide +kernel
theorem dX11_found_65 : decode cX11_found 65 = .ok (.iload 5, 2) := by decide +kernel
theorem dX11_found_67 : decode cX11_found 67 = .ok (.istore 5, 2) := by decide +kernel
theorem dX11_found_69 : decode cX11_found 69 = .ok (.iinc 6 1, 3) := by decide +kernel
theorem dX11_found_72 : decode cX11_found 72 = .ok (.goto (-66), 3) := by decide +kernel
theorem dX11_found_75 : decode cX11_found 75 = .ok (.iload 5, 2) := by decide +kernel
theorem dX11_found_77 : decode cX11_found 77 = .ok (.ireturn, 1) := by decide +kernel
theorem dX11_lay_0 : decode cX11_lay 0 = .ok (.aload_n 0, 1) := by decide +kernel
theorem dX11_lay_1 : decode cX11_lay 1 = .ok (.getfield 72, 3) := by decide +kernel
theorem dX11_lay_4 : decode cX11_lay 4 = .ok (.iload_n 1, 1) := by decide +kernel
theorem dX11_lay_5 : decode cX11_lay 5 = .ok (.iload_n 2, 1) := by decide +kernel
theorem dX11_lay_6 : decode cX11_lay 6 = .ok (.iastore, 1) := by decide +kernel
theorem dX11_lay_7 : decode cX11_lay 7 = .ok (.aload_n 0, 1) := by decide +kernel
theorem dX11_lay_8 : decode cX11_lay 8 = .ok (.getfield 75, 3) := by decide +kernel
theorem dX11_lay_11 : decode cX11_lay 11 = .ok (.iload_n 1, 1) := by decide +kernel
theorem dX11_lay_12 : decode cX11_lay 12 = .ok (.iload_n 3, 1) := by decide +kernel
theorem dX11_lay_13 : decode cX11_lay 13 = .ok (.iastore, 1) := by decide +kernel
theorem dX11_lay_14 : decode cX11_lay 14 = .ok (.aload_n 0, 1) := by decide +kernel
theorem dX11_lay_15 : decode cX11_lay 15 = .ok (.getfield 78, 3) := by decide +kernel
theorem dX11_lay_18 : decode cX11_lay 18 = .ok (.iload_n 1, 1) := by decide +kernel
theorem dX11_lay_19 : decode cX11_lay 19 = .ok (.iload 4, 2) := by decide +kernel
theorem dX11_lay_21 : decode cX11_lay 21 = .ok (.iastore, 1) := by decide +kernel
theorem dX11_lay_22 : decode cX11_lay 22 = .ok (.aload_n 0, 1) := by decide +kernel
theorem dX11_lay_23 : decode cX11_lay 23 = .ok (.getfield 81, 3) := by decide +kernel
theorem dX11_lay_26 : decode cX11_lay 26 = .ok (.iload_n 1, 1) := by decide +kernel
theorem dX11_lay_27 : decode cX11_lay 27 = .ok (.iload 5, 2) := by decide +kernel
theorem dX11_lay_29 : decode cX11_lay 29 = .ok (.iastore, 1) := by decide +kernel
theorem dX11_lay_30 : decode cX11_lay 30 = .ok (.aload_n 0, 1) := by decide +kernel
theorem dX11_lay_31 : decode cX11_lay 31 = .ok (.getfield 84, 3) := by decide +kernel
theorem dX11_lay_34 : decode cX11_lay 34 = .ok (.iload_n 1, 1) := by decide +kernel
theorem dX11_lay_35 : decode cX11_lay 35 = .ok (.iload 6, 2) := by decide +kernel
theorem dX11_lay_37 : decode cX11_lay 37 = .ok (.iastore, 1) := by decide +kernel
theorem dX11_lay_38 : decode cX11_lay 38 = .ok (.return_, 1) := by decide +kernel
theorem dX11_fact_0 : decode cX11_fact 0 = .ok (.aload_n 0, 1) := by decide +kernel
theorem dX11_fact_1 : decode cX11_fact 1 = .ok (.iload_n 1, 1) := by decide +kernel
theorem dX11_fact_2 : decode cX11_fact 2 = .ok (.iload_n 2, 1) := by decide +kernel
theorem dX11_fact_3 : decode cX11_fact 3 = .ok (.iload_n 3, 1) := by decide +kernel
theorem dX11_fact_4 : decode cX11_fact 4 = .ok (.iload 4, 2) := by decide +kernel
theorem dX11_fact_6 : decode cX11_fact 6 = .ok (.invokevirtual 233, 3) := by decide +kernel
theorem dX11_fact_9 : decode cX11_fact 9 = .ok (.istore 6, 2) := by decide +kernel
theorem dX11_fact_11 : decode cX11_fact 11 = .ok (.iload 6, 2) := by decide +kernel
theorem dX11_fact_13 : decode cX11_fact 13 = .ok (.ifCond .eq 15, 3) := by decide +kernel
theorem dX11_fact_16 : decode cX11_fact 16 = .ok (.aload_n 0, 1) := by decide +kernel
theorem dX11_fact_17 : decode cX11_fact 17 = .ok (.iload_n 1, 1) := by decide +kernel
theorem dX11_fact_18 : decode cX11_fact 18 = .ok (.iload_n 2, 1) := by decide +kernel
theorem dX11_fact_19 : decode cX11_fact 19 = .ok (.iload_n 3, 1) := by decide +kernel
theorem dX11_fact_20 : decode cX11_fact 20 = .ok (.iload 4, 2) := by decide +kernel
theorem dX11_fact_22 : decode cX11_fact 22 = .ok (.invokevirtual 237, 3) := by decide +kernel
theorem dX11_fact_25 : decode cX11_fact 25 = .ok (.goto 4, 3) := by decide +kernel
theorem dX11_fact_28 : decode cX11_fact 28 = .ok (.iconst (-1), 1) := by decide +kernel
theorem dX11_fact_29 : decode cX11_fact 29 = .ok (.istore 7, 2) := by decide +kernel
theorem dX11_fact_31 : decode cX11_fact 31 = .ok (.iload 6, 2) := by decide +kernel
theorem dX11_fact_33 : decode cX11_fact 33 = .ok (.ifCond .eq 59, 3) := by decide +kernel
theorem dX11_fact_36 : decode cX11_fact 36 = .ok (.aload_n 0, 1) := by decide +kernel
theorem dX11_fact_37 : decode cX11_fact 37 = .ok (.iconst 0, 1) := by decide +kernel
theorem dX11_fact_38 : decode cX11_fact 38 = .ok (.iload_n 1, 1) := by decide +kernel
theorem dX11_fact_39 : decode cX11_fact 39 = .ok (.invokevirtual 180, 3) := by decide +kernel
theorem dX11_fact_42 : decode cX11_fact 42 = .ok (.ifCond .eq 46, 3) := by decide +kernel
theorem dX11_fact_45 : decode cX11_fact 45 = .ok (.aload_n 0, 1) := by decide +kernel
theorem dX11_fact_46 : decode cX11_fact 46 = .ok (.iconst 1, 1) := by decide +kernel
theorem dX11_fact_47 : decode cX11_fact 47 = .ok (.iload_n 2, 1) := by decide +kernel
theorem dX11_fact_48 : decode cX11_fact 48 = .ok (.invokevirtual 180, 3) := by decide +kernel
theorem dX11_fact_51 : decode cX11_fact 51 = .ok (.ifCond .eq 37, 3) := by decide +kernel
theorem dX11_fact_54 : decode cX11_fact 54 = .ok (.aload_n 0, 1) := by decide +kernel
theorem dX11_fact_55 : decode cX11_fact 55 = .ok (.iconst 2, 1) := by decide +kernel
theorem dX11_fact_56 : decode cX11_fact 56 = .ok (.iload_n 3, 1) := by decide +kernel
theorem dX11_fact_57 : decode cX11_fact 57 = .ok (.invokevirtual 180, 3) := by decide +kernel
theorem dX11_fact_60 : decode cX11_fact 60 = .ok (.ifCond .eq 28, 3) := by decide +kernel
theorem dX11_fact_63 : decode cX11_fact 63 = .ok (.aload_n 0, 1) := by decide +kernel
theorem dX11_fact_64 : decode cX11_fact 64 = .ok (.getfield 60, 3) := by decide +kernel
theorem dX11_fact_67 : decode cX11_fact 67 = .ok (.iload 4, 2) := by decide +kernel
theorem dX11_fact_69 : decode cX11_fact 69 = .ok (.iaload, 1) := by decide +kernel
theorem dX11_fact_70 : decode cX11_fact 70 = .ok (.iconst 3, 1) := by decide +kernel
theorem dX11_fact_71 : decode cX11_fact 71 = .ok (.if_icmp .eq 17, 3) := by decide +kernel
theorem dX11_fact_74 : decode cX11_fact 74 = .ok (.iload 7, 2) := by decide +kernel
theorem dX11_fact_76 : decode cX11_fact 76 = .ok (.ifCond .ge 16, 3) := by decide +kernel
theorem dX11_fact_79 : decode cX11_fact 79 = .ok (.aload_n 0, 1) := by decide +kernel
theorem dX11_fact_80 : decode cX11_fact 80 = .ok (.getfield 230, 3) := by decide +kernel
theorem dX11_fact_83 : decode cX11_fact 83 = .ok (.bipush 50, 2) := by decide +kernel
theorem dX11_fact_85 : decode cX11_fact 85 = .ok (.if_icmp .ne 7, 3) := by decide +kernel
theorem dX11_fact_88 : decode cX11_fact 88 = .ok (.iconst 1, 1) := by decide +kernel
theorem dX11_fact_89 : decode cX11_fact 89 = .ok (.goto 4, 3) := by decide +kernel
theorem dX11_fact_92 : decode cX11_fact 92 = .ok (.iconst 0, 1) := by decide +kernel
theorem dX11_fact_93 : decode cX11_fact 93 = .ok (.istore 8, 2) := by decide +kernel
theorem dX11_fact_95 : decode cX11_fact 95 = .ok (.aload_n 0, 1) := by decide +kernel
theorem dX11_fact_96 : decode cX11_fact 96 = .ok (.iload 6, 2) := by decide +kernel
theorem dX11_fact_98 : decode cX11_fact 98 = .ok (.ifCond .ne 7, 3) := by decide +kernel
theorem dX11_fact_101 : decode cX11_fact 101 = .ok (.iconst 1, 1) := by decide +kernel
theorem dX11_fact_102 : decode cX11_fact 102 = .ok (.goto 33, 3) := by decide +kernel
theorem dX11_fact_105 : decode cX11_fact 105 = .ok (.aload_n 0, 1) := by decide +kernel
theorem dX11_fact_106 : decode cX11_fact 106 = .ok (.iload 5, 2) := by decide +kernel
theorem dX11_fact_108 : decode cX11_fact 108 = .ok (.i2l, 1) := by decide +kernel
theorem dX11_fact_109 : decode cX11_fact 109 = .ok (.ldc2_w 213, 3) := by decide +kernel
theorem dX11_fact_112 : decode cX11_fact 112 = .ok (.ldc2_w 215, 3) := by decide +kernel
theorem dX11_fact_115 : decode cX11_fact 115 = .ok (.invokevirtual 145, 3) := by decide +kernel
theorem dX11_fact_118 : decode cX11_fact 118 = .ok (.ifCond .ne 7, 3) := by decide +kernel
theorem dX11_fact_121 : decode cX11_fact 121 = .ok (.iconst 2, 1) := by decide +kernel
theorem dX11_fact_122 : decode cX11_fact 122 = .ok (.goto 13, 3) := by decide +kernel
theorem dX11_fact_125 : decode cX11_fact 125 = .ok (.iload 8, 2) := by decide +kernel
theorem dX11_fact_127 : decode cX11_fact 127 = .ok (.ifCond .eq 7, 3) := by decide +kernel
theorem dX11_fact_130 : decode cX11_fact 130 = .ok (.iconst 3, 1) := by decide +kernel
theorem dX11_fact_131 : decode cX11_fact 131 = .ok (.goto 4, 3) := by decide +kernel
theorem dX11_fact_134 : decode cX11_fact 134 = .ok (.iconst 0, 1) := by decide +kernel
theorem dX11_fact_135 : decode cX11_fact 135 = .ok (.invokevirtual 185, 3) := by decide +kernel
theorem dX11_fact_138 : decode cX11_fact 138 = .ok (.ifCond .eq 5, 3) := by decide +kernel
theorem dX11_fact_141 : decode cX11_fact 141 = .ok (.iconst (-1), 1) := by decide +kernel
theorem dX11_fact_142 : decode cX11_fact 142 = .ok (.ireturn, 1) := by decide +kernel
theorem dX11_fact_143 : decode cX11_fact 143 = .ok (.aload_n 0, 1) := by decide +kernel
theorem dX11_fact_144 : decode cX11_fact 144 = .ok (.iload 7, 2) := by decide +kernel
theorem dX11_fact_146 : decode cX11_fact 146 = .ok (.iload_n 1, 1) := by decide +kernel
theorem dX11_fact_147 : decode cX11_fact 147 = .ok (.iload_n 2, 1) := by decide +kernel
theorem dX11_fact_148 : decode cX11_fact 148 = .ok (.iload_n 3, 1) := by decide +kernel
theorem dX11_fact_149 : decode cX11_fact 149 = .ok (.iload 4, 2) := by decide +kernel
theorem dX11_fact_151 : decode cX11_fact 151 = .ok (.iload 5, 2) := by decide +kernel
theorem dX11_fact_153 : decode cX11_fact 153 = .ok (.invokevirtual 241, 3) := by decide +kernel
theorem dX11_fact_156 : decode cX11_fact 156 = .ok (.pop, 1) := by decide +kernel
theorem dX11_fact_157 : decode cX11_fact 157 = .ok (.aload_n 0, 1) := by decide +kernel
theorem dX11_fact_158 : decode cX11_fact 158 = .ok (.getfield 230, 3) := by decide +kernel
theorem dX11_fact_161 : decode cX11_fact 161 = .ok (.ireturn, 1) := by decide +kernel
theorem dX11_put_0 : decode cX11_put 0 = .ok (.iload_n 1, 1) := by decide +kernel
theorem dX11_put_1 : decode cX11_put 1 = .ok (.ifCond .lt 16, 3) := by decide +kernel
theorem dX11_put_4 : decode cX11_put 4 = .ok (.aload_n 0, 1) := by decide +kernel
theorem dX11_put_5 : decode cX11_put 5 = .ok (.getfield 84, 3) := by decide +kernel
theorem dX11_put_8 : decode cX11_put 8 = .ok (.iload_n 1, 1) := by decide +kernel
theorem dX11_put_9 : decode cX11_put 9 = .ok (.iaload, 1) := by decide +kernel
theorem dX11_put_10 : decode cX11_put 10 = .ok (.iload 6, 2) := by decide +kernel
theorem dX11_put_12 : decode cX11_put 12 = .ok (.if_icmp .ne 5, 3) := by decide +kernel
theorem dX11_put_15 : decode cX11_put 15 = .ok (.iconst 0, 1) := by decide +kernel
theorem dX11_put_16 : decode cX11_put 16 = .ok (.ireturn, 1) := by decide +kernel
theorem dX11_put_17 : decode cX11_put 17 = .ok (.iload_n 1, 1) := by decide +kernel
theorem dX11_put_18 : decode cX11_put 18 = .ok (.ifCond .ge 10, 3) := by decide +kernel
theorem dX11_put_21 : decode cX11_put 21 = .ok (.aload_n 0, 1) := by decide +kernel
theorem dX11_put_22 : decode cX11_put 22 = .ok (.getfield 230, 3) := by decide +kernel
theorem dX11_put_25 : decode cX11_put 25 = .ok (.goto 4, 3) := by decide +kernel
theorem dX11_put_28 : decode cX11_put 28 = .ok (.iload_n 1, 1) := by decide +kernel
theorem dX11_put_29 : decode cX11_put 29 = .ok (.istore 7, 2) := by decide +kernel
theorem dX11_put_31 : decode cX11_put 31 = .ok (.aload_n 0, 1) := by decide +kernel
theorem dX11_put_32 : decode cX11_put 32 = .ok (.iload 7, 2) := by decide +kernel
theorem dX11_put_34 : decode cX11_put 34 = .ok (.iload_n 2, 1) := by decide +kernel
theorem dX11_put_35 : decode cX11_put 35 = .ok (.iload_n 3, 1) := by decide +kernel
theorem dX11_put_36 : decode cX11_put 36 = .ok (.iload 4, 2) := by decide +kernel
theorem dX11_put_38 : decode cX11_put 38 = .ok (.iload 5, 2) := by decide +kernel
theorem dX11_put_40 : decode cX11_put 40 = .ok (.iload 6, 2) := by decide +kernel
theorem dX11_put_42 : decode cX11_put 42 = .ok (.invokevirtual 245, 3) := by decide +kernel
theorem dX11_put_45 : decode cX11_put 45 = .ok (.aload_n 0, 1) := by decide +kernel
theorem dX11_put_46 : decode cX11_put 46 = .ok (.dup, 1) := by decide +kernel
theorem dX11_put_47 : decode cX11_put 47 = .ok (.getfield 230, 3) := by decide +kernel
theorem dX11_put_50 : decode cX11_put 50 = .ok (.iload_n 1, 1) := by decide +kernel
theorem dX11_put_51 : decode cX11_put 51 = .ok (.ifCond .ge 7, 3) := by decide +kernel
theorem dX11_put_54 : decode cX11_put 54 = .ok (.iconst 1, 1) := by decide +kernel
theorem dX11_put_55 : decode cX11_put 55 = .ok (.goto 4, 3) := by decide +kernel
theorem dX11_put_58 : decode cX11_put 58 = .ok (.iconst 0, 1) := by decide +kernel
theorem dX11_put_59 : decode cX11_put 59 = .ok (.iadd, 1) := by decide +kernel
theorem dX11_put_60 : decode cX11_put 60 = .ok (.putfield 230, 3) := by decide +kernel
theorem dX11_put_63 : decode cX11_put 63 = .ok (.aload_n 0, 1) := by decide +kernel
theorem dX11_put_64 : decode cX11_put 64 = .ok (.iload 7, 2) := by decide +kernel
theorem dX11_put_66 : decode cX11_put 66 = .ok (.invokevirtual 249, 3) := by decide +kernel
theorem dX11_put_69 : decode cX11_put 69 = .ok (.iconst 1, 1) := by decide +kernel
theorem dX11_put_70 : decode cX11_put 70 = .ok (.ireturn, 1) := by decide +kernel
theorem dX11_forget_0 : decode cX11_forget 0 = .ok (.aload_n 0, 1) := by decide +kernel
theorem dX11_forget_1 : decode cX11_forget 1 = .ok (.iload_n 1, 1) := by decide +kernel
theorem dX11_forget_2 : decode cX11_forget 2 = .ok (.iload_n 2, 1) := by decide +kernel
theorem dX11_forget_3 : decode cX11_forget 3 = .ok (.iload_n 3, 1) := by decide +kernel
theorem dX11_forget_4 : decode cX11_forget 4 = .ok (.iload 4, 2) := by decide +kernel
theorem dX11_forget_6 : decode cX11_forget 6 = .ok (.invokevirtual 233, 3) := by decide +kernel
theorem dX11_forget_9 : decode cX11_forget 9 = .ok (.istore 5, 2) := by decide +kernel
theorem dX11_forget_11 : decode cX11_forget 11 = .ok (.iload 5, 2) := by decide +kernel
theorem dX11_forget_13 : decode cX11_forget 13 = .ok (.ifCond .eq 15, 3) := by decide +kernel
theorem dX11_forget_16 : decode cX11_forget 16 = .ok (.aload_n 0, 1) := by decide +kernel
theorem dX11_forget_17 : decode cX11_forget 17 = .ok (.iload_n 1, 1) := by decide +kernel
theorem dX11_forget_18 : decode cX11_forget 18 = .ok (.iload_n 2, 1) := by decide +kernel
theorem dX11_forget_19 : decode cX11_forget 19 = .ok (.iload_n 3, 1) := by decide +kernel
theorem dX11_forget_20 : decode cX11_forget 20 = .ok (.iload 4, 2) := by decide +kernel
theorem dX11_forget_22 : decode cX11_forget 22 = .ok (.invokevirtual 237, 3) := by decide +kernel
theorem dX11_forget_25 : decode cX11_forget 25 = .ok (.goto 4, 3) := by decide +kernel
theorem dX11_forget_28 : decode cX11_forget 28 = .ok (.iconst (-1), 1) := by decide +kernel
theorem dX11_forget_29 : decode cX11_forget 29 = .ok (.istore 6, 2) := by decide +kernel
theorem dX11_forget_31 : decode cX11_forget 31 = .ok (.aload_n 0, 1) := by decide +kernel
theorem dX11_forget_32 : decode cX11_forget 32 = .ok (.iload 5, 2) := by decide +kernel
theorem dX11_forget_34 : decode cX11_forget 34 = .ok (.ifCond .ne 7, 3) := by decide +kernel
theorem dX11_forget_37 : decode cX11_forget 37 = .ok (.iconst 1, 1) := by decide +kernel
theorem dX11_forget_38 : decode cX11_forget 38 = .ok (.goto 13, 3) := by decide +kernel
theorem dX11_forget_41 : decode cX11_forget 41 = .ok (.iload 6, 2) := by decide +kernel
theorem dX11_forget_43 : decode cX11_forget 43 = .ok (.ifCond .ge 7, 3) := by decide +kernel
theorem dX11_forget_46 : decode cX11_forget 46 = .ok (.iconst 2, 1) := by decide +kernel
theorem dX11_forget_47 : decode cX11_forget 47 = .ok (.goto 4, 3) := by decide +kernel
theorem dX11_forget_50 : decode cX11_forget 50 = .ok (.iconst 0, 1) := by decide +kernel
theorem dX11_forget_51 : decode cX11_forget 51 = .ok (.invokevirtual 185, 3) := by decide +kernel
theorem dX11_forget_54 : decode cX11_forget 54 = .ok (.ifCond .eq 5, 3) := by decide +kernel
theorem dX11_forget_57 : decode cX11_forget 57 = .ok (.iconst (-1), 1) := by decide +kernel
theorem dX11_forget_58 : decode cX11_forget 58 = .ok (.ireturn, 1) := by decide +kernel
theorem dX11_forget_59 : decode cX11_forget 59 = .ok (.aload_n 0, 1) := by decide +kernel
theorem dX11_forget_60 : decode cX11_forget 60 = .ok (.getfield 84, 3) := by decide +kernel
theorem dX11_forget_63 : decode cX11_forget 63 = .ok (.iload 6, 2) := by decide +kernel
theorem dX11_forget_65 : decode cX11_forget 65 = .ok (.iaload, 1) := by decide +kernel
theorem dX11_forget_66 : decode cX11_forget 66 = .ok (.istore 7, 2) := by decide +kernel
theorem dX11_forget_68 : decode cX11_forget 68 = .ok (.aload_n 0, 1) := by decide +kernel
theorem dX11_forget_69 : decode cX11_forget 69 = .ok (.iload 6, 2) := by decide +kernel
theorem dX11_forget_71 : decode cX11_forget 71 = .ok (.invokevirtual 249, 3) := by decide +kernel
theorem dX11_forget_74 : decode cX11_forget 74 = .ok (.aload_n 0, 1) := by decide +kernel
theorem dX11_forget_75 : decode cX11_forget 75 = .ok (.dup, 1) := by decide +kernel
theorem dX11_forget_76 : decode cX11_forget 76 = .ok (.getfield 230, 3) := by decide +kernel
theorem dX11_forget_79 : decode cX11_forget 79 = .ok (.iconst 1, 1) := by decide +kernel
theorem dX11_forget_80 : decode cX11_forget 80 = .ok (.isub, 1) := by decide +kernel
theorem dX11_forget_81 : decode cX11_forget 81 = .ok (.putfield 230, 3) := by decide +kernel
theorem dX11_forget_84 : decode cX11_forget 84 = .ok (.iload 6, 2) := by decide +kernel
theorem dX11_forget_86 : decode cX11_forget 86 = .ok (.istore 8, 2) := by decide +kernel
theorem dX11_forget_88 : decode cX11_forget 88 = .ok (.iload 8, 2) := by decide +kernel
theorem dX11_forget_90 : decode cX11_forget 90 = .ok (.aload_n 0, 1) := by decide +kernel
theorem dX11_forget_91 : decode cX11_forget 91 = .ok (.getfield 230, 3) := by decide +kernel
theorem dX11_forget_94 : decode cX11_forget 94 = .ok (.if_icmp .ge 60, 3) := by decide +kernel
theorem dX11_forget_97 : decode cX11_forget 97 = .ok (.aload_n 0, 1) := by decide +kernel
theorem dX11_forget_98 : decode cX11_forget 98 = .ok (.iload 8, 2) := by decide +kernel
theorem dX11_forget_100 : decode cX11_forget 100 = .ok (.aload_n 0, 1) := by decide +kernel
theorem dX11_forget_101 : decode cX11_forget 101 = .ok (.getfield 72, 3) := by decide +kernel
theorem dX11_forget_104 : decode cX11_forget 104 = .ok (.iload 8, 2) := by decide +kernel
theorem dX11_forget_106 : decode cX11_forget 106 = .ok (.iconst 1, 1) := by decide +kernel
theorem dX11_forget_107 : decode cX11_forget 107 = .ok (.iadd, 1) := by decide +kernel
theorem dX11_forget_108 : decode cX11_forget 108 = .ok (.iaload, 1) := by decide +kernel
theorem dX11_forget_109 : decode cX11_forget 109 = .ok (.aload_n 0, 1) := by decide +kernel
theorem dX11_forget_110 : decode cX11_forget 110 = .ok (.getfield 75, 3) := by decide +kernel
theorem dX11_forget_113 : decode cX11_forget 113 = .ok (.iload 8, 2) := by decide +kernel
theorem dX11_forget_115 : decode cX11_forget 115 = .ok (.iconst 1, 1) := by decide +kernel
theorem dX11_forget_116 : decode cX11_forget 116 = .ok (.iadd, 1) := by decide +kernel
theorem dX11_forget_117 : decode cX11_forget 117 = .ok (.iaload, 1) := by decide +kernel
theorem dX11_forget_118 : decode cX11_forget 118 = .ok (.aload_n 0, 1) := by decide +kernel
theorem dX11_forget_119 : decode cX11_forget 119 = .ok (.getfield 78, 3) := by decide +kernel
theorem dX11_forget_122 : decode cX11_forget 122 = .ok (.iload 8, 2) := by decide +kernel
theorem dX11_forget_124 : decode cX11_forget 124 = .ok (.iconst 1, 1) := by decide +kernel
theorem dX11_forget_125 : decode cX11_forget 125 = .ok (.iadd, 1) := by decide +kernel
theorem dX11_forget_126 : decode cX11_forget 126 = .ok (.iaload, 1) := by decide +kernel
theorem dX11_forget_127 : decode cX11_forget 127 = .ok (.aload_n 0, 1) := by decide +kernel
theorem dX11_forget_128 : decode cX11_forget 128 = .ok (.getfield 81, 3) := by decide +kernel
theorem dX11_forget_131 : decode cX11_forget 131 = .ok (.iload 8, 2) := by decide +kernel
theorem dX11_forget_133 : decode cX11_forget 133 = .ok (.iconst 1, 1) := by decide +kernel
theorem dX11_forget_134 : decode cX11_forget 134 = .ok (.iadd, 1) := by decide +kernel
theorem dX11_forget_135 : decode cX11_forget 135 = .ok (.iaload, 1) := by decide +kernel
theorem dX11_forget_136 : decode cX11_forget 136 = .ok (.aload_n 0, 1) := by decide +kernel
theorem dX11_forget_137 : decode cX11_forget 137 = .ok (.getfield 84, 3) := by decide +kernel
theorem dX11_forget_140 : decode cX11_forget 140 = .ok (.iload 8, 2) := by decide +kernel
theorem dX11_forget_142 : decode cX11_forget 142 = .ok (.iconst 1, 1) := by decide +kernel
theorem dX11_forget_143 : decode cX11_forget 143 = .ok (.iadd, 1) := by decide +kernel
theorem dX11_forget_144 : decode cX11_forget 144 = .ok (.iaload, 1) := by decide +kernel
theorem dX11_forget_145 : decode cX11_forget 145 = .ok (.invokevirtual 245, 3) := by decide +kernel
theorem dX11_forget_148 : decode cX11_forget 148 = .ok (.iinc 8 1, 3) := by decide +kernel
theorem dX11_forget_151 : decode cX11_forget 151 = .ok (.goto (-63), 3) := by decide +kernel
theorem dX11_forget_154 : decode cX11_forget 154 = .ok (.iload 7, 2) := by decide +kernel
theorem dX11_forget_156 : decode cX11_forget 156 = .ok (.ireturn, 1) := by decide +kernel
theorem dX11_weightTo_0 : decode cX11_weightTo 0 = .ok (.iconst 1, 1) := by decide +kernel
theorem dX11_weightTo_1 : decode cX11_weightTo 1 = .ok (.istore 5, 2) := by decide +kernel
theorem dX11_weightTo_3 : decode cX11_weightTo 3 = .ok (.iload_n 2, 1) := by decide +kernel
theorem dX11_weightTo_4 : decode cX11_weightTo 4 = .ok (.istore 6, 2) := by decide +kernel
theorem dX11_weightTo_6 : decode cX11_weightTo 6 = .ok (.iload 6, 2) := by decide +kernel
theorem dX11_weightTo_8 : decode cX11_weightTo 8 = .ok (.iload_n 3, 1) := by decide +kernel
theorem dX11_weightTo_9 : decode cX11_weightTo 9 = .ok (.if_icmp .le 48, 3) := by decide +kernel
theorem dX11_weightTo_12 : decode cX11_weightTo 12 = .ok (.iload 5, 2) := by decide +kernel
theorem dX11_weightTo_14 : decode cX11_weightTo 14 = .ok (.aload_n 0, 1) := by decide +kernel
theorem dX11_weightTo_15 : decode cX11_weightTo 15 = .ok (.getfield 21, 3) := by decide +kernel
theorem dX11_weightTo_18 : decode cX11_weightTo 18 = .ok (.bipush 12, 2) := by decide +kernel
theorem dX11_weightTo_20 : decode cX11_weightTo 20 = .ok (.iload_n 1, 1) := by decide +kernel
theorem dX11_weightTo_21 : decode cX11_weightTo 21 = .ok (.imul, 1) := by decide +kernel
theorem dX11_weightTo_22 : decode cX11_weightTo 22 = .ok (.iload 6, 2) := by decide +kernel
theorem dX11_weightTo_24 : decode cX11_weightTo 24 = .ok (.iadd, 1) := by decide +kernel
theorem dX11_weightTo_25 : decode cX11_weightTo 25 = .ok (.iaload, 1) := by decide +kernel
theorem dX11_weightTo_26 : decode cX11_weightTo 26 = .ok (.imul, 1) := by decide +kernel
theorem dX11_weightTo_27 : decode cX11_weightTo 27 = .ok (.istore 5, 2) := by decide +kernel
theorem dX11_weightTo_29 : decode cX11_weightTo 29 = .ok (.iload_n 1, 1) := by decide +kernel
theorem dX11_weightTo_30 : decode cX11_weightTo 30 = .ok (.ifCond .ne 13, 3) := by decide +kernel
theorem dX11_weightTo_33 : decode cX11_weightTo 33 = .ok (.aload_n 0, 1) := by decide +kernel
theorem dX11_weightTo_34 : decode cX11_weightTo 34 = .ok (.getfield 18, 3) := by decide +kernel
theorem dX11_weightTo_37 : decode cX11_weightTo 37 = .ok (.iload 6, 2) := by decide +kernel
theorem dX11_weightTo_39 : decode cX11_weightTo 39 = .ok (.iaload, 1) := by decide +kernel
theorem dX11_weightTo_40 : decode cX11_weightTo 40 = .ok (.goto 12, 3) := by decide +kernel
theorem dX11_weightTo_43 : decode cX11_weightTo 43 = .ok (.aload_n 0, 1) := by decide +kernel
theorem dX11_weightTo_44 : decode cX11_weightTo 44 = .ok (.iload_n 1, 1) := by decide +kernel
theorem dX11_weightTo_45 : decode cX11_weightTo 45 = .ok (.iload 6, 2) := by decide +kernel
theorem dX11_weightTo_47 : decode cX11_weightTo 47 = .ok (.iload 4, 2) := by decide +kernel
theorem dX11_weightTo_49 : decode cX11_weightTo 49 = .ok (.invokevirtual 169, 3) := by decide +kernel
theorem dX11_weightTo_52 : decode cX11_weightTo 52 = .ok (.istore 6, 2) := by decide +kernel
theorem dX11_weightTo_54 : decode cX11_weightTo 54 = .ok (.goto (-48), 3) := by decide +kernel
theorem dX11_weightTo_57 : decode cX11_weightTo 57 = .ok (.iload 6, 2) := by decide +kernel
theorem dX11_weightTo_59 : decode cX11_weightTo 59 = .ok (.iload_n 3, 1) := by decide +kernel
theorem dX11_weightTo_60 : decode cX11_weightTo 60 = .ok (.if_icmp .ne 8, 3) := by decide +kernel
theorem dX11_weightTo_63 : decode cX11_weightTo 63 = .ok (.iload 5, 2) := by decide +kernel
theorem dX11_weightTo_65 : decode cX11_weightTo 65 = .ok (.goto 4, 3) := by decide +kernel
theorem dX11_weightTo_68 : decode cX11_weightTo 68 = .ok (.iconst 2, 1) := by decide +kernel
theorem dX11_weightTo_69 : decode cX11_weightTo 69 = .ok (.ireturn, 1) := by decide +kernel
theorem dX11_weight_0 : decode cX11_weight 0 = .ok (.bipush 12, 2) := by decide +kernel
theorem dX11_weight_2 : decode cX11_weight 2 = .ok (.iload_n 1, 1) := by decide +kernel
theorem dX11_weight_3 : decode cX11_weight 3 = .ok (.imul, 1) := by decide +kernel
theorem dX11_weight_4 : decode cX11_weight 4 = .ok (.iload_n 3, 1) := by decide +kernel
theorem dX11_weight_5 : decode cX11_weight 5 = .ok (.iadd, 1) := by decide +kernel
theorem dX11_weight_6 : decode cX11_weight 6 = .ok (.istore 5, 2) := by decide +kernel
theorem dX11_weight_8 : decode cX11_weight 8 = .ok (.aload_n 0, 1) := by decide +kernel
theorem dX11_weight_9 : decode cX11_weight 9 = .ok (.getfield 15, 3) := by decide +kernel
theorem dX11_weight_12 : decode cX11_weight 12 = .ok (.iload 5, 2) := by decide +kernel
theorem dX11_weight_14 : decode cX11_weight 14 = .ok (.iaload, 1) := by decide +kernel
theorem dX11_weight_15 : decode cX11_weight 15 = .ok (.ifCond .ne 13, 3) := by decide +kernel
theorem dX11_weight_18 : decode cX11_weight 18 = .ok (.aload_n 0, 1) := by decide +kernel
theorem dX11_weight_19 : decode cX11_weight 19 = .ok (.iload_n 1, 1) := by decide +kernel
theorem dX11_weight_20 : decode cX11_weight 20 = .ok (.iload_n 2, 1) := by decide +kernel
theorem dX11_weight_21 : decode cX11_weight 21 = .ok (.iload_n 3, 1) := by decide +kernel
theorem dX11_weight_22 : decode cX11_weight 22 = .ok (.iload 4, 2) := by decide +kernel
theorem dX11_weight_24 : decode cX11_weight 24 = .ok (.invokevirtual 253, 3) := by decide +kernel
theorem dX11_weight_27 : decode cX11_weight 27 = .ok (.ireturn, 1) := by decide +kernel
theorem dX11_weight_28 : decode cX11_weight 28 = .ok (.iconst 2, 1) := by decide +kernel
theorem dX11_weight_29 : decode cX11_weight 29 = .ok (.istore 6, 2) := by decide +kernel
theorem dX11_weight_31 : decode cX11_weight 31 = .ok (.iconst 0, 1) := by decide +kernel
theorem dX11_weight_32 : decode cX11_weight 32 = .ok (.istore 7, 2) := by decide +kernel
theorem dX11_weight_34 : decode cX11_weight 34 = .ok (.iload 7, 2) := by decide +kernel
theorem dX11_weight_36 : decode cX11_weight 36 = .ok (.bipush 12, 2) := by decide +kernel
theorem dX11_weight_38 : decode cX11_weight 38 = .ok (.if_icmp .ge 58, 3) := by decide +kernel
theorem dX11_weight_41 : decode cX11_weight 41 = .ok (.aload_n 0, 1) := by decide +kernel
theorem dX11_weight_42 : decode cX11_weight 42 = .ok (.getfield 15, 3) := by decide +kernel
theorem dX11_weight_45 : decode cX11_weight 45 = .ok (.iload 5, 2) := by decide +kernel
theorem dX11_weight_47 : decode cX11_weight 47 = .ok (.iaload, 1) := by decide +kernel
theorem dX11_weight_48 : decode cX11_weight 48 = .ok (.iconst 1, 1) := by decide +kernel
theorem dX11_weight_49 : decode cX11_weight 49 = .ok (.if_icmp .ne 47, 3) := by decide +kernel
theorem dX11_weight_52 : decode cX11_weight 52 = .ok (.iload 6, 2) := by decide +kernel
theorem dX11_weight_54 : decode cX11_weight 54 = .ok (.iconst 2, 1) := by decide +kernel
theorem dX11_weight_55 : decode cX11_weight 55 = .ok (.if_icmp .ne 41, 3) := by decide +kernel
theorem dX11_weight_58 : decode cX11_weight 58 = .ok (.aload_n 0, 1) := by decide +kernel
theorem dX11_weight_59 : decode cX11_weight 59 = .ok (.getfield 24, 3) := by decide +kernel
theorem dX11_weight_62 : decode cX11_weight 62 = .ok (.iload 5, 2) := by decide +kernel
theorem dX11_weight_64 : decode cX11_weight 64 = .ok (.iaload, 1) := by decide +kernel
theorem dX11_weight_65 : decode cX11_weight 65 = .ok (.iload 7, 2) := by decide +kernel
theorem dX11_weight_67 : decode cX11_weight 67 = .ok (.ishr, 1) := by decide +kernel
theorem dX11_weight_68 : decode cX11_weight 68 = .ok (.iconst 1, 1) := by decide +kernel
theorem dX11_weight_69 : decode cX11_weight 69 = .ok (.iand, 1) := by decide +kernel
theorem dX11_weight_70 : decode cX11_weight 70 = .ok (.iconst 1, 1) := by decide +kernel
theorem dX11_weight_71 : decode cX11_weight 71 = .ok (.if_icmp .ne 16, 3) := by decide +kernel
theorem dX11_weight_74 : decode cX11_weight 74 = .ok (.aload_n 0, 1) := by decide +kernel
theorem dX11_weight_75 : decode cX11_weight 75 = .ok (.iload_n 1, 1) := by decide +kernel
theorem dX11_weight_76 : decode cX11_weight 76 = .ok (.iload_n 2, 1) := by decide +kernel
theorem dX11_weight_77 : decode cX11_weight 77 = .ok (.iload 7, 2) := by decide +kernel
theorem dX11_weight_79 : decode cX11_weight 79 = .ok (.iload 4, 2) := by decide +kernel
theorem dX11_weight_81 : decode cX11_weight 81 = .ok (.invokevirtual 253, 3) := by decide +kernel
theorem dX11_weight_84 : decode cX11_weight 84 = .ok (.goto 4, 3) := by decide +kernel
theorem dX11_weight_87 : decode cX11_weight 87 = .ok (.iconst 2, 1) := by decide +kernel
theorem dX11_weight_88 : decode cX11_weight 88 = .ok (.istore 6, 2) := by decide +kernel
theorem dX11_weight_90 : decode cX11_weight 90 = .ok (.iinc 7 1, 3) := by decide +kernel
theorem dX11_weight_93 : decode cX11_weight 93 = .ok (.goto (-59), 3) := by decide +kernel
theorem dX11_weight_96 : decode cX11_weight 96 = .ok (.iload 6, 2) := by decide +kernel
theorem dX11_weight_98 : decode cX11_weight 98 = .ok (.ireturn, 1) := by decide +kernel
theorem dX11_counts_0 : decode cX11_counts 0 = .ok (.aload_n 0, 1) := by decide +kernel
theorem dX11_counts_1 : decode cX11_counts 1 = .ok (.getfield 199, 3) := by decide +kernel
theorem dX11_counts_4 : decode cX11_counts 4 = .ok (.ifCond .eq 8, 3) := by decide +kernel
theorem dX11_counts_7 : decode cX11_counts 7 = .ok (.bipush 99, 2) := by decide +kernel
theorem dX11_counts_9 : decode cX11_counts 9 = .ok (.goto 14, 3) := by decide +kernel
theorem dX11_counts_12 : decode cX11_counts 12 = .ok (.aload_n 0, 1) := by decide +kernel
theorem dX11_counts_13 : decode cX11_counts 13 = .ok (.getfield 57, 3) := by decide +kernel
theorem dX11_counts_16 : decode cX11_counts 16 = .ok (.aload_n 0, 1) := by decide +kernel
theorem dX11_counts_17 : decode cX11_counts 17 = .ok (.getfield 72, 3) := by decide +kernel
theorem dX11_counts_20 : decode cX11_counts 20 = .ok (.iload_n 1, 1) := by decide +kernel
theorem dX11_counts_21 : decode cX11_counts 21 = .ok (.iaload, 1) := by decide +kernel
theorem dX11_counts_22 : decode cX11_counts 22 = .ok (.iaload, 1) := by decide +kernel
theorem dX11_counts_23 : decode cX11_counts 23 = .ok (.istore 5, 2) := by decide +kernel
theorem dX11_counts_25 : decode cX11_counts 25 = .ok (.aload_n 0, 1) := by decide +kernel
theorem dX11_counts_26 : decode cX11_counts 26 = .ok (.iconst 0, 1) := by decide +kernel
theorem dX11_counts_27 : decode cX11_counts 27 = .ok (.aload_n 0, 1) := by decide +kernel
theorem dX11_counts_28 : decode cX11_counts 28 = .ok (.getfield 72, 3) := by decide +kernel
theorem dX11_counts_31 : decode cX11_counts 31 = .ok (.iload_n 1, 1) := by decide +kernel
theorem dX11_counts_32 : decode cX11_counts 32 = .ok (.iaload, 1) := by decide +kernel
theorem dX11_counts_33 : decode cX11_counts 33 = .ok (.iload_n 2, 1) := by decide +kernel
theorem dX11_counts_34 : decode cX11_counts 34 = .ok (.iload 5, 2) := by decide +kernel
theorem dX11_counts_36 : decode cX11_counts 36 = .ok (.invokevirtual 256, 3) := by decide +kernel
theorem dX11_counts_39 : decode cX11_counts 39 = .ok (.istore 6, 2) := by decide +kernel
theorem dX11_counts_41 : decode cX11_counts 41 = .ok (.aload_n 0, 1) := by decide +kernel
theorem dX11_counts_42 : decode cX11_counts 42 = .ok (.iconst 1, 1) := by decide +kernel
theorem dX11_counts_43 : decode cX11_counts 43 = .ok (.aload_n 0, 1) := by decide +kernel
theorem dX11_counts_44 : decode cX11_counts 44 = .ok (.getfield 75, 3) := by decide +kernel
theorem dX11_counts_47 : decode cX11_counts 47 = .ok (.iload_n 1, 1) := by decide +kernel
theorem dX11_counts_48 : decode cX11_counts 48 = .ok (.iaload, 1) := by decide +kernel
theorem dX11_counts_49 : decode cX11_counts 49 = .ok (.iload_n 3, 1) := by decide +kernel
theorem dX11_counts_50 : decode cX11_counts 50 = .ok (.iload 5, 2) := by decide +kernel
theorem dX11_counts_52 : decode cX11_counts 52 = .ok (.invokevirtual 256, 3) := by decide +kernel
theorem dX11_counts_55 : decode cX11_counts 55 = .ok (.istore 7, 2) := by decide +kernel
theorem dX11_counts_57 : decode cX11_counts 57 = .ok (.aload_n 0, 1) := by decide +kernel
theorem dX11_counts_58 : decode cX11_counts 58 = .ok (.iconst 2, 1) := by decide +kernel
theorem dX11_counts_59 : decode cX11_counts 59 = .ok (.aload_n 0, 1) := by decide +kernel
theorem dX11_counts_60 : decode cX11_counts 60 = .ok (.getfield 78, 3) := by decide +kernel
theorem dX11_counts_63 : decode cX11_counts 63 = .ok (.iload_n 1, 1) := by decide +kernel
theorem dX11_counts_64 : decode cX11_counts 64 = .ok (.iaload, 1) := by decide +kernel
theorem dX11_counts_65 : decode cX11_counts 65 = .ok (.iload 4, 2) := by decide +kernel
theorem dX11_counts_67 : decode cX11_counts 67 = .ok (.iload 5, 2) := by decide +kernel
theorem dX11_counts_69 : decode cX11_counts 69 = .ok (.invokevirtual 256, 3) := by decide +kernel
theorem dX11_counts_72 : decode cX11_counts 72 = .ok (.istore 8, 2) := by decide +kernel
theorem dX11_counts_74 : decode cX11_counts 74 = .ok (.aload_n 0, 1) := by decide +kernel
theorem dX11_counts_75 : decode cX11_counts 75 = .ok (.getfield 225, 3) := by decide +kernel
theorem dX11_counts_78 : decode cX11_counts 78 = .ok (.ifCond .eq 49, 3) := by decide +kernel
theorem dX11_counts_81 : decode cX11_counts 81 = .ok (.aload_n 0, 1) := by decide +kernel
theorem dX11_counts_82 : decode cX11_counts 82 = .ok (.iconst 0, 1) := by decide +kernel
theorem dX11_counts_83 : decode cX11_counts 83 = .ok (.aload_n 0, 1) := by decide +kernel
theorem dX11_counts_84 : decode cX11_counts 84 = .ok (.getfield 72, 3) := by decide +kernel
theorem dX11_counts_87 : decode cX11_counts 87 = .ok (.iload_n 1, 1) := by decide +kernel
theorem dX11_counts_88 : decode cX11_counts 88 = .ok (.iaload, 1) := by decide +kernel
theorem dX11_counts_89 : decode cX11_counts 89 = .ok (.invokevirtual 208, 3) := by decide +kernel
theorem dX11_counts_92 : decode cX11_counts 92 = .ok (.ifCond .eq 31, 3) := by decide +kernel
theorem dX11_counts_95 : decode cX11_counts 95 = .ok (.aload_n 0, 1) := by decide +kernel
theorem dX11_counts_96 : decode cX11_counts 96 = .ok (.iconst 1, 1) := by decide +kernel
theorem dX11_counts_97 : decode cX11_counts 97 = .ok (.aload_n 0, 1) := by decide +kernel
theorem dX11_counts_98 : decode cX11_counts 98 = .ok (.getfield 75, 3) := by decide +kernel
theorem dX11_counts_101 : decode cX11_counts 101 = .ok (.iload_n 1, 1) := by decide +kernel
theorem dX11_counts_102 : decode cX11_counts 102 = .ok (.iaload, 1) := by decide +kernel
theorem dX11_counts_103 : decode cX11_counts 103 = .ok (.invokevirtual 208, 3) := by decide +kernel
theorem dX11_counts_106 : decode cX11_counts 106 = .ok (.ifCond .eq 17, 3) := by decide +kernel
theorem dX11_counts_109 : decode cX11_counts 109 = .ok (.aload_n 0, 1) := by decide +kernel
theorem dX11_counts_110 : decode cX11_counts 110 = .ok (.iconst 2, 1) := by decide +kernel
theorem dX11_counts_111 : decode cX11_counts 111 = .ok (.aload_n 0, 1) := by decide +kernel
theorem dX11_counts_112 : decode cX11_counts 112 = .ok (.getfield 78, 3) := by decide +kernel
theorem dX11_counts_115 : decode cX11_counts 115 = .ok (.iload_n 1, 1) := by decide +kernel
theorem dX11_counts_116 : decode cX11_counts 116 = .ok (.iaload, 1) := by decide +kernel
theorem dX11_counts_117 : decode cX11_counts 117 = .ok (.invokevirtual 208, 3) := by decide +kernel
theorem dX11_counts_120 : decode cX11_counts 120 = .ok (.ifCond .ne 7, 3) := by decide +kernel
theorem dX11_counts_123 : decode cX11_counts 123 = .ok (.iconst 1, 1) := by decide +kernel
theorem dX11_counts_124 : decode cX11_counts 124 = .ok (.goto 4, 3) := by decide +kernel
theorem dX11_counts_127 : decode cX11_counts 127 = .ok (.iconst 0, 1) := by decide +kernel
theorem dX11_counts_128 : decode cX11_counts 128 = .ok (.istore 9, 2) := by decide +kernel
theorem dX11_counts_130 : decode cX11_counts 130 = .ok (.iload 6, 2) := by decide +kernel
theorem dX11_counts_132 : decode cX11_counts 132 = .ok (.iconst 2, 1) := by decide +kernel
theorem dX11_counts_133 : decode cX11_counts 133 = .ok (.if_icmp .eq 20, 3) := by decide +kernel
theorem dX11_counts_136 : decode cX11_counts 136 = .ok (.iload 7, 2) := by decide +kernel
theorem dX11_counts_138 : decode cX11_counts 138 = .ok (.iconst 2, 1) := by decide +kernel
theorem dX11_counts_139 : decode cX11_counts 139 = .ok (.if_icmp .eq 14, 3) := by decide +kernel
theorem dX11_counts_142 : decode cX11_counts 142 = .ok (.iload 8, 2) := by decide +kernel
theorem dX11_counts_144 : decode cX11_counts 144 = .ok (.iconst 2, 1) := by decide +kernel
theorem dX11_counts_145 : decode cX11_counts 145 = .ok (.if_icmp .eq 8, 3) := by decide +kernel
theorem dX11_counts_148 : decode cX11_counts 148 = .ok (.iload 9, 2) := by decide +kernel
theorem dX11_counts_150 : decode cX11_counts 150 = .ok (.ifCond .eq 7, 3) := by decide +kernel
theorem dX11_counts_153 : decode cX11_counts 153 = .ok (.iconst 0, 1) := by decide +kernel
theorem dX11_counts_154 : decode cX11_counts 154 = .ok (.goto 11, 3) := by decide +kernel
theorem dX11_counts_157 : decode cX11_counts 157 = .ok (.iload 6, 2) := by decide +kernel
theorem dX11_counts_159 : decode cX11_counts 159 = .ok (.iload 7, 2) := by decide +kernel
theorem dX11_counts_161 : decode cX11_counts 161 = .ok (.imul, 1) := by decide +kernel
theorem dX11_counts_162 : decode cX11_counts 162 = .ok (.iload 8, 2) := by decide +kernel
theorem dX11_counts_164 : decode cX11_counts 164 = .ok (.imul, 1) := by decide +kernel
theorem dX11_counts_165 : decode cX11_counts 165 = .ok (.ireturn, 1) := by decide +kernel
theorem dX11_plain_0 : decode cX11_plain 0 = .ok (.iconst (-1), 1) := by decide +kernel
theorem dX11_plain_1 : decode cX11_plain 1 = .ok (.istore 5, 2) := by decide +kernel
theorem dX11_plain_3 : decode cX11_plain 3 = .ok (.lconst 0, 1) := by decide +kernel
theorem dX11_plain_4 : decode cX11_plain 4 = .ok (.lstore 6, 2) := by decide +kernel
theorem dX11_plain_6 : decode cX11_plain 6 = .ok (.iconst 0, 1) := by decide +kernel
theorem dX11_plain_7 : decode cX11_plain 7 = .ok (.istore 8, 2) := by decide +kernel
theorem dX11_plain_9 : decode cX11_plain 9 = .ok (.iconst 0, 1) := by decide +kernel
theorem dX11_plain_10 : decode cX11_plain 10 = .ok (.istore 9, 2) := by decide +kernel
theorem dX11_plain_12 : decode cX11_plain 12 = .ok (.iload 9, 2) := by decide +kernel
theorem dX11_plain_14 : decode cX11_plain 14 = .ok (.aload_n 0, 1) := by decide +kernel
theorem dX11_plain_15 : decode cX11_plain 15 = .ok (.getfield 230, 3) := by decide +kernel
theorem dX11_plain_18 : decode cX11_plain 18 = .ok (.if_icmp .ge 220, 3) := by decide +kernel
theorem dX11_plain_21 : decode cX11_plain 21 = .ok (.aload_n 0, 1) := by decide +kernel
theorem dX11_plain_22 : decode cX11_plain 22 = .ok (.getfield 81, 3) := by decide +kernel
theorem dX11_plain_25 : decode cX11_plain 25 = .ok (.iload 9, 2) := by decide +kernel
theorem dX11_plain_27 : decode cX11_plain 27 = .ok (.iaload, 1) := by decide +kernel
theorem dX11_plain_28 : decode cX11_plain 28 = .ok (.iload 4, 2) := by decide +kernel
theorem dX11_plain_30 : decode cX11_plain 30 = .ok (.if_icmp .ne 15, 3) := by decide +kernel
theorem dX11_plain_33 : decode cX11_plain 33 = .ok (.aload_n 0, 1) := by decide +kernel
theorem dX11_plain_34 : decode cX11_plain 34 = .ok (.iload 9, 2) := by decide +kernel
theorem dX11_plain_36 : decode cX11_plain 36 = .ok (.iload_n 1, 1) := by decide +kernel
theorem dX11_plain_37 : decode cX11_plain 37 = .ok (.iload_n 2, 1) := by decide +kernel
theorem dX11_plain_38 : decode cX11_plain 38 = .ok (.iload_n 3, 1) := by decide +kernel
theorem dX11_plain_39 : decode cX11_plain 39 = .ok (.invokevirtual 259, 3) := by decide +kernel
theorem dX11_plain_42 : decode cX11_plain 42 = .ok (.goto 4, 3) := by decide +kernel
theorem dX11_plain_45 : decode cX11_plain 45 = .ok (.iconst 0, 1) := by decide +kernel
theorem dX11_plain_46 : decode cX11_plain 46 = .ok (.istore 10, 2) := by decide +kernel
theorem dX11_plain_48 : decode cX11_plain 48 = .ok (.iload 10, 2) := by decide +kernel
theorem dX11_plain_50 : decode cX11_plain 50 = .ok (.ifCond .eq 182, 3) := by decide +kernel
theorem dX11_plain_53 : decode cX11_plain 53 = .ok (.aload_n 0, 1) := by decide +kernel
theorem dX11_plain_54 : decode cX11_plain 54 = .ok (.getfield 57, 3) := by decide +kernel
theorem dX11_plain_57 : decode cX11_plain 57 = .ok (.aload_n 0, 1) := by decide +kernel
theorem dX11_plain_58 : decode cX11_plain 58 = .ok (.getfield 72, 3) := by decide +kernel
theorem dX11_plain_61 : decode cX11_plain 61 = .ok (.iload 9, 2) := by decide +kernel
theorem dX11_plain_63 : decode cX11_plain 63 = .ok (.iaload, 1) := by decide +kernel
theorem dX11_plain_64 : decode cX11_plain 64 = .ok (.iaload, 1) := by decide +kernel
theorem dX11_plain_65 : decode cX11_plain 65 = .ok (.istore 11, 2) := by decide +kernel
theorem dX11_plain_67 : decode cX11_plain 67 = .ok (.aload_n 0, 1) := by decide +kernel
theorem dX11_plain_68 : decode cX11_plain 68 = .ok (.getfield 60, 3) := by decide +kernel
theorem dX11_plain_71 : decode cX11_plain 71 = .ok (.iload 4, 2) := by decide +kernel
theorem dX11_plain_73 : decode cX11_plain 73 = .ok (.iaload, 1) := by decide +kernel
theorem dX11_plain_74 : decode cX11_plain 74 = .ok (.iconst 1, 1) := by decide +kernel
theorem dX11_plain_75 : decode cX11_plain 75 = .ok (.if_icmp .ne 14, 3) := by decide +kernel
theorem dX11_plain_78 : decode cX11_plain 78 = .ok (.iload 11, 2) := by decide +kernel
theorem dX11_plain_80 : decode cX11_plain 80 = .ok (.iload 5, 2) := by decide +kernel
theorem dX11_plain_82 : decode cX11_plain 82 = .ok (.if_icmp .le 7, 3) := by decide +kernel
theorem dX11_plain_85 : decode cX11_plain 85 = .ok (.lconst 0, 1) := by decide +kernel
theorem dX11_plain_86 : decode cX11_plain 86 = .ok (.goto 5, 3) := by decide +kernel
theorem dX11_plain_89 : decode cX11_plain 89 = .ok (.lload 6, 2) := by decide +kernel
theorem dX11_plain_91 : decode cX11_plain 91 = .ok (.lstore 6, 2) := by decide +kernel
theorem dX11_plain_93 : decode cX11_plain 93 = .ok (.lload 6, 2) := by decide +kernel
theorem dX11_plain_95 : decode cX11_plain 95 = .ok (.aload_n 0, 1) := by decide +kernel
theorem dX11_plain_96 : decode cX11_plain 96 = .ok (.getfield 60, 3) := by decide +kernel
theorem dX11_plain_99 : decode cX11_plain 99 = .ok (.iload 4, 2) := by decide +kernel
theorem dX11_plain_101 : decode cX11_plain 101 = .ok (.iaload, 1) := by decide +kernel
theorem dX11_plain_102 : decode cX11_plain 102 = .ok (.iconst 1, 1) := by decide +kernel
theorem dX11_plain_103 : decode cX11_plain 103 = .ok (.if_icmp .ne 14, 3) := by decide +kernel
theorem dX11_plain_106 : decode cX11_plain 106 = .ok (.iload 11, 2) := by decide +kernel
theorem dX11_plain_108 : decode cX11_plain 108 = .ok (.iload 5, 2) := by decide +kernel
theorem dX11_plain_110 : decode cX11_plain 110 = .ok (.if_icmp .ge 7, 3) := by decide +kernel
theorem dX11_plain_113 : decode cX11_plain 113 = .ok (.lconst 0, 1) := by decide +kernel
theorem dX11_plain_114 : decode cX11_plain 114 = .ok (.goto 14, 3) := by decide +kernel
theorem dX11_plain_117 : decode cX11_plain 117 = .ok (.iload 10, 2) := by decide +kernel
theorem dX11_plain_119 : decode cX11_plain 119 = .ok (.aload_n 0, 1) := by decide +kernel
theorem dX11_plain_120 : decode cX11_plain 120 = .ok (.getfield 84, 3) := by decide +kernel
theorem dX11_plain_123 : decode cX11_plain 123 = .ok (.iload 9, 2) := by decide +kernel
theorem dX11_plain_125 : decode cX11_plain 125 = .ok (.iaload, 1) := by decide +kernel
theorem dX11_plain_126 : decode cX11_plain 126 = .ok (.imul, 1) := by decide +kernel
theorem dX11_plain_127 : decode cX11_plain 127 = .ok (.i2l, 1) := by decide +kernel
theorem dX11_plain_128 : decode cX11_plain 128 = .ok (.ladd, 1) := by decide +kernel
theorem dX11_plain_129 : decode cX11_plain 129 = .ok (.lstore 6, 2) := by decide +kernel
theorem dX11_plain_131 : decode cX11_plain 131 = .ok (.iload 11, 2) := by decide +kernel
theorem dX11_plain_133 : decode cX11_plain 133 = .ok (.iload 5, 2) := by decide +kernel
theorem dX11_plain_135 : decode cX11_plain 135 = .ok (.if_icmp .le 8, 3) := by decide +kernel
theorem dX11_plain_138 : decode cX11_plain 138 = .ok (.iload 11, 2) := by decide +kernel
theorem dX11_plain_140 : decode cX11_plain 140 = .ok (.goto 5, 3) := by decide +kernel
theorem dX11_plain_143 : decode cX11_plain 143 = .ok (.iload 5, 2) := by decide +kernel
theorem dX11_plain_145 : decode cX11_plain 145 = .ok (.istore 5, 2) := by decide +kernel
theorem dX11_plain_147 : decode cX11_plain 147 = .ok (.iconst 1, 1) := by decide +kernel
theorem dX11_plain_148 : decode cX11_plain 148 = .ok (.istore 12, 2) := by decide +kernel
theorem dX11_plain_150 : decode cX11_plain 150 = .ok (.iconst 0, 1) := by decide +kernel
theorem dX11_plain_151 : decode cX11_plain 151 = .ok (.istore 13, 2) := by decide +kernel
theorem dX11_plain_153 : decode cX11_plain 153 = .ok (.iload 13, 2) := by decide +kernel
theorem dX11_plain_155 : decode cX11_plain 155 = .ok (.iload 9, 2) := by decide +kernel
theorem dX11_plain_157 : decode cX11_plain 157 = .ok (.if_icmp .ge 60, 3) := by decide +kernel
theorem dX11_plain_160 : decode cX11_plain 160 = .ok (.iload 12, 2) := by decide +kernel
theorem dX11_plain_162 : decode cX11_plain 162 = .ok (.aload_n 0, 1) := by decide +kernel
theorem dX11_plain_163 : decode cX11_plain 163 = .ok (.getfield 81, 3) := by decide +kernel
theorem dX11_plain_166 : decode cX11_plain 166 = .ok (.iload 13, 2) := by decide +kernel
theorem dX11_plain_168 : decode cX11_plain 168 = .ok (.iaload, 1) := by decide +kernel
theorem dX11_plain_169 : decode cX11_plain 169 = .ok (.iload 4, 2) := by decide +kernel
theorem dX11_plain_171 : decode cX11_plain 171 = .ok (.if_icmp .ne 32, 3) := by decide +kernel
theorem dX11_plain_174 : decode cX11_plain 174 = .ok (.aload_n 0, 1) := by decide +kernel
theorem dX11_plain_175 : decode cX11_plain 175 = .ok (.getfield 84, 3) := by decide +kernel
theorem dX11_plain_178 : decode cX11_plain 178 = .ok (.iload 13, 2) := by decide +kernel
theorem dX11_plain_180 : decode cX11_plain 180 = .ok (.iaload, 1) := by decide +kernel
theorem dX11_plain_181 : decode cX11_plain 181 = .ok (.aload_n 0, 1) := by decide +kernel
theorem dX11_plain_182 : decode cX11_plain 182 = .ok (.getfield 84, 3) := by decide +kernel
theorem dX11_plain_185 : decode cX11_plain 185 = .ok (.iload 9, 2) := by decide +kernel
theorem dX11_plain_187 : decode cX11_plain 187 = .ok (.iaload, 1) := by decide +kernel
theorem dX11_plain_188 : decode cX11_plain 188 = .ok (.if_icmp .ne 15, 3) := by decide +kernel
theorem dX11_plain_191 : decode cX11_plain 191 = .ok (.aload_n 0, 1) := by decide +kernel
theorem dX11_plain_192 : decode cX11_plain 192 = .ok (.iload 13, 2) := by decide +kernel
theorem dX11_plain_194 : decode cX11_plain 194 = .ok (.iload_n 1, 1) := by decide +kernel
theorem dX11_plain_195 : decode cX11_plain 195 = .ok (.iload_n 2, 1) := by decide +kernel
theorem dX11_plain_196 : decode cX11_plain 196 = .ok (.iload_n 3, 1) := by decide +kernel
theorem dX11_plain_197 : decode cX11_plain 197 = .ok (.invokevirtual 259, 3) := by decide +kernel
theorem dX11_plain_200 : decode cX11_plain 200 = .ok (.ifCond .ne 7, 3) := by decide +kernel
theorem dX11_plain_203 : decode cX11_plain 203 = .ok (.iconst 1, 1) := by decide +kernel
theorem dX11_plain_204 : decode cX11_plain 204 = .ok (.goto 4, 3) := by decide +kernel
theorem dX11_plain_207 : decode cX11_plain 207 = .ok (.iconst 0, 1) := by decide +kernel
theorem dX11_plain_208 : decode cX11_plain 208 = .ok (.iand, 1) := by decide +kernel
theorem dX11_plain_209 : decode cX11_plain 209 = .ok (.istore 12, 2) := by decide +kernel
theorem dX11_plain_211 : decode cX11_plain 211 = .ok (.iinc 13 1, 3) := by decide +kernel
theorem dX11_plain_214 : decode cX11_plain 214 = .ok (.goto (-61), 3) := by decide +kernel
theorem dX11_plain_217 : decode cX11_plain 217 = .ok (.iload 8, 2) := by decide +kernel
theorem dX11_plain_219 : decode cX11_plain 219 = .ok (.iload 12, 2) := by decide +kernel
theorem dX11_plain_221 : decode cX11_plain 221 = .ok (.ifCond .eq 7, 3) := by decide +kernel
theorem dX11_plain_224 : decode cX11_plain 224 = .ok (.iconst 1, 1) := by decide +kernel
theorem dX11_plain_225 : decode cX11_plain 225 = .ok (.goto 4, 3) := by decide +kernel
theorem dX11_plain_228 : decode cX11_plain 228 = .ok (.iconst 0, 1) := by decide +kernel
theorem dX11_plain_229 : decode cX11_plain 229 = .ok (.iadd, 1) := by decide +kernel
theorem dX11_plain_230 : decode cX11_plain 230 = .ok (.istore 8, 2) := by decide +kernel
theorem dX11_plain_232 : decode cX11_plain 232 = .ok (.iinc 9 1, 3) := by decide +kernel
theorem dX11_plain_235 : decode cX11_plain 235 = .ok (.goto (-223), 3) := by decide +kernel
theorem dX11_plain_238 : decode cX11_plain 238 = .ok (.iload 5, 2) := by decide +kernel
theorem dX11_plain_240 : decode cX11_plain 240 = .ok (.ifCond .ge 9, 3) := by decide +kernel
theorem dX11_plain_243 : decode cX11_plain 243 = .ok (.ldc2_w 262, 3) := by decide +kernel
theorem dX11_plain_246 : decode cX11_plain 246 = .ok (.goto 22, 3) := by decide +kernel
theorem dX11_plain_249 : decode cX11_plain 249 = .ok (.aload_n 0, 1) := by decide +kernel
theorem dX11_plain_250 : decode cX11_plain 250 = .ok (.getfield 60, 3) := by decide +kernel
theorem dX11_plain_253 : decode cX11_plain 253 = .ok (.iload 4, 2) := by decide +kernel
theorem dX11_plain_255 : decode cX11_plain 255 = .ok (.iaload, 1) := by decide +kernel
theorem dX11_plain_256 : decode cX11_plain 256 = .ok (.iconst 2, 1) := by decide +kernel
theorem dX11_plain_257 : decode cX11_plain 257 = .ok (.if_icmp .ne 9, 3) := by decide +kernel
theorem dX11_plain_260 : decode cX11_plain 260 = .ok (.iload 8, 2) := by decide +kernel
theorem dX11_plain_262 : decode cX11_plain 262 = .ok (.i2l, 1) := by decide +kernel
theorem dX11_plain_263 : decode cX11_plain 263 = .ok (.goto 5, 3) := by decide +kernel
theorem dX11_plain_266 : decode cX11_plain 266 = .ok (.lload 6, 2) := by decide +kernel
theorem dX11_plain_268 : decode cX11_plain 268 = .ok (.lreturn, 1) := by decide +kernel
theorem dX11_isNothing_0 : decode cX11_isNothing 0 = .ok (.aload_n 0, 1) := by decide +kernel
theorem dX11_isNothing_1 : decode cX11_isNothing 1 = .ok (.iconst 0, 1) := by decide +kernel
theorem dX11_isNothing_2 : decode cX11_isNothing 2 = .ok (.iload_n 1, 1) := by decide +kernel
theorem dX11_isNothing_3 : decode cX11_isNothing 3 = .ok (.invokevirtual 180, 3) := by decide +kernel
theorem dX11_isNothing_6 : decode cX11_isNothing 6 = .ok (.ifCond .eq 25, 3) := by decide +kernel
theorem dX11_isNothing_9 : decode cX11_isNothing 9 = .ok (.aload_n 0, 1) := by decide +kernel
theorem dX11_isNothing_10 : decode cX11_isNothing 10 = .ok (.iconst 0, 1) := by decide +kernel
theorem dX11_isNothing_11 : decode cX11_isNothing 11 = .ok (.iload_n 1, 1) := by decide +kernel
theorem dX11_isNothing_12 : decode cX11_isNothing 12 = .ok (.invokevirtual 205, 3) := by decide +kernel
theorem dX11_isNothing_15 : decode cX11_isNothing 15 = .ok (.aload_n 0, 1) := by decide +kernel
theorem dX11_isNothing_16 : decode cX11_isNothing 16 = .ok (.getfield 69, 3) := by decide +kernel
theorem dX11_isNothing_19 : decode cX11_isNothing 19 = .ok (.iconst 3, 1) := by decide +kernel
theorem dX11_isNothing_20 : decode cX11_isNothing 20 = .ok (.iload 4, 2) := by decide +kernel
theorem dX11_isNothing_22 : decode cX11_isNothing 22 = .ok (.imul, 1) := by decide +kernel
theorem dX11_isNothing_23 : decode cX11_isNothing 23 = .ok (.iaload, 1) := by decide +kernel
theorem dX11_isNothing_24 : decode cX11_isNothing 24 = .ok (.if_icmp .ge 7, 3) := by decide +kernel
theorem dX11_isNothing_27 : decode cX11_isNothing 27 = .ok (.iconst 1, 1) := by decide +kernel
theorem dX11_isNothing_28 : decode cX11_isNothing 28 = .ok (.goto 4, 3) := by decide +kernel
theorem dX11_isNothing_31 : decode cX11_isNothing 31 = .ok (.iconst 0, 1) := by decide +kernel
theorem dX11_isNothing_32 : decode cX11_isNothing 32 = .ok (.istore 5, 2) := by decide +kernel
theorem dX11_isNothing_34 : decode cX11_isNothing 34 = .ok (.aload_n 0, 1) := by decide +kernel
theorem dX11_isNothing_35 : decode cX11_isNothing 35 = .ok (.iconst 1, 1) := by decide +kernel
theorem dX11_isNothing_36 : decode cX11_isNothing 36 = .ok (.iload_n 2, 1) := by decide +kernel
theorem dX11_isNothing_37 : decode cX11_isNothing 37 = .ok (.invokevirtual 180, 3) := by decide +kernel
theorem dX11_isNothing_40 : decode cX11_isNothing 40 = .ok (.ifCond .eq 27, 3) := by decide +kernel
theorem dX11_isNothing_43 : decode cX11_isNothing 43 = .ok (.aload_n 0, 1) := by decide +kernel
theorem dX11_isNothing_44 : decode cX11_isNothing 44 = .ok (.iconst 1, 1) := by decide +kernel
theorem dX11_isNothing_45 : decode cX11_isNothing 45 = .ok (.iload_n 2, 1) := by decide +kernel
theorem dX11_isNothing_46 : decode cX11_isNothing 46 = .ok (.invokevirtual 205, 3) := by decide +kernel
theorem dX11_isNothing_49 : decode cX11_isNothing 49 = .ok (.aload_n 0, 1) := by decide +kernel
theorem dX11_isNothing_50 : decode cX11_isNothing 50 = .ok (.getfield 69, 3) := by decide +kernel
theorem dX11_isNothing_53 : decode cX11_isNothing 53 = .ok (.iconst 3, 1) := by decide +kernel
theorem dX11_isNothing_54 : decode cX11_isNothing 54 = .ok (.iload 4, 2) := by decide +kernel
theorem dX11_isNothing_56 : decode cX11_isNothing 56 = .ok (.imul, 1) := by decide +kernel
theorem dX11_isNothing_57 : decode cX11_isNothing 57 = .ok (.iconst 1, 1) := by decide +kernel
theorem dX11_isNothing_58 : decode cX11_isNothing 58 = .ok (.iadd, 1) := by decide +kernel
theorem dX11_isNothing_59 : decode cX11_isNothing 59 = .ok (.iaload, 1) := by decide +kernel
theorem dX11_isNothing_60 : decode cX11_isNothing 60 = .ok (.if_icmp .ge 7, 3) := by decide +kernel
theorem dX11_isNothing_63 : decode cX11_isNothing 63 = .ok (.iconst 1, 1) := by decide +kernel
theorem dX11_isNothing_64 : decode cX11_isNothing 64 = .ok (.goto 4, 3) := by decide +kernel
theorem dX11_isNothing_67 : decode cX11_isNothing 67 = .ok (.iconst 0, 1) := by decide +kernel
theorem dX11_isNothing_68 : decode cX11_isNothing 68 = .ok (.istore 6, 2) := by decide +kernel
theorem dX11_isNothing_70 : decode cX11_isNothing 70 = .ok (.iload 5, 2) := by decide +kernel
theorem dX11_isNothing_72 : decode cX11_isNothing 72 = .ok (.ifCond .ne 37, 3) := by decide +kernel
theorem dX11_isNothing_75 : decode cX11_isNothing 75 = .ok (.iload 6, 2) := by decide +kernel
theorem dX11_isNothing_77 : decode cX11_isNothing 77 = .ok (.ifCond .ne 32, 3) := by decide +kernel
theorem dX11_isNothing_80 : decode cX11_isNothing 80 = .ok (.aload_n 0, 1) := by decide +kernel
theorem dX11_isNothing_81 : decode cX11_isNothing 81 = .ok (.iconst 2, 1) := by decide +kernel
theorem dX11_isNothing_82 : decode cX11_isNothing 82 = .ok (.iload_n 3, 1) := by decide +kernel
theorem dX11_isNothing_83 : decode cX11_isNothing 83 = .ok (.invokevirtual 180, 3) := by decide +kernel
theorem dX11_isNothing_86 : decode cX11_isNothing 86 = .ok (.ifCond .eq 27, 3) := by decide +kernel
theorem dX11_isNothing_89 : decode cX11_isNothing 89 = .ok (.aload_n 0, 1) := by decide +kernel
theorem dX11_isNothing_90 : decode cX11_isNothing 90 = .ok (.iconst 2, 1) := by decide +kernel
theorem dX11_isNothing_91 : decode cX11_isNothing 91 = .ok (.iload_n 3, 1) := by decide +kernel
theorem dX11_isNothing_92 : decode cX11_isNothing 92 = .ok (.invokevirtual 205, 3) := by decide +kernel
theorem dX11_isNothing_95 : decode cX11_isNothing 95 = .ok (.aload_n 0, 1) := by decide +kernel
theorem dX11_isNothing_96 : decode cX11_isNothing 96 = .ok (.getfield 69, 3) := by decide +kernel
theorem dX11_isNothing_99 : decode cX11_isNothing 99 = .ok (.iconst 3, 1) := by decide +kernel
theorem dX11_isNothing_100 : decode cX11_isNothing 100 = .ok (.iload 4, 2) := by decide +kernel
theorem dX11_isNothing_102 : decode cX11_isNothing 102 = .ok (.imul, 1) := by decide +kernel
theorem dX11_isNothing_103 : decode cX11_isNothing 103 = .ok (.iconst 2, 1) := by decide +kernel
theorem dX11_isNothing_104 : decode cX11_isNothing 104 = .ok (.iadd, 1) := by decide +kernel
theorem dX11_isNothing_105 : decode cX11_isNothing 105 = .ok (.iaload, 1) := by decide +kernel
theorem dX11_isNothing_106 : decode cX11_isNothing 106 = .ok (.if_icmp .ge 7, 3) := by decide +kernel
theorem dX11_isNothing_109 : decode cX11_isNothing 109 = .ok (.iconst 1, 1) := by decide +kernel
theorem dX11_isNothing_110 : decode cX11_isNothing 110 = .ok (.goto 4, 3) := by decide +kernel
theorem dX11_isNothing_113 : decode cX11_isNothing 113 = .ok (.iconst 0, 1) := by decide +kernel
theorem dX11_isNothing_114 : decode cX11_isNothing 114 = .ok (.ireturn, 1) := by decide +kernel
theorem dX11_bound_0 : decode cX11_bound 0 = .ok (.lload_n 1, 1) := by decide +kernel
theorem dX11_bound_1 : decode cX11_bound 1 = .ok (.ldc2_w 264, 3) := by decide +kernel
theorem dX11_bound_4 : decode cX11_bound 4 = .ok (.lcmp, 1) := by decide +kernel
theorem dX11_bound_5 : decode cX11_bound 5 = .ok (.ifCond .le 9, 3) := by decide +kernel
theorem dX11_bound_8 : decode cX11_bound 8 = .ok (.ldc2_w 264, 3) := by decide +kernel
theorem dX11_bound_11 : decode cX11_bound 11 = .ok (.goto 18, 3) := by decide +kernel
theorem dX11_bound_14 : decode cX11_bound 14 = .ok (.lload_n 1, 1) := by decide +kernel
theorem dX11_bound_15 : decode cX11_bound 15 = .ok (.ldc2_w 266, 3) := by decide +kernel
theorem dX11_bound_18 : decode cX11_bound 18 = .ok (.lcmp, 1) := by decide +kernel
theorem dX11_bound_19 : decode cX11_bound 19 = .ok (.ifCond .ge 9, 3) := by decide +kernel
theorem dX11_bound_22 : decode cX11_bound 22 = .ok (.ldc2_w 266, 3) := by decide +kernel
theorem dX11_bound_25 : decode cX11_bound 25 = .ok (.goto 4, 3) := by decide +kernel
theorem dX11_bound_28 : decode cX11_bound 28 = .ok (.lload_n 1, 1) := by decide +kernel
theorem dX11_bound_29 : decode cX11_bound 29 = .ok (.lreturn, 1) := by decide +kernel
theorem dX11_value_0 : decode cX11_value 0 = .ok (.iload 5, 2) := by decide +kernel
theorem dX11_value_2 : decode cX11_value 2 = .ok (.ifCond .eq 9, 3) := by decide +kernel
theorem dX11_value_5 : decode cX11_value 5 = .ok (.sipush 6912, 3) := by decide +kernel
theorem dX11_value_8 : decode cX11_value 8 = .ok (.goto 4, 3) := by decide +kernel
theorem dX11_value_11 : decode cX11_value 11 = .ok (.iconst 0, 1) := by decide +kernel
theorem dX11_value_12 : decode cX11_value 12 = .ok (.sipush 576, 3) := by decide +kernel
theorem dX11_value_15 : decode cX11_value 15 = .ok (.iload_n 1, 1) := by decide +kernel
theorem dX11_value_16 : decode cX11_value 16 = .ok (.imul, 1) := by decide +kernel
theorem dX11_value_17 : decode cX11_value 17 = .ok (.iadd, 1) := by decide +kernel
theorem dX11_value_18 : decode cX11_value 18 = .ok (.bipush 48, 2) := by decide +kernel
theorem dX11_value_20 : decode cX11_value 20 = .ok (.iload_n 2, 1) := by decide +kernel
theorem dX11_value_21 : decode cX11_value 21 = .ok (.imul, 1) := by decide +kernel
theorem dX11_value_22 : decode cX11_value 22 = .ok (.iadd, 1) := by decide +kernel
theorem dX11_value_23 : decode cX11_value 23 = .ok (.iconst 4, 1) := by decide +kernel
theorem dX11_value_24 : decode cX11_value 24 = .ok (.iload_n 3, 1) := by decide +kernel
theorem dX11_value_25 : decode cX11_value 25 = .ok (.imul, 1) := by decide +kernel
theorem dX11_value_26 : decode cX11_value 26 = .ok (.iadd, 1) := by decide +kernel
theorem dX11_value_27 : decode cX11_value 27 = .ok (.iload 4, 2) := by decide +kernel
theorem dX11_value_29 : decode cX11_value 29 = .ok (.iadd, 1) := by decide +kernel
theorem dX11_value_30 : decode cX11_value 30 = .ok (.istore 6, 2) := by decide +kernel
theorem dX11_value_32 : decode cX11_value 32 = .ok (.aload_n 0, 1) := by decide +kernel
theorem dX11_value_33 : decode cX11_value 33 = .ok (.getfield 110, 3) := by decide +kernel
theorem dX11_value_36 : decode cX11_value 36 = .ok (.iload 6, 2) := by decide +kernel
theorem dX11_value_38 : decode cX11_value 38 = .ok (.iaload, 1) := by decide +kernel
theorem dX11_value_39 : decode cX11_value 39 = .ok (.aload_n 0, 1) := by decide +kernel
theorem dX11_value_40 : decode cX11_value 40 = .ok (.getfield 113, 3) := by decide +kernel
theorem dX11_value_43 : decode cX11_value 43 = .ok (.if_icmp .ne 11, 3) := by decide +kernel
theorem dX11_value_46 : decode cX11_value 46 = .ok (.aload_n 0, 1) := by decide +kernel
theorem dX11_value_47 : decode cX11_value 47 = .ok (.getfield 106, 3) := by decide +kernel
theorem dX11_value_50 : decode cX11_value 50 = .ok (.iload 6, 2) := by decide +kernel
theorem dX11_value_52 : decode cX11_value 52 = .ok (.laload, 1) := by decide +kernel
theorem dX11_value_53 : decode cX11_value 53 = .ok (.lreturn, 1) := by decide +kernel
theorem dX11_value_54 : decode cX11_value 54 = .ok (.iconst (-1), 1) := by decide +kernel
theorem dX11_value_55 : decode cX11_value 55 = .ok (.istore 7, 2) := by decide +kernel
theorem dX11_value_57 : decode cX11_value 57 = .ok (.iconst 0, 1) := by decide +kernel
theorem dX11_value_58 : decode cX11_value 58 = .ok (.istore 8, 2) := by decide +kernel
theorem dX11_value_60 : decode cX11_value 60 = .ok (.iload 8, 2) := by decide +kernel
theorem dX11_value_62 : decode cX11_value 62 = .ok (.iconst 3, 1) := by decide +kernel
theorem dX11_value_63 : decode cX11_value 63 = .ok (.if_icmp .ge 105, 3) := by decide +kernel
theorem dX11_value_66 : decode cX11_value 66 = .ok (.bipush 12, 2) := by decide +kernel
theorem dX11_value_68 : decode cX11_value 68 = .ok (.iload 8, 2) := by decide +kernel
theorem dX11_value_70 : decode cX11_value 70 = .ok (.imul, 1) := by decide +kernel
theorem dX11_value_71 : decode cX11_value 71 = .ok (.iload 8, 2) := by decide +kernel
theorem dX11_value_73 : decode cX11_value 73 = .ok (.ifCond .ne 7, 3) := by decide +kernel
theorem dX11_value_76 : decode cX11_value 76 = .ok (.iload_n 1, 1) := by decide +kernel
theorem dX11_value_77 : decode cX11_value 77 = .ok (.goto 14, 3) := by decide +kernel
theorem dX11_value_80 : decode cX11_value 80 = .ok (.iload 8, 2) := by decide +kernel
theorem dX11_value_82 : decode cX11_value 82 = .ok (.iconst 1, 1) := by decide +kernel
theorem dX11_value_83 : decode cX11_value 83 = .ok (.if_icmp .ne 7, 3) := by decide +kernel
theorem dX11_value_86 : decode cX11_value 86 = .ok (.iload_n 2, 1) := by decide +kernel
theorem dX11_value_87 : decode cX11_value 87 = .ok (.goto 4, 3) := by decide +kernel
theorem dX11_value_90 : decode cX11_value 90 = .ok (.iload_n 3, 1) := by decide +kernel
theorem dX11_value_91 : decode cX11_value 91 = .ok (.iadd, 1) := by decide +kernel
theorem dX11_value_92 : decode cX11_value 92 = .ok (.istore 9, 2) := by decide +kernel
theorem dX11_value_94 : decode cX11_value 94 = .ok (.aload_n 0, 1) := by decide +kernel
theorem dX11_value_95 : decode cX11_value 95 = .ok (.getfield 15, 3) := by decide +kernel
theorem dX11_value_98 : decode cX11_value 98 = .ok (.iload 9, 2) := by decide +kernel
theorem dX11_value_100 : decode cX11_value 100 = .ok (.iaload, 1) := by decide +kernel
theorem dX11_value_101 : decode cX11_value 101 = .ok (.iconst 2, 1) := by decide +kernel
theorem dX11_value_102 : decode cX11_value 102 = .ok (.if_icmp .ne 43, 3) := by decide +kernel
theorem dX11_value_105 : decode cX11_value 105 = .ok (.iload 7, 2) := by decide +kernel
theorem dX11_value_107 : decode cX11_value 107 = .ok (.ifCond .lt 34, 3) := by decide +kernel
theorem dX11_value_110 : decode cX11_value 110 = .ok (.aload_n 0, 1) := by decide +kernel
theorem dX11_value_111 : decode cX11_value 111 = .ok (.getfield 27, 3) := by decide +kernel
theorem dX11_value_114 : decode cX11_value 114 = .ok (.iload 9, 2) := by decide +kernel
theorem dX11_value_116 : decode cX11_value 116 = .ok (.iaload, 1) := by decide +kernel
theorem dX11_value_117 : decode cX11_value 117 = .ok (.aload_n 0, 1) := by decide +kernel
theorem dX11_value_118 : decode cX11_value 118 = .ok (.getfield 27, 3) := by decide +kernel
theorem dX11_value_121 : decode cX11_value 121 = .ok (.bipush 12, 2) := by decide +kernel
theorem dX11_value_123 : decode cX11_value 123 = .ok (.iload 7, 2) := by decide +kernel
theorem dX11_value_125 : decode cX11_value 125 = .ok (.imul, 1) := by decide +kernel
theorem dX11_value_126 : decode cX11_value 126 = .ok (.iload 7, 2) := by decide +kernel
theorem dX11_value_128 : decode cX11_value 128 = .ok (.ifCond .ne 7, 3) := by decide +kernel
theorem dX11_value_131 : decode cX11_value 131 = .ok (.iload_n 1, 1) := by decide +kernel
theorem dX11_value_132 : decode cX11_value 132 = .ok (.goto 4, 3) := by decide +kernel
theorem dX11_value_135 : decode cX11_value 135 = .ok (.iload_n 2, 1) := by decide +kernel
theorem dX11_value_136 : decode cX11_value 136 = .ok (.iadd, 1) := by decide +kernel
theorem dX11_value_137 : decode cX11_value 137 = .ok (.iaload, 1) := by decide +kernel
theorem dX11_value_138 : decode cX11_value 138 = .ok (.if_icmp .lt 7, 3) := by decide +kernel
theorem dX11_value_141 : decode cX11_value 141 = .ok (.iconst 1, 1) := by decide +kernel
theorem dX11_value_142 : decode cX11_value 142 = .ok (.goto 4, 3) := by decide +kernel
theorem dX11_value_145 : decode cX11_value 145 = .ok (.iconst 0, 1) := by decide +kernel
theorem dX11_value_146 : decode cX11_value 146 = .ok (.istore 10, 2) := by decide +kernel
theorem dX11_value_148 : decode cX11_value 148 = .ok (.iload 10, 2) := by decide +kernel
theorem dX11_value_150 : decode cX11_value 150 = .ok (.ifCond .eq 8, 3) := by decide +kernel
theorem dX11_value_153 : decode cX11_value 153 = .ok (.iload 8, 2) := by decide +kernel
theorem dX11_value_155 : decode cX11_value 155 = .ok (.goto 5, 3) := by decide +kernel
theorem dX11_value_158 : decode cX11_value 158 = .ok (.iload 7, 2) := by decide +kernel
theorem dX11_value_160 : decode cX11_value 160 = .ok (.istore 7, 2) := by decide +kernel
theorem dX11_value_162 : decode cX11_value 162 = .ok (.iinc 8 1, 3) := by decide +kernel
theorem dX11_value_165 : decode cX11_value 165 = .ok (.goto (-105), 3) := by decide +kernel
theorem dX11_value_168 : decode cX11_value 168 = .ok (.iload 7, 2) := by decide +kernel
theorem dX11_value_170 : decode cX11_value 170 = .ok (.ifCond .lt 21, 3) := by decide +kernel
theorem dX11_value_173 : decode cX11_value 173 = .ok (.aload_n 0, 1) := by decide +kernel
theorem dX11_value_174 : decode cX11_value 174 = .ok (.iload 7, 2) := by decide +kernel
theorem dX11_value_176 : decode cX11_value 176 = .ok (.iload_n 1, 1) := by decide +kernel
theorem dX11_value_177 : decode cX11_value 177 = .ok (.iload_n 2, 1) := by decide +kernel
theorem dX11_value_178 : decode cX11_value 178 = .ok (.iload_n 3, 1) := by decide +kernel
theorem dX11_value_179 : decode cX11_value 179 = .ok (.iload 4, 2) := by decide +kernel
theorem dX11_value_181 : decode cX11_value 181 = .ok (.iload 5, 2) := by decide +kernel
theorem dX11_value_183 : decode cX11_value 183 = .ok (.invokevirtual 268, 3) := by decide +kernel
theorem dX11_value_186 : decode cX11_value 186 = .ok (.lstore 8, 2) := by decide +kernel
theorem dX11_value_188 : decode cX11_value 188 = .ok (.goto 133, 3) := by decide +kernel
theorem dX11_value_191 : decode cX11_value 191 = .ok (.iload 5, 2) := by decide +kernel
theorem dX11_value_193 : decode cX11_value 193 = .ok (.ifCond .ne 23, 3) := by decide +kernel
theorem dX11_value_196 : decode cX11_value 196 = .ok (.aload_n 0, 1) := by decide +kernel
theorem dX11_value_197 : decode cX11_value 197 = .ok (.iload_n 1, 1) := by decide +kernel
theorem dX11_value_198 : decode cX11_value 198 = .ok (.iload_n 2, 1) := by decide +kernel
theorem dX11_value_199 : decode cX11_value 199 = .ok (.iload_n 3, 1) := by decide +kernel
theorem dX11_value_200 : decode cX11_value 200 = .ok (.iload 4, 2) := by decide +kernel
theorem dX11_value_202 : decode cX11_value 202 = .ok (.invokevirtual 272, 3) := by decide +kernel
theorem dX11_value_205 : decode cX11_value 205 = .ok (.ifCond .eq 11, 3) := by decide +kernel
theorem dX11_value_208 : decode cX11_value 208 = .ok (.ldc2_w 262, 3) := by decide +kernel
theorem dX11_value_211 : decode cX11_value 211 = .ok (.lstore 8, 2) := by decide +kernel
theorem dX11_value_213 : decode cX11_value 213 = .ok (.goto 108, 3) := by decide +kernel
theorem dX11_value_216 : decode cX11_value 216 = .ok (.aload_n 0, 1) := by decide +kernel
theorem dX11_value_217 : decode cX11_value 217 = .ok (.getfield 60, 3) := by decide +kernel
theorem dX11_value_220 : decode cX11_value 220 = .ok (.iload 4, 2) := by decide +kernel
theorem dX11_value_222 : decode cX11_value 222 = .ok (.iaload, 1) := by decide +kernel
theorem dX11_value_223 : decode cX11_value 223 = .ok (.iconst 3, 1) := by decide +kernel
theorem dX11_value_224 : decode cX11_value 224 = .ok (.if_icmp .ne 86, 3) := by decide +kernel
theorem dX11_value_227 : decode cX11_value 227 = .ok (.aload_n 0, 1) := by decide +kernel
theorem dX11_value_228 : decode cX11_value 228 = .ok (.iload_n 1, 1) := by decide +kernel
theorem dX11_value_229 : decode cX11_value 229 = .ok (.iload_n 2, 1) := by decide +kernel
theorem dX11_value_230 : decode cX11_value 230 = .ok (.iload_n 3, 1) := by decide +kernel
theorem dX11_value_231 : decode cX11_value 231 = .ok (.aload_n 0, 1) := by decide +kernel
theorem dX11_value_232 : decode cX11_value 232 = .ok (.getfield 63, 3) := by decide +kernel
theorem dX11_value_235 : decode cX11_value 235 = .ok (.iload 4, 2) := by decide +kernel
theorem dX11_value_237 : decode cX11_value 237 = .ok (.iaload, 1) := by decide +kernel
theorem dX11_value_238 : decode cX11_value 238 = .ok (.iconst 1, 1) := by decide +kernel
theorem dX11_value_239 : decode cX11_value 239 = .ok (.invokevirtual 275, 3) := by decide +kernel
theorem dX11_value_242 : decode cX11_value 242 = .ok (.lstore 10, 2) := by decide +kernel
theorem dX11_value_244 : decode cX11_value 244 = .ok (.aload_n 0, 1) := by decide +kernel
theorem dX11_value_245 : decode cX11_value 245 = .ok (.iload_n 1, 1) := by decide +kernel
theorem dX11_value_246 : decode cX11_value 246 = .ok (.iload_n 2, 1) := by decide +kernel
theorem dX11_value_247 : decode cX11_value 247 = .ok (.iload_n 3, 1) := by decide +kernel
theorem dX11_value_248 : decode cX11_value 248 = .ok (.aload_n 0, 1) := by decide +kernel
theorem dX11_value_249 : decode cX11_value 249 = .ok (.getfield 66, 3) := by decide +kernel
theorem dX11_value_252 : decode cX11_value 252 = .ok (.iload 4, 2) := by decide +kernel
theorem dX11_value_254 : decode cX11_value 254 = .ok (.iaload, 1) := by decide +kernel
theorem dX11_value_255 : decode cX11_value 255 = .ok (.iconst 1, 1) := by decide +kernel
theorem dX11_value_256 : decode cX11_value 256 = .ok (.invokevirtual 275, 3) := by decide +kernel
theorem dX11_value_259 : decode cX11_value 259 = .ok (.lstore 12, 2) := by decide +kernel
theorem dX11_value_261 : decode cX11_value 261 = .ok (.lload 10, 2) := by decide +kernel
theorem dX11_value_263 : decode cX11_value 263 = .ok (.ldc2_w 262, 3) := by decide +kernel
theorem dX11_value_266 : decode cX11_value 266 = .ok (.lcmp, 1) := by decide +kernel
theorem dX11_value_267 : decode cX11_value 267 = .ok (.ifCond .eq 19, 3) := by decide +kernel
theorem dX11_value_270 : decode cX11_value 270 = .ok (.lload 12, 2) := by decide +kernel
theorem dX11_value_272 : decode cX11_value 272 = .ok (.ldc2_w 262, 3) := by decide +kernel
theorem dX11_value_275 : decode cX11_value 275 = .ok (.lcmp, 1) := by decide +kernel
theorem dX11_value_276 : decode cX11_value 276 = .ok (.ifCond .eq 10, 3) := by decide +kernel
theorem dX11_value_279 : decode cX11_value 279 = .ok (.lload 12, 2) := by decide +kernel
theorem dX11_value_281 : decode cX11_value 281 = .ok (.lconst 0, 1) := by decide +kernel
theorem dX11_value_282 : decode cX11_value 282 = .ok (.lcmp, 1) := by decide +kernel
theorem dX11_value_283 : decode cX11_value 283 = .ok (.ifCond .ne 9, 3) := by decide +kernel
theorem dX11_value_286 : decode cX11_value 286 = .ok (.ldc2_w 262, 3) := by decide +kernel
theorem dX11_value_289 : decode cX11_value 289 = .ok (.goto 16, 3) := by decide +kernel
theorem dX11_value_292 : decode cX11_value 292 = .ok (.aload_n 0, 1) := by decide +kernel
theorem dX11_value_293 : decode cX11_value 293 = .ok (.ldc2_w 279, 3) := by decide +kernel
theorem dX11_value_296 : decode cX11_value 296 = .ok (.lload 10, 2) := by decide +kernel
theorem dX11_value_298 : decode cX11_value 298 = .ok (.lmul, 1) := by decide +kernel
theorem dX11_value_299 : decode cX11_value 299 = .ok (.lload 12, 2) := by decide +kernel
theorem dX11_value_301 : decode cX11_value 301 = .ok (.ldiv, 1) := by decide +kernel
theorem dX11_value_302 : decode cX11_value 302 = .ok (.invokevirtual 281, 3) := by decide +kernel
theorem dX11_value_305 : decode cX11_value 305 = .ok (.lstore 8, 2) := by decide +kernel
theorem dX11_value_307 : decode cX11_value 307 = .ok (.goto 14, 3) := by decide +kernel
theorem dX11_value_310 : decode cX11_value 310 = .ok (.aload_n 0, 1) := by decide +kernel
theorem dX11_value_311 : decode cX11_value 311 = .ok (.iload_n 1, 1) := by decide +kernel
theorem dX11_value_312 : decode cX11_value 312 = .ok (.iload_n 2, 1) := by decide +kernel
theorem dX11_value_313 : decode cX11_value 313 = .ok (.iload_n 3, 1) := by decide +kernel
theorem dX11_value_314 : decode cX11_value 314 = .ok (.iload 4, 2) := by decide +kernel
theorem dX11_value_316 : decode cX11_value 316 = .ok (.invokevirtual 285, 3) := by decide +kernel
theorem dX11_value_319 : decode cX11_value 319 = .ok (.lstore 8, 2) := by decide +kernel
theorem dX11_value_321 : decode cX11_value 321 = .ok (.aload_n 0, 1) := by decide +kernel
theorem dX11_value_322 : decode cX11_value 322 = .ok (.getfield 110, 3) := by decide +kernel
theorem dX11_value_325 : decode cX11_value 325 = .ok (.iload 6, 2) := by decide +kernel
theorem dX11_value_327 : decode cX11_value 327 = .ok (.aload_n 0, 1) := by decide +kernel
theorem dX11_value_328 : decode cX11_value 328 = .ok (.getfield 113, 3) := by decide +kernel
theorem dX11_value_331 : decode cX11_value 331 = .ok (.iastore, 1) := by decide +kernel
theorem dX11_value_332 : decode cX11_value 332 = .ok (.aload_n 0, 1) := by decide +kernel
theorem dX11_value_333 : decode cX11_value 333 = .ok (.getfield 106, 3) := by decide +kernel
theorem dX11_value_336 : decode cX11_value 336 = .ok (.iload 6, 2) := by decide +kernel
theorem dX11_value_338 : decode cX11_value 338 = .ok (.lload 8, 2) := by decide +kernel
theorem dX11_value_340 : decode cX11_value 340 = .ok (.lastore, 1) := by decide +kernel
theorem dX11_value_341 : decode cX11_value 341 = .ok (.lload 8, 2) := by decide +kernel
theorem dX11_value_343 : decode cX11_value 343 = .ok (.lreturn, 1) := by decide +kernel
theorem dX11_times_0 : decode cX11_times 0 = .ok (.lload_n 1, 1) := by decide +kernel
theorem dX11_times_1 : decode cX11_times 1 = .ok (.lconst 0, 1) := by decide +kernel
theorem dX11_times_2 : decode cX11_times 2 = .ok (.lcmp, 1) := by decide +kernel
theorem dX11_times_3 : decode cX11_times 3 = .ok (.ifCond .ge 8, 3) := by decide +kernel
theorem dX11_times_6 : decode cX11_times 6 = .ok (.lload_n 1, 1) := by decide +kernel
theorem dX11_times_7 : decode cX11_times 7 = .ok (.lneg, 1) := by decide +kernel
theorem dX11_times_8 : decode cX11_times 8 = .ok (.goto 4, 3) := by decide +kernel
theorem dX11_times_11 : decode cX11_times 11 = .ok (.lload_n 1, 1) := by decide +kernel
theorem dX11_times_12 : decode cX11_times 12 = .ok (.lstore 5, 2) := by decide +kernel
theorem dX11_times_14 : decode cX11_times 14 = .ok (.lload_n 3, 1) := by decide +kernel
theorem dX11_times_15 : decode cX11_times 15 = .ok (.lconst 0, 1) := by decide +kernel
theorem dX11_times_16 : decode cX11_times 16 = .ok (.lcmp, 1) := by decide +kernel
theorem dX11_times_17 : decode cX11_times 17 = .ok (.ifCond .ge 8, 3) := by decide +kernel
theorem dX11_times_20 : decode cX11_times 20 = .ok (.lload_n 3, 1) := by decide +kernel
theorem dX11_times_21 : decode cX11_times 21 = .ok (.lneg, 1) := by decide +kernel
theorem dX11_times_22 : decode cX11_times 22 = .ok (.goto 4, 3) := by decide +kernel
theorem dX11_times_25 : decode cX11_times 25 = .ok (.lload_n 3, 1) := by decide +kernel
theorem dX11_times_26 : decode cX11_times 26 = .ok (.lstore 7, 2) := by decide +kernel
theorem dX11_times_28 : decode cX11_times 28 = .ok (.lload 5, 2) := by decide +kernel
theorem dX11_times_30 : decode cX11_times 30 = .ok (.lconst 0, 1) := by decide +kernel
theorem dX11_times_31 : decode cX11_times 31 = .ok (.lcmp, 1) := by decide +kernel
theorem dX11_times_32 : decode cX11_times 32 = .ok (.ifCond .le 19, 3) := by decide +kernel
theorem dX11_times_35 : decode cX11_times 35 = .ok (.lload 7, 2) := by decide +kernel
theorem dX11_times_37 : decode cX11_times 37 = .ok (.ldc2_w 264, 3) := by decide +kernel
theorem dX11_times_40 : decode cX11_times 40 = .ok (.lload 5, 2) := by decide +kernel
theorem dX11_times_42 : decode cX11_times 42 = .ok (.ldiv, 1) := by decide +kernel
theorem dX11_times_43 : decode cX11_times 43 = .ok (.lcmp, 1) := by decide +kernel
theorem dX11_times_44 : decode cX11_times 44 = .ok (.ifCond .le 7, 3) := by decide +kernel
theorem dX11_times_47 : decode cX11_times 47 = .ok (.iconst 1, 1) := by decide +kernel
theorem dX11_times_48 : decode cX11_times 48 = .ok (.goto 4, 3) := by decide +kernel
theorem dX11_times_51 : decode cX11_times 51 = .ok (.iconst 0, 1) := by decide +kernel
theorem dX11_times_52 : decode cX11_times 52 = .ok (.istore 9, 2) := by decide +kernel
theorem dX11_times_54 : decode cX11_times 54 = .ok (.iload 9, 2) := by decide +kernel
theorem dX11_times_56 : decode cX11_times 56 = .ok (.ifCond .eq 40, 3) := by decide +kernel
theorem dX11_times_59 : decode cX11_times 59 = .ok (.lload_n 1, 1) := by decide +kernel
theorem dX11_times_60 : decode cX11_times 60 = .ok (.lconst 0, 1) := by decide +kernel
theorem dX11_times_61 : decode cX11_times 61 = .ok (.lcmp, 1) := by decide +kernel
theorem dX11_times_62 : decode cX11_times 62 = .ok (.ifCond .ge 7, 3) := by decide +kernel
theorem dX11_times_65 : decode cX11_times 65 = .ok (.iconst 1, 1) := by decide +kernel
theorem dX11_times_66 : decode cX11_times 66 = .ok (.goto 4, 3) := by decide +kernel
theorem dX11_times_69 : decode cX11_times 69 = .ok (.iconst 0, 1) := by decide +kernel
theorem dX11_times_70 : decode cX11_times 70 = .ok (.lload_n 3, 1) := by decide +kernel
theorem dX11_times_71 : decode cX11_times 71 = .ok (.lconst 0, 1) := by decide +kernel
theorem dX11_times_72 : decode cX11_times 72 = .ok (.lcmp, 1) := by decide +kernel
theorem dX11_times_73 : decode cX11_times 73 = .ok (.ifCond .ge 7, 3) := by decide +kernel
theorem dX11_times_76 : decode cX11_times 76 = .ok (.iconst 1, 1) := by decide +kernel
theorem dX11_times_77 : decode cX11_times 77 = .ok (.goto 4, 3) := by decide +kernel
theorem dX11_times_80 : decode cX11_times 80 = .ok (.iconst 0, 1) := by decide +kernel
theorem dX11_times_81 : decode cX11_times 81 = .ok (.if_icmp .ne 9, 3) := by decide +kernel
theorem dX11_times_84 : decode cX11_times 84 = .ok (.ldc2_w 264, 3) := by decide +kernel
theorem dX11_times_87 : decode cX11_times 87 = .ok (.goto 16, 3) := by decide +kernel
theorem dX11_times_90 : decode cX11_times 90 = .ok (.ldc2_w 266, 3) := by decide +kernel
theorem dX11_times_93 : decode cX11_times 93 = .ok (.goto 10, 3) := by decide +kernel
theorem dX11_times_96 : decode cX11_times 96 = .ok (.aload_n 0, 1) := by decide +kernel
theorem dX11_times_97 : decode cX11_times 97 = .ok (.lload_n 1, 1) := by decide +kernel
theorem dX11_times_98 : decode cX11_times 98 = .ok (.lload_n 3, 1) := by decide +kernel
theorem dX11_times_99 : decode cX11_times 99 = .ok (.lmul, 1) := by decide +kernel
theorem dX11_times_100 : decode cX11_times 100 = .ok (.invokevirtual 281, 3) := by decide +kernel
theorem dX11_times_103 : decode cX11_times 103 = .ok (.lreturn, 1) := by decide +kernel
theorem dX11_joined_0 : decode cX11_joined 0 = .ok (.iload_n 1, 1) := by decide +kernel
theorem dX11_joined_1 : decode cX11_joined 1 = .ok (.iconst 3, 1) := by decide +kernel
theorem dX11_joined_2 : decode cX11_joined 2 = .ok (.if_icmp .eq 8, 3) := by decide +kernel
theorem dX11_joined_5 : decode cX11_joined 5 = .ok (.iload_n 1, 1) := by decide +kernel
theorem dX11_joined_6 : decode cX11_joined 6 = .ok (.iconst 4, 1) := by decide +kernel
theorem dX11_joined_7 : decode cX11_joined 7 = .ok (.if_icmp .ne 75, 3) := by decide +kernel
theorem dX11_joined_10 : decode cX11_joined 10 = .ok (.lload 4, 2) := by decide +kernel
theorem dX11_joined_12 : decode cX11_joined 12 = .ok (.ldc2_w 262, 3) := by decide +kernel
theorem dX11_joined_15 : decode cX11_joined 15 = .ok (.lcmp, 1) := by decide +kernel
theorem dX11_joined_16 : decode cX11_joined 16 = .ok (.ifCond .ne 7, 3) := by decide +kernel
theorem dX11_joined_19 : decode cX11_joined 19 = .ok (.lconst 0, 1) := by decide +kernel
theorem dX11_joined_20 : decode cX11_joined 20 = .ok (.goto 16, 3) := by decide +kernel
theorem dX11_joined_23 : decode cX11_joined 23 = .ok (.iload_n 1, 1) := by decide +kernel
theorem dX11_joined_24 : decode cX11_joined 24 = .ok (.iconst 3, 1) := by decide +kernel
theorem dX11_joined_25 : decode cX11_joined 25 = .ok (.if_icmp .ne 8, 3) := by decide +kernel
theorem dX11_joined_28 : decode cX11_joined 28 = .ok (.lload 4, 2) := by decide +kernel
theorem dX11_joined_30 : decode cX11_joined 30 = .ok (.goto 6, 3) := by decide +kernel
theorem dX11_joined_33 : decode cX11_joined 33 = .ok (.lload 4, 2) := by decide +kernel
theorem dX11_joined_35 : decode cX11_joined 35 = .ok (.lneg, 1) := by decide +kernel
theorem dX11_joined_36 : decode cX11_joined 36 = .ok (.lstore 6, 2) := by decide +kernel
theorem dX11_joined_38 : decode cX11_joined 38 = .ok (.lload_n 2, 1) := by decide +kernel
theorem dX11_joined_39 : decode cX11_joined 39 = .ok (.ldc2_w 262, 3) := by decide +kernel
theorem dX11_joined_42 : decode cX11_joined 42 = .ok (.lcmp, 1) := by decide +kernel
theorem dX11_joined_43 : decode cX11_joined 43 = .ok (.ifCond .ne 18, 3) := by decide +kernel
theorem dX11_joined_46 : decode cX11_joined 46 = .ok (.lload 4, 2) := by decide +kernel
theorem dX11_joined_48 : decode cX11_joined 48 = .ok (.ldc2_w 262, 3) := by decide +kernel
theorem dX11_joined_51 : decode cX11_joined 51 = .ok (.lcmp, 1) := by decide +kernel
theorem dX11_joined_52 : decode cX11_joined 52 = .ok (.ifCond .ne 9, 3) := by decide +kernel
theorem dX11_joined_55 : decode cX11_joined 55 = .ok (.ldc2_w 262, 3) := by decide +kernel
theorem dX11_joined_58 : decode cX11_joined 58 = .ok (.goto 23, 3) := by decide +kernel
theorem dX11_joined_61 : decode cX11_joined 61 = .ok (.aload_n 0, 1) := by decide +kernel
theorem dX11_joined_62 : decode cX11_joined 62 = .ok (.lload_n 2, 1) := by decide +kernel
theorem dX11_joined_63 : decode cX11_joined 63 = .ok (.ldc2_w 262, 3) := by decide +kernel
theorem dX11_joined_66 : decode cX11_joined 66 = .ok (.lcmp, 1) := by decide +kernel
theorem dX11_joined_67 : decode cX11_joined 67 = .ok (.ifCond .ne 7, 3) := by decide +kernel
theorem dX11_joined_70 : decode cX11_joined 70 = .ok (.lconst 0, 1) := by decide +kernel
theorem dX11_joined_71 : decode cX11_joined 71 = .ok (.goto 4, 3) := by decide +kernel
theorem dX11_joined_74 : decode cX11_joined 74 = .ok (.lload_n 2, 1) := by decide +kernel
theorem dX11_joined_75 : decode cX11_joined 75 = .ok (.lload 6, 2) := by decide +kernel
theorem dX11_joined_77 : decode cX11_joined 77 = .ok (.ladd, 1) := by decide +kernel
theorem dX11_joined_78 : decode cX11_joined 78 = .ok (.invokevirtual 281, 3) := by decide +kernel
theorem dX11_joined_81 : decode cX11_joined 81 = .ok (.lreturn, 1) := by decide +kernel
theorem dX11_joined_82 : decode cX11_joined 82 = .ok (.lload_n 2, 1) := by decide +kernel
theorem dX11_joined_83 : decode cX11_joined 83 = .ok (.ldc2_w 262, 3) := by decide +kernel
theorem dX11_joined_86 : decode cX11_joined 86 = .ok (.lcmp, 1) := by decide +kernel
theorem dX11_joined_87 : decode cX11_joined 87 = .ok (.ifCond .eq 25, 3) := by decide +kernel
theorem dX11_joined_90 : decode cX11_joined 90 = .ok (.lload 4, 2) := by decide +kernel
theorem dX11_joined_92 : decode cX11_joined 92 = .ok (.ldc2_w 262, 3) := by decide +kernel
theorem dX11_joined_95 : decode cX11_joined 95 = .ok (.lcmp, 1) := by decide +kernel
theorem dX11_joined_96 : decode cX11_joined 96 = .ok (.ifCond .eq 16, 3) := by decide +kernel
theorem dX11_joined_99 : decode cX11_joined 99 = .ok (.iload_n 1, 1) := by decide +kernel
theorem dX11_joined_100 : decode cX11_joined 100 = .ok (.bipush 6, 2) := by decide +kernel
theorem dX11_joined_102 : decode cX11_joined 102 = .ok (.if_icmp .ne 14, 3) := by decide +kernel
theorem dX11_joined_105 : decode cX11_joined 105 = .ok (.lload 4, 2) := by decide +kernel
theorem dX11_joined_107 : decode cX11_joined 107 = .ok (.lconst 0, 1) := by decide +kernel
theorem dX11_joined_108 : decode cX11_joined 108 = .ok (.lcmp, 1) := by decide +kernel
theorem dX11_joined_109 : decode cX11_joined 109 = .ok (.ifCond .ne 7, 3) := by decide +kernel
theorem dX11_joined_112 : decode cX11_joined 112 = .ok (.ldc2_w 262, 3) := by decide +kernel
theorem dX11_joined_115 : decode cX11_joined 115 = .ok (.lreturn, 1) := by decide +kernel
theorem dX11_joined_116 : decode cX11_joined 116 = .ok (.iload_n 1, 1) := by decide +kernel
theorem dX11_joined_117 : decode cX11_joined 117 = .ok (.iconst 5, 1) := by decide +kernel
theorem dX11_joined_118 : decode cX11_joined 118 = .ok (.if_icmp .ne 13, 3) := by decide +kernel
theorem dX11_joined_121 : decode cX11_joined 121 = .ok (.aload_n 0, 1) := by decide +kernel
theorem dX11_joined_122 : decode cX11_joined 122 = .ok (.lload_n 2, 1) := by decide +kernel
theorem dX11_joined_123 : decode cX11_joined 123 = .ok (.lload 4, 2) := by decide +kernel
theorem dX11_joined_125 : decode cX11_joined 125 = .ok (.invokevirtual 289, 3) := by decide +kernel
theorem dX11_joined_128 : decode cX11_joined 128 = .ok (.goto 15, 3) := by decide +kernel
theorem dX11_joined_131 : decode cX11_joined 131 = .ok (.aload_n 0, 1) := by decide +kernel
theorem dX11_joined_132 : decode cX11_joined 132 = .ok (.ldc2_w 279, 3) := by decide +kernel
theorem dX11_joined_135 : decode cX11_joined 135 = .ok (.lload_n 2, 1) := by decide +kernel
theorem dX11_joined_136 : decode cX11_joined 136 = .ok (.lmul, 1) := by decide +kernel
theorem dX11_joined_137 : decode cX11_joined 137 = .ok (.lload 4, 2) := by decide +kernel
theorem dX11_joined_139 : decode cX11_joined 139 = .ok (.ldiv, 1) := by decide +kernel
theorem dX11_joined_140 : decode cX11_joined 140 = .ok (.invokevirtual 281, 3) := by decide +kernel
theorem dX11_joined_143 : decode cX11_joined 143 = .ok (.lreturn, 1) := by decide +kernel
theorem dX11_back_0 : decode cX11_back 0 = .ok (.iload_n 2, 1) := by decide +kernel
theorem dX11_back_1 : decode cX11_back 1 = .ok (.istore_n 3, 1) := by decide +kernel
theorem dX11_back_2 : decode cX11_back 2 = .ok (.iload_n 1, 1) := by decide +kernel
theorem dX11_back_3 : decode cX11_back 3 = .ok (.istore 4, 2) := by decide +kernel
theorem dX11_back_5 : decode cX11_back 5 = .ok (.iload_n 3, 1) := by decide +kernel
theorem dX11_back_6 : decode cX11_back 6 = .ok (.ifCond .le 127, 3) := by decide +kernel
theorem dX11_back_9 : decode cX11_back 9 = .ok (.iload 4, 2) := by decide +kernel
theorem dX11_back_11 : decode cX11_back 11 = .ok (.ifCond .lt 122, 3) := by decide +kernel
theorem dX11_back_14 : decode cX11_back 14 = .ok (.iconst (-1), 1) := by decide +kernel
theorem dX11_back_15 : decode cX11_back 15 = .ok (.istore 5, 2) := by decide +kernel
theorem dX11_back_17 : decode cX11_back 17 = .ok (.iconst 0, 1) := by decide +kernel
theorem dX11_back_18 : decode cX11_back 18 = .ok (.istore 6, 2) := by decide +kernel
theorem dX11_back_20 : decode cX11_back 20 = .ok (.iload 6, 2) := by decide +kernel
theorem dX11_back_22 : decode cX11_back 22 = .ok (.aload_n 0, 1) := by decide +kernel
theorem dX11_back_23 : decode cX11_back 23 = .ok (.getfield 9, 3) := by decide +kernel
theorem dX11_back_26 : decode cX11_back 26 = .ok (.iconst 0, 1) := by decide +kernel
theorem dX11_back_27 : decode cX11_back 27 = .ok (.iaload, 1) := by decide +kernel
theorem dX11_back_28 : decode cX11_back 28 = .ok (.if_icmp .ge 95, 3) := by decide +kernel
theorem dX11_back_31 : decode cX11_back 31 = .ok (.aload_n 0, 1) := by decide +kernel
theorem dX11_back_32 : decode cX11_back 32 = .ok (.iconst 0, 1) := by decide +kernel
theorem dX11_back_33 : decode cX11_back 33 = .ok (.iload 6, 2) := by decide +kernel
theorem dX11_back_35 : decode cX11_back 35 = .ok (.invokevirtual 180, 3) := by decide +kernel
theorem dX11_back_38 : decode cX11_back 38 = .ok (.ifCond .eq 62, 3) := by decide +kernel
theorem dX11_back_41 : decode cX11_back 41 = .ok (.aload_n 0, 1) := by decide +kernel
theorem dX11_back_42 : decode cX11_back 42 = .ok (.iconst 0, 1) := by decide +kernel
theorem dX11_back_43 : decode cX11_back 43 = .ok (.iload 6, 2) := by decide +kernel
theorem dX11_back_45 : decode cX11_back 45 = .ok (.invokevirtual 205, 3) := by decide +kernel
theorem dX11_back_48 : decode cX11_back 48 = .ok (.aload_n 0, 1) := by decide +kernel
theorem dX11_back_49 : decode cX11_back 49 = .ok (.iconst 0, 1) := by decide +kernel
theorem dX11_back_50 : decode cX11_back 50 = .ok (.iload_n 1, 1) := by decide +kernel
theorem dX11_back_51 : decode cX11_back 51 = .ok (.invokevirtual 205, 3) := by decide +kernel
theorem dX11_back_54 : decode cX11_back 54 = .ok (.if_icmp .ne 46, 3) := by decide +kernel
theorem dX11_back_57 : decode cX11_back 57 = .ok (.aload_n 0, 1) := by decide +kernel
theorem dX11_back_58 : decode cX11_back 58 = .ok (.getfield 57, 3) := by decide +kernel
theorem dX11_back_61 : decode cX11_back 61 = .ok (.iload 6, 2) := by decide +kernel
theorem dX11_back_63 : decode cX11_back 63 = .ok (.iaload, 1) := by decide +kernel
theorem dX11_back_64 : decode cX11_back 64 = .ok (.aload_n 0, 1) := by decide +kernel
theorem dX11_back_65 : decode cX11_back 65 = .ok (.getfield 57, 3) := by decide +kernel
theorem dX11_back_68 : decode cX11_back 68 = .ok (.iload 4, 2) := by decide +kernel
theorem dX11_back_70 : decode cX11_back 70 = .ok (.iaload, 1) := by decide +kernel
theorem dX11_back_71 : decode cX11_back 71 = .ok (.if_icmp .ge 29, 3) := by decide +kernel
theorem dX11_back_74 : decode cX11_back 74 = .ok (.iload 5, 2) := by decide +kernel
theorem dX11_back_76 : decode cX11_back 76 = .ok (.ifCond .lt 20, 3) := by decide +kernel
theorem dX11_back_79 : decode cX11_back 79 = .ok (.aload_n 0, 1) := by decide +kernel
theorem dX11_back_80 : decode cX11_back 80 = .ok (.getfield 57, 3) := by decide +kernel
theorem dX11_back_83 : decode cX11_back 83 = .ok (.iload 6, 2) := by decide +kernel
theorem dX11_back_85 : decode cX11_back 85 = .ok (.iaload, 1) := by decide +kernel
theorem dX11_back_86 : decode cX11_back 86 = .ok (.aload_n 0, 1) := by decide +kernel
theorem dX11_back_87 : decode cX11_back 87 = .ok (.getfield 57, 3) := by decide +kernel
theorem dX11_back_90 : decode cX11_back 90 = .ok (.iload 5, 2) := by decide +kernel
theorem dX11_back_92 : decode cX11_back 92 = .ok (.iaload, 1) := by decide +kernel
theorem dX11_back_93 : decode cX11_back 93 = .ok (.if_icmp .le 7, 3) := by decide +kernel
theorem dX11_back_96 : decode cX11_back 96 = .ok (.iconst 1, 1) := by decide +kernel
theorem dX11_back_97 : decode cX11_back 97 = .ok (.goto 4, 3) := by decide +kernel
theorem dX11_back_100 : decode cX11_back 100 = .ok (.iconst 0, 1) := by decide +kernel
theorem dX11_back_101 : decode cX11_back 101 = .ok (.istore 7, 2) := by decide +kernel
theorem dX11_back_103 : decode cX11_back 103 = .ok (.iload 7, 2) := by decide +kernel
theorem dX11_back_105 : decode cX11_back 105 = .ok (.ifCond .eq 8, 3) := by decide +kernel
theorem dX11_back_108 : decode cX11_back 108 = .ok (.iload 6, 2) := by decide +kernel
theorem dX11_back_110 : decode cX11_back 110 = .ok (.goto 5, 3) := by decide +kernel
theorem dX11_back_113 : decode cX11_back 113 = .ok (.iload 5, 2) := by decide +kernel
theorem dX11_back_115 : decode cX11_back 115 = .ok (.istore 5, 2) := by decide +kernel
theorem dX11_back_117 : decode cX11_back 117 = .ok (.iinc 6 1, 3) := by decide +kernel
theorem dX11_back_120 : decode cX11_back 120 = .ok (.goto (-100), 3) := by decide +kernel
theorem dX11_back_123 : decode cX11_back 123 = .ok (.iload 5, 2) := by decide +kernel
theorem dX11_back_125 : decode cX11_back 125 = .ok (.istore 4, 2) := by decide +kernel
theorem dX11_back_127 : decode cX11_back 127 = .ok (.iinc 3 (-1), 3) := by decide +kernel
theorem dX11_back_130 : decode cX11_back 130 = .ok (.goto (-125), 3) := by decide +kernel
theorem dX11_back_133 : decode cX11_back 133 = .ok (.iload 4, 2) := by decide +kernel
theorem dX11_back_135 : decode cX11_back 135 = .ok (.ireturn, 1) := by decide +kernel
theorem dX11_look_0 : decode cX11_look 0 = .ok (.iload_n 1, 1) := by decide +kernel
theorem dX11_look_1 : decode cX11_look 1 = .ok (.ifCond .ne 7, 3) := by decide +kernel
theorem dX11_look_4 : decode cX11_look 4 = .ok (.iload_n 2, 1) := by decide +kernel
theorem dX11_look_5 : decode cX11_look 5 = .ok (.goto 5, 3) := by decide +kernel
theorem dX11_look_8 : decode cX11_look 8 = .ok (.iload 4, 2) := by decide +kernel
theorem dX11_look_10 : decode cX11_look 10 = .ok (.istore 9, 2) := by decide +kernel
theorem dX11_look_12 : decode cX11_look 12 = .ok (.iload_n 3, 1) := by decide +kernel
theorem dX11_look_13 : decode cX11_look 13 = .ok (.ifCond .le 26, 3) := by decide +kernel
theorem dX11_look_16 : decode cX11_look 16 = .ok (.aload_n 0, 1) := by decide +kernel
theorem dX11_look_17 : decode cX11_look 17 = .ok (.iconst 0, 1) := by decide +kernel
theorem dX11_look_18 : decode cX11_look 18 = .ok (.iload 9, 2) := by decide +kernel
theorem dX11_look_20 : decode cX11_look 20 = .ok (.invokevirtual 180, 3) := by decide +kernel
theorem dX11_look_23 : decode cX11_look 23 = .ok (.ifCond .eq 13, 3) := by decide +kernel
theorem dX11_look_26 : decode cX11_look 26 = .ok (.aload_n 0, 1) := by decide +kernel
theorem dX11_look_27 : decode cX11_look 27 = .ok (.iload 9, 2) := by decide +kernel
theorem dX11_look_29 : decode cX11_look 29 = .ok (.iload_n 3, 1) := by decide +kernel
theorem dX11_look_30 : decode cX11_look 30 = .ok (.invokevirtual 293, 3) := by decide +kernel
theorem dX11_look_33 : decode cX11_look 33 = .ok (.goto 4, 3) := by decide +kernel
theorem dX11_look_36 : decode cX11_look 36 = .ok (.iconst (-1), 1) := by decide +kernel
theorem dX11_look_37 : decode cX11_look 37 = .ok (.istore 9, 2) := by decide +kernel
theorem dX11_look_39 : decode cX11_look 39 = .ok (.iload 9, 2) := by decide +kernel
theorem dX11_look_41 : decode cX11_look 41 = .ok (.ifCond .ge 9, 3) := by decide +kernel
theorem dX11_look_44 : decode cX11_look 44 = .ok (.ldc2_w 262, 3) := by decide +kernel
theorem dX11_look_47 : decode cX11_look 47 = .ok (.goto 35, 3) := by decide +kernel
theorem dX11_look_50 : decode cX11_look 50 = .ok (.aload_n 0, 1) := by decide +kernel
theorem dX11_look_51 : decode cX11_look 51 = .ok (.iload 9, 2) := by decide +kernel
theorem dX11_look_53 : decode cX11_look 53 = .ok (.iload_n 1, 1) := by decide +kernel
theorem dX11_look_54 : decode cX11_look 54 = .ok (.iconst 1, 1) := by decide +kernel
theorem dX11_look_55 : decode cX11_look 55 = .ok (.if_icmp .ne 7, 3) := by decide +kernel
theorem dX11_look_58 : decode cX11_look 58 = .ok (.iload_n 2, 1) := by decide +kernel
theorem dX11_look_59 : decode cX11_look 59 = .ok (.goto 5, 3) := by decide +kernel
theorem dX11_look_62 : decode cX11_look 62 = .ok (.iload 5, 2) := by decide +kernel
theorem dX11_look_64 : decode cX11_look 64 = .ok (.iload_n 1, 1) := by decide +kernel
theorem dX11_look_65 : decode cX11_look 65 = .ok (.iconst 2, 1) := by decide +kernel
theorem dX11_look_66 : decode cX11_look 66 = .ok (.if_icmp .ne 7, 3) := by decide +kernel
theorem dX11_look_69 : decode cX11_look 69 = .ok (.iload_n 2, 1) := by decide +kernel
theorem dX11_look_70 : decode cX11_look 70 = .ok (.goto 5, 3) := by decide +kernel
theorem dX11_look_73 : decode cX11_look 73 = .ok (.iload 6, 2) := by decide +kernel
theorem dX11_look_75 : decode cX11_look 75 = .ok (.iload 7, 2) := by decide +kernel
theorem dX11_look_77 : decode cX11_look 77 = .ok (.iload 8, 2) := by decide +kernel
theorem dX11_look_79 : decode cX11_look 79 = .ok (.invokevirtual 275, 3) := by decide +kernel
theorem dX11_look_82 : decode cX11_look 82 = .ok (.lstore 10, 2) := by decide +kernel
theorem dX11_look_84 : decode cX11_look 84 = .ok (.lload 10, 2) := by decide +kernel
theorem dX11_look_86 : decode cX11_look 86 = .ok (.ldc2_w 262, 3) := by decide +kernel
theorem dX11_look_89 : decode cX11_look 89 = .ok (.lcmp, 1) := by decide +kernel
theorem dX11_look_90 : decode cX11_look 90 = .ok (.ifCond .ne 9, 3) := by decide +kernel
theorem dX11_look_93 : decode cX11_look 93 = .ok (.ldc2_w 262, 3) := by decide +kernel
theorem dX11_look_96 : decode cX11_look 96 = .ok (.goto 9, 3) := by decide +kernel
theorem dX11_look_99 : decode cX11_look 99 = .ok (.aload_n 0, 1) := by decide +kernel
theorem dX11_look_100 : decode cX11_look 100 = .ok (.lload 10, 2) := by decide +kernel
theorem dX11_look_102 : decode cX11_look 102 = .ok (.invokevirtual 281, 3) := by decide +kernel
theorem dX11_look_105 : decode cX11_look 105 = .ok (.lreturn, 1) := by decide +kernel
theorem dX11_date_0 : decode cX11_date 0 = .ok (.iload_n 1, 1) := by decide +kernel
theorem dX11_date_1 : decode cX11_date 1 = .ok (.ifCond .ne 7, 3) := by decide +kernel
theorem dX11_date_4 : decode cX11_date 4 = .ok (.iload_n 2, 1) := by decide +kernel
theorem dX11_date_5 : decode cX11_date 5 = .ok (.goto 4, 3) := by decide +kernel
theorem dX11_date_8 : decode cX11_date 8 = .ok (.iload_n 3, 1) := by decide +kernel
theorem dX11_date_9 : decode cX11_date 9 = .ok (.istore 8, 2) := by decide +kernel
theorem dX11_date_11 : decode cX11_date 11 = .ok (.ldc2_w 262, 3) := by decide +kernel
theorem dX11_date_14 : decode cX11_date 14 = .ok (.lstore 9, 2) := by decide +kernel
theorem dX11_date_16 : decode cX11_date 16 = .ok (.iconst 0, 1) := by decide +kernel
theorem dX11_date_17 : decode cX11_date 17 = .ok (.istore 11, 2) := by decide +kernel
theorem dX11_date_19 : decode cX11_date 19 = .ok (.iload 11, 2) := by decide +kernel
theorem dX11_date_21 : decode cX11_date 21 = .ok (.iload 8, 2) := by decide +kernel
theorem dX11_date_23 : decode cX11_date 23 = .ok (.if_icmp .gt 121, 3) := by decide +kernel
theorem dX11_date_26 : decode cX11_date 26 = .ok (.aload_n 0, 1) := by decide +kernel
theorem dX11_date_27 : decode cX11_date 27 = .ok (.iconst 0, 1) := by decide +kernel
theorem dX11_date_28 : decode cX11_date 28 = .ok (.iload 8, 2) := by decide +kernel
theorem dX11_date_30 : decode cX11_date 30 = .ok (.invokevirtual 180, 3) := by decide +kernel
theorem dX11_date_33 : decode cX11_date 33 = .ok (.ifCond .eq 111, 3) := by decide +kernel
theorem dX11_date_36 : decode cX11_date 36 = .ok (.iload 11, 2) := by decide +kernel
theorem dX11_date_38 : decode cX11_date 38 = .ok (.iload 8, 2) := by decide +kernel
theorem dX11_date_40 : decode cX11_date 40 = .ok (.if_icmp .eq 40, 3) := by decide +kernel
theorem dX11_date_43 : decode cX11_date 43 = .ok (.iload 8, 2) := by decide +kernel
theorem dX11_date_45 : decode cX11_date 45 = .ok (.ifCond .le 39, 3) := by decide +kernel
theorem dX11_date_48 : decode cX11_date 48 = .ok (.iload 11, 2) := by decide +kernel
theorem dX11_date_50 : decode cX11_date 50 = .ok (.ifCond .le 34, 3) := by decide +kernel
theorem dX11_date_53 : decode cX11_date 53 = .ok (.aload_n 0, 1) := by decide +kernel
theorem dX11_date_54 : decode cX11_date 54 = .ok (.iconst 0, 1) := by decide +kernel
theorem dX11_date_55 : decode cX11_date 55 = .ok (.iload 11, 2) := by decide +kernel
theorem dX11_date_57 : decode cX11_date 57 = .ok (.invokevirtual 180, 3) := by decide +kernel
theorem dX11_date_60 : decode cX11_date 60 = .ok (.ifCond .eq 24, 3) := by decide +kernel
theorem dX11_date_63 : decode cX11_date 63 = .ok (.aload_n 0, 1) := by decide +kernel
theorem dX11_date_64 : decode cX11_date 64 = .ok (.getfield 18, 3) := by decide +kernel
theorem dX11_date_67 : decode cX11_date 67 = .ok (.iload 11, 2) := by decide +kernel
theorem dX11_date_69 : decode cX11_date 69 = .ok (.iaload, 1) := by decide +kernel
theorem dX11_date_70 : decode cX11_date 70 = .ok (.aload_n 0, 1) := by decide +kernel
theorem dX11_date_71 : decode cX11_date 71 = .ok (.getfield 18, 3) := by decide +kernel
theorem dX11_date_74 : decode cX11_date 74 = .ok (.iload 8, 2) := by decide +kernel
theorem dX11_date_76 : decode cX11_date 76 = .ok (.iaload, 1) := by decide +kernel
theorem dX11_date_77 : decode cX11_date 77 = .ok (.if_icmp .ne 7, 3) := by decide +kernel
theorem dX11_date_80 : decode cX11_date 80 = .ok (.iconst 1, 1) := by decide +kernel
theorem dX11_date_81 : decode cX11_date 81 = .ok (.goto 4, 3) := by decide +kernel
theorem dX11_date_84 : decode cX11_date 84 = .ok (.iconst 0, 1) := by decide +kernel
theorem dX11_date_85 : decode cX11_date 85 = .ok (.istore 12, 2) := by decide +kernel
theorem dX11_date_87 : decode cX11_date 87 = .ok (.iload 12, 2) := by decide +kernel
theorem dX11_date_89 : decode cX11_date 89 = .ok (.ifCond .eq 45, 3) := by decide +kernel
theorem dX11_date_92 : decode cX11_date 92 = .ok (.aload_n 0, 1) := by decide +kernel
theorem dX11_date_93 : decode cX11_date 93 = .ok (.iconst 3, 1) := by decide +kernel
theorem dX11_date_94 : decode cX11_date 94 = .ok (.lload 9, 2) := by decide +kernel
theorem dX11_date_96 : decode cX11_date 96 = .ok (.aload_n 0, 1) := by decide +kernel
theorem dX11_date_97 : decode cX11_date 97 = .ok (.iload 11, 2) := by decide +kernel
theorem dX11_date_99 : decode cX11_date 99 = .ok (.iload_n 1, 1) := by decide +kernel
theorem dX11_date_100 : decode cX11_date 100 = .ok (.iconst 1, 1) := by decide +kernel
theorem dX11_date_101 : decode cX11_date 101 = .ok (.if_icmp .ne 7, 3) := by decide +kernel
theorem dX11_date_104 : decode cX11_date 104 = .ok (.iload_n 2, 1) := by decide +kernel
theorem dX11_date_105 : decode cX11_date 105 = .ok (.goto 5, 3) := by decide +kernel
theorem dX11_date_108 : decode cX11_date 108 = .ok (.iload 4, 2) := by decide +kernel
theorem dX11_date_110 : decode cX11_date 110 = .ok (.iload_n 1, 1) := by decide +kernel
theorem dX11_date_111 : decode cX11_date 111 = .ok (.iconst 2, 1) := by decide +kernel
theorem dX11_date_112 : decode cX11_date 112 = .ok (.if_icmp .ne 7, 3) := by decide +kernel
theorem dX11_date_115 : decode cX11_date 115 = .ok (.iload_n 2, 1) := by decide +kernel
theorem dX11_date_116 : decode cX11_date 116 = .ok (.goto 5, 3) := by decide +kernel
theorem dX11_date_119 : decode cX11_date 119 = .ok (.iload 5, 2) := by decide +kernel
theorem dX11_date_121 : decode cX11_date 121 = .ok (.iload 6, 2) := by decide +kernel
theorem dX11_date_123 : decode cX11_date 123 = .ok (.iload 7, 2) := by decide +kernel
theorem dX11_date_125 : decode cX11_date 125 = .ok (.invokevirtual 275, 3) := by decide +kernel
theorem dX11_date_128 : decode cX11_date 128 = .ok (.invokevirtual 296, 3) := by decide +kernel
theorem dX11_date_131 : decode cX11_date 131 = .ok (.goto 5, 3) := by decide +kernel
theorem dX11_date_134 : decode cX11_date 134 = .ok (.lload 9, 2) := by decide +kernel
theorem dX11_date_136 : decode cX11_date 136 = .ok (.lstore 9, 2) := by decide +kernel
theorem dX11_date_138 : decode cX11_date 138 = .ok (.iinc 11 1, 3) := by decide +kernel
theorem dX11_date_141 : decode cX11_date 141 = .ok (.goto (-122), 3) := by decide +kernel
theorem dX11_date_144 : decode cX11_date 144 = .ok (.lload 9, 2) := by decide +kernel
theorem dX11_date_146 : decode cX11_date 146 = .ok (.lreturn, 1) := by decide +kernel
theorem dX11_formula_0 : decode cX11_formula 0 = .ok (.bipush 12, 2) := by decide +kernel
theorem dX11_formula_2 : decode cX11_formula 2 = .ok (.iload_n 1, 1) := by decide +kernel
theorem dX11_formula_3 : decode cX11_formula 3 = .ok (.imul, 1) := by decide +kernel
theorem dX11_formula_4 : decode cX11_formula 4 = .ok (.iload_n 1, 1) := by decide +kernel
theorem dX11_formula_5 : decode cX11_formula 5 = .ok (.ifCond .ne 7, 3) := by decide +kernel
theorem dX11_formula_8 : decode cX11_formula 8 = .ok (.iload_n 2, 1) := by decide +kernel
theorem dX11_formula_9 : decode cX11_formula 9 = .ok (.goto 14, 3) := by decide +kernel
theorem dX11_formula_12 : decode cX11_formula 12 = .ok (.iload_n 1, 1) := by decide +kernel
theorem dX11_formula_13 : decode cX11_formula 13 = .ok (.iconst 1, 1) := by decide +kernel
theorem dX11_formula_14 : decode cX11_formula 14 = .ok (.if_icmp .ne 7, 3) := by decide +kernel
theorem dX11_formula_17 : decode cX11_formula 17 = .ok (.iload_n 3, 1) := by decide +kernel
theorem dX11_formula_18 : decode cX11_formula 18 = .ok (.goto 5, 3) := by decide +kernel
theorem dX11_formula_21 : decode cX11_formula 21 = .ok (.iload 4, 2) := by decide +kernel
theorem dX11_formula_23 : decode cX11_formula 23 = .ok (.iadd, 1) := by decide +kernel
theorem dX11_formula_24 : decode cX11_formula 24 = .ok (.istore 7, 2) := by decide +kernel
theorem dX11_formula_26 : decode cX11_formula 26 = .ok (.aload_n 0, 1) := by decide +kernel
theorem dX11_formula_27 : decode cX11_formula 27 = .ok (.getfield 300, 3) := by decide +kernel
theorem dX11_formula_30 : decode cX11_formula 30 = .ok (.istore 8, 2) := by decide +kernel
theorem dX11_formula_32 : decode cX11_formula 32 = .ok (.aload_n 0, 1) := by decide +kernel
theorem dX11_formula_33 : decode cX11_formula 33 = .ok (.getfield 300, 3) := by decide +kernel
theorem dX11_formula_36 : decode cX11_formula 36 = .ok (.istore 9, 2) := by decide +kernel
theorem dX11_formula_38 : decode cX11_formula 38 = .ok (.bipush 10, 2) := by decide +kernel
theorem dX11_formula_40 : decode cX11_formula 40 = .ok (.iload 7, 2) := by decide +kernel
theorem dX11_formula_42 : decode cX11_formula 42 = .ok (.imul, 1) := by decide +kernel
theorem dX11_formula_43 : decode cX11_formula 43 = .ok (.istore 10, 2) := by decide +kernel
theorem dX11_formula_45 : decode cX11_formula 45 = .ok (.iload 10, 2) := by decide +kernel
theorem dX11_formula_47 : decode cX11_formula 47 = .ok (.bipush 10, 2) := by decide +kernel
theorem dX11_formula_49 : decode cX11_formula 49 = .ok (.iload 7, 2) := by decide +kernel
theorem dX11_formula_51 : decode cX11_formula 51 = .ok (.imul, 1) := by decide +kernel
theorem dX11_formula_52 : decode cX11_formula 52 = .ok (.aload_n 0, 1) := by decide +kernel
theorem dX11_formula_53 : decode cX11_formula 53 = .ok (.getfield 42, 3) := by decide +kernel
theorem dX11_formula_56 : decode cX11_formula 56 = .ok (.iload 7, 2) := by decide +kernel
theorem dX11_formula_58 : decode cX11_formula 58 = .ok (.iaload, 1) := by decide +kernel
theorem dX11_formula_59 : decode cX11_formula 59 = .ok (.iadd, 1) := by decide +kernel
theorem dX11_formula_60 : decode cX11_formula 60 = .ok (.if_icmp .ge 153, 3) := by decide +kernel
theorem dX11_formula_63 : decode cX11_formula 63 = .ok (.aload_n 0, 1) := by decide +kernel
theorem dX11_formula_64 : decode cX11_formula 64 = .ok (.getfield 33, 3) := by decide +kernel
theorem dX11_formula_67 : decode cX11_formula 67 = .ok (.iload 10, 2) := by decide +kernel
theorem dX11_formula_69 : decode cX11_formula 69 = .ok (.iaload, 1) := by decide +kernel
theorem dX11_formula_70 : decode cX11_formula 70 = .ok (.istore 11, 2) := by decide +kernel
theorem dX11_formula_72 : decode cX11_formula 72 = .ok (.aload_n 0, 1) := by decide +kernel
theorem dX11_formula_73 : decode cX11_formula 73 = .ok (.iload 9, 2) := by decide +kernel
theorem dX11_formula_75 : decode cX11_formula 75 = .ok (.putfield 300, 3) := by decide +kernel
theorem dX11_formula_78 : decode cX11_formula 78 = .ok (.lconst 0, 1) := by decide +kernel
theorem dX11_formula_79 : decode cX11_formula 79 = .ok (.lstore 12, 2) := by decide +kernel
theorem dX11_formula_81 : decode cX11_formula 81 = .ok (.iload 11, 2) := by decide +kernel
theorem dX11_formula_83 : decode cX11_formula 83 = .ok (.ifCond .ne 16, 3) := by decide +kernel
theorem dX11_formula_86 : decode cX11_formula 86 = .ok (.aload_n 0, 1) := by decide +kernel
theorem dX11_formula_87 : decode cX11_formula 87 = .ok (.getfield 36, 3) := by decide +kernel
theorem dX11_formula_90 : decode cX11_formula 90 = .ok (.iload 10, 2) := by decide +kernel
theorem dX11_formula_92 : decode cX11_formula 92 = .ok (.iaload, 1) := by decide +kernel
theorem dX11_formula_93 : decode cX11_formula 93 = .ok (.i2l, 1) := by decide +kernel
theorem dX11_formula_94 : decode cX11_formula 94 = .ok (.lstore 12, 2) := by decide +kernel
theorem dX11_formula_96 : decode cX11_formula 96 = .ok (.goto 99, 3) := by decide +kernel
theorem dX11_formula_99 : decode cX11_formula 99 = .ok (.iload 11, 2) := by decide +kernel
theorem dX11_formula_101 : decode cX11_formula 101 = .ok (.iconst 1, 1) := by decide +kernel
theorem dX11_formula_102 : decode cX11_formula 102 = .ok (.if_icmp .ne 35, 3) := by decide +kernel
theorem dX11_formula_105 : decode cX11_formula 105 = .ok (.aload_n 0, 1) := by decide +kernel
theorem dX11_formula_106 : decode cX11_formula 106 = .ok (.iload_n 1, 1) := by decide +kernel
theorem dX11_formula_107 : decode cX11_formula 107 = .ok (.aload_n 0, 1) := by decide +kernel
theorem dX11_formula_108 : decode cX11_formula 108 = .ok (.getfield 36, 3) := by decide +kernel
theorem dX11_formula_111 : decode cX11_formula 111 = .ok (.iload 10, 2) := by decide +kernel
theorem dX11_formula_113 : decode cX11_formula 113 = .ok (.iaload, 1) := by decide +kernel
theorem dX11_formula_114 : decode cX11_formula 114 = .ok (.aload_n 0, 1) := by decide +kernel
theorem dX11_formula_115 : decode cX11_formula 115 = .ok (.getfield 39, 3) := by decide +kernel
theorem dX11_formula_118 : decode cX11_formula 118 = .ok (.iload 10, 2) := by decide +kernel
theorem dX11_formula_120 : decode cX11_formula 120 = .ok (.iaload, 1) := by decide +kernel
theorem dX11_formula_121 : decode cX11_formula 121 = .ok (.iload_n 2, 1) := by decide +kernel
theorem dX11_formula_122 : decode cX11_formula 122 = .ok (.iload_n 3, 1) := by decide +kernel
theorem dX11_formula_123 : decode cX11_formula 123 = .ok (.iload 4, 2) := by decide +kernel
theorem dX11_formula_125 : decode cX11_formula 125 = .ok (.iload 5, 2) := by decide +kernel
theorem dX11_formula_127 : decode cX11_formula 127 = .ok (.iload 6, 2) := by decide +kernel
theorem dX11_formula_129 : decode cX11_formula 129 = .ok (.invokevirtual 303, 3) := by decide +kernel
theorem dX11_formula_132 : decode cX11_formula 132 = .ok (.lstore 12, 2) := by decide +kernel
theorem dX11_formula_134 : decode cX11_formula 134 = .ok (.goto 61, 3) := by decide +kernel
theorem dX11_formula_137 : decode cX11_formula 137 = .ok (.iload 11, 2) := by decide +kernel
theorem dX11_formula_139 : decode cX11_formula 139 = .ok (.iconst 2, 1) := by decide +kernel
theorem dX11_formula_140 : decode cX11_formula 140 = .ok (.if_icmp .ne 28, 3) := by decide +kernel
theorem dX11_formula_143 : decode cX11_formula 143 = .ok (.aload_n 0, 1) := by decide +kernel
theorem dX11_formula_144 : decode cX11_formula 144 = .ok (.iload_n 1, 1) := by decide +kernel
theorem dX11_formula_145 : decode cX11_formula 145 = .ok (.aload_n 0, 1) := by decide +kernel
theorem dX11_formula_146 : decode cX11_formula 146 = .ok (.getfield 36, 3) := by decide +kernel
theorem dX11_formula_149 : decode cX11_formula 149 = .ok (.iload 10, 2) := by decide +kernel
theorem dX11_formula_151 : decode cX11_formula 151 = .ok (.iaload, 1) := by decide +kernel
theorem dX11_formula_152 : decode cX11_formula 152 = .ok (.iload_n 2, 1) := by decide +kernel
theorem dX11_formula_153 : decode cX11_formula 153 = .ok (.iload_n 3, 1) := by decide +kernel
theorem dX11_formula_154 : decode cX11_formula 154 = .ok (.iload 4, 2) := by decide +kernel
theorem dX11_formula_156 : decode cX11_formula 156 = .ok (.iload 5, 2) := by decide +kernel
theorem dX11_formula_158 : decode cX11_formula 158 = .ok (.iload 6, 2) := by decide +kernel
theorem dX11_formula_160 : decode cX11_formula 160 = .ok (.invokevirtual 307, 3) := by decide +kernel
theorem dX11_formula_163 : decode cX11_formula 163 = .ok (.lstore 12, 2) := by decide +kernel
theorem dX11_formula_165 : decode cX11_formula 165 = .ok (.goto 30, 3) := by decide +kernel
theorem dX11_formula_168 : decode cX11_formula 168 = .ok (.iinc 9 (-2), 3) := by decide +kernel
theorem dX11_formula_171 : decode cX11_formula 171 = .ok (.aload_n 0, 1) := by decide +kernel
theorem dX11_formula_172 : decode cX11_formula 172 = .ok (.iload 11, 2) := by decide +kernel
theorem dX11_formula_174 : decode cX11_formula 174 = .ok (.aload_n 0, 1) := by decide +kernel
theorem dX11_formula_175 : decode cX11_formula 175 = .ok (.getfield 128, 3) := by decide +kernel
theorem dX11_formula_178 : decode cX11_formula 178 = .ok (.iload 9, 2) := by decide +kernel
theorem dX11_formula_180 : decode cX11_formula 180 = .ok (.laload, 1) := by decide +kernel
theorem dX11_formula_181 : decode cX11_formula 181 = .ok (.aload_n 0, 1) := by decide +kernel
theorem dX11_formula_182 : decode cX11_formula 182 = .ok (.getfield 128, 3) := by decide +kernel
theorem dX11_formula_185 : decode cX11_formula 185 = .ok (.iload 9, 2) := by decide +kernel
theorem dX11_formula_187 : decode cX11_formula 187 = .ok (.iconst 1, 1) := by decide +kernel
theorem dX11_formula_188 : decode cX11_formula 188 = .ok (.iadd, 1) := by decide +kernel
theorem dX11_formula_189 : decode cX11_formula 189 = .ok (.laload, 1) := by decide +kernel
theorem dX11_formula_190 : decode cX11_formula 190 = .ok (.invokevirtual 296, 3) := by decide +kernel
theorem dX11_formula_193 : decode cX11_formula 193 = .ok (.lstore 12, 2) := by decide +kernel
theorem dX11_formula_195 : decode cX11_formula 195 = .ok (.aload_n 0, 1) := by decide +kernel
theorem dX11_formula_196 : decode cX11_formula 196 = .ok (.getfield 128, 3) := by decide +kernel
theorem dX11_formula_199 : decode cX11_formula 199 = .ok (.iload 9, 2) := by decide +kernel
theorem dX11_formula_201 : decode cX11_formula 201 = .ok (.lload 12, 2) := by decide +kernel
theorem dX11_formula_203 : decode cX11_formula 203 = .ok (.lastore, 1) := by decide +kernel
theorem dX11_formula_204 : decode cX11_formula 204 = .ok (.iinc 9 1, 3) := by decide +kernel
theorem dX11_formula_207 : decode cX11_formula 207 = .ok (.iinc 10 1, 3) := by decide +kernel
theorem dX11_formula_210 : decode cX11_formula 210 = .ok (.goto (-165), 3) := by decide +kernel
theorem dX11_formula_213 : decode cX11_formula 213 = .ok (.aload_n 0, 1) := by decide +kernel
theorem dX11_formula_214 : decode cX11_formula 214 = .ok (.iload 8, 2) := by decide +kernel
theorem dX11_formula_216 : decode cX11_formula 216 = .ok (.putfield 300, 3) := by decide +kernel
theorem dX11_formula_219 : decode cX11_formula 219 = .ok (.aload_n 0, 1) := by decide +kernel
theorem dX11_formula_220 : decode cX11_formula 220 = .ok (.getfield 128, 3) := by decide +kernel
theorem dX11_formula_223 : decode cX11_formula 223 = .ok (.iload 8, 2) := by decide +kernel
theorem dX11_formula_225 : decode cX11_formula 225 = .ok (.laload, 1) := by decide +kernel
theorem dX11_formula_226 : decode cX11_formula 226 = .ok (.lreturn, 1) := by decide +kernel
theorem dX11_areSeen_0 : decode cX11_areSeen 0 = .ok (.aload_n 0, 1) := by decide +kernel
theorem dX11_areSeen_1 : decode cX11_areSeen 1 = .ok (.iconst 0, 1) := by decide +kernel
theorem dX11_areSeen_2 : decode cX11_areSeen 2 = .ok (.iload_n 1, 1) := by decide +kernel
theorem dX11_areSeen_3 : decode cX11_areSeen 3 = .ok (.invokevirtual 208, 3) := by decide +kernel
theorem dX11_areSeen_6 : decode cX11_areSeen 6 = .ok (.ifCond .eq 25, 3) := by decide +kernel
theorem dX11_areSeen_9 : decode cX11_areSeen 9 = .ok (.aload_n 0, 1) := by decide +kernel
theorem dX11_areSeen_10 : decode cX11_areSeen 10 = .ok (.iconst 1, 1) := by decide +kernel
theorem dX11_areSeen_11 : decode cX11_areSeen 11 = .ok (.iload_n 2, 1) := by decide +kernel
theorem dX11_areSeen_12 : decode cX11_areSeen 12 = .ok (.invokevirtual 208, 3) := by decide +kernel
theorem dX11_areSeen_15 : decode cX11_areSeen 15 = .ok (.ifCond .eq 16, 3) := by decide +kernel
theorem dX11_areSeen_18 : decode cX11_areSeen 18 = .ok (.aload_n 0, 1) := by decide +kernel
theorem dX11_areSeen_19 : decode cX11_areSeen 19 = .ok (.iconst 2, 1) := by decide +kernel
theorem dX11_areSeen_20 : decode cX11_areSeen 20 = .ok (.iload_n 3, 1) := by decide +kernel
theorem dX11_areSeen_21 : decode cX11_areSeen 21 = .ok (.invokevirtual 208, 3) := by decide +kernel
theorem dX11_areSeen_24 : decode cX11_areSeen 24 = .ok (.ifCond .eq 7, 3) := by decide +kernel
theorem dX11_areSeen_27 : decode cX11_areSeen 27 = .ok (.iconst 1, 1) := by decide +kernel
theorem dX11_areSeen_28 : decode cX11_areSeen 28 = .ok (.goto 4, 3) := by decide +kernel
theorem dX11_areSeen_31 : decode cX11_areSeen 31 = .ok (.iconst 0, 1) := by decide +kernel
theorem dX11_areSeen_32 : decode cX11_areSeen 32 = .ok (.ireturn, 1) := by decide +kernel
theorem dX11_ask_0 : decode cX11_ask 0 = .ok (.aload_n 0, 1) := by decide +kernel
theorem dX11_ask_1 : decode cX11_ask 1 = .ok (.iload_n 1, 1) := by decide +kernel
theorem dX11_ask_2 : decode cX11_ask 2 = .ok (.iload_n 2, 1) := by decide +kernel
theorem dX11_ask_3 : decode cX11_ask 3 = .ok (.iload_n 3, 1) := by decide +kernel
theorem dX11_ask_4 : decode cX11_ask 4 = .ok (.invokevirtual 311, 3) := by decide +kernel
theorem dX11_ask_7 : decode cX11_ask 7 = .ok (.ifCond .eq 16, 3) := by decide +kernel
theorem dX11_ask_10 : decode cX11_ask 10 = .ok (.aload_n 0, 1) := by decide +kernel
theorem dX11_ask_11 : decode cX11_ask 11 = .ok (.iload_n 1, 1) := by decide +kernel
theorem dX11_ask_12 : decode cX11_ask 12 = .ok (.iload_n 2, 1) := by decide +kernel
theorem dX11_ask_13 : decode cX11_ask 13 = .ok (.iload_n 3, 1) := by decide +kernel
theorem dX11_ask_14 : decode cX11_ask 14 = .ok (.iload 4, 2) := by decide +kernel
theorem dX11_ask_16 : decode cX11_ask 16 = .ok (.iconst 0, 1) := by decide +kernel
theorem dX11_ask_17 : decode cX11_ask 17 = .ok (.invokevirtual 275, 3) := by decide +kernel
theorem dX11_ask_20 : decode cX11_ask 20 = .ok (.goto 6, 3) := by decide +kernel
theorem dX11_ask_23 : decode cX11_ask 23 = .ok (.ldc2_w 262, 3) := by decide +kernel
theorem dX11_ask_26 : decode cX11_ask 26 = .ok (.lreturn, 1) := by decide +kernel
theorem dX11_cell_0 : decode cX11_cell 0 = .ok (.aload_n 0, 1) := by decide +kernel
theorem dX11_cell_1 : decode cX11_cell 1 = .ok (.aload_n 0, 1) := by decide +kernel
theorem dX11_cell_2 : decode cX11_cell 2 = .ok (.iload_n 1, 1) := by decide +kernel
theorem dX11_cell_3 : decode cX11_cell 3 = .ok (.iload_n 2, 1) := by decide +kernel
theorem dX11_cell_4 : decode cX11_cell 4 = .ok (.iload_n 3, 1) := by decide +kernel
theorem dX11_cell_5 : decode cX11_cell 5 = .ok (.iload 4, 2) := by decide +kernel
theorem dX11_cell_7 : decode cX11_cell 7 = .ok (.invokevirtual 233, 3) := by decide +kernel
theorem dX11_cell_10 : decode cX11_cell 10 = .ok (.ifCond .eq 7, 3) := by decide +kernel
theorem dX11_cell_13 : decode cX11_cell 13 = .ok (.iconst 0, 1) := by decide +kernel
theorem dX11_cell_14 : decode cX11_cell 14 = .ok (.goto 4, 3) := by decide +kernel
theorem dX11_cell_17 : decode cX11_cell 17 = .ok (.iconst 1, 1) := by decide +kernel
theorem dX11_cell_18 : decode cX11_cell 18 = .ok (.invokevirtual 185, 3) := by decide +kernel
theorem dX11_cell_21 : decode cX11_cell 21 = .ok (.ifCond .eq 7, 3) := by decide +kernel
theorem dX11_cell_24 : decode cX11_cell 24 = .ok (.ldc2_w 183, 3) := by decide +kernel
theorem dX11_cell_27 : decode cX11_cell 27 = .ok (.lreturn, 1) := by decide +kernel
theorem dX11_cell_28 : decode cX11_cell 28 = .ok (.aload_n 0, 1) := by decide +kernel
theorem dX11_cell_29 : decode cX11_cell 29 = .ok (.iload_n 1, 1) := by decide +kernel
theorem dX11_cell_30 : decode cX11_cell 30 = .ok (.iload_n 2, 1) := by decide +kernel
theorem dX11_cell_31 : decode cX11_cell 31 = .ok (.iload_n 3, 1) := by decide +kernel
theorem dX11_cell_32 : decode cX11_cell 32 = .ok (.invokevirtual 311, 3) := by decide +kernel
theorem dX11_cell_35 : decode cX11_cell 35 = .ok (.ifCond .ne 7, 3) := by decide +kernel
theorem dX11_cell_38 : decode cX11_cell 38 = .ok (.ldc2_w 262, 3) := by decide +kernel
theorem dX11_cell_41 : decode cX11_cell 41 = .ok (.lreturn, 1) := by decide +kernel
theorem dX11_cell_42 : decode cX11_cell 42 = .ok (.sipush 576, 3) := by decide +kernel
theorem dX11_cell_45 : decode cX11_cell 45 = .ok (.iload_n 1, 1) := by decide +kernel
theorem dX11_cell_46 : decode cX11_cell 46 = .ok (.imul, 1) := by decide +kernel
theorem dX11_cell_47 : decode cX11_cell 47 = .ok (.bipush 48, 2) := by decide +kernel
theorem dX11_cell_49 : decode cX11_cell 49 = .ok (.iload_n 2, 1) := by decide +kernel
theorem dX11_cell_50 : decode cX11_cell 50 = .ok (.imul, 1) := by decide +kernel
theorem dX11_cell_51 : decode cX11_cell 51 = .ok (.iadd, 1) := by decide +kernel
theorem dX11_cell_52 : decode cX11_cell 52 = .ok (.iconst 4, 1) := by decide +kernel
theorem dX11_cell_53 : decode cX11_cell 53 = .ok (.iload_n 3, 1) := by decide +kernel
theorem dX11_cell_54 : decode cX11_cell 54 = .ok (.imul, 1) := by decide +kernel
theorem dX11_cell_55 : decode cX11_cell 55 = .ok (.iadd, 1) := by decide +kernel
theorem dX11_cell_56 : decode cX11_cell 56 = .ok (.iload 4, 2) := by decide +kernel
theorem dX11_cell_58 : decode cX11_cell 58 = .ok (.iadd, 1) := by decide +kernel
theorem dX11_cell_59 : decode cX11_cell 59 = .ok (.istore 5, 2) := by decide +kernel
theorem dX11_cell_61 : decode cX11_cell 61 = .ok (.iconst 0, 1) := by decide +kernel
theorem dX11_cell_62 : decode cX11_cell 62 = .ok (.istore 6, 2) := by decide +kernel
theorem dX11_cell_64 : decode cX11_cell 64 = .ok (.iload 6, 2) := by decide +kernel
theorem dX11_cell_66 : decode cX11_cell 66 = .ok (.aload_n 0, 1) := by decide +kernel
theorem dX11_cell_67 : decode cX11_cell 67 = .ok (.getfield 163, 3) := by decide +kernel
theorem dX11_cell_70 : decode cX11_cell 70 = .ok (.if_icmp .ge 42, 3) := by decide +kernel
theorem dX11_cell_73 : decode cX11_cell 73 = .ok (.aload_n 0, 1) := by decide +kernel
theorem dX11_cell_74 : decode cX11_cell 74 = .ok (.getfield 116, 3) := by decide +kernel
theorem dX11_cell_77 : decode cX11_cell 77 = .ok (.iload 6, 2) := by decide +kernel
theorem dX11_cell_79 : decode cX11_cell 79 = .ok (.iaload, 1) := by decide +kernel
theorem dX11_cell_80 : decode cX11_cell 80 = .ok (.iload 5, 2) := by decide +kernel
theorem dX11_cell_82 : decode cX11_cell 82 = .ok (.if_icmp .ne 24, 3) := by decide +kernel
theorem dX11_cell_85 : decode cX11_cell 85 = .ok (.aload_n 0, 1) := by decide +kernel
theorem dX11_cell_86 : decode cX11_cell 86 = .ok (.dup, 1) := by decide +kernel
theorem dX11_cell_87 : decode cX11_cell 87 = .ok (.getfield 315, 3) := by decide +kernel
theorem dX11_cell_90 : decode cX11_cell 90 = .ok (.iconst 1, 1) := by decide +kernel
theorem dX11_cell_91 : decode cX11_cell 91 = .ok (.iadd, 1) := by decide +kernel
theorem dX11_cell_92 : decode cX11_cell 92 = .ok (.putfield 315, 3) := by decide +kernel
theorem dX11_cell_95 : decode cX11_cell 95 = .ok (.aload_n 0, 1) := by decide +kernel
theorem dX11_cell_96 : decode cX11_cell 96 = .ok (.iload_n 1, 1) := by decide +kernel
theorem dX11_cell_97 : decode cX11_cell 97 = .ok (.iload_n 2, 1) := by decide +kernel
theorem dX11_cell_98 : decode cX11_cell 98 = .ok (.iload_n 3, 1) := by decide +kernel
theorem dX11_cell_99 : decode cX11_cell 99 = .ok (.iload 4, 2) := by decide +kernel
theorem dX11_cell_101 : decode cX11_cell 101 = .ok (.iconst 0, 1) := by decide +kernel
theorem dX11_cell_102 : decode cX11_cell 102 = .ok (.invokevirtual 275, 3) := by decide +kernel
theorem dX11_cell_105 : decode cX11_cell 105 = .ok (.lreturn, 1) := by decide +kernel
theorem dX11_cell_106 : decode cX11_cell 106 = .ok (.iinc 6 1, 3) := by decide +kernel
theorem dX11_cell_109 : decode cX11_cell 109 = .ok (.goto (-45), 3) := by decide +kernel
theorem dX11_cell_112 : decode cX11_cell 112 = .ok (.aload_n 0, 1) := by decide +kernel
theorem dX11_cell_113 : decode cX11_cell 113 = .ok (.getfield 116, 3) := by decide +kernel
theorem dX11_cell_116 : decode cX11_cell 116 = .ok (.aload_n 0, 1) := by decide +kernel
theorem dX11_cell_117 : decode cX11_cell 117 = .ok (.getfield 163, 3) := by decide +kernel
theorem dX11_cell_120 : decode cX11_cell 120 = .ok (.iload 5, 2) := by decide +kernel
theorem dX11_cell_122 : decode cX11_cell 122 = .ok (.iastore, 1) := by decide +kernel
theorem dX11_cell_123 : decode cX11_cell 123 = .ok (.aload_n 0, 1) := by decide +kernel
theorem dX11_cell_124 : decode cX11_cell 124 = .ok (.dup, 1) := by decide +kernel
theorem dX11_cell_125 : decode cX11_cell 125 = .ok (.getfield 163, 3) := by decide +kernel
theorem dX11_cell_128 : decode cX11_cell 128 = .ok (.iconst 1, 1) := by decide +kernel
theorem dX11_cell_129 : decode cX11_cell 129 = .ok (.iadd, 1) := by decide +kernel
theorem dX11_cell_130 : decode cX11_cell 130 = .ok (.putfield 163, 3) := by decide +kernel
theorem dX11_cell_133 : decode cX11_cell 133 = .ok (.aload_n 0, 1) := by decide +kernel
theorem dX11_cell_134 : decode cX11_cell 134 = .ok (.getfield 163, 3) := by decide +kernel
theorem dX11_cell_137 : decode cX11_cell 137 = .ok (.bipush 20, 2) := by decide +kernel
theorem dX11_cell_139 : decode cX11_cell 139 = .ok (.if_icmp .le 8, 3) := by decide +kernel
theorem dX11_cell_142 : decode cX11_cell 142 = .ok (.aload_n 0, 1) := by decide +kernel
theorem dX11_cell_143 : decode cX11_cell 143 = .ok (.iconst 0, 1) := by decide +kernel
theorem dX11_cell_144 : decode cX11_cell 144 = .ok (.invokevirtual 318, 3) := by decide +kernel
theorem dX11_cell_147 : decode cX11_cell 147 = .ok (.aload_n 0, 1) := by decide +kernel
theorem dX11_cell_148 : decode cX11_cell 148 = .ok (.iload_n 1, 1) := by decide +kernel
theorem dX11_cell_149 : decode cX11_cell 149 = .ok (.iload_n 2, 1) := by decide +kernel
theorem dX11_cell_150 : decode cX11_cell 150 = .ok (.iload_n 3, 1) := by decide +kernel
theorem dX11_cell_151 : decode cX11_cell 151 = .ok (.iload 4, 2) := by decide +kernel
theorem dX11_cell_153 : decode cX11_cell 153 = .ok (.iconst 0, 1) := by decide +kernel
theorem dX11_cell_154 : decode cX11_cell 154 = .ok (.invokevirtual 275, 3) := by decide +kernel
theorem dX11_cell_157 : decode cX11_cell 157 = .ok (.lreturn, 1) := by decide +kernel
theorem dX11_remove_0 : decode cX11_remove 0 = .ok (.aload_n 0, 1) := by decide +kernel
theorem dX11_remove_1 : decode cX11_remove 1 = .ok (.dup, 1) := by decide +kernel
theorem dX11_remove_2 : decode cX11_remove 2 = .ok (.getfield 163, 3) := by decide +kernel
theorem dX11_remove_5 : decode cX11_remove 5 = .ok (.iconst 1, 1) := by decide +kernel
theorem dX11_remove_6 : decode cX11_remove 6 = .ok (.isub, 1) := by decide +kernel
theorem dX11_remove_7 : decode cX11_remove 7 = .ok (.putfield 163, 3) := by decide +kernel
theorem dX11_remove_10 : decode cX11_remove 10 = .ok (.iload_n 1, 1) := by decide +kernel
theorem dX11_remove_11 : decode cX11_remove 11 = .ok (.istore_n 2, 1) := by decide +kernel
theorem dX11_remove_12 : decode cX11_remove 12 = .ok (.iload_n 2, 1) := by decide +kernel
theorem dX11_remove_13 : decode cX11_remove 13 = .ok (.aload_n 0, 1) := by decide +kernel
theorem dX11_remove_14 : decode cX11_remove 14 = .ok (.getfield 163, 3) := by decide +kernel
theorem dX11_remove_17 : decode cX11_remove 17 = .ok (.if_icmp .ge 23, 3) := by decide +kernel
theorem dX11_remove_20 : decode cX11_remove 20 = .ok (.aload_n 0, 1) := by decide +kernel
theorem dX11_remove_21 : decode cX11_remove 21 = .ok (.getfield 116, 3) := by decide +kernel
theorem dX11_remove_24 : decode cX11_remove 24 = .ok (.iload_n 2, 1) := by decide +kernel
theorem dX11_remove_25 : decode cX11_remove 25 = .ok (.aload_n 0, 1) := by decide +kernel
theorem dX11_remove_26 : decode cX11_remove 26 = .ok (.getfield 116, 3) := by decide +kernel
theorem dX11_remove_29 : decode cX11_remove 29 = .ok (.iload_n 2, 1) := by decide +kernel
theorem dX11_remove_30 : decode cX11_remove 30 = .ok (.iconst 1, 1) := by decide +kernel
theorem dX11_remove_31 : decode cX11_remove 31 = .ok (.iadd, 1) := by decide +kernel
theorem dX11_remove_32 : decode cX11_remove 32 = .ok (.iaload, 1) := by decide +kernel
theorem dX11_remove_33 : decode cX11_remove 33 = .ok (.iastore, 1) := by decide +kernel
theorem dX11_remove_34 : decode cX11_remove 34 = .ok (.iinc 2 1, 3) := by decide +kernel
theorem dX11_remove_37 : decode cX11_remove 37 = .ok (.goto (-25), 3) := by decide +kernel
theorem dX11_remove_40 : decode cX11_remove 40 = .ok (.return_, 1) := by decide +kernel
theorem dX11_needs_0 : decode cX11_needs 0 = .ok (.iconst 1, 1) := by decide +kernel
theorem dX11_needs_1 : decode cX11_needs 1 = .ok (.iload_n 1, 1) := by decide +kernel
theorem dX11_needs_2 : decode cX11_needs 2 = .ok (.ishl, 1) := by decide +kernel
theorem dX11_needs_3 : decode cX11_needs 3 = .ok (.istore_n 3, 1) := by decide +kernel
theorem dX11_needs_4 : decode cX11_needs 4 = .ok (.iload_n 1, 1) := by decide +kernel
theorem dX11_needs_5 : decode cX11_needs 5 = .ok (.istore 4, 2) := by decide +kernel
theorem dX11_needs_7 : decode cX11_needs 7 = .ok (.iload 4, 2) := by decide +kernel
theorem dX11_needs_9 : decode cX11_needs 9 = .ok (.ifCond .lt 68, 3) := by decide +kernel
theorem dX11_needs_12 : decode cX11_needs 12 = .ok (.iload_n 3, 1) := by decide +kernel
theorem dX11_needs_13 : decode cX11_needs 13 = .ok (.iload 4, 2) := by decide +kernel
theorem dX11_needs_15 : decode cX11_needs 15 = .ok (.ishr, 1) := by decide +kernel
theorem dX11_needs_16 : decode cX11_needs 16 = .ok (.iconst 1, 1) := by decide +kernel
theorem dX11_needs_17 : decode cX11_needs 17 = .ok (.iand, 1) := by decide +kernel
theorem dX11_needs_18 : decode cX11_needs 18 = .ok (.iconst 1, 1) := by decide +kernel
theorem dX11_needs_19 : decode cX11_needs 19 = .ok (.if_icmp .ne 18, 3) := by decide +kernel
theorem dX11_needs_22 : decode cX11_needs 22 = .ok (.aload_n 0, 1) := by decide +kernel
theorem dX11_needs_23 : decode cX11_needs 23 = .ok (.getfield 60, 3) := by decide +kernel
theorem dX11_needs_26 : decode cX11_needs 26 = .ok (.iload 4, 2) := by decide +kernel
theorem dX11_needs_28 : decode cX11_needs 28 = .ok (.iaload, 1) := by decide +kernel
theorem dX11_needs_29 : decode cX11_needs 29 = .ok (.iconst 3, 1) := by decide +kernel
theorem dX11_needs_30 : decode cX11_needs 30 = .ok (.if_icmp .ne 7, 3) := by decide +kernel
theorem dX11_needs_33 : decode cX11_needs 33 = .ok (.iconst 1, 1) := by decide +kernel
theorem dX11_needs_34 : decode cX11_needs 34 = .ok (.goto 4, 3) := by decide +kernel
theorem dX11_needs_37 : decode cX11_needs 37 = .ok (.iconst 0, 1) := by decide +kernel
theorem dX11_needs_38 : decode cX11_needs 38 = .ok (.istore 5, 2) := by decide +kernel
theorem dX11_needs_40 : decode cX11_needs 40 = .ok (.iload_n 3, 1) := by decide +kernel
theorem dX11_needs_41 : decode cX11_needs 41 = .ok (.iload 5, 2) := by decide +kernel
theorem dX11_needs_43 : decode cX11_needs 43 = .ok (.ifCond .eq 25, 3) := by decide +kernel
theorem dX11_needs_46 : decode cX11_needs 46 = .ok (.iconst 1, 1) := by decide +kernel
theorem dX11_needs_47 : decode cX11_needs 47 = .ok (.aload_n 0, 1) := by decide +kernel
theorem dX11_needs_48 : decode cX11_needs 48 = .ok (.getfield 63, 3) := by decide +kernel
theorem dX11_needs_51 : decode cX11_needs 51 = .ok (.iload 4, 2) := by decide +kernel
theorem dX11_needs_53 : decode cX11_needs 53 = .ok (.iaload, 1) := by decide +kernel
theorem dX11_needs_54 : decode cX11_needs 54 = .ok (.ishl, 1) := by decide +kernel
theorem dX11_needs_55 : decode cX11_needs 55 = .ok (.iconst 1, 1) := by decide +kernel
theorem dX11_needs_56 : decode cX11_needs 56 = .ok (.aload_n 0, 1) := by decide +kernel
theorem dX11_needs_57 : decode cX11_needs 57 = .ok (.getfield 66, 3) := by decide +kernel
theorem dX11_needs_60 : decode cX11_needs 60 = .ok (.iload 4, 2) := by decide +kernel
theorem dX11_needs_62 : decode cX11_needs 62 = .ok (.iaload, 1) := by decide +kernel
theorem dX11_needs_63 : decode cX11_needs 63 = .ok (.ishl, 1) := by decide +kernel
theorem dX11_needs_64 : decode cX11_needs 64 = .ok (.ior, 1) := by decide +kernel
theorem dX11_needs_65 : decode cX11_needs 65 = .ok (.goto 4, 3) := by decide +kernel
theorem dX11_needs_68 : decode cX11_needs 68 = .ok (.iconst 0, 1) := by decide +kernel
theorem dX11_needs_69 : decode cX11_needs 69 = .ok (.ior, 1) := by decide +kernel
theorem dX11_needs_70 : decode cX11_needs 70 = .ok (.istore_n 3, 1) := by decide +kernel
theorem dX11_needs_71 : decode cX11_needs 71 = .ok (.iinc 4 (-1), 3) := by decide +kernel
theorem dX11_needs_74 : decode cX11_needs 74 = .ok (.goto (-67), 3) := by decide +kernel
theorem dX11_needs_77 : decode cX11_needs 77 = .ok (.iload_n 3, 1) := by decide +kernel
theorem dX11_needs_78 : decode cX11_needs 78 = .ok (.iload_n 2, 1) := by decide +kernel
theorem dX11_needs_79 : decode cX11_needs 79 = .ok (.ishr, 1) := by decide +kernel
theorem dX11_needs_80 : decode cX11_needs 80 = .ok (.iconst 1, 1) := by decide +kernel
theorem dX11_needs_81 : decode cX11_needs 81 = .ok (.iand, 1) := by decide +kernel
theorem dX11_needs_82 : decode cX11_needs 82 = .ok (.iconst 1, 1) := by decide +kernel
theorem dX11_needs_83 : decode cX11_needs 83 = .ok (.if_icmp .ne 7, 3) := by decide +kernel
theorem dX11_needs_86 : decode cX11_needs 86 = .ok (.iconst 1, 1) := by decide +kernel
theorem dX11_needs_87 : decode cX11_needs 87 = .ok (.goto 4, 3) := by decide +kernel
theorem dX11_needs_90 : decode cX11_needs 90 = .ok (.iconst 0, 1) := by decide +kernel
theorem dX11_needs_91 : decode cX11_needs 91 = .ok (.ireturn, 1) := by decide +kernel
theorem dX11_drop_0 : decode cX11_drop 0 = .ok (.aload_n 0, 1) := by decide +kernel
theorem dX11_drop_1 : decode cX11_drop 1 = .ok (.dup, 1) := by decide +kernel
theorem dX11_drop_2 : decode cX11_drop 2 = .ok (.getfield 113, 3) := by decide +kernel
theorem dX11_drop_5 : decode cX11_drop 5 = .ok (.iconst 1, 1) := by decide +kernel
theorem dX11_drop_6 : decode cX11_drop 6 = .ok (.iadd, 1) := by decide +kernel
theorem dX11_drop_7 : decode cX11_drop 7 = .ok (.putfield 113, 3) := by decide +kernel
theorem dX11_drop_10 : decode cX11_drop 10 = .ok (.aload_n 0, 1) := by decide +kernel
theorem dX11_drop_11 : decode cX11_drop 11 = .ok (.getfield 163, 3) := by decide +kernel
theorem dX11_drop_14 : decode cX11_drop 14 = .ok (.iconst 1, 1) := by decide +kernel
theorem dX11_drop_15 : decode cX11_drop 15 = .ok (.isub, 1) := by decide +kernel
theorem dX11_drop_16 : decode cX11_drop 16 = .ok (.istore_n 2, 1) := by decide +kernel
theorem dX11_drop_17 : decode cX11_drop 17 = .ok (.iload_n 2, 1) := by decide +kernel
theorem dX11_drop_18 : decode cX11_drop 18 = .ok (.ifCond .lt 136, 3) := by decide +kernel
theorem dX11_drop_21 : decode cX11_drop 21 = .ok (.aload_n 0, 1) := by decide +kernel
theorem dX11_drop_22 : decode cX11_drop 22 = .ok (.getfield 116, 3) := by decide +kernel
theorem dX11_drop_25 : decode cX11_drop 25 = .ok (.iload_n 2, 1) := by decide +kernel
theorem dX11_drop_26 : decode cX11_drop 26 = .ok (.iaload, 1) := by decide +kernel
theorem dX11_drop_27 : decode cX11_drop 27 = .ok (.sipush 576, 3) := by decide +kernel
theorem dX11_drop_30 : decode cX11_drop 30 = .ok (.idiv, 1) := by decide +kernel
theorem dX11_drop_31 : decode cX11_drop 31 = .ok (.istore_n 3, 1) := by decide +kernel
theorem dX11_drop_32 : decode cX11_drop 32 = .ok (.aload_n 0, 1) := by decide +kernel
theorem dX11_drop_33 : decode cX11_drop 33 = .ok (.getfield 116, 3) := by decide +kernel
theorem dX11_drop_36 : decode cX11_drop 36 = .ok (.iload_n 2, 1) := by decide +kernel
theorem dX11_drop_37 : decode cX11_drop 37 = .ok (.iaload, 1) := by decide +kernel
theorem dX11_drop_38 : decode cX11_drop 38 = .ok (.bipush 48, 2) := by decide +kernel
theorem dX11_drop_40 : decode cX11_drop 40 = .ok (.idiv, 1) := by decide +kernel
theorem dX11_drop_41 : decode cX11_drop 41 = .ok (.bipush 12, 2) := by decide +kernel
theorem dX11_drop_43 : decode cX11_drop 43 = .ok (.irem, 1) := by decide +kernel
theorem dX11_drop_44 : decode cX11_drop 44 = .ok (.istore 4, 2) := by decide +kernel
theorem dX11_drop_46 : decode cX11_drop 46 = .ok (.aload_n 0, 1) := by decide +kernel
theorem dX11_drop_47 : decode cX11_drop 47 = .ok (.getfield 116, 3) := by decide +kernel
theorem dX11_drop_50 : decode cX11_drop 50 = .ok (.iload_n 2, 1) := by decide +kernel
theorem dX11_drop_51 : decode cX11_drop 51 = .ok (.iaload, 1) := by decide +kernel
theorem dX11_drop_52 : decode cX11_drop 52 = .ok (.iconst 4, 1) := by decide +kernel
theorem dX11_drop_53 : decode cX11_drop 53 = .ok (.idiv, 1) := by decide +kernel
theorem dX11_drop_54 : decode cX11_drop 54 = .ok (.bipush 12, 2) := by decide +kernel
theorem dX11_drop_56 : decode cX11_drop 56 = .ok (.irem, 1) := by decide +kernel
theorem dX11_drop_57 : decode cX11_drop 57 = .ok (.istore 5, 2) := by decide +kernel
theorem dX11_drop_59 : decode cX11_drop 59 = .ok (.aload_n 0, 1) := by decide +kernel
theorem dX11_drop_60 : decode cX11_drop 60 = .ok (.getfield 15, 3) := by decide +kernel
theorem dX11_drop_63 : decode cX11_drop 63 = .ok (.iload_n 3, 1) := by decide +kernel
theorem dX11_drop_64 : decode cX11_drop 64 = .ok (.iaload, 1) := by decide +kernel
theorem dX11_drop_65 : decode cX11_drop 65 = .ok (.iconst 2, 1) := by decide +kernel
theorem dX11_drop_66 : decode cX11_drop 66 = .ok (.if_icmp .eq 31, 3) := by decide +kernel
theorem dX11_drop_69 : decode cX11_drop 69 = .ok (.aload_n 0, 1) := by decide +kernel
theorem dX11_drop_70 : decode cX11_drop 70 = .ok (.getfield 15, 3) := by decide +kernel
theorem dX11_drop_73 : decode cX11_drop 73 = .ok (.bipush 12, 2) := by decide +kernel
theorem dX11_drop_75 : decode cX11_drop 75 = .ok (.iload 4, 2) := by decide +kernel
theorem dX11_drop_77 : decode cX11_drop 77 = .ok (.iadd, 1) := by decide +kernel
theorem dX11_drop_78 : decode cX11_drop 78 = .ok (.iaload, 1) := by decide +kernel
theorem dX11_drop_79 : decode cX11_drop 79 = .ok (.iconst 2, 1) := by decide +kernel
theorem dX11_drop_80 : decode cX11_drop 80 = .ok (.if_icmp .eq 17, 3) := by decide +kernel
theorem dX11_drop_83 : decode cX11_drop 83 = .ok (.aload_n 0, 1) := by decide +kernel
theorem dX11_drop_84 : decode cX11_drop 84 = .ok (.getfield 15, 3) := by decide +kernel
theorem dX11_drop_87 : decode cX11_drop 87 = .ok (.bipush 24, 2) := by decide +kernel
theorem dX11_drop_89 : decode cX11_drop 89 = .ok (.iload 5, 2) := by decide +kernel
theorem dX11_drop_91 : decode cX11_drop 91 = .ok (.iadd, 1) := by decide +kernel
theorem dX11_drop_92 : decode cX11_drop 92 = .ok (.iaload, 1) := by decide +kernel
theorem dX11_drop_93 : decode cX11_drop 93 = .ok (.iconst 2, 1) := by decide +kernel
theorem dX11_drop_94 : decode cX11_drop 94 = .ok (.if_icmp .ne 7, 3) := by decide +kernel
theorem dX11_drop_97 : decode cX11_drop 97 = .ok (.iconst 1, 1) := by decide +kernel
theorem dX11_drop_98 : decode cX11_drop 98 = .ok (.goto 4, 3) := by decide +kernel
theorem dX11_drop_101 : decode cX11_drop 101 = .ok (.iconst 0, 1) := by decide +kernel
theorem dX11_drop_102 : decode cX11_drop 102 = .ok (.istore 6, 2) := by decide +kernel
theorem dX11_drop_104 : decode cX11_drop 104 = .ok (.iload 6, 2) := by decide +kernel
theorem dX11_drop_106 : decode cX11_drop 106 = .ok (.ifCond .ne 37, 3) := by decide +kernel
theorem dX11_drop_109 : decode cX11_drop 109 = .ok (.aload_n 0, 1) := by decide +kernel
theorem dX11_drop_110 : decode cX11_drop 110 = .ok (.aload_n 0, 1) := by decide +kernel
theorem dX11_drop_111 : decode cX11_drop 111 = .ok (.getfield 116, 3) := by decide +kernel
theorem dX11_drop_114 : decode cX11_drop 114 = .ok (.iload_n 2, 1) := by decide +kernel
theorem dX11_drop_115 : decode cX11_drop 115 = .ok (.iaload, 1) := by decide +kernel
theorem dX11_drop_116 : decode cX11_drop 116 = .ok (.iconst 4, 1) := by decide +kernel
theorem dX11_drop_117 : decode cX11_drop 117 = .ok (.irem, 1) := by decide +kernel
theorem dX11_drop_118 : decode cX11_drop 118 = .ok (.aload_n 0, 1) := by decide +kernel
theorem dX11_drop_119 : decode cX11_drop 119 = .ok (.getfield 81, 3) := by decide +kernel
theorem dX11_drop_122 : decode cX11_drop 122 = .ok (.iload_n 1, 1) := by decide +kernel
theorem dX11_drop_123 : decode cX11_drop 123 = .ok (.iaload, 1) := by decide +kernel
theorem dX11_drop_124 : decode cX11_drop 124 = .ok (.invokevirtual 321, 3) := by decide +kernel
theorem dX11_drop_127 : decode cX11_drop 127 = .ok (.ifCond .eq 21, 3) := by decide +kernel
theorem dX11_drop_130 : decode cX11_drop 130 = .ok (.aload_n 0, 1) := by decide +kernel
theorem dX11_drop_131 : decode cX11_drop 131 = .ok (.iload_n 1, 1) := by decide +kernel
theorem dX11_drop_132 : decode cX11_drop 132 = .ok (.iload_n 3, 1) := by decide +kernel
theorem dX11_drop_133 : decode cX11_drop 133 = .ok (.iload 4, 2) := by decide +kernel
theorem dX11_drop_135 : decode cX11_drop 135 = .ok (.iload 5, 2) := by decide +kernel
theorem dX11_drop_137 : decode cX11_drop 137 = .ok (.invokevirtual 259, 3) := by decide +kernel
theorem dX11_drop_140 : decode cX11_drop 140 = .ok (.ifCond .eq 8, 3) := by decide +kernel
theorem dX11_drop_143 : decode cX11_drop 143 = .ok (.aload_n 0, 1) := by decide +kernel
theorem dX11_drop_144 : decode cX11_drop 144 = .ok (.iload_n 2, 1) := by decide +kernel
theorem dX11_drop_145 : decode cX11_drop 145 = .ok (.invokevirtual 318, 3) := by decide +kernel
theorem dX11_drop_148 : decode cX11_drop 148 = .ok (.iinc 2 (-1), 3) := by decide +kernel
theorem dX11_drop_151 : decode cX11_drop 151 = .ok (.goto (-134), 3) := by decide +kernel
theorem dX11_drop_154 : decode cX11_drop 154 = .ok (.return_, 1) := by decide +kernel
theorem dX11_cellAnew_0 : decode cX11_cellAnew 0 = .ok (.aload_n 0, 1) := by decide +kernel
theorem dX11_cellAnew_1 : decode cX11_cellAnew 1 = .ok (.aload_n 0, 1) := by decide +kernel
theorem dX11_cellAnew_2 : decode cX11_cellAnew 2 = .ok (.iload_n 1, 1) := by decide +kernel
theorem dX11_cellAnew_3 : decode cX11_cellAnew 3 = .ok (.iload_n 2, 1) := by decide +kernel
theorem dX11_cellAnew_4 : decode cX11_cellAnew 4 = .ok (.iload_n 3, 1) := by decide +kernel
theorem dX11_cellAnew_5 : decode cX11_cellAnew 5 = .ok (.iload 4, 2) := by decide +kernel
theorem dX11_cellAnew_7 : decode cX11_cellAnew 7 = .ok (.invokevirtual 233, 3) := by decide +kernel
theorem dX11_cellAnew_10 : decode cX11_cellAnew 10 = .ok (.ifCond .eq 7, 3) := by decide +kernel
theorem dX11_cellAnew_13 : decode cX11_cellAnew 13 = .ok (.iconst 0, 1) := by decide +kernel
theorem dX11_cellAnew_14 : decode cX11_cellAnew 14 = .ok (.goto 4, 3) := by decide +kernel
theorem dX11_cellAnew_17 : decode cX11_cellAnew 17 = .ok (.iconst 1, 1) := by decide +kernel
theorem dX11_cellAnew_18 : decode cX11_cellAnew 18 = .ok (.invokevirtual 185, 3) := by decide +kernel
theorem dX11_cellAnew_21 : decode cX11_cellAnew 21 = .ok (.ifCond .eq 9, 3) := by decide +kernel
theorem dX11_cellAnew_24 : decode cX11_cellAnew 24 = .ok (.ldc2_w 183, 3) := by decide +kernel
theorem dX11_cellAnew_27 : decode cX11_cellAnew 27 = .ok (.goto 12, 3) := by decide +kernel
theorem dX11_cellAnew_30 : decode cX11_cellAnew 30 = .ok (.aload_n 0, 1) := by decide +kernel
theorem dX11_cellAnew_31 : decode cX11_cellAnew 31 = .ok (.iload_n 1, 1) := by decide +kernel
theorem dX11_cellAnew_32 : decode cX11_cellAnew 32 = .ok (.iload_n 2, 1) := by decide +kernel
theorem dX11_cellAnew_33 : decode cX11_cellAnew 33 = .ok (.iload_n 3, 1) := by decide +kernel
theorem dX11_cellAnew_34 : decode cX11_cellAnew 34 = .ok (.iload 4, 2) := by decide +kernel
theorem dX11_cellAnew_36 : decode cX11_cellAnew 36 = .ok (.invokevirtual 324, 3) := by decide +kernel
theorem dX11_cellAnew_39 : decode cX11_cellAnew 39 = .ok (.lreturn, 1) := by decide +kernel
theorem dX11_kept_0 : decode cX11_kept 0 = .ok (.aload_n 0, 1) := by decide +kernel
theorem dX11_kept_1 : decode cX11_kept 1 = .ok (.iconst 0, 1) := by decide +kernel
theorem dX11_kept_2 : decode cX11_kept 2 = .ok (.invokevirtual 185, 3) := by decide +kernel
theorem dX11_kept_5 : decode cX11_kept 5 = .ok (.pop, 1) := by decide +kernel
theorem dX11_kept_6 : decode cX11_kept 6 = .ok (.aload_n 0, 1) := by decide +kernel
theorem dX11_kept_7 : decode cX11_kept 7 = .ok (.getfield 163, 3) := by decide +kernel
theorem dX11_kept_10 : decode cX11_kept 10 = .ok (.ireturn, 1) := by decide +kernel
theorem dX11_hits_0 : decode cX11_hits 0 = .ok (.aload_n 0, 1) := by decide +kernel
theorem dX11_hits_1 : decode cX11_hits 1 = .ok (.iconst 0, 1) := by decide +kernel
theorem dX11_hits_2 : decode cX11_hits 2 = .ok (.invokevirtual 185, 3) := by decide +kernel
theorem dX11_hits_5 : decode cX11_hits 5 = .ok (.pop, 1) := by decide +kernel
theorem dX11_hits_6 : decode cX11_hits 6 = .ok (.aload_n 0, 1) := by decide +kernel
theorem dX11_hits_7 : decode cX11_hits 7 = .ok (.getfield 315, 3) := by decide +kernel
theorem dX11_hits_10 : decode cX11_hits 10 = .ok (.ireturn, 1) := by decide +kernel
theorem dX11_at_0 : decode cX11_at 0 = .ok (.aload_n 0, 1) := by decide +kernel
theorem dX11_at_1 : decode cX11_at 1 = .ok (.aload_n 0, 1) := by decide +kernel
theorem dX11_at_2 : decode cX11_at 2 = .ok (.iload_n 1, 1) := by decide +kernel
theorem dX11_at_3 : decode cX11_at 3 = .ok (.iload_n 2, 1) := by decide +kernel
theorem dX11_at_4 : decode cX11_at 4 = .ok (.invokevirtual 156, 3) := by decide +kernel
theorem dX11_at_7 : decode cX11_at 7 = .ok (.ifCond .eq 7, 3) := by decide +kernel
theorem dX11_at_10 : decode cX11_at 10 = .ok (.iconst 0, 1) := by decide +kernel
theorem dX11_at_11 : decode cX11_at 11 = .ok (.goto 4, 3) := by decide +kernel
theorem dX11_at_14 : decode cX11_at 14 = .ok (.iconst 1, 1) := by decide +kernel
theorem dX11_at_15 : decode cX11_at 15 = .ok (.invokevirtual 185, 3) := by decide +kernel
theorem dX11_at_18 : decode cX11_at 18 = .ok (.ifCond .eq 5, 3) := by decide +kernel
theorem dX11_at_21 : decode cX11_at 21 = .ok (.iconst (-1), 1) := by decide +kernel
theorem dX11_at_22 : decode cX11_at 22 = .ok (.ireturn, 1) := by decide +kernel
theorem dX11_at_23 : decode cX11_at 23 = .ok (.aload_n 0, 1) := by decide +kernel
theorem dX11_at_24 : decode cX11_at 24 = .ok (.getfield 119, 3) := by decide +kernel
theorem dX11_at_27 : decode cX11_at 27 = .ok (.iload_n 1, 1) := by decide +kernel
theorem dX11_at_28 : decode cX11_at 28 = .ok (.iaload, 1) := by decide +kernel
theorem dX11_at_29 : decode cX11_at 29 = .ok (.istore_n 3, 1) := by decide +kernel
theorem dX11_at_30 : decode cX11_at 30 = .ok (.aload_n 0, 1) := by decide +kernel
theorem dX11_at_31 : decode cX11_at 31 = .ok (.getfield 119, 3) := by decide +kernel
theorem dX11_at_34 : decode cX11_at 34 = .ok (.iload_n 1, 1) := by decide +kernel
theorem dX11_at_35 : decode cX11_at 35 = .ok (.iload_n 2, 1) := by decide +kernel
theorem dX11_at_36 : decode cX11_at 36 = .ok (.iastore, 1) := by decide +kernel
theorem dX11_at_37 : decode cX11_at 37 = .ok (.iload_n 3, 1) := by decide +kernel
theorem dX11_at_38 : decode cX11_at 38 = .ok (.ireturn, 1) := by decide +kernel
theorem dX11_fits_0 : decode cX11_fits 0 = .ok (.aload_n 0, 1) := by decide +kernel
theorem dX11_fits_1 : decode cX11_fits 1 = .ok (.iload_n 1, 1) := by decide +kernel
theorem dX11_fits_2 : decode cX11_fits 2 = .ok (.iload_n 3, 1) := by decide +kernel
theorem dX11_fits_3 : decode cX11_fits 3 = .ok (.invokevirtual 180, 3) := by decide +kernel
theorem dX11_fits_6 : decode cX11_fits 6 = .ok (.ifCond .eq 12, 3) := by decide +kernel
theorem dX11_fits_9 : decode cX11_fits 9 = .ok (.aload_n 0, 1) := by decide +kernel
theorem dX11_fits_10 : decode cX11_fits 10 = .ok (.iload_n 1, 1) := by decide +kernel
theorem dX11_fits_11 : decode cX11_fits 11 = .ok (.iload_n 3, 1) := by decide +kernel
theorem dX11_fits_12 : decode cX11_fits 12 = .ok (.invokevirtual 208, 3) := by decide +kernel
theorem dX11_fits_15 : decode cX11_fits 15 = .ok (.ifCond .ne 5, 3) := by decide +kernel
theorem dX11_fits_18 : decode cX11_fits 18 = .ok (.iconst 0, 1) := by decide +kernel
theorem dX11_fits_19 : decode cX11_fits 19 = .ok (.ireturn, 1) := by decide +kernel
theorem dX11_fits_20 : decode cX11_fits 20 = .ok (.iload_n 2, 1) := by decide +kernel
theorem dX11_fits_21 : decode cX11_fits 21 = .ok (.ifCond .ne 24, 3) := by decide +kernel
theorem dX11_fits_24 : decode cX11_fits 24 = .ok (.iload_n 3, 1) := by decide +kernel
theorem dX11_fits_25 : decode cX11_fits 25 = .ok (.ifCond .le 18, 3) := by decide +kernel
theorem dX11_fits_28 : decode cX11_fits 28 = .ok (.aload_n 0, 1) := by decide +kernel
theorem dX11_fits_29 : decode cX11_fits 29 = .ok (.iload_n 1, 1) := by decide +kernel
theorem dX11_fits_30 : decode cX11_fits 30 = .ok (.iload_n 3, 1) := by decide +kernel
theorem dX11_fits_31 : decode cX11_fits 31 = .ok (.invokevirtual 173, 3) := by decide +kernel
theorem dX11_fits_34 : decode cX11_fits 34 = .ok (.iload 4, 2) := by decide +kernel
theorem dX11_fits_36 : decode cX11_fits 36 = .ok (.if_icmp .ne 7, 3) := by decide +kernel
theorem dX11_fits_39 : decode cX11_fits 39 = .ok (.iconst 1, 1) := by decide +kernel
theorem dX11_fits_40 : decode cX11_fits 40 = .ok (.goto 4, 3) := by decide +kernel
theorem dX11_fits_43 : decode cX11_fits 43 = .ok (.iconst 0, 1) := by decide +kernel
theorem dX11_fits_44 : decode cX11_fits 44 = .ok (.ireturn, 1) := by decide +kernel
theorem dX11_fits_45 : decode cX11_fits 45 = .ok (.iload_n 2, 1) := by decide +kernel
theorem dX11_fits_46 : decode cX11_fits 46 = .ok (.iconst 2, 1) := by decide +kernel
theorem dX11_fits_47 : decode cX11_fits 47 = .ok (.if_icmp .ne 20, 3) := by decide +kernel
theorem dX11_fits_50 : decode cX11_fits 50 = .ok (.aload_n 0, 1) := by decide +kernel
theorem dX11_fits_51 : decode cX11_fits 51 = .ok (.iload_n 1, 1) := by decide +kernel
theorem dX11_fits_52 : decode cX11_fits 52 = .ok (.iload_n 3, 1) := by decide +kernel
theorem dX11_fits_53 : decode cX11_fits 53 = .ok (.invokevirtual 205, 3) := by decide +kernel
theorem dX11_fits_56 : decode cX11_fits 56 = .ok (.iload 4, 2) := by decide +kernel
theorem dX11_fits_58 : decode cX11_fits 58 = .ok (.if_icmp .ne 7, 3) := by decide +kernel
theorem dX11_fits_61 : decode cX11_fits 61 = .ok (.iconst 1, 1) := by decide +kernel
theorem dX11_fits_62 : decode cX11_fits 62 = .ok (.goto 4, 3) := by decide +kernel
theorem dX11_fits_65 : decode cX11_fits 65 = .ok (.iconst 0, 1) := by decide +kernel
theorem dX11_fits_66 : decode cX11_fits 66 = .ok (.ireturn, 1) := by decide +kernel
theorem dX11_fits_67 : decode cX11_fits 67 = .ok (.iconst 1, 1) := by decide +kernel
theorem dX11_fits_68 : decode cX11_fits 68 = .ok (.istore 5, 2) := by decide +kernel
theorem dX11_fits_70 : decode cX11_fits 70 = .ok (.iconst 1, 1) := by decide +kernel
theorem dX11_fits_71 : decode cX11_fits 71 = .ok (.istore 6, 2) := by decide +kernel
theorem dX11_fits_73 : decode cX11_fits 73 = .ok (.iload 6, 2) := by decide +kernel
theorem dX11_fits_75 : decode cX11_fits 75 = .ok (.aload_n 0, 1) := by decide +kernel
theorem dX11_fits_76 : decode cX11_fits 76 = .ok (.getfield 9, 3) := by decide +kernel
theorem dX11_fits_79 : decode cX11_fits 79 = .ok (.iload_n 1, 1) := by decide +kernel
theorem dX11_fits_80 : decode cX11_fits 80 = .ok (.iaload, 1) := by decide +kernel
theorem dX11_fits_81 : decode cX11_fits 81 = .ok (.if_icmp .ge 40, 3) := by decide +kernel
theorem dX11_fits_84 : decode cX11_fits 84 = .ok (.iload 5, 2) := by decide +kernel
theorem dX11_fits_86 : decode cX11_fits 86 = .ok (.aload_n 0, 1) := by decide +kernel
theorem dX11_fits_87 : decode cX11_fits 87 = .ok (.iload_n 1, 1) := by decide +kernel
theorem dX11_fits_88 : decode cX11_fits 88 = .ok (.iload 6, 2) := by decide +kernel
theorem dX11_fits_90 : decode cX11_fits 90 = .ok (.invokevirtual 180, 3) := by decide +kernel
theorem dX11_fits_93 : decode cX11_fits 93 = .ok (.ifCond .eq 14, 3) := by decide +kernel
theorem dX11_fits_96 : decode cX11_fits 96 = .ok (.aload_n 0, 1) := by decide +kernel
theorem dX11_fits_97 : decode cX11_fits 97 = .ok (.iload_n 1, 1) := by decide +kernel
theorem dX11_fits_98 : decode cX11_fits 98 = .ok (.iload 6, 2) := by decide +kernel
theorem dX11_fits_100 : decode cX11_fits 100 = .ok (.invokevirtual 173, 3) := by decide +kernel
theorem dX11_fits_103 : decode cX11_fits 103 = .ok (.iload_n 3, 1) := by decide +kernel
theorem dX11_fits_104 : decode cX11_fits 104 = .ok (.if_icmp .eq 7, 3) := by decide +kernel
theorem dX11_fits_107 : decode cX11_fits 107 = .ok (.iconst 1, 1) := by decide +kernel
theorem dX11_fits_108 : decode cX11_fits 108 = .ok (.goto 4, 3) := by decide +kernel
theorem dX11_fits_111 : decode cX11_fits 111 = .ok (.iconst 0, 1) := by decide +kernel
theorem dX11_fits_112 : decode cX11_fits 112 = .ok (.iand, 1) := by decide +kernel
theorem dX11_fits_113 : decode cX11_fits 113 = .ok (.istore 5, 2) := by decide +kernel
theorem dX11_fits_115 : decode cX11_fits 115 = .ok (.iinc 6 1, 3) := by decide +kernel
theorem dX11_fits_118 : decode cX11_fits 118 = .ok (.goto (-45), 3) := by decide +kernel
theorem dX11_fits_121 : decode cX11_fits 121 = .ok (.iload 5, 2) := by decide +kernel
theorem dX11_fits_123 : decode cX11_fits 123 = .ok (.ifCond .eq 21, 3) := by decide +kernel
theorem dX11_fits_126 : decode cX11_fits 126 = .ok (.aload_n 0, 1) := by decide +kernel
theorem dX11_fits_127 : decode cX11_fits 127 = .ok (.iload_n 1, 1) := by decide +kernel
theorem dX11_fits_128 : decode cX11_fits 128 = .ok (.iload_n 3, 1) := by decide +kernel
theorem dX11_fits_129 : decode cX11_fits 129 = .ok (.iload 4, 2) := by decide +kernel
theorem dX11_fits_131 : decode cX11_fits 131 = .ok (.bipush 99, 2) := by decide +kernel
theorem dX11_fits_133 : decode cX11_fits 133 = .ok (.invokevirtual 253, 3) := by decide +kernel
theorem dX11_fits_136 : decode cX11_fits 136 = .ok (.iconst 2, 1) := by decide +kernel
theorem dX11_fits_137 : decode cX11_fits 137 = .ok (.if_icmp .eq 7, 3) := by decide +kernel
theorem dX11_fits_140 : decode cX11_fits 140 = .ok (.iconst 1, 1) := by decide +kernel
theorem dX11_fits_141 : decode cX11_fits 141 = .ok (.goto 4, 3) := by decide +kernel
theorem dX11_fits_144 : decode cX11_fits 144 = .ok (.iconst 0, 1) := by decide +kernel
theorem dX11_fits_145 : decode cX11_fits 145 = .ok (.ireturn, 1) := by decide +kernel
theorem dX11_with_0 : decode cX11_with 0 = .ok (.aload_n 0, 1) := by decide +kernel
theorem dX11_with_1 : decode cX11_with 1 = .ok (.iload_n 1, 1) := by decide +kernel
theorem dX11_with_2 : decode cX11_with 2 = .ok (.ifCond .ne 7, 3) := by decide +kernel
theorem dX11_with_5 : decode cX11_with 5 = .ok (.iload_n 2, 1) := by decide +kernel
theorem dX11_with_6 : decode cX11_with 6 = .ok (.goto 9, 3) := by decide +kernel
theorem dX11_with_9 : decode cX11_with 9 = .ok (.aload_n 0, 1) := by decide +kernel
theorem dX11_with_10 : decode cX11_with 10 = .ok (.getfield 119, 3) := by decide +kernel
theorem dX11_with_13 : decode cX11_with 13 = .ok (.iconst 0, 1) := by decide +kernel
theorem dX11_with_14 : decode cX11_with 14 = .ok (.iaload, 1) := by decide +kernel
theorem dX11_with_15 : decode cX11_with 15 = .ok (.iload_n 1, 1) := by decide +kernel
theorem dX11_with_16 : decode cX11_with 16 = .ok (.iconst 1, 1) := by decide +kernel
theorem dX11_with_17 : decode cX11_with 17 = .ok (.if_icmp .ne 7, 3) := by decide +kernel
theorem dX11_with_20 : decode cX11_with 20 = .ok (.iload_n 2, 1) := by decide +kernel
theorem dX11_with_21 : decode cX11_with 21 = .ok (.goto 9, 3) := by decide +kernel
theorem dX11_with_24 : decode cX11_with 24 = .ok (.aload_n 0, 1) := by decide +kernel
theorem dX11_with_25 : decode cX11_with 25 = .ok (.getfield 119, 3) := by decide +kernel
theorem dX11_with_28 : decode cX11_with 28 = .ok (.iconst 1, 1) := by decide +kernel
theorem dX11_with_29 : decode cX11_with 29 = .ok (.iaload, 1) := by decide +kernel
theorem dX11_with_30 : decode cX11_with 30 = .ok (.iload_n 1, 1) := by decide +kernel
theorem dX11_with_31 : decode cX11_with 31 = .ok (.iconst 2, 1) := by decide +kernel
theorem dX11_with_32 : decode cX11_with 32 = .ok (.if_icmp .ne 7, 3) := by decide +kernel
theorem dX11_with_35 : decode cX11_with 35 = .ok (.iload_n 2, 1) := by decide +kernel
theorem dX11_with_36 : decode cX11_with 36 = .ok (.goto 9, 3) := by decide +kernel
theorem dX11_with_39 : decode cX11_with 39 = .ok (.aload_n 0, 1) := by decide +kernel
theorem dX11_with_40 : decode cX11_with 40 = .ok (.getfield 119, 3) := by decide +kernel
theorem dX11_with_43 : decode cX11_with 43 = .ok (.iconst 2, 1) := by decide +kernel
theorem dX11_with_44 : decode cX11_with 44 = .ok (.iaload, 1) := by decide +kernel
theorem dX11_with_45 : decode cX11_with 45 = .ok (.iload_n 3, 1) := by decide +kernel
theorem dX11_with_46 : decode cX11_with 46 = .ok (.invokevirtual 324, 3) := by decide +kernel
theorem dX11_with_49 : decode cX11_with 49 = .ok (.lreturn, 1) := by decide +kernel
theorem dX11_pick_0 : decode cX11_pick 0 = .ok (.aload_n 0, 1) := by decide +kernel
theorem dX11_pick_1 : decode cX11_pick 1 = .ok (.iload_n 1, 1) := by decide +kernel
theorem dX11_pick_2 : decode cX11_pick 2 = .ok (.invokevirtual 149, 3) := by decide +kernel
theorem dX11_pick_5 : decode cX11_pick 5 = .ok (.ifCond .eq 35, 3) := by decide +kernel
theorem dX11_pick_8 : decode cX11_pick 8 = .ok (.iload_n 2, 1) := by decide +kernel
theorem dX11_pick_9 : decode cX11_pick 9 = .ok (.iconst 2, 1) := by decide +kernel
theorem dX11_pick_10 : decode cX11_pick 10 = .ok (.if_icmp .eq 12, 3) := by decide +kernel
theorem dX11_pick_13 : decode cX11_pick 13 = .ok (.aload_n 0, 1) := by decide +kernel
theorem dX11_pick_14 : decode cX11_pick 14 = .ok (.iload_n 1, 1) := by decide +kernel
theorem dX11_pick_15 : decode cX11_pick 15 = .ok (.iload_n 3, 1) := by decide +kernel
theorem dX11_pick_16 : decode cX11_pick 16 = .ok (.invokevirtual 156, 3) := by decide +kernel
theorem dX11_pick_19 : decode cX11_pick 19 = .ok (.ifCond .eq 21, 3) := by decide +kernel
theorem dX11_pick_22 : decode cX11_pick 22 = .ok (.iload 5, 2) := by decide +kernel
theorem dX11_pick_24 : decode cX11_pick 24 = .ok (.ifCond .eq 12, 3) := by decide +kernel
theorem dX11_pick_27 : decode cX11_pick 27 = .ok (.aload_n 0, 1) := by decide +kernel
theorem dX11_pick_28 : decode cX11_pick 28 = .ok (.iload 4, 2) := by decide +kernel
theorem dX11_pick_30 : decode cX11_pick 30 = .ok (.invokevirtual 160, 3) := by decide +kernel
theorem dX11_pick_33 : decode cX11_pick 33 = .ok (.ifCond .eq 7, 3) := by decide +kernel
theorem dX11_pick_36 : decode cX11_pick 36 = .ok (.iconst 1, 1) := by decide +kernel
theorem dX11_pick_37 : decode cX11_pick 37 = .ok (.goto 4, 3) := by decide +kernel
theorem dX11_pick_40 : decode cX11_pick 40 = .ok (.iconst 0, 1) := by decide +kernel
theorem dX11_pick_41 : decode cX11_pick 41 = .ok (.istore 6, 2) := by decide +kernel
theorem dX11_pick_43 : decode cX11_pick 43 = .ok (.aload_n 0, 1) := by decide +kernel
theorem dX11_pick_44 : decode cX11_pick 44 = .ok (.iload_n 2, 1) := by decide +kernel
theorem dX11_pick_45 : decode cX11_pick 45 = .ok (.i2l, 1) := by decide +kernel
theorem dX11_pick_46 : decode cX11_pick 46 = .ok (.lconst 0, 1) := by decide +kernel
theorem dX11_pick_47 : decode cX11_pick 47 = .ok (.ldc2_w 143, 3) := by decide +kernel
theorem dX11_pick_50 : decode cX11_pick 50 = .ok (.invokevirtual 145, 3) := by decide +kernel
theorem dX11_pick_53 : decode cX11_pick 53 = .ok (.ifCond .eq 39, 3) := by decide +kernel
theorem dX11_pick_56 : decode cX11_pick 56 = .ok (.aload_n 0, 1) := by decide +kernel
theorem dX11_pick_57 : decode cX11_pick 57 = .ok (.iload 5, 2) := by decide +kernel
theorem dX11_pick_59 : decode cX11_pick 59 = .ok (.i2l, 1) := by decide +kernel
theorem dX11_pick_60 : decode cX11_pick 60 = .ok (.lconst 0, 1) := by decide +kernel
theorem dX11_pick_61 : decode cX11_pick 61 = .ok (.ldc2_w 327, 3) := by decide +kernel
theorem dX11_pick_64 : decode cX11_pick 64 = .ok (.invokevirtual 145, 3) := by decide +kernel
theorem dX11_pick_67 : decode cX11_pick 67 = .ok (.ifCond .eq 25, 3) := by decide +kernel
theorem dX11_pick_70 : decode cX11_pick 70 = .ok (.iload_n 2, 1) := by decide +kernel
theorem dX11_pick_71 : decode cX11_pick 71 = .ok (.iconst 2, 1) := by decide +kernel
theorem dX11_pick_72 : decode cX11_pick 72 = .ok (.if_icmp .ne 16, 3) := by decide +kernel
theorem dX11_pick_75 : decode cX11_pick 75 = .ok (.aload_n 0, 1) := by decide +kernel
theorem dX11_pick_76 : decode cX11_pick 76 = .ok (.iload_n 3, 1) := by decide +kernel
theorem dX11_pick_77 : decode cX11_pick 77 = .ok (.i2l, 1) := by decide +kernel
theorem dX11_pick_78 : decode cX11_pick 78 = .ok (.lconst 0, 1) := by decide +kernel
theorem dX11_pick_79 : decode cX11_pick 79 = .ok (.ldc2_w 217, 3) := by decide +kernel
theorem dX11_pick_82 : decode cX11_pick 82 = .ok (.invokevirtual 145, 3) := by decide +kernel
theorem dX11_pick_85 : decode cX11_pick 85 = .ok (.ifCond .eq 7, 3) := by decide +kernel
theorem dX11_pick_88 : decode cX11_pick 88 = .ok (.iconst 1, 1) := by decide +kernel
theorem dX11_pick_89 : decode cX11_pick 89 = .ok (.goto 4, 3) := by decide +kernel
theorem dX11_pick_92 : decode cX11_pick 92 = .ok (.iconst 0, 1) := by decide +kernel
theorem dX11_pick_93 : decode cX11_pick 93 = .ok (.istore 7, 2) := by decide +kernel
theorem dX11_pick_95 : decode cX11_pick 95 = .ok (.aload_n 0, 1) := by decide +kernel
theorem dX11_pick_96 : decode cX11_pick 96 = .ok (.iload 6, 2) := by decide +kernel
theorem dX11_pick_98 : decode cX11_pick 98 = .ok (.ifCond .ne 7, 3) := by decide +kernel
theorem dX11_pick_101 : decode cX11_pick 101 = .ok (.iconst 1, 1) := by decide +kernel
theorem dX11_pick_102 : decode cX11_pick 102 = .ok (.goto 31, 3) := by decide +kernel
theorem dX11_pick_105 : decode cX11_pick 105 = .ok (.iload 7, 2) := by decide +kernel
theorem dX11_pick_107 : decode cX11_pick 107 = .ok (.ifCond .ne 7, 3) := by decide +kernel
theorem dX11_pick_110 : decode cX11_pick 110 = .ok (.iconst 2, 1) := by decide +kernel
theorem dX11_pick_111 : decode cX11_pick 111 = .ok (.goto 22, 3) := by decide +kernel
theorem dX11_pick_114 : decode cX11_pick 114 = .ok (.iload_n 2, 1) := by decide +kernel
theorem dX11_pick_115 : decode cX11_pick 115 = .ok (.iconst 2, 1) := by decide +kernel
theorem dX11_pick_116 : decode cX11_pick 116 = .ok (.if_icmp .eq 16, 3) := by decide +kernel
theorem dX11_pick_119 : decode cX11_pick 119 = .ok (.aload_n 0, 1) := by decide +kernel
theorem dX11_pick_120 : decode cX11_pick 120 = .ok (.iload_n 1, 1) := by decide +kernel
theorem dX11_pick_121 : decode cX11_pick 121 = .ok (.iload_n 3, 1) := by decide +kernel
theorem dX11_pick_122 : decode cX11_pick 122 = .ok (.invokevirtual 180, 3) := by decide +kernel
theorem dX11_pick_125 : decode cX11_pick 125 = .ok (.ifCond .ne 7, 3) := by decide +kernel
theorem dX11_pick_128 : decode cX11_pick 128 = .ok (.iconst 3, 1) := by decide +kernel
theorem dX11_pick_129 : decode cX11_pick 129 = .ok (.goto 4, 3) := by decide +kernel
theorem dX11_pick_132 : decode cX11_pick 132 = .ok (.iconst 0, 1) := by decide +kernel
theorem dX11_pick_133 : decode cX11_pick 133 = .ok (.invokevirtual 185, 3) := by decide +kernel
theorem dX11_pick_136 : decode cX11_pick 136 = .ok (.ifCond .eq 5, 3) := by decide +kernel
theorem dX11_pick_139 : decode cX11_pick 139 = .ok (.iconst (-1), 1) := by decide +kernel
theorem dX11_pick_140 : decode cX11_pick 140 = .ok (.ireturn, 1) := by decide +kernel
theorem dX11_pick_141 : decode cX11_pick 141 = .ok (.iconst 0, 1) := by decide +kernel
theorem dX11_pick_142 : decode cX11_pick 142 = .ok (.istore 8, 2) := by decide +kernel
theorem dX11_pick_144 : decode cX11_pick 144 = .ok (.iconst 0, 1) := by decide +kernel
theorem dX11_pick_145 : decode cX11_pick 145 = .ok (.istore 9, 2) := by decide +kernel
theorem dX11_pick_147 : decode cX11_pick 147 = .ok (.iload 9, 2) := by decide +kernel
theorem dX11_pick_149 : decode cX11_pick 149 = .ok (.aload_n 0, 1) := by decide +kernel
theorem dX11_pick_150 : decode cX11_pick 150 = .ok (.getfield 9, 3) := by decide +kernel
theorem dX11_pick_153 : decode cX11_pick 153 = .ok (.iload_n 1, 1) := by decide +kernel
theorem dX11_pick_154 : decode cX11_pick 154 = .ok (.iaload, 1) := by decide +kernel
theorem dX11_pick_155 : decode cX11_pick 155 = .ok (.if_icmp .ge 38, 3) := by decide +kernel
theorem dX11_pick_158 : decode cX11_pick 158 = .ok (.aload_n 0, 1) := by decide +kernel
theorem dX11_pick_159 : decode cX11_pick 159 = .ok (.iload_n 1, 1) := by decide +kernel
theorem dX11_pick_160 : decode cX11_pick 160 = .ok (.iload_n 2, 1) := by decide +kernel
theorem dX11_pick_161 : decode cX11_pick 161 = .ok (.iload 9, 2) := by decide +kernel
theorem dX11_pick_163 : decode cX11_pick 163 = .ok (.iload_n 3, 1) := by decide +kernel
theorem dX11_pick_164 : decode cX11_pick 164 = .ok (.invokevirtual 329, 3) := by decide +kernel
theorem dX11_pick_167 : decode cX11_pick 167 = .ok (.ifCond .eq 20, 3) := by decide +kernel
theorem dX11_pick_170 : decode cX11_pick 170 = .ok (.aload_n 0, 1) := by decide +kernel
theorem dX11_pick_171 : decode cX11_pick 171 = .ok (.getfield 122, 3) := by decide +kernel
theorem dX11_pick_174 : decode cX11_pick 174 = .ok (.bipush 12, 2) := by decide +kernel
theorem dX11_pick_176 : decode cX11_pick 176 = .ok (.iload_n 1, 1) := by decide +kernel
theorem dX11_pick_177 : decode cX11_pick 177 = .ok (.imul, 1) := by decide +kernel
theorem dX11_pick_178 : decode cX11_pick 178 = .ok (.iload 8, 2) := by decide +kernel
theorem dX11_pick_180 : decode cX11_pick 180 = .ok (.iadd, 1) := by decide +kernel
theorem dX11_pick_181 : decode cX11_pick 181 = .ok (.iload 9, 2) := by decide +kernel
theorem dX11_pick_183 : decode cX11_pick 183 = .ok (.iastore, 1) := by decide +kernel
theorem dX11_pick_184 : decode cX11_pick 184 = .ok (.iinc 8 1, 3) := by decide +kernel
theorem dX11_pick_187 : decode cX11_pick 187 = .ok (.iinc 9 1, 3) := by decide +kernel
theorem dX11_pick_190 : decode cX11_pick 190 = .ok (.goto (-43), 3) := by decide +kernel
theorem dX11_pick_193 : decode cX11_pick 193 = .ok (.aload_n 0, 1) := by decide +kernel
theorem dX11_pick_194 : decode cX11_pick 194 = .ok (.getfield 125, 3) := by decide +kernel
theorem dX11_pick_197 : decode cX11_pick 197 = .ok (.iload_n 1, 1) := by decide +kernel
theorem dX11_pick_198 : decode cX11_pick 198 = .ok (.iload 5, 2) := by decide +kernel
theorem dX11_pick_200 : decode cX11_pick 200 = .ok (.ifCond .ne 8, 3) := by decide +kernel
theorem dX11_pick_203 : decode cX11_pick 203 = .ok (.iload 8, 2) := by decide +kernel
theorem dX11_pick_205 : decode cX11_pick 205 = .ok (.goto 14, 3) := by decide +kernel
theorem dX11_pick_208 : decode cX11_pick 208 = .ok (.aload_n 0, 1) := by decide +kernel
theorem dX11_pick_209 : decode cX11_pick 209 = .ok (.iload_n 1, 1) := by decide +kernel
theorem dX11_pick_210 : decode cX11_pick 210 = .ok (.iload 8, 2) := by decide +kernel
theorem dX11_pick_212 : decode cX11_pick 212 = .ok (.iload 4, 2) := by decide +kernel
theorem dX11_pick_214 : decode cX11_pick 214 = .ok (.iload 5, 2) := by decide +kernel
theorem dX11_pick_216 : decode cX11_pick 216 = .ok (.invokevirtual 332, 3) := by decide +kernel
theorem dX11_pick_219 : decode cX11_pick 219 = .ok (.iastore, 1) := by decide +kernel
theorem dX11_pick_220 : decode cX11_pick 220 = .ok (.aload_n 0, 1) := by decide +kernel
theorem dX11_pick_221 : decode cX11_pick 221 = .ok (.getfield 125, 3) := by decide +kernel
theorem dX11_pick_224 : decode cX11_pick 224 = .ok (.iload_n 1, 1) := by decide +kernel
theorem dX11_pick_225 : decode cX11_pick 225 = .ok (.iaload, 1) := by decide +kernel
theorem dX11_pick_226 : decode cX11_pick 226 = .ok (.ireturn, 1) := by decide +kernel
theorem dX11_tops_0 : decode cX11_tops 0 = .ok (.iconst 0, 1) := by decide +kernel
theorem dX11_tops_1 : decode cX11_tops 1 = .ok (.istore 5, 2) := by decide +kernel
theorem dX11_tops_3 : decode cX11_tops 3 = .ok (.iconst 0, 1) := by decide +kernel
theorem dX11_tops_4 : decode cX11_tops 4 = .ok (.istore 6, 2) := by decide +kernel
theorem dX11_tops_6 : decode cX11_tops 6 = .ok (.iconst 0, 1) := by decide +kernel
theorem dX11_tops_7 : decode cX11_tops 7 = .ok (.istore 7, 2) := by decide +kernel
theorem dX11_tops_9 : decode cX11_tops 9 = .ok (.iconst 0, 1) := by decide +kernel
theorem dX11_tops_10 : decode cX11_tops 10 = .ok (.istore 8, 2) := by decide +kernel
theorem dX11_tops_12 : decode cX11_tops 12 = .ok (.iload 8, 2) := by decide +kernel
theorem dX11_tops_14 : decode cX11_tops 14 = .ok (.iload_n 2, 1) := by decide +kernel
theorem dX11_tops_15 : decode cX11_tops 15 = .ok (.if_icmp .ge 28, 3) := by decide +kernel
theorem dX11_tops_18 : decode cX11_tops 18 = .ok (.iload 7, 2) := by decide +kernel
theorem dX11_tops_20 : decode cX11_tops 20 = .ok (.iconst 1, 1) := by decide +kernel
theorem dX11_tops_21 : decode cX11_tops 21 = .ok (.aload_n 0, 1) := by decide +kernel
theorem dX11_tops_22 : decode cX11_tops 22 = .ok (.getfield 122, 3) := by decide +kernel
theorem dX11_tops_25 : decode cX11_tops 25 = .ok (.bipush 12, 2) := by decide +kernel
theorem dX11_tops_27 : decode cX11_tops 27 = .ok (.iload_n 1, 1) := by decide +kernel
theorem dX11_tops_28 : decode cX11_tops 28 = .ok (.imul, 1) := by decide +kernel
theorem dX11_tops_29 : decode cX11_tops 29 = .ok (.iload 8, 2) := by decide +kernel
theorem dX11_tops_31 : decode cX11_tops 31 = .ok (.iadd, 1) := by decide +kernel
theorem dX11_tops_32 : decode cX11_tops 32 = .ok (.iaload, 1) := by decide +kernel
theorem dX11_tops_33 : decode cX11_tops 33 = .ok (.ishl, 1) := by decide +kernel
theorem dX11_tops_34 : decode cX11_tops 34 = .ok (.ior, 1) := by decide +kernel
theorem dX11_tops_35 : decode cX11_tops 35 = .ok (.istore 7, 2) := by decide +kernel
theorem dX11_tops_37 : decode cX11_tops 37 = .ok (.iinc 8 1, 3) := by decide +kernel
theorem dX11_tops_40 : decode cX11_tops 40 = .ok (.goto (-28), 3) := by decide +kernel
theorem dX11_tops_43 : decode cX11_tops 43 = .ok (.iload 5, 2) := by decide +kernel
theorem dX11_tops_45 : decode cX11_tops 45 = .ok (.iload 4, 2) := by decide +kernel
theorem dX11_tops_47 : decode cX11_tops 47 = .ok (.if_icmp .ge 157, 3) := by decide +kernel
theorem dX11_tops_50 : decode cX11_tops 50 = .ok (.iconst (-1), 1) := by decide +kernel
theorem dX11_tops_51 : decode cX11_tops 51 = .ok (.istore 8, 2) := by decide +kernel
theorem dX11_tops_53 : decode cX11_tops 53 = .ok (.ldc2_w 262, 3) := by decide +kernel
theorem dX11_tops_56 : decode cX11_tops 56 = .ok (.lstore 9, 2) := by decide +kernel
theorem dX11_tops_58 : decode cX11_tops 58 = .ok (.bipush 11, 2) := by decide +kernel
theorem dX11_tops_60 : decode cX11_tops 60 = .ok (.istore 11, 2) := by decide +kernel
theorem dX11_tops_62 : decode cX11_tops 62 = .ok (.iload 11, 2) := by decide +kernel
theorem dX11_tops_64 : decode cX11_tops 64 = .ok (.ifCond .lt 103, 3) := by decide +kernel
theorem dX11_tops_67 : decode cX11_tops 67 = .ok (.iload 7, 2) := by decide +kernel
theorem dX11_tops_69 : decode cX11_tops 69 = .ok (.iload 11, 2) := by decide +kernel
theorem dX11_tops_71 : decode cX11_tops 71 = .ok (.ishr, 1) := by decide +kernel
theorem dX11_tops_72 : decode cX11_tops 72 = .ok (.iconst 1, 1) := by decide +kernel
theorem dX11_tops_73 : decode cX11_tops 73 = .ok (.iand, 1) := by decide +kernel
theorem dX11_tops_74 : decode cX11_tops 74 = .ok (.iconst 1, 1) := by decide +kernel
theorem dX11_tops_75 : decode cX11_tops 75 = .ok (.if_icmp .ne 24, 3) := by decide +kernel
theorem dX11_tops_78 : decode cX11_tops 78 = .ok (.iload 6, 2) := by decide +kernel
theorem dX11_tops_80 : decode cX11_tops 80 = .ok (.iload 11, 2) := by decide +kernel
theorem dX11_tops_82 : decode cX11_tops 82 = .ok (.ishr, 1) := by decide +kernel
theorem dX11_tops_83 : decode cX11_tops 83 = .ok (.iconst 1, 1) := by decide +kernel
theorem dX11_tops_84 : decode cX11_tops 84 = .ok (.iand, 1) := by decide +kernel
theorem dX11_tops_85 : decode cX11_tops 85 = .ok (.ifCond .ne 14, 3) := by decide +kernel
theorem dX11_tops_88 : decode cX11_tops 88 = .ok (.aload_n 0, 1) := by decide +kernel
theorem dX11_tops_89 : decode cX11_tops 89 = .ok (.iload_n 1, 1) := by decide +kernel
theorem dX11_tops_90 : decode cX11_tops 90 = .ok (.iload 11, 2) := by decide +kernel
theorem dX11_tops_92 : decode cX11_tops 92 = .ok (.iload_n 3, 1) := by decide +kernel
theorem dX11_tops_93 : decode cX11_tops 93 = .ok (.invokevirtual 335, 3) := by decide +kernel
theorem dX11_tops_96 : decode cX11_tops 96 = .ok (.goto 6, 3) := by decide +kernel
theorem dX11_tops_99 : decode cX11_tops 99 = .ok (.ldc2_w 262, 3) := by decide +kernel
theorem dX11_tops_102 : decode cX11_tops 102 = .ok (.lstore 12, 2) := by decide +kernel
theorem dX11_tops_104 : decode cX11_tops 104 = .ok (.lload 12, 2) := by decide +kernel
theorem dX11_tops_106 : decode cX11_tops 106 = .ok (.ldc2_w 262, 3) := by decide +kernel
theorem dX11_tops_109 : decode cX11_tops 109 = .ok (.lcmp, 1) := by decide +kernel
theorem dX11_tops_110 : decode cX11_tops 110 = .ok (.ifCond .eq 20, 3) := by decide +kernel
theorem dX11_tops_113 : decode cX11_tops 113 = .ok (.iload 8, 2) := by decide +kernel
theorem dX11_tops_115 : decode cX11_tops 115 = .ok (.ifCond .lt 11, 3) := by decide +kernel
theorem dX11_tops_118 : decode cX11_tops 118 = .ok (.lload 12, 2) := by decide +kernel
theorem dX11_tops_120 : decode cX11_tops 120 = .ok (.lload 9, 2) := by decide +kernel
theorem dX11_tops_122 : decode cX11_tops 122 = .ok (.lcmp, 1) := by decide +kernel
theorem dX11_tops_123 : decode cX11_tops 123 = .ok (.ifCond .lt 7, 3) := by decide +kernel
theorem dX11_tops_126 : decode cX11_tops 126 = .ok (.iconst 1, 1) := by decide +kernel
theorem dX11_tops_127 : decode cX11_tops 127 = .ok (.goto 4, 3) := by decide +kernel
theorem dX11_tops_130 : decode cX11_tops 130 = .ok (.iconst 0, 1) := by decide +kernel
theorem dX11_tops_131 : decode cX11_tops 131 = .ok (.istore 14, 2) := by decide +kernel
theorem dX11_tops_133 : decode cX11_tops 133 = .ok (.iload 14, 2) := by decide +kernel
theorem dX11_tops_135 : decode cX11_tops 135 = .ok (.ifCond .eq 8, 3) := by decide +kernel
theorem dX11_tops_138 : decode cX11_tops 138 = .ok (.iload 11, 2) := by decide +kernel
theorem dX11_tops_140 : decode cX11_tops 140 = .ok (.goto 5, 3) := by decide +kernel
theorem dX11_tops_143 : decode cX11_tops 143 = .ok (.iload 8, 2) := by decide +kernel
theorem dX11_tops_145 : decode cX11_tops 145 = .ok (.istore 8, 2) := by decide +kernel
theorem dX11_tops_147 : decode cX11_tops 147 = .ok (.iload 14, 2) := by decide +kernel
theorem dX11_tops_149 : decode cX11_tops 149 = .ok (.ifCond .eq 8, 3) := by decide +kernel
theorem dX11_tops_152 : decode cX11_tops 152 = .ok (.lload 12, 2) := by decide +kernel
theorem dX11_tops_154 : decode cX11_tops 154 = .ok (.goto 5, 3) := by decide +kernel
theorem dX11_tops_157 : decode cX11_tops 157 = .ok (.lload 9, 2) := by decide +kernel
theorem dX11_tops_159 : decode cX11_tops 159 = .ok (.lstore 9, 2) := by decide +kernel
theorem dX11_tops_161 : decode cX11_tops 161 = .ok (.iinc 11 (-1), 3) := by decide +kernel
theorem dX11_tops_164 : decode cX11_tops 164 = .ok (.goto (-102), 3) := by decide +kernel
theorem dX11_tops_167 : decode cX11_tops 167 = .ok (.iload 8, 2) := by decide +kernel
theorem dX11_tops_169 : decode cX11_tops 169 = .ok (.ifCond .ge 6, 3) := by decide +kernel
theorem dX11_tops_172 : decode cX11_tops 172 = .ok (.iload 5, 2) := by decide +kernel
theorem dX11_tops_174 : decode cX11_tops 174 = .ok (.ireturn, 1) := by decide +kernel
theorem dX11_tops_175 : decode cX11_tops 175 = .ok (.iload 6, 2) := by decide +kernel
theorem dX11_tops_177 : decode cX11_tops 177 = .ok (.iconst 1, 1) := by decide +kernel
theorem dX11_tops_178 : decode cX11_tops 178 = .ok (.iload 8, 2) := by decide +kernel
theorem dX11_tops_180 : decode cX11_tops 180 = .ok (.ishl, 1) := by decide +kernel
theorem dX11_tops_181 : decode cX11_tops 181 = .ok (.ior, 1) := by decide +kernel
theorem dX11_tops_182 : decode cX11_tops 182 = .ok (.istore 6, 2) := by decide +kernel
theorem dX11_tops_184 : decode cX11_tops 184 = .ok (.aload_n 0, 1) := by decide +kernel
theorem dX11_tops_185 : decode cX11_tops 185 = .ok (.getfield 122, 3) := by decide +kernel
theorem dX11_tops_188 : decode cX11_tops 188 = .ok (.bipush 12, 2) := by decide +kernel
theorem dX11_tops_190 : decode cX11_tops 190 = .ok (.iload_n 1, 1) := by decide +kernel
theorem dX11_tops_191 : decode cX11_tops 191 = .ok (.imul, 1) := by decide +kernel
theorem dX11_tops_192 : decode cX11_tops 192 = .ok (.iload 5, 2) := by decide +kernel
theorem dX11_tops_194 : decode cX11_tops 194 = .ok (.iadd, 1) := by decide +kernel
theorem dX11_tops_195 : decode cX11_tops 195 = .ok (.iload 8, 2) := by decide +kernel
theorem dX11_tops_197 : decode cX11_tops 197 = .ok (.iastore, 1) := by decide +kernel
theorem dX11_tops_198 : decode cX11_tops 198 = .ok (.iinc 5 1, 3) := by decide +kernel
theorem dX11_tops_201 : decode cX11_tops 201 = .ok (.goto (-158), 3) := by decide +kernel
theorem dX11_tops_204 : decode cX11_tops 204 = .ok (.iload 5, 2) := by decide +kernel
theorem dX11_tops_206 : decode cX11_tops 206 = .ok (.ireturn, 1) := by decide +kernel
theorem dX11_picked_0 : decode cX11_picked 0 = .ok (.aload_n 0, 1) := by decide +kernel
theorem dX11_picked_1 : decode cX11_picked 1 = .ok (.aload_n 0, 1) := by decide +kernel
theorem dX11_picked_2 : decode cX11_picked 2 = .ok (.iload_n 1, 1) := by decide +kernel
theorem dX11_picked_3 : decode cX11_picked 3 = .ok (.invokevirtual 149, 3) := by decide +kernel
theorem dX11_picked_6 : decode cX11_picked 6 = .ok (.ifCond .eq 11, 3) := by decide +kernel
theorem dX11_picked_9 : decode cX11_picked 9 = .ok (.iload_n 2, 1) := by decide +kernel
theorem dX11_picked_10 : decode cX11_picked 10 = .ok (.ifCond .lt 7, 3) := by decide +kernel
theorem dX11_picked_13 : decode cX11_picked 13 = .ok (.iconst 0, 1) := by decide +kernel
theorem dX11_picked_14 : decode cX11_picked 14 = .ok (.goto 4, 3) := by decide +kernel
