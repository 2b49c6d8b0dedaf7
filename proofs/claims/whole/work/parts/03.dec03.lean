theorem dX11_picked_17 : decode cX11_picked 17 = .ok (.iconst 1, 1) := by decide +kernel
theorem dX11_picked_18 : decode cX11_picked 18 = .ok (.invokevirtual 185, 3) := by decide +kernel
theorem dX11_picked_21 : decode cX11_picked 21 = .ok (.ifCond .eq 5, 3) := by decide +kernel
theorem dX11_picked_24 : decode cX11_picked 24 = .ok (.iconst (-1), 1) := by decide +kernel
theorem dX11_picked_25 : decode cX11_picked 25 = .ok (.ireturn, 1) := by decide +kernel
theorem dX11_picked_26 : decode cX11_picked 26 = .ok (.iload_n 2, 1) := by decide +kernel
theorem dX11_picked_27 : decode cX11_picked 27 = .ok (.aload_n 0, 1) := by decide +kernel
theorem dX11_picked_28 : decode cX11_picked 28 = .ok (.getfield 125, 3) := by decide +kernel
theorem dX11_picked_31 : decode cX11_picked 31 = .ok (.iload_n 1, 1) := by decide +kernel
theorem dX11_picked_32 : decode cX11_picked 32 = .ok (.iaload, 1) := by decide +kernel
theorem dX11_picked_33 : decode cX11_picked 33 = .ok (.if_icmp .ge 17, 3) := by decide +kernel
theorem dX11_picked_36 : decode cX11_picked 36 = .ok (.aload_n 0, 1) := by decide +kernel
theorem dX11_picked_37 : decode cX11_picked 37 = .ok (.getfield 122, 3) := by decide +kernel
theorem dX11_picked_40 : decode cX11_picked 40 = .ok (.bipush 12, 2) := by decide +kernel
theorem dX11_picked_42 : decode cX11_picked 42 = .ok (.iload_n 1, 1) := by decide +kernel
theorem dX11_picked_43 : decode cX11_picked 43 = .ok (.imul, 1) := by decide +kernel
theorem dX11_picked_44 : decode cX11_picked 44 = .ok (.iload_n 2, 1) := by decide +kernel
theorem dX11_picked_45 : decode cX11_picked 45 = .ok (.iadd, 1) := by decide +kernel
theorem dX11_picked_46 : decode cX11_picked 46 = .ok (.iaload, 1) := by decide +kernel
theorem dX11_picked_47 : decode cX11_picked 47 = .ok (.goto 4, 3) := by decide +kernel
theorem dX11_picked_50 : decode cX11_picked 50 = .ok (.iconst (-1), 1) := by decide +kernel
theorem dX11_picked_51 : decode cX11_picked 51 = .ok (.ireturn, 1) := by decide +kernel
theorem dX11_cross_0 : decode cX11_cross 0 = .ok (.aload_n 0, 1) := by decide +kernel
theorem dX11_cross_1 : decode cX11_cross 1 = .ok (.iload_n 1, 1) := by decide +kernel
theorem dX11_cross_2 : decode cX11_cross 2 = .ok (.invokevirtual 149, 3) := by decide +kernel
theorem dX11_cross_5 : decode cX11_cross 5 = .ok (.ifCond .eq 23, 3) := by decide +kernel
theorem dX11_cross_8 : decode cX11_cross 8 = .ok (.aload_n 0, 1) := by decide +kernel
theorem dX11_cross_9 : decode cX11_cross 9 = .ok (.iload_n 2, 1) := by decide +kernel
theorem dX11_cross_10 : decode cX11_cross 10 = .ok (.invokevirtual 149, 3) := by decide +kernel
theorem dX11_cross_13 : decode cX11_cross 13 = .ok (.ifCond .eq 15, 3) := by decide +kernel
theorem dX11_cross_16 : decode cX11_cross 16 = .ok (.aload_n 0, 1) := by decide +kernel
theorem dX11_cross_17 : decode cX11_cross 17 = .ok (.iload_n 3, 1) := by decide +kernel
theorem dX11_cross_18 : decode cX11_cross 18 = .ok (.invokevirtual 160, 3) := by decide +kernel
theorem dX11_cross_21 : decode cX11_cross 21 = .ok (.ifCond .eq 7, 3) := by decide +kernel
theorem dX11_cross_24 : decode cX11_cross 24 = .ok (.iconst 1, 1) := by decide +kernel
theorem dX11_cross_25 : decode cX11_cross 25 = .ok (.goto 4, 3) := by decide +kernel
theorem dX11_cross_28 : decode cX11_cross 28 = .ok (.iconst 0, 1) := by decide +kernel
theorem dX11_cross_29 : decode cX11_cross 29 = .ok (.istore 4, 2) := by decide +kernel
theorem dX11_cross_31 : decode cX11_cross 31 = .ok (.aload_n 0, 1) := by decide +kernel
theorem dX11_cross_32 : decode cX11_cross 32 = .ok (.iload 4, 2) := by decide +kernel
theorem dX11_cross_34 : decode cX11_cross 34 = .ok (.ifCond .ne 7, 3) := by decide +kernel
theorem dX11_cross_37 : decode cX11_cross 37 = .ok (.iconst 1, 1) := by decide +kernel
theorem dX11_cross_38 : decode cX11_cross 38 = .ok (.goto 13, 3) := by decide +kernel
theorem dX11_cross_41 : decode cX11_cross 41 = .ok (.iload_n 1, 1) := by decide +kernel
theorem dX11_cross_42 : decode cX11_cross 42 = .ok (.iload_n 2, 1) := by decide +kernel
theorem dX11_cross_43 : decode cX11_cross 43 = .ok (.if_icmp .ne 7, 3) := by decide +kernel
theorem dX11_cross_46 : decode cX11_cross 46 = .ok (.iconst 2, 1) := by decide +kernel
theorem dX11_cross_47 : decode cX11_cross 47 = .ok (.goto 4, 3) := by decide +kernel
theorem dX11_cross_50 : decode cX11_cross 50 = .ok (.iconst 0, 1) := by decide +kernel
theorem dX11_cross_51 : decode cX11_cross 51 = .ok (.invokevirtual 185, 3) := by decide +kernel
theorem dX11_cross_54 : decode cX11_cross 54 = .ok (.ifCond .eq 5, 3) := by decide +kernel
theorem dX11_cross_57 : decode cX11_cross 57 = .ok (.iconst (-1), 1) := by decide +kernel
theorem dX11_cross_58 : decode cX11_cross 58 = .ok (.ireturn, 1) := by decide +kernel
theorem dX11_cross_59 : decode cX11_cross 59 = .ok (.iconst 0, 1) := by decide +kernel
theorem dX11_cross_60 : decode cX11_cross 60 = .ok (.istore 5, 2) := by decide +kernel
theorem dX11_cross_62 : decode cX11_cross 62 = .ok (.iconst 0, 1) := by decide +kernel
theorem dX11_cross_63 : decode cX11_cross 63 = .ok (.istore 6, 2) := by decide +kernel
theorem dX11_cross_65 : decode cX11_cross 65 = .ok (.iload 6, 2) := by decide +kernel
theorem dX11_cross_67 : decode cX11_cross 67 = .ok (.aload_n 0, 1) := by decide +kernel
theorem dX11_cross_68 : decode cX11_cross 68 = .ok (.getfield 125, 3) := by decide +kernel
theorem dX11_cross_71 : decode cX11_cross 71 = .ok (.iload_n 1, 1) := by decide +kernel
theorem dX11_cross_72 : decode cX11_cross 72 = .ok (.iaload, 1) := by decide +kernel
theorem dX11_cross_73 : decode cX11_cross 73 = .ok (.if_icmp .ge 167, 3) := by decide +kernel
theorem dX11_cross_76 : decode cX11_cross 76 = .ok (.iconst 0, 1) := by decide +kernel
theorem dX11_cross_77 : decode cX11_cross 77 = .ok (.istore 7, 2) := by decide +kernel
theorem dX11_cross_79 : decode cX11_cross 79 = .ok (.iload 7, 2) := by decide +kernel
theorem dX11_cross_81 : decode cX11_cross 81 = .ok (.aload_n 0, 1) := by decide +kernel
theorem dX11_cross_82 : decode cX11_cross 82 = .ok (.getfield 125, 3) := by decide +kernel
theorem dX11_cross_85 : decode cX11_cross 85 = .ok (.iload_n 2, 1) := by decide +kernel
theorem dX11_cross_86 : decode cX11_cross 86 = .ok (.iaload, 1) := by decide +kernel
theorem dX11_cross_87 : decode cX11_cross 87 = .ok (.if_icmp .ge 147, 3) := by decide +kernel
theorem dX11_cross_90 : decode cX11_cross 90 = .ok (.aload_n 0, 1) := by decide +kernel
theorem dX11_cross_91 : decode cX11_cross 91 = .ok (.getfield 122, 3) := by decide +kernel
theorem dX11_cross_94 : decode cX11_cross 94 = .ok (.bipush 12, 2) := by decide +kernel
theorem dX11_cross_96 : decode cX11_cross 96 = .ok (.iload_n 1, 1) := by decide +kernel
theorem dX11_cross_97 : decode cX11_cross 97 = .ok (.imul, 1) := by decide +kernel
theorem dX11_cross_98 : decode cX11_cross 98 = .ok (.iload 6, 2) := by decide +kernel
theorem dX11_cross_100 : decode cX11_cross 100 = .ok (.iadd, 1) := by decide +kernel
theorem dX11_cross_101 : decode cX11_cross 101 = .ok (.iaload, 1) := by decide +kernel
theorem dX11_cross_102 : decode cX11_cross 102 = .ok (.istore 8, 2) := by decide +kernel
theorem dX11_cross_104 : decode cX11_cross 104 = .ok (.aload_n 0, 1) := by decide +kernel
theorem dX11_cross_105 : decode cX11_cross 105 = .ok (.getfield 122, 3) := by decide +kernel
theorem dX11_cross_108 : decode cX11_cross 108 = .ok (.bipush 12, 2) := by decide +kernel
theorem dX11_cross_110 : decode cX11_cross 110 = .ok (.iload_n 2, 1) := by decide +kernel
theorem dX11_cross_111 : decode cX11_cross 111 = .ok (.imul, 1) := by decide +kernel
theorem dX11_cross_112 : decode cX11_cross 112 = .ok (.iload 7, 2) := by decide +kernel
theorem dX11_cross_114 : decode cX11_cross 114 = .ok (.iadd, 1) := by decide +kernel
theorem dX11_cross_115 : decode cX11_cross 115 = .ok (.iaload, 1) := by decide +kernel
theorem dX11_cross_116 : decode cX11_cross 116 = .ok (.istore 9, 2) := by decide +kernel
theorem dX11_cross_118 : decode cX11_cross 118 = .ok (.iload_n 1, 1) := by decide +kernel
theorem dX11_cross_119 : decode cX11_cross 119 = .ok (.ifCond .ne 8, 3) := by decide +kernel
theorem dX11_cross_122 : decode cX11_cross 122 = .ok (.iload 8, 2) := by decide +kernel
theorem dX11_cross_124 : decode cX11_cross 124 = .ok (.goto 18, 3) := by decide +kernel
theorem dX11_cross_127 : decode cX11_cross 127 = .ok (.iload_n 2, 1) := by decide +kernel
theorem dX11_cross_128 : decode cX11_cross 128 = .ok (.ifCond .ne 8, 3) := by decide +kernel
theorem dX11_cross_131 : decode cX11_cross 131 = .ok (.iload 9, 2) := by decide +kernel
theorem dX11_cross_133 : decode cX11_cross 133 = .ok (.goto 9, 3) := by decide +kernel
theorem dX11_cross_136 : decode cX11_cross 136 = .ok (.aload_n 0, 1) := by decide +kernel
theorem dX11_cross_137 : decode cX11_cross 137 = .ok (.getfield 119, 3) := by decide +kernel
theorem dX11_cross_140 : decode cX11_cross 140 = .ok (.iconst 0, 1) := by decide +kernel
theorem dX11_cross_141 : decode cX11_cross 141 = .ok (.iaload, 1) := by decide +kernel
theorem dX11_cross_142 : decode cX11_cross 142 = .ok (.istore 10, 2) := by decide +kernel
theorem dX11_cross_144 : decode cX11_cross 144 = .ok (.iload_n 1, 1) := by decide +kernel
theorem dX11_cross_145 : decode cX11_cross 145 = .ok (.iconst 1, 1) := by decide +kernel
theorem dX11_cross_146 : decode cX11_cross 146 = .ok (.if_icmp .ne 8, 3) := by decide +kernel
theorem dX11_cross_149 : decode cX11_cross 149 = .ok (.iload 8, 2) := by decide +kernel
theorem dX11_cross_151 : decode cX11_cross 151 = .ok (.goto 19, 3) := by decide +kernel
theorem dX11_cross_154 : decode cX11_cross 154 = .ok (.iload_n 2, 1) := by decide +kernel
theorem dX11_cross_155 : decode cX11_cross 155 = .ok (.iconst 1, 1) := by decide +kernel
theorem dX11_cross_156 : decode cX11_cross 156 = .ok (.if_icmp .ne 8, 3) := by decide +kernel
theorem dX11_cross_159 : decode cX11_cross 159 = .ok (.iload 9, 2) := by decide +kernel
theorem dX11_cross_161 : decode cX11_cross 161 = .ok (.goto 9, 3) := by decide +kernel
theorem dX11_cross_164 : decode cX11_cross 164 = .ok (.aload_n 0, 1) := by decide +kernel
theorem dX11_cross_165 : decode cX11_cross 165 = .ok (.getfield 119, 3) := by decide +kernel
theorem dX11_cross_168 : decode cX11_cross 168 = .ok (.iconst 1, 1) := by decide +kernel
theorem dX11_cross_169 : decode cX11_cross 169 = .ok (.iaload, 1) := by decide +kernel
theorem dX11_cross_170 : decode cX11_cross 170 = .ok (.istore 11, 2) := by decide +kernel
theorem dX11_cross_172 : decode cX11_cross 172 = .ok (.iload_n 1, 1) := by decide +kernel
theorem dX11_cross_173 : decode cX11_cross 173 = .ok (.iconst 2, 1) := by decide +kernel
theorem dX11_cross_174 : decode cX11_cross 174 = .ok (.if_icmp .ne 8, 3) := by decide +kernel
theorem dX11_cross_177 : decode cX11_cross 177 = .ok (.iload 8, 2) := by decide +kernel
theorem dX11_cross_179 : decode cX11_cross 179 = .ok (.goto 19, 3) := by decide +kernel
theorem dX11_cross_182 : decode cX11_cross 182 = .ok (.iload_n 2, 1) := by decide +kernel
theorem dX11_cross_183 : decode cX11_cross 183 = .ok (.iconst 2, 1) := by decide +kernel
theorem dX11_cross_184 : decode cX11_cross 184 = .ok (.if_icmp .ne 8, 3) := by decide +kernel
theorem dX11_cross_187 : decode cX11_cross 187 = .ok (.iload 9, 2) := by decide +kernel
theorem dX11_cross_189 : decode cX11_cross 189 = .ok (.goto 9, 3) := by decide +kernel
theorem dX11_cross_192 : decode cX11_cross 192 = .ok (.aload_n 0, 1) := by decide +kernel
theorem dX11_cross_193 : decode cX11_cross 193 = .ok (.getfield 119, 3) := by decide +kernel
theorem dX11_cross_196 : decode cX11_cross 196 = .ok (.iconst 2, 1) := by decide +kernel
theorem dX11_cross_197 : decode cX11_cross 197 = .ok (.iaload, 1) := by decide +kernel
theorem dX11_cross_198 : decode cX11_cross 198 = .ok (.istore 12, 2) := by decide +kernel
theorem dX11_cross_200 : decode cX11_cross 200 = .ok (.iload 5, 2) := by decide +kernel
theorem dX11_cross_202 : decode cX11_cross 202 = .ok (.aload_n 0, 1) := by decide +kernel
theorem dX11_cross_203 : decode cX11_cross 203 = .ok (.iload 10, 2) := by decide +kernel
theorem dX11_cross_205 : decode cX11_cross 205 = .ok (.iload 11, 2) := by decide +kernel
theorem dX11_cross_207 : decode cX11_cross 207 = .ok (.iload 12, 2) := by decide +kernel
theorem dX11_cross_209 : decode cX11_cross 209 = .ok (.iload_n 3, 1) := by decide +kernel
theorem dX11_cross_210 : decode cX11_cross 210 = .ok (.invokevirtual 324, 3) := by decide +kernel
theorem dX11_cross_213 : decode cX11_cross 213 = .ok (.ldc2_w 262, 3) := by decide +kernel
theorem dX11_cross_216 : decode cX11_cross 216 = .ok (.lcmp, 1) := by decide +kernel
theorem dX11_cross_217 : decode cX11_cross 217 = .ok (.ifCond .eq 7, 3) := by decide +kernel
theorem dX11_cross_220 : decode cX11_cross 220 = .ok (.iconst 1, 1) := by decide +kernel
theorem dX11_cross_221 : decode cX11_cross 221 = .ok (.goto 4, 3) := by decide +kernel
theorem dX11_cross_224 : decode cX11_cross 224 = .ok (.iconst 0, 1) := by decide +kernel
theorem dX11_cross_225 : decode cX11_cross 225 = .ok (.iadd, 1) := by decide +kernel
theorem dX11_cross_226 : decode cX11_cross 226 = .ok (.istore 5, 2) := by decide +kernel
theorem dX11_cross_228 : decode cX11_cross 228 = .ok (.iinc 7 1, 3) := by decide +kernel
theorem dX11_cross_231 : decode cX11_cross 231 = .ok (.goto (-152), 3) := by decide +kernel
theorem dX11_cross_234 : decode cX11_cross 234 = .ok (.iinc 6 1, 3) := by decide +kernel
theorem dX11_cross_237 : decode cX11_cross 237 = .ok (.goto (-172), 3) := by decide +kernel
theorem dX11_cross_240 : decode cX11_cross 240 = .ok (.iload 5, 2) := by decide +kernel
theorem dX11_cross_242 : decode cX11_cross 242 = .ok (.ireturn, 1) := by decide +kernel
theorem dX11_spots_0 : decode cX11_spots 0 = .ok (.iconst 0, 1) := by decide +kernel
theorem dX11_spots_1 : decode cX11_spots 1 = .ok (.istore 5, 2) := by decide +kernel
theorem dX11_spots_3 : decode cX11_spots 3 = .ok (.iconst 1, 1) := by decide +kernel
theorem dX11_spots_4 : decode cX11_spots 4 = .ok (.istore 6, 2) := by decide +kernel
theorem dX11_spots_6 : decode cX11_spots 6 = .ok (.iconst 0, 1) := by decide +kernel
theorem dX11_spots_7 : decode cX11_spots 7 = .ok (.istore 7, 2) := by decide +kernel
theorem dX11_spots_9 : decode cX11_spots 9 = .ok (.iload 7, 2) := by decide +kernel
theorem dX11_spots_11 : decode cX11_spots 11 = .ok (.aload_n 0, 1) := by decide +kernel
theorem dX11_spots_12 : decode cX11_spots 12 = .ok (.getfield 230, 3) := by decide +kernel
theorem dX11_spots_15 : decode cX11_spots 15 = .ok (.if_icmp .ge 81, 3) := by decide +kernel
theorem dX11_spots_18 : decode cX11_spots 18 = .ok (.aload_n 0, 1) := by decide +kernel
theorem dX11_spots_19 : decode cX11_spots 19 = .ok (.getfield 81, 3) := by decide +kernel
theorem dX11_spots_22 : decode cX11_spots 22 = .ok (.iload 7, 2) := by decide +kernel
theorem dX11_spots_24 : decode cX11_spots 24 = .ok (.iaload, 1) := by decide +kernel
theorem dX11_spots_25 : decode cX11_spots 25 = .ok (.iload 4, 2) := by decide +kernel
theorem dX11_spots_27 : decode cX11_spots 27 = .ok (.if_icmp .ne 15, 3) := by decide +kernel
theorem dX11_spots_30 : decode cX11_spots 30 = .ok (.aload_n 0, 1) := by decide +kernel
theorem dX11_spots_31 : decode cX11_spots 31 = .ok (.iload 7, 2) := by decide +kernel
theorem dX11_spots_33 : decode cX11_spots 33 = .ok (.iload_n 1, 1) := by decide +kernel
theorem dX11_spots_34 : decode cX11_spots 34 = .ok (.iload_n 2, 1) := by decide +kernel
theorem dX11_spots_35 : decode cX11_spots 35 = .ok (.iload_n 3, 1) := by decide +kernel
theorem dX11_spots_36 : decode cX11_spots 36 = .ok (.invokevirtual 259, 3) := by decide +kernel
theorem dX11_spots_39 : decode cX11_spots 39 = .ok (.goto 4, 3) := by decide +kernel
theorem dX11_spots_42 : decode cX11_spots 42 = .ok (.iconst 0, 1) := by decide +kernel
theorem dX11_spots_43 : decode cX11_spots 43 = .ok (.istore 8, 2) := by decide +kernel
theorem dX11_spots_45 : decode cX11_spots 45 = .ok (.aload_n 0, 1) := by decide +kernel
theorem dX11_spots_46 : decode cX11_spots 46 = .ok (.getfield 131, 3) := by decide +kernel
theorem dX11_spots_49 : decode cX11_spots 49 = .ok (.iload 5, 2) := by decide +kernel
theorem dX11_spots_51 : decode cX11_spots 51 = .ok (.iload 7, 2) := by decide +kernel
theorem dX11_spots_53 : decode cX11_spots 53 = .ok (.iastore, 1) := by decide +kernel
theorem dX11_spots_54 : decode cX11_spots 54 = .ok (.iload 5, 2) := by decide +kernel
theorem dX11_spots_56 : decode cX11_spots 56 = .ok (.iload 8, 2) := by decide +kernel
theorem dX11_spots_58 : decode cX11_spots 58 = .ok (.ifCond .eq 7, 3) := by decide +kernel
theorem dX11_spots_61 : decode cX11_spots 61 = .ok (.iconst 1, 1) := by decide +kernel
theorem dX11_spots_62 : decode cX11_spots 62 = .ok (.goto 4, 3) := by decide +kernel
theorem dX11_spots_65 : decode cX11_spots 65 = .ok (.iconst 0, 1) := by decide +kernel
theorem dX11_spots_66 : decode cX11_spots 66 = .ok (.iadd, 1) := by decide +kernel
theorem dX11_spots_67 : decode cX11_spots 67 = .ok (.istore 5, 2) := by decide +kernel
theorem dX11_spots_69 : decode cX11_spots 69 = .ok (.iload 6, 2) := by decide +kernel
theorem dX11_spots_71 : decode cX11_spots 71 = .ok (.iload 8, 2) := by decide +kernel
theorem dX11_spots_73 : decode cX11_spots 73 = .ok (.ifCond .eq 9, 3) := by decide +kernel
theorem dX11_spots_76 : decode cX11_spots 76 = .ok (.iload 8, 2) := by decide +kernel
theorem dX11_spots_78 : decode cX11_spots 78 = .ok (.iconst 1, 1) := by decide +kernel
theorem dX11_spots_79 : decode cX11_spots 79 = .ok (.if_icmp .ne 7, 3) := by decide +kernel
theorem dX11_spots_82 : decode cX11_spots 82 = .ok (.iconst 1, 1) := by decide +kernel
theorem dX11_spots_83 : decode cX11_spots 83 = .ok (.goto 4, 3) := by decide +kernel
theorem dX11_spots_86 : decode cX11_spots 86 = .ok (.iconst 0, 1) := by decide +kernel
theorem dX11_spots_87 : decode cX11_spots 87 = .ok (.iand, 1) := by decide +kernel
theorem dX11_spots_88 : decode cX11_spots 88 = .ok (.istore 6, 2) := by decide +kernel
theorem dX11_spots_90 : decode cX11_spots 90 = .ok (.iinc 7 1, 3) := by decide +kernel
theorem dX11_spots_93 : decode cX11_spots 93 = .ok (.goto (-84), 3) := by decide +kernel
theorem dX11_spots_96 : decode cX11_spots 96 = .ok (.iload 6, 2) := by decide +kernel
theorem dX11_spots_98 : decode cX11_spots 98 = .ok (.ifCond .eq 8, 3) := by decide +kernel
theorem dX11_spots_101 : decode cX11_spots 101 = .ok (.iload 5, 2) := by decide +kernel
theorem dX11_spots_103 : decode cX11_spots 103 = .ok (.goto 4, 3) := by decide +kernel
theorem dX11_spots_106 : decode cX11_spots 106 = .ok (.iconst (-1), 1) := by decide +kernel
theorem dX11_spots_107 : decode cX11_spots 107 = .ok (.ireturn, 1) := by decide +kernel
theorem dX11_equal_0 : decode cX11_equal 0 = .ok (.iconst 0, 1) := by decide +kernel
theorem dX11_equal_1 : decode cX11_equal 1 = .ok (.istore 4, 2) := by decide +kernel
theorem dX11_equal_3 : decode cX11_equal 3 = .ok (.iload 4, 2) := by decide +kernel
theorem dX11_equal_5 : decode cX11_equal 5 = .ok (.iload_n 1, 1) := by decide +kernel
theorem dX11_equal_6 : decode cX11_equal 6 = .ok (.if_icmp .ge 38, 3) := by decide +kernel
theorem dX11_equal_9 : decode cX11_equal 9 = .ok (.aload_n 0, 1) := by decide +kernel
theorem dX11_equal_10 : decode cX11_equal 10 = .ok (.getfield 134, 3) := by decide +kernel
theorem dX11_equal_13 : decode cX11_equal 13 = .ok (.iload 4, 2) := by decide +kernel
theorem dX11_equal_15 : decode cX11_equal 15 = .ok (.lload_n 2, 1) := by decide +kernel
theorem dX11_equal_16 : decode cX11_equal 16 = .ok (.iload_n 1, 1) := by decide +kernel
theorem dX11_equal_17 : decode cX11_equal 17 = .ok (.i2l, 1) := by decide +kernel
theorem dX11_equal_18 : decode cX11_equal 18 = .ok (.ldiv, 1) := by decide +kernel
theorem dX11_equal_19 : decode cX11_equal 19 = .ok (.iload 4, 2) := by decide +kernel
theorem dX11_equal_21 : decode cX11_equal 21 = .ok (.i2l, 1) := by decide +kernel
theorem dX11_equal_22 : decode cX11_equal 22 = .ok (.lload_n 2, 1) := by decide +kernel
theorem dX11_equal_23 : decode cX11_equal 23 = .ok (.iload_n 1, 1) := by decide +kernel
theorem dX11_equal_24 : decode cX11_equal 24 = .ok (.i2l, 1) := by decide +kernel
theorem dX11_equal_25 : decode cX11_equal 25 = .ok (.lrem, 1) := by decide +kernel
theorem dX11_equal_26 : decode cX11_equal 26 = .ok (.lcmp, 1) := by decide +kernel
theorem dX11_equal_27 : decode cX11_equal 27 = .ok (.ifCond .ge 7, 3) := by decide +kernel
theorem dX11_equal_30 : decode cX11_equal 30 = .ok (.iconst 1, 1) := by decide +kernel
theorem dX11_equal_31 : decode cX11_equal 31 = .ok (.goto 4, 3) := by decide +kernel
theorem dX11_equal_34 : decode cX11_equal 34 = .ok (.iconst 0, 1) := by decide +kernel
theorem dX11_equal_35 : decode cX11_equal 35 = .ok (.i2l, 1) := by decide +kernel
theorem dX11_equal_36 : decode cX11_equal 36 = .ok (.ladd, 1) := by decide +kernel
theorem dX11_equal_37 : decode cX11_equal 37 = .ok (.lastore, 1) := by decide +kernel
theorem dX11_equal_38 : decode cX11_equal 38 = .ok (.iinc 4 1, 3) := by decide +kernel
theorem dX11_equal_41 : decode cX11_equal 41 = .ok (.goto (-38), 3) := by decide +kernel
theorem dX11_equal_44 : decode cX11_equal 44 = .ok (.return_, 1) := by decide +kernel
theorem dX11_weights_0 : decode cX11_weights 0 = .ok (.lconst 0, 1) := by decide +kernel
theorem dX11_weights_1 : decode cX11_weights 1 = .ok (.lstore 4, 2) := by decide +kernel
theorem dX11_weights_3 : decode cX11_weights 3 = .ok (.iconst 0, 1) := by decide +kernel
theorem dX11_weights_4 : decode cX11_weights 4 = .ok (.istore 6, 2) := by decide +kernel
theorem dX11_weights_6 : decode cX11_weights 6 = .ok (.iconst 0, 1) := by decide +kernel
theorem dX11_weights_7 : decode cX11_weights 7 = .ok (.istore 7, 2) := by decide +kernel
theorem dX11_weights_9 : decode cX11_weights 9 = .ok (.iload 7, 2) := by decide +kernel
theorem dX11_weights_11 : decode cX11_weights 11 = .ok (.iload_n 1, 1) := by decide +kernel
theorem dX11_weights_12 : decode cX11_weights 12 = .ok (.if_icmp .ge 52, 3) := by decide +kernel
theorem dX11_weights_15 : decode cX11_weights 15 = .ok (.lload 4, 2) := by decide +kernel
theorem dX11_weights_17 : decode cX11_weights 17 = .ok (.aload_n 0, 1) := by decide +kernel
theorem dX11_weights_18 : decode cX11_weights 18 = .ok (.getfield 84, 3) := by decide +kernel
theorem dX11_weights_21 : decode cX11_weights 21 = .ok (.aload_n 0, 1) := by decide +kernel
theorem dX11_weights_22 : decode cX11_weights 22 = .ok (.getfield 131, 3) := by decide +kernel
theorem dX11_weights_25 : decode cX11_weights 25 = .ok (.iload 7, 2) := by decide +kernel
theorem dX11_weights_27 : decode cX11_weights 27 = .ok (.iaload, 1) := by decide +kernel
theorem dX11_weights_28 : decode cX11_weights 28 = .ok (.iaload, 1) := by decide +kernel
theorem dX11_weights_29 : decode cX11_weights 29 = .ok (.i2l, 1) := by decide +kernel
theorem dX11_weights_30 : decode cX11_weights 30 = .ok (.ladd, 1) := by decide +kernel
theorem dX11_weights_31 : decode cX11_weights 31 = .ok (.lstore 4, 2) := by decide +kernel
theorem dX11_weights_33 : decode cX11_weights 33 = .ok (.iload 6, 2) := by decide +kernel
theorem dX11_weights_35 : decode cX11_weights 35 = .ok (.aload_n 0, 1) := by decide +kernel
theorem dX11_weights_36 : decode cX11_weights 36 = .ok (.getfield 84, 3) := by decide +kernel
theorem dX11_weights_39 : decode cX11_weights 39 = .ok (.aload_n 0, 1) := by decide +kernel
theorem dX11_weights_40 : decode cX11_weights 40 = .ok (.getfield 131, 3) := by decide +kernel
theorem dX11_weights_43 : decode cX11_weights 43 = .ok (.iload 7, 2) := by decide +kernel
theorem dX11_weights_45 : decode cX11_weights 45 = .ok (.iaload, 1) := by decide +kernel
theorem dX11_weights_46 : decode cX11_weights 46 = .ok (.iaload, 1) := by decide +kernel
theorem dX11_weights_47 : decode cX11_weights 47 = .ok (.ifCond .ge 7, 3) := by decide +kernel
theorem dX11_weights_50 : decode cX11_weights 50 = .ok (.iconst 1, 1) := by decide +kernel
theorem dX11_weights_51 : decode cX11_weights 51 = .ok (.goto 4, 3) := by decide +kernel
theorem dX11_weights_54 : decode cX11_weights 54 = .ok (.iconst 0, 1) := by decide +kernel
theorem dX11_weights_55 : decode cX11_weights 55 = .ok (.ior, 1) := by decide +kernel
theorem dX11_weights_56 : decode cX11_weights 56 = .ok (.istore 6, 2) := by decide +kernel
theorem dX11_weights_58 : decode cX11_weights 58 = .ok (.iinc 7 1, 3) := by decide +kernel
theorem dX11_weights_61 : decode cX11_weights 61 = .ok (.goto (-52), 3) := by decide +kernel
theorem dX11_weights_64 : decode cX11_weights 64 = .ok (.iload 6, 2) := by decide +kernel
theorem dX11_weights_66 : decode cX11_weights 66 = .ok (.ifCond .ne 10, 3) := by decide +kernel
theorem dX11_weights_69 : decode cX11_weights 69 = .ok (.lload 4, 2) := by decide +kernel
theorem dX11_weights_71 : decode cX11_weights 71 = .ok (.lconst 0, 1) := by decide +kernel
theorem dX11_weights_72 : decode cX11_weights 72 = .ok (.lcmp, 1) := by decide +kernel
theorem dX11_weights_73 : decode cX11_weights 73 = .ok (.ifCond .gt 10, 3) := by decide +kernel
theorem dX11_weights_76 : decode cX11_weights 76 = .ok (.aload_n 0, 1) := by decide +kernel
theorem dX11_weights_77 : decode cX11_weights 77 = .ok (.iload_n 1, 1) := by decide +kernel
theorem dX11_weights_78 : decode cX11_weights 78 = .ok (.lload_n 2, 1) := by decide +kernel
theorem dX11_weights_79 : decode cX11_weights 79 = .ok (.invokevirtual 339, 3) := by decide +kernel
theorem dX11_weights_82 : decode cX11_weights 82 = .ok (.return_, 1) := by decide +kernel
theorem dX11_weights_83 : decode cX11_weights 83 = .ok (.lload_n 2, 1) := by decide +kernel
theorem dX11_weights_84 : decode cX11_weights 84 = .ok (.lstore 7, 2) := by decide +kernel
theorem dX11_weights_86 : decode cX11_weights 86 = .ok (.iconst 0, 1) := by decide +kernel
theorem dX11_weights_87 : decode cX11_weights 87 = .ok (.istore 9, 2) := by decide +kernel
theorem dX11_weights_89 : decode cX11_weights 89 = .ok (.iload 9, 2) := by decide +kernel
theorem dX11_weights_91 : decode cX11_weights 91 = .ok (.iload_n 1, 1) := by decide +kernel
theorem dX11_weights_92 : decode cX11_weights 92 = .ok (.if_icmp .ge 71, 3) := by decide +kernel
theorem dX11_weights_95 : decode cX11_weights 95 = .ok (.aload_n 0, 1) := by decide +kernel
theorem dX11_weights_96 : decode cX11_weights 96 = .ok (.getfield 134, 3) := by decide +kernel
theorem dX11_weights_99 : decode cX11_weights 99 = .ok (.iload 9, 2) := by decide +kernel
theorem dX11_weights_101 : decode cX11_weights 101 = .ok (.lload_n 2, 1) := by decide +kernel
theorem dX11_weights_102 : decode cX11_weights 102 = .ok (.aload_n 0, 1) := by decide +kernel
theorem dX11_weights_103 : decode cX11_weights 103 = .ok (.getfield 84, 3) := by decide +kernel
theorem dX11_weights_106 : decode cX11_weights 106 = .ok (.aload_n 0, 1) := by decide +kernel
theorem dX11_weights_107 : decode cX11_weights 107 = .ok (.getfield 131, 3) := by decide +kernel
theorem dX11_weights_110 : decode cX11_weights 110 = .ok (.iload 9, 2) := by decide +kernel
theorem dX11_weights_112 : decode cX11_weights 112 = .ok (.iaload, 1) := by decide +kernel
theorem dX11_weights_113 : decode cX11_weights 113 = .ok (.iaload, 1) := by decide +kernel
theorem dX11_weights_114 : decode cX11_weights 114 = .ok (.i2l, 1) := by decide +kernel
theorem dX11_weights_115 : decode cX11_weights 115 = .ok (.lmul, 1) := by decide +kernel
theorem dX11_weights_116 : decode cX11_weights 116 = .ok (.lload 4, 2) := by decide +kernel
theorem dX11_weights_118 : decode cX11_weights 118 = .ok (.ldiv, 1) := by decide +kernel
theorem dX11_weights_119 : decode cX11_weights 119 = .ok (.lastore, 1) := by decide +kernel
theorem dX11_weights_120 : decode cX11_weights 120 = .ok (.aload_n 0, 1) := by decide +kernel
theorem dX11_weights_121 : decode cX11_weights 121 = .ok (.getfield 137, 3) := by decide +kernel
theorem dX11_weights_124 : decode cX11_weights 124 = .ok (.iload 9, 2) := by decide +kernel
theorem dX11_weights_126 : decode cX11_weights 126 = .ok (.lload_n 2, 1) := by decide +kernel
theorem dX11_weights_127 : decode cX11_weights 127 = .ok (.aload_n 0, 1) := by decide +kernel
theorem dX11_weights_128 : decode cX11_weights 128 = .ok (.getfield 84, 3) := by decide +kernel
theorem dX11_weights_131 : decode cX11_weights 131 = .ok (.aload_n 0, 1) := by decide +kernel
theorem dX11_weights_132 : decode cX11_weights 132 = .ok (.getfield 131, 3) := by decide +kernel
theorem dX11_weights_135 : decode cX11_weights 135 = .ok (.iload 9, 2) := by decide +kernel
theorem dX11_weights_137 : decode cX11_weights 137 = .ok (.iaload, 1) := by decide +kernel
theorem dX11_weights_138 : decode cX11_weights 138 = .ok (.iaload, 1) := by decide +kernel
theorem dX11_weights_139 : decode cX11_weights 139 = .ok (.i2l, 1) := by decide +kernel
theorem dX11_weights_140 : decode cX11_weights 140 = .ok (.lmul, 1) := by decide +kernel
theorem dX11_weights_141 : decode cX11_weights 141 = .ok (.lload 4, 2) := by decide +kernel
theorem dX11_weights_143 : decode cX11_weights 143 = .ok (.lrem, 1) := by decide +kernel
theorem dX11_weights_144 : decode cX11_weights 144 = .ok (.lastore, 1) := by decide +kernel
theorem dX11_weights_145 : decode cX11_weights 145 = .ok (.lload 7, 2) := by decide +kernel
theorem dX11_weights_147 : decode cX11_weights 147 = .ok (.aload_n 0, 1) := by decide +kernel
theorem dX11_weights_148 : decode cX11_weights 148 = .ok (.getfield 134, 3) := by decide +kernel
theorem dX11_weights_151 : decode cX11_weights 151 = .ok (.iload 9, 2) := by decide +kernel
theorem dX11_weights_153 : decode cX11_weights 153 = .ok (.laload, 1) := by decide +kernel
theorem dX11_weights_154 : decode cX11_weights 154 = .ok (.lsub, 1) := by decide +kernel
theorem dX11_weights_155 : decode cX11_weights 155 = .ok (.lstore 7, 2) := by decide +kernel
theorem dX11_weights_157 : decode cX11_weights 157 = .ok (.iinc 9 1, 3) := by decide +kernel
theorem dX11_weights_160 : decode cX11_weights 160 = .ok (.goto (-71), 3) := by decide +kernel
theorem dX11_weights_163 : decode cX11_weights 163 = .ok (.lload 7, 2) := by decide +kernel
theorem dX11_weights_165 : decode cX11_weights 165 = .ok (.lconst 0, 1) := by decide +kernel
theorem dX11_weights_166 : decode cX11_weights 166 = .ok (.lcmp, 1) := by decide +kernel
theorem dX11_weights_167 : decode cX11_weights 167 = .ok (.ifCond .le 78, 3) := by decide +kernel
theorem dX11_weights_170 : decode cX11_weights 170 = .ok (.iconst 0, 1) := by decide +kernel
theorem dX11_weights_171 : decode cX11_weights 171 = .ok (.istore 9, 2) := by decide +kernel
theorem dX11_weights_173 : decode cX11_weights 173 = .ok (.iconst 1, 1) := by decide +kernel
theorem dX11_weights_174 : decode cX11_weights 174 = .ok (.istore 10, 2) := by decide +kernel
theorem dX11_weights_176 : decode cX11_weights 176 = .ok (.iload 10, 2) := by decide +kernel
theorem dX11_weights_178 : decode cX11_weights 178 = .ok (.iload_n 1, 1) := by decide +kernel
theorem dX11_weights_179 : decode cX11_weights 179 = .ok (.if_icmp .ge 36, 3) := by decide +kernel
theorem dX11_weights_182 : decode cX11_weights 182 = .ok (.aload_n 0, 1) := by decide +kernel
theorem dX11_weights_183 : decode cX11_weights 183 = .ok (.getfield 137, 3) := by decide +kernel
theorem dX11_weights_186 : decode cX11_weights 186 = .ok (.iload 10, 2) := by decide +kernel
theorem dX11_weights_188 : decode cX11_weights 188 = .ok (.laload, 1) := by decide +kernel
theorem dX11_weights_189 : decode cX11_weights 189 = .ok (.aload_n 0, 1) := by decide +kernel
theorem dX11_weights_190 : decode cX11_weights 190 = .ok (.getfield 137, 3) := by decide +kernel
theorem dX11_weights_193 : decode cX11_weights 193 = .ok (.iload 9, 2) := by decide +kernel
theorem dX11_weights_195 : decode cX11_weights 195 = .ok (.laload, 1) := by decide +kernel
theorem dX11_weights_196 : decode cX11_weights 196 = .ok (.lcmp, 1) := by decide +kernel
theorem dX11_weights_197 : decode cX11_weights 197 = .ok (.ifCond .le 8, 3) := by decide +kernel
theorem dX11_weights_200 : decode cX11_weights 200 = .ok (.iload 10, 2) := by decide +kernel
theorem dX11_weights_202 : decode cX11_weights 202 = .ok (.goto 5, 3) := by decide +kernel
theorem dX11_weights_205 : decode cX11_weights 205 = .ok (.iload 9, 2) := by decide +kernel
theorem dX11_weights_207 : decode cX11_weights 207 = .ok (.istore 9, 2) := by decide +kernel
theorem dX11_weights_209 : decode cX11_weights 209 = .ok (.iinc 10 1, 3) := by decide +kernel
theorem dX11_weights_212 : decode cX11_weights 212 = .ok (.goto (-36), 3) := by decide +kernel
theorem dX11_weights_215 : decode cX11_weights 215 = .ok (.aload_n 0, 1) := by decide +kernel
theorem dX11_weights_216 : decode cX11_weights 216 = .ok (.getfield 134, 3) := by decide +kernel
theorem dX11_weights_219 : decode cX11_weights 219 = .ok (.iload 9, 2) := by decide +kernel
theorem dX11_weights_221 : decode cX11_weights 221 = .ok (.dup2, 1) := by decide +kernel
theorem dX11_weights_222 : decode cX11_weights 222 = .ok (.laload, 1) := by decide +kernel
theorem dX11_weights_223 : decode cX11_weights 223 = .ok (.lconst 1, 1) := by decide +kernel
theorem dX11_weights_224 : decode cX11_weights 224 = .ok (.ladd, 1) := by decide +kernel
theorem dX11_weights_225 : decode cX11_weights 225 = .ok (.lastore, 1) := by decide +kernel
theorem dX11_weights_226 : decode cX11_weights 226 = .ok (.aload_n 0, 1) := by decide +kernel
theorem dX11_weights_227 : decode cX11_weights 227 = .ok (.getfield 137, 3) := by decide +kernel
theorem dX11_weights_230 : decode cX11_weights 230 = .ok (.iload 9, 2) := by decide +kernel
theorem dX11_weights_232 : decode cX11_weights 232 = .ok (.ldc2_w 183, 3) := by decide +kernel
theorem dX11_weights_235 : decode cX11_weights 235 = .ok (.lastore, 1) := by decide +kernel
theorem dX11_weights_236 : decode cX11_weights 236 = .ok (.lload 7, 2) := by decide +kernel
theorem dX11_weights_238 : decode cX11_weights 238 = .ok (.lconst 1, 1) := by decide +kernel
theorem dX11_weights_239 : decode cX11_weights 239 = .ok (.lsub, 1) := by decide +kernel
theorem dX11_weights_240 : decode cX11_weights 240 = .ok (.lstore 7, 2) := by decide +kernel
theorem dX11_weights_242 : decode cX11_weights 242 = .ok (.goto (-79), 3) := by decide +kernel
theorem dX11_weights_245 : decode cX11_weights 245 = .ok (.return_, 1) := by decide +kernel
theorem dX11_remains_0 : decode cX11_remains 0 = .ok (.lconst 0, 1) := by decide +kernel
theorem dX11_remains_1 : decode cX11_remains 1 = .ok (.lstore 4, 2) := by decide +kernel
theorem dX11_remains_3 : decode cX11_remains 3 = .ok (.iconst 1, 1) := by decide +kernel
theorem dX11_remains_4 : decode cX11_remains 4 = .ok (.istore 6, 2) := by decide +kernel
theorem dX11_remains_6 : decode cX11_remains 6 = .ok (.iload 6, 2) := by decide +kernel
theorem dX11_remains_8 : decode cX11_remains 8 = .ok (.iload_n 1, 1) := by decide +kernel
theorem dX11_remains_9 : decode cX11_remains 9 = .ok (.if_icmp .ge 41, 3) := by decide +kernel
theorem dX11_remains_12 : decode cX11_remains 12 = .ok (.aload_n 0, 1) := by decide +kernel
theorem dX11_remains_13 : decode cX11_remains 13 = .ok (.getfield 134, 3) := by decide +kernel
theorem dX11_remains_16 : decode cX11_remains 16 = .ok (.iload 6, 2) := by decide +kernel
theorem dX11_remains_18 : decode cX11_remains 18 = .ok (.aload_n 0, 1) := by decide +kernel
theorem dX11_remains_19 : decode cX11_remains 19 = .ok (.getfield 84, 3) := by decide +kernel
theorem dX11_remains_22 : decode cX11_remains 22 = .ok (.aload_n 0, 1) := by decide +kernel
theorem dX11_remains_23 : decode cX11_remains 23 = .ok (.getfield 131, 3) := by decide +kernel
theorem dX11_remains_26 : decode cX11_remains 26 = .ok (.iload 6, 2) := by decide +kernel
theorem dX11_remains_28 : decode cX11_remains 28 = .ok (.iaload, 1) := by decide +kernel
theorem dX11_remains_29 : decode cX11_remains 29 = .ok (.iaload, 1) := by decide +kernel
theorem dX11_remains_30 : decode cX11_remains 30 = .ok (.i2l, 1) := by decide +kernel
theorem dX11_remains_31 : decode cX11_remains 31 = .ok (.lastore, 1) := by decide +kernel
theorem dX11_remains_32 : decode cX11_remains 32 = .ok (.lload 4, 2) := by decide +kernel
theorem dX11_remains_34 : decode cX11_remains 34 = .ok (.aload_n 0, 1) := by decide +kernel
theorem dX11_remains_35 : decode cX11_remains 35 = .ok (.getfield 134, 3) := by decide +kernel
theorem dX11_remains_38 : decode cX11_remains 38 = .ok (.iload 6, 2) := by decide +kernel
theorem dX11_remains_40 : decode cX11_remains 40 = .ok (.laload, 1) := by decide +kernel
theorem dX11_remains_41 : decode cX11_remains 41 = .ok (.ladd, 1) := by decide +kernel
theorem dX11_remains_42 : decode cX11_remains 42 = .ok (.lstore 4, 2) := by decide +kernel
theorem dX11_remains_44 : decode cX11_remains 44 = .ok (.iinc 6 1, 3) := by decide +kernel
theorem dX11_remains_47 : decode cX11_remains 47 = .ok (.goto (-41), 3) := by decide +kernel
theorem dX11_remains_50 : decode cX11_remains 50 = .ok (.aload_n 0, 1) := by decide +kernel
theorem dX11_remains_51 : decode cX11_remains 51 = .ok (.getfield 134, 3) := by decide +kernel
theorem dX11_remains_54 : decode cX11_remains 54 = .ok (.iconst 0, 1) := by decide +kernel
theorem dX11_remains_55 : decode cX11_remains 55 = .ok (.lload_n 2, 1) := by decide +kernel
theorem dX11_remains_56 : decode cX11_remains 56 = .ok (.lload 4, 2) := by decide +kernel
theorem dX11_remains_58 : decode cX11_remains 58 = .ok (.lsub, 1) := by decide +kernel
theorem dX11_remains_59 : decode cX11_remains 59 = .ok (.lastore, 1) := by decide +kernel
theorem dX11_remains_60 : decode cX11_remains 60 = .ok (.return_, 1) := by decide +kernel
theorem dX11_write_0 : decode cX11_write 0 = .ok (.aload_n 0, 1) := by decide +kernel
theorem dX11_write_1 : decode cX11_write 1 = .ok (.iload_n 1, 1) := by decide +kernel
theorem dX11_write_2 : decode cX11_write 2 = .ok (.iload_n 2, 1) := by decide +kernel
theorem dX11_write_3 : decode cX11_write 3 = .ok (.iload_n 3, 1) := by decide +kernel
theorem dX11_write_4 : decode cX11_write 4 = .ok (.iload 4, 2) := by decide +kernel
theorem dX11_write_6 : decode cX11_write 6 = .ok (.invokevirtual 233, 3) := by decide +kernel
theorem dX11_write_9 : decode cX11_write 9 = .ok (.istore 7, 2) := by decide +kernel
theorem dX11_write_11 : decode cX11_write 11 = .ok (.aload_n 0, 1) := by decide +kernel
theorem dX11_write_12 : decode cX11_write 12 = .ok (.iload 5, 2) := by decide +kernel
theorem dX11_write_14 : decode cX11_write 14 = .ok (.i2l, 1) := by decide +kernel
theorem dX11_write_15 : decode cX11_write 15 = .ok (.lconst 0, 1) := by decide +kernel
theorem dX11_write_16 : decode cX11_write 16 = .ok (.ldc2_w 215, 3) := by decide +kernel
theorem dX11_write_19 : decode cX11_write 19 = .ok (.invokevirtual 145, 3) := by decide +kernel
theorem dX11_write_22 : decode cX11_write 22 = .ok (.ifCond .eq 21, 3) := by decide +kernel
theorem dX11_write_25 : decode cX11_write 25 = .ok (.aload_n 0, 1) := by decide +kernel
theorem dX11_write_26 : decode cX11_write 26 = .ok (.iload 6, 2) := by decide +kernel
theorem dX11_write_28 : decode cX11_write 28 = .ok (.i2l, 1) := by decide +kernel
theorem dX11_write_29 : decode cX11_write 29 = .ok (.lconst 0, 1) := by decide +kernel
theorem dX11_write_30 : decode cX11_write 30 = .ok (.ldc2_w 143, 3) := by decide +kernel
theorem dX11_write_33 : decode cX11_write 33 = .ok (.invokevirtual 145, 3) := by decide +kernel
theorem dX11_write_36 : decode cX11_write 36 = .ok (.ifCond .eq 7, 3) := by decide +kernel
theorem dX11_write_39 : decode cX11_write 39 = .ok (.iconst 1, 1) := by decide +kernel
theorem dX11_write_40 : decode cX11_write 40 = .ok (.goto 4, 3) := by decide +kernel
theorem dX11_write_43 : decode cX11_write 43 = .ok (.iconst 0, 1) := by decide +kernel
theorem dX11_write_44 : decode cX11_write 44 = .ok (.istore 8, 2) := by decide +kernel
theorem dX11_write_46 : decode cX11_write 46 = .ok (.iload 7, 2) := by decide +kernel
theorem dX11_write_48 : decode cX11_write 48 = .ok (.ifCond .eq 63, 3) := by decide +kernel
theorem dX11_write_51 : decode cX11_write 51 = .ok (.aload_n 0, 1) := by decide +kernel
theorem dX11_write_52 : decode cX11_write 52 = .ok (.getfield 60, 3) := by decide +kernel
theorem dX11_write_55 : decode cX11_write 55 = .ok (.iload 4, 2) := by decide +kernel
theorem dX11_write_57 : decode cX11_write 57 = .ok (.iaload, 1) := by decide +kernel
theorem dX11_write_58 : decode cX11_write 58 = .ok (.ifCond .ne 49, 3) := by decide +kernel
theorem dX11_write_61 : decode cX11_write 61 = .ok (.aload_n 0, 1) := by decide +kernel
theorem dX11_write_62 : decode cX11_write 62 = .ok (.iload_n 1, 1) := by decide +kernel
theorem dX11_write_63 : decode cX11_write 63 = .ok (.iload_n 2, 1) := by decide +kernel
theorem dX11_write_64 : decode cX11_write 64 = .ok (.iload_n 3, 1) := by decide +kernel
theorem dX11_write_65 : decode cX11_write 65 = .ok (.invokevirtual 311, 3) := by decide +kernel
theorem dX11_write_68 : decode cX11_write 68 = .ok (.ifCond .eq 39, 3) := by decide +kernel
theorem dX11_write_71 : decode cX11_write 71 = .ok (.aload_n 0, 1) := by decide +kernel
theorem dX11_write_72 : decode cX11_write 72 = .ok (.getfield 15, 3) := by decide +kernel
theorem dX11_write_75 : decode cX11_write 75 = .ok (.iload_n 1, 1) := by decide +kernel
theorem dX11_write_76 : decode cX11_write 76 = .ok (.iaload, 1) := by decide +kernel
theorem dX11_write_77 : decode cX11_write 77 = .ok (.iconst 2, 1) := by decide +kernel
theorem dX11_write_78 : decode cX11_write 78 = .ok (.if_icmp .eq 29, 3) := by decide +kernel
theorem dX11_write_81 : decode cX11_write 81 = .ok (.aload_n 0, 1) := by decide +kernel
theorem dX11_write_82 : decode cX11_write 82 = .ok (.getfield 15, 3) := by decide +kernel
theorem dX11_write_85 : decode cX11_write 85 = .ok (.bipush 12, 2) := by decide +kernel
theorem dX11_write_87 : decode cX11_write 87 = .ok (.iload_n 2, 1) := by decide +kernel
theorem dX11_write_88 : decode cX11_write 88 = .ok (.iadd, 1) := by decide +kernel
theorem dX11_write_89 : decode cX11_write 89 = .ok (.iaload, 1) := by decide +kernel
theorem dX11_write_90 : decode cX11_write 90 = .ok (.iconst 2, 1) := by decide +kernel
theorem dX11_write_91 : decode cX11_write 91 = .ok (.if_icmp .eq 16, 3) := by decide +kernel
theorem dX11_write_94 : decode cX11_write 94 = .ok (.aload_n 0, 1) := by decide +kernel
theorem dX11_write_95 : decode cX11_write 95 = .ok (.getfield 15, 3) := by decide +kernel
theorem dX11_write_98 : decode cX11_write 98 = .ok (.bipush 24, 2) := by decide +kernel
theorem dX11_write_100 : decode cX11_write 100 = .ok (.iload_n 3, 1) := by decide +kernel
theorem dX11_write_101 : decode cX11_write 101 = .ok (.iadd, 1) := by decide +kernel
theorem dX11_write_102 : decode cX11_write 102 = .ok (.iaload, 1) := by decide +kernel
theorem dX11_write_103 : decode cX11_write 103 = .ok (.iconst 2, 1) := by decide +kernel
theorem dX11_write_104 : decode cX11_write 104 = .ok (.if_icmp .ne 7, 3) := by decide +kernel
theorem dX11_write_107 : decode cX11_write 107 = .ok (.iconst 1, 1) := by decide +kernel
theorem dX11_write_108 : decode cX11_write 108 = .ok (.goto 4, 3) := by decide +kernel
theorem dX11_write_111 : decode cX11_write 111 = .ok (.iconst 0, 1) := by decide +kernel
theorem dX11_write_112 : decode cX11_write 112 = .ok (.istore 9, 2) := by decide +kernel
theorem dX11_write_114 : decode cX11_write 114 = .ok (.iload 7, 2) := by decide +kernel
theorem dX11_write_116 : decode cX11_write 116 = .ok (.ifCond .eq 25, 3) := by decide +kernel
theorem dX11_write_119 : decode cX11_write 119 = .ok (.iload 8, 2) := by decide +kernel
theorem dX11_write_121 : decode cX11_write 121 = .ok (.ifCond .eq 20, 3) := by decide +kernel
theorem dX11_write_124 : decode cX11_write 124 = .ok (.iload 9, 2) := by decide +kernel
theorem dX11_write_126 : decode cX11_write 126 = .ok (.ifCond .ne 15, 3) := by decide +kernel
theorem dX11_write_129 : decode cX11_write 129 = .ok (.aload_n 0, 1) := by decide +kernel
theorem dX11_write_130 : decode cX11_write 130 = .ok (.iload_n 1, 1) := by decide +kernel
theorem dX11_write_131 : decode cX11_write 131 = .ok (.iload_n 2, 1) := by decide +kernel
theorem dX11_write_132 : decode cX11_write 132 = .ok (.iload_n 3, 1) := by decide +kernel
theorem dX11_write_133 : decode cX11_write 133 = .ok (.iload 4, 2) := by decide +kernel
theorem dX11_write_135 : decode cX11_write 135 = .ok (.invokevirtual 343, 3) := by decide +kernel
theorem dX11_write_138 : decode cX11_write 138 = .ok (.goto 4, 3) := by decide +kernel
theorem dX11_write_141 : decode cX11_write 141 = .ok (.iconst 0, 1) := by decide +kernel
theorem dX11_write_142 : decode cX11_write 142 = .ok (.istore 10, 2) := by decide +kernel
theorem dX11_write_144 : decode cX11_write 144 = .ok (.iload 10, 2) := by decide +kernel
theorem dX11_write_146 : decode cX11_write 146 = .ok (.ifCond .le 47, 3) := by decide +kernel
theorem dX11_write_149 : decode cX11_write 149 = .ok (.iload 6, 2) := by decide +kernel
theorem dX11_write_151 : decode cX11_write 151 = .ok (.ifCond .ne 15, 3) := by decide +kernel
theorem dX11_write_154 : decode cX11_write 154 = .ok (.aload_n 0, 1) := by decide +kernel
theorem dX11_write_155 : decode cX11_write 155 = .ok (.iload 10, 2) := by decide +kernel
theorem dX11_write_157 : decode cX11_write 157 = .ok (.iload 5, 2) := by decide +kernel
theorem dX11_write_159 : decode cX11_write 159 = .ok (.i2l, 1) := by decide +kernel
theorem dX11_write_160 : decode cX11_write 160 = .ok (.invokevirtual 339, 3) := by decide +kernel
theorem dX11_write_163 : decode cX11_write 163 = .ok (.goto 30, 3) := by decide +kernel
theorem dX11_write_166 : decode cX11_write 166 = .ok (.iload 6, 2) := by decide +kernel
theorem dX11_write_168 : decode cX11_write 168 = .ok (.iconst 1, 1) := by decide +kernel
theorem dX11_write_169 : decode cX11_write 169 = .ok (.if_icmp .ne 15, 3) := by decide +kernel
theorem dX11_write_172 : decode cX11_write 172 = .ok (.aload_n 0, 1) := by decide +kernel
theorem dX11_write_173 : decode cX11_write 173 = .ok (.iload 10, 2) := by decide +kernel
theorem dX11_write_175 : decode cX11_write 175 = .ok (.iload 5, 2) := by decide +kernel
theorem dX11_write_177 : decode cX11_write 177 = .ok (.i2l, 1) := by decide +kernel
theorem dX11_write_178 : decode cX11_write 178 = .ok (.invokevirtual 346, 3) := by decide +kernel
theorem dX11_write_181 : decode cX11_write 181 = .ok (.goto 12, 3) := by decide +kernel
theorem dX11_write_184 : decode cX11_write 184 = .ok (.aload_n 0, 1) := by decide +kernel
theorem dX11_write_185 : decode cX11_write 185 = .ok (.iload 10, 2) := by decide +kernel
theorem dX11_write_187 : decode cX11_write 187 = .ok (.iload 5, 2) := by decide +kernel
theorem dX11_write_189 : decode cX11_write 189 = .ok (.i2l, 1) := by decide +kernel
theorem dX11_write_190 : decode cX11_write 190 = .ok (.invokevirtual 349, 3) := by decide +kernel
theorem dX11_write_193 : decode cX11_write 193 = .ok (.iconst 0, 1) := by decide +kernel
theorem dX11_write_194 : decode cX11_write 194 = .ok (.istore 11, 2) := by decide +kernel
theorem dX11_write_196 : decode cX11_write 196 = .ok (.iload 11, 2) := by decide +kernel
theorem dX11_write_198 : decode cX11_write 198 = .ok (.iload 10, 2) := by decide +kernel
theorem dX11_write_200 : decode cX11_write 200 = .ok (.if_icmp .ge 39, 3) := by decide +kernel
theorem dX11_write_203 : decode cX11_write 203 = .ok (.iload 9, 2) := by decide +kernel
theorem dX11_write_205 : decode cX11_write 205 = .ok (.aload_n 0, 1) := by decide +kernel
theorem dX11_write_206 : decode cX11_write 206 = .ok (.aload_n 0, 1) := by decide +kernel
theorem dX11_write_207 : decode cX11_write 207 = .ok (.getfield 134, 3) := by decide +kernel
theorem dX11_write_210 : decode cX11_write 210 = .ok (.iload 11, 2) := by decide +kernel
theorem dX11_write_212 : decode cX11_write 212 = .ok (.laload, 1) := by decide +kernel
theorem dX11_write_213 : decode cX11_write 213 = .ok (.ldc2_w 213, 3) := by decide +kernel
theorem dX11_write_216 : decode cX11_write 216 = .ok (.ldc2_w 215, 3) := by decide +kernel
theorem dX11_write_219 : decode cX11_write 219 = .ok (.invokevirtual 145, 3) := by decide +kernel
theorem dX11_write_222 : decode cX11_write 222 = .ok (.ifCond .ne 7, 3) := by decide +kernel
theorem dX11_write_225 : decode cX11_write 225 = .ok (.iconst 1, 1) := by decide +kernel
theorem dX11_write_226 : decode cX11_write 226 = .ok (.goto 4, 3) := by decide +kernel
theorem dX11_write_229 : decode cX11_write 229 = .ok (.iconst 0, 1) := by decide +kernel
theorem dX11_write_230 : decode cX11_write 230 = .ok (.ior, 1) := by decide +kernel
theorem dX11_write_231 : decode cX11_write 231 = .ok (.istore 9, 2) := by decide +kernel
theorem dX11_write_233 : decode cX11_write 233 = .ok (.iinc 11 1, 3) := by decide +kernel
theorem dX11_write_236 : decode cX11_write 236 = .ok (.goto (-40), 3) := by decide +kernel
theorem dX11_write_239 : decode cX11_write 239 = .ok (.iload 9, 2) := by decide +kernel
theorem dX11_write_241 : decode cX11_write 241 = .ok (.iload 10, 2) := by decide +kernel
theorem dX11_write_243 : decode cX11_write 243 = .ok (.ifCond .lt 49, 3) := by decide +kernel
theorem dX11_write_246 : decode cX11_write 246 = .ok (.iload 7, 2) := by decide +kernel
theorem dX11_write_248 : decode cX11_write 248 = .ok (.ifCond .eq 48, 3) := by decide +kernel
theorem dX11_write_251 : decode cX11_write 251 = .ok (.iload 10, 2) := by decide +kernel
theorem dX11_write_253 : decode cX11_write 253 = .ok (.ifCond .ne 43, 3) := by decide +kernel
theorem dX11_write_256 : decode cX11_write 256 = .ok (.aload_n 0, 1) := by decide +kernel
theorem dX11_write_257 : decode cX11_write 257 = .ok (.iconst 0, 1) := by decide +kernel
theorem dX11_write_258 : decode cX11_write 258 = .ok (.iload_n 1, 1) := by decide +kernel
theorem dX11_write_259 : decode cX11_write 259 = .ok (.invokevirtual 180, 3) := by decide +kernel
theorem dX11_write_262 : decode cX11_write 262 = .ok (.ifCond .eq 30, 3) := by decide +kernel
theorem dX11_write_265 : decode cX11_write 265 = .ok (.aload_n 0, 1) := by decide +kernel
theorem dX11_write_266 : decode cX11_write 266 = .ok (.iconst 1, 1) := by decide +kernel
theorem dX11_write_267 : decode cX11_write 267 = .ok (.iload_n 2, 1) := by decide +kernel
theorem dX11_write_268 : decode cX11_write 268 = .ok (.invokevirtual 180, 3) := by decide +kernel
theorem dX11_write_271 : decode cX11_write 271 = .ok (.ifCond .eq 21, 3) := by decide +kernel
theorem dX11_write_274 : decode cX11_write 274 = .ok (.aload_n 0, 1) := by decide +kernel
theorem dX11_write_275 : decode cX11_write 275 = .ok (.iconst 2, 1) := by decide +kernel
theorem dX11_write_276 : decode cX11_write 276 = .ok (.iload_n 3, 1) := by decide +kernel
theorem dX11_write_277 : decode cX11_write 277 = .ok (.invokevirtual 180, 3) := by decide +kernel
theorem dX11_write_280 : decode cX11_write 280 = .ok (.ifCond .eq 12, 3) := by decide +kernel
theorem dX11_write_283 : decode cX11_write 283 = .ok (.aload_n 0, 1) := by decide +kernel
theorem dX11_write_284 : decode cX11_write 284 = .ok (.getfield 230, 3) := by decide +kernel
theorem dX11_write_287 : decode cX11_write 287 = .ok (.bipush 50, 2) := by decide +kernel
theorem dX11_write_289 : decode cX11_write 289 = .ok (.if_icmp .ne 7, 3) := by decide +kernel
theorem dX11_write_292 : decode cX11_write 292 = .ok (.iconst 1, 1) := by decide +kernel
theorem dX11_write_293 : decode cX11_write 293 = .ok (.goto 4, 3) := by decide +kernel
theorem dX11_write_296 : decode cX11_write 296 = .ok (.iconst 0, 1) := by decide +kernel
theorem dX11_write_297 : decode cX11_write 297 = .ok (.ior, 1) := by decide +kernel
theorem dX11_write_298 : decode cX11_write 298 = .ok (.istore 9, 2) := by decide +kernel
theorem dX11_write_300 : decode cX11_write 300 = .ok (.aload_n 0, 1) := by decide +kernel
theorem dX11_write_301 : decode cX11_write 301 = .ok (.iload 7, 2) := by decide +kernel
theorem dX11_write_303 : decode cX11_write 303 = .ok (.ifCond .ne 7, 3) := by decide +kernel
theorem dX11_write_306 : decode cX11_write 306 = .ok (.iconst 1, 1) := by decide +kernel
theorem dX11_write_307 : decode cX11_write 307 = .ok (.goto 22, 3) := by decide +kernel
theorem dX11_write_310 : decode cX11_write 310 = .ok (.iload 8, 2) := by decide +kernel
theorem dX11_write_312 : decode cX11_write 312 = .ok (.ifCond .ne 7, 3) := by decide +kernel
theorem dX11_write_315 : decode cX11_write 315 = .ok (.iconst 2, 1) := by decide +kernel
theorem dX11_write_316 : decode cX11_write 316 = .ok (.goto 13, 3) := by decide +kernel
theorem dX11_write_319 : decode cX11_write 319 = .ok (.iload 9, 2) := by decide +kernel
theorem dX11_write_321 : decode cX11_write 321 = .ok (.ifCond .eq 7, 3) := by decide +kernel
theorem dX11_write_324 : decode cX11_write 324 = .ok (.iconst 3, 1) := by decide +kernel
theorem dX11_write_325 : decode cX11_write 325 = .ok (.goto 4, 3) := by decide +kernel
theorem dX11_write_328 : decode cX11_write 328 = .ok (.iconst 0, 1) := by decide +kernel
theorem dX11_write_329 : decode cX11_write 329 = .ok (.invokevirtual 185, 3) := by decide +kernel
theorem dX11_write_332 : decode cX11_write 332 = .ok (.ifCond .eq 5, 3) := by decide +kernel
theorem dX11_write_335 : decode cX11_write 335 = .ok (.iconst (-1), 1) := by decide +kernel
theorem dX11_write_336 : decode cX11_write 336 = .ok (.ireturn, 1) := by decide +kernel
theorem dX11_write_337 : decode cX11_write 337 = .ok (.iconst 0, 1) := by decide +kernel
theorem dX11_write_338 : decode cX11_write 338 = .ok (.istore 11, 2) := by decide +kernel
theorem dX11_write_340 : decode cX11_write 340 = .ok (.iconst 0, 1) := by decide +kernel
theorem dX11_write_341 : decode cX11_write 341 = .ok (.istore 12, 2) := by decide +kernel
theorem dX11_write_343 : decode cX11_write 343 = .ok (.iload 12, 2) := by decide +kernel
theorem dX11_write_345 : decode cX11_write 345 = .ok (.iload 10, 2) := by decide +kernel
theorem dX11_write_347 : decode cX11_write 347 = .ok (.if_icmp .ge 73, 3) := by decide +kernel
theorem dX11_write_350 : decode cX11_write 350 = .ok (.aload_n 0, 1) := by decide +kernel
theorem dX11_write_351 : decode cX11_write 351 = .ok (.getfield 131, 3) := by decide +kernel
theorem dX11_write_354 : decode cX11_write 354 = .ok (.iload 12, 2) := by decide +kernel
theorem dX11_write_356 : decode cX11_write 356 = .ok (.iaload, 1) := by decide +kernel
theorem dX11_write_357 : decode cX11_write 357 = .ok (.istore 13, 2) := by decide +kernel
theorem dX11_write_359 : decode cX11_write 359 = .ok (.iload 11, 2) := by decide +kernel
theorem dX11_write_361 : decode cX11_write 361 = .ok (.aload_n 0, 1) := by decide +kernel
theorem dX11_write_362 : decode cX11_write 362 = .ok (.iload 13, 2) := by decide +kernel
theorem dX11_write_364 : decode cX11_write 364 = .ok (.aload_n 0, 1) := by decide +kernel
theorem dX11_write_365 : decode cX11_write 365 = .ok (.getfield 72, 3) := by decide +kernel
theorem dX11_write_368 : decode cX11_write 368 = .ok (.iload 13, 2) := by decide +kernel
theorem dX11_write_370 : decode cX11_write 370 = .ok (.iaload, 1) := by decide +kernel
theorem dX11_write_371 : decode cX11_write 371 = .ok (.aload_n 0, 1) := by decide +kernel
theorem dX11_write_372 : decode cX11_write 372 = .ok (.getfield 75, 3) := by decide +kernel
theorem dX11_write_375 : decode cX11_write 375 = .ok (.iload 13, 2) := by decide +kernel
theorem dX11_write_377 : decode cX11_write 377 = .ok (.iaload, 1) := by decide +kernel
theorem dX11_write_378 : decode cX11_write 378 = .ok (.aload_n 0, 1) := by decide +kernel
theorem dX11_write_379 : decode cX11_write 379 = .ok (.getfield 78, 3) := by decide +kernel
theorem dX11_write_382 : decode cX11_write 382 = .ok (.iload 13, 2) := by decide +kernel
theorem dX11_write_384 : decode cX11_write 384 = .ok (.iaload, 1) := by decide +kernel
theorem dX11_write_385 : decode cX11_write 385 = .ok (.aload_n 0, 1) := by decide +kernel
theorem dX11_write_386 : decode cX11_write 386 = .ok (.getfield 81, 3) := by decide +kernel
theorem dX11_write_389 : decode cX11_write 389 = .ok (.iload 13, 2) := by decide +kernel
theorem dX11_write_391 : decode cX11_write 391 = .ok (.iaload, 1) := by decide +kernel
theorem dX11_write_392 : decode cX11_write 392 = .ok (.aload_n 0, 1) := by decide +kernel
theorem dX11_write_393 : decode cX11_write 393 = .ok (.getfield 134, 3) := by decide +kernel
theorem dX11_write_396 : decode cX11_write 396 = .ok (.iload 12, 2) := by decide +kernel
theorem dX11_write_398 : decode cX11_write 398 = .ok (.laload, 1) := by decide +kernel
theorem dX11_write_399 : decode cX11_write 399 = .ok (.l2i, 1) := by decide +kernel
theorem dX11_write_400 : decode cX11_write 400 = .ok (.invokevirtual 241, 3) := by decide +kernel
theorem dX11_write_403 : decode cX11_write 403 = .ok (.ifCond .eq 7, 3) := by decide +kernel
theorem dX11_write_406 : decode cX11_write 406 = .ok (.iconst 1, 1) := by decide +kernel
theorem dX11_write_407 : decode cX11_write 407 = .ok (.goto 4, 3) := by decide +kernel
theorem dX11_write_410 : decode cX11_write 410 = .ok (.iconst 0, 1) := by decide +kernel
theorem dX11_write_411 : decode cX11_write 411 = .ok (.iadd, 1) := by decide +kernel
theorem dX11_write_412 : decode cX11_write 412 = .ok (.istore 11, 2) := by decide +kernel
theorem dX11_write_414 : decode cX11_write 414 = .ok (.iinc 12 1, 3) := by decide +kernel
theorem dX11_write_417 : decode cX11_write 417 = .ok (.goto (-74), 3) := by decide +kernel
theorem dX11_write_420 : decode cX11_write 420 = .ok (.iload 10, 2) := by decide +kernel
theorem dX11_write_422 : decode cX11_write 422 = .ok (.ifCond .ne 19, 3) := by decide +kernel
theorem dX11_write_425 : decode cX11_write 425 = .ok (.aload_n 0, 1) := by decide +kernel
theorem dX11_write_426 : decode cX11_write 426 = .ok (.iconst (-1), 1) := by decide +kernel
theorem dX11_write_427 : decode cX11_write 427 = .ok (.iload_n 1, 1) := by decide +kernel
theorem dX11_write_428 : decode cX11_write 428 = .ok (.iload_n 2, 1) := by decide +kernel
theorem dX11_write_429 : decode cX11_write 429 = .ok (.iload_n 3, 1) := by decide +kernel
theorem dX11_write_430 : decode cX11_write 430 = .ok (.iload 4, 2) := by decide +kernel
theorem dX11_write_432 : decode cX11_write 432 = .ok (.iload 5, 2) := by decide +kernel
theorem dX11_write_434 : decode cX11_write 434 = .ok (.invokevirtual 241, 3) := by decide +kernel
theorem dX11_write_437 : decode cX11_write 437 = .ok (.pop, 1) := by decide +kernel
theorem dX11_write_438 : decode cX11_write 438 = .ok (.iconst 1, 1) := by decide +kernel
theorem dX11_write_439 : decode cX11_write 439 = .ok (.istore 11, 2) := by decide +kernel
theorem dX11_write_441 : decode cX11_write 441 = .ok (.iload 11, 2) := by decide +kernel
theorem dX11_write_443 : decode cX11_write 443 = .ok (.ireturn, 1) := by decide +kernel
theorem dX11_begin_0 : decode cX11_begin 0 = .ok (.aload_n 0, 1) := by decide +kernel
theorem dX11_begin_1 : decode cX11_begin 1 = .ok (.aload_n 0, 1) := by decide +kernel
theorem dX11_begin_2 : decode cX11_begin 2 = .ok (.getfield 102, 3) := by decide +kernel
theorem dX11_begin_5 : decode cX11_begin 5 = .ok (.ifCond .lt 7, 3) := by decide +kernel
theorem dX11_begin_8 : decode cX11_begin 8 = .ok (.iconst 1, 1) := by decide +kernel
theorem dX11_begin_9 : decode cX11_begin 9 = .ok (.goto 4, 3) := by decide +kernel
theorem dX11_begin_12 : decode cX11_begin 12 = .ok (.iconst 0, 1) := by decide +kernel
theorem dX11_begin_13 : decode cX11_begin 13 = .ok (.invokevirtual 185, 3) := by decide +kernel
theorem dX11_begin_16 : decode cX11_begin 16 = .ok (.ifCond .ne 87, 3) := by decide +kernel
theorem dX11_begin_19 : decode cX11_begin 19 = .ok (.aload_n 0, 1) := by decide +kernel
theorem dX11_begin_20 : decode cX11_begin 20 = .ok (.aload_n 0, 1) := by decide +kernel
theorem dX11_begin_21 : decode cX11_begin 21 = .ok (.getfield 230, 3) := by decide +kernel
theorem dX11_begin_24 : decode cX11_begin 24 = .ok (.putfield 102, 3) := by decide +kernel
theorem dX11_begin_27 : decode cX11_begin 27 = .ok (.iconst 0, 1) := by decide +kernel
theorem dX11_begin_28 : decode cX11_begin 28 = .ok (.istore_n 1, 1) := by decide +kernel
theorem dX11_begin_29 : decode cX11_begin 29 = .ok (.iload_n 1, 1) := by decide +kernel
theorem dX11_begin_30 : decode cX11_begin 30 = .ok (.aload_n 0, 1) := by decide +kernel
theorem dX11_begin_31 : decode cX11_begin 31 = .ok (.getfield 230, 3) := by decide +kernel
theorem dX11_begin_34 : decode cX11_begin 34 = .ok (.if_icmp .ge 69, 3) := by decide +kernel
theorem dX11_begin_37 : decode cX11_begin 37 = .ok (.aload_n 0, 1) := by decide +kernel
theorem dX11_begin_38 : decode cX11_begin 38 = .ok (.getfield 87, 3) := by decide +kernel
theorem dX11_begin_41 : decode cX11_begin 41 = .ok (.iload_n 1, 1) := by decide +kernel
theorem dX11_begin_42 : decode cX11_begin 42 = .ok (.aload_n 0, 1) := by decide +kernel
theorem dX11_begin_43 : decode cX11_begin 43 = .ok (.getfield 72, 3) := by decide +kernel
theorem dX11_begin_46 : decode cX11_begin 46 = .ok (.iload_n 1, 1) := by decide +kernel
theorem dX11_begin_47 : decode cX11_begin 47 = .ok (.iaload, 1) := by decide +kernel
theorem dX11_begin_48 : decode cX11_begin 48 = .ok (.iastore, 1) := by decide +kernel
theorem dX11_begin_49 : decode cX11_begin 49 = .ok (.aload_n 0, 1) := by decide +kernel
theorem dX11_begin_50 : decode cX11_begin 50 = .ok (.getfield 90, 3) := by decide +kernel
theorem dX11_begin_53 : decode cX11_begin 53 = .ok (.iload_n 1, 1) := by decide +kernel
theorem dX11_begin_54 : decode cX11_begin 54 = .ok (.aload_n 0, 1) := by decide +kernel
theorem dX11_begin_55 : decode cX11_begin 55 = .ok (.getfield 75, 3) := by decide +kernel
theorem dX11_begin_58 : decode cX11_begin 58 = .ok (.iload_n 1, 1) := by decide +kernel
theorem dX11_begin_59 : decode cX11_begin 59 = .ok (.iaload, 1) := by decide +kernel
theorem dX11_begin_60 : decode cX11_begin 60 = .ok (.iastore, 1) := by decide +kernel
theorem dX11_begin_61 : decode cX11_begin 61 = .ok (.aload_n 0, 1) := by decide +kernel
theorem dX11_begin_62 : decode cX11_begin 62 = .ok (.getfield 93, 3) := by decide +kernel
theorem dX11_begin_65 : decode cX11_begin 65 = .ok (.iload_n 1, 1) := by decide +kernel
theorem dX11_begin_66 : decode cX11_begin 66 = .ok (.aload_n 0, 1) := by decide +kernel
theorem dX11_begin_67 : decode cX11_begin 67 = .ok (.getfield 78, 3) := by decide +kernel
theorem dX11_begin_70 : decode cX11_begin 70 = .ok (.iload_n 1, 1) := by decide +kernel
theorem dX11_begin_71 : decode cX11_begin 71 = .ok (.iaload, 1) := by decide +kernel
theorem dX11_begin_72 : decode cX11_begin 72 = .ok (.iastore, 1) := by decide +kernel
theorem dX11_begin_73 : decode cX11_begin 73 = .ok (.aload_n 0, 1) := by decide +kernel
theorem dX11_begin_74 : decode cX11_begin 74 = .ok (.getfield 96, 3) := by decide +kernel
theorem dX11_begin_77 : decode cX11_begin 77 = .ok (.iload_n 1, 1) := by decide +kernel
theorem dX11_begin_78 : decode cX11_begin 78 = .ok (.aload_n 0, 1) := by decide +kernel
theorem dX11_begin_79 : decode cX11_begin 79 = .ok (.getfield 81, 3) := by decide +kernel
theorem dX11_begin_82 : decode cX11_begin 82 = .ok (.iload_n 1, 1) := by decide +kernel
theorem dX11_begin_83 : decode cX11_begin 83 = .ok (.iaload, 1) := by decide +kernel
theorem dX11_begin_84 : decode cX11_begin 84 = .ok (.iastore, 1) := by decide +kernel
theorem dX11_begin_85 : decode cX11_begin 85 = .ok (.aload_n 0, 1) := by decide +kernel
theorem dX11_begin_86 : decode cX11_begin 86 = .ok (.getfield 99, 3) := by decide +kernel
theorem dX11_begin_89 : decode cX11_begin 89 = .ok (.iload_n 1, 1) := by decide +kernel
theorem dX11_begin_90 : decode cX11_begin 90 = .ok (.aload_n 0, 1) := by decide +kernel
theorem dX11_begin_91 : decode cX11_begin 91 = .ok (.getfield 84, 3) := by decide +kernel
theorem dX11_begin_94 : decode cX11_begin 94 = .ok (.iload_n 1, 1) := by decide +kernel
theorem dX11_begin_95 : decode cX11_begin 95 = .ok (.iaload, 1) := by decide +kernel
theorem dX11_begin_96 : decode cX11_begin 96 = .ok (.iastore, 1) := by decide +kernel
theorem dX11_begin_97 : decode cX11_begin 97 = .ok (.iinc 1 1, 3) := by decide +kernel
theorem dX11_begin_100 : decode cX11_begin 100 = .ok (.goto (-71), 3) := by decide +kernel
theorem dX11_begin_103 : decode cX11_begin 103 = .ok (.return_, 1) := by decide +kernel
theorem dX11_end_0 : decode cX11_end 0 = .ok (.aload_n 0, 1) := by decide +kernel
theorem dX11_end_1 : decode cX11_end 1 = .ok (.aload_n 0, 1) := by decide +kernel
theorem dX11_end_2 : decode cX11_end 2 = .ok (.getfield 102, 3) := by decide +kernel
theorem dX11_end_5 : decode cX11_end 5 = .ok (.ifCond .ge 7, 3) := by decide +kernel
theorem dX11_end_8 : decode cX11_end 8 = .ok (.iconst 1, 1) := by decide +kernel
theorem dX11_end_9 : decode cX11_end 9 = .ok (.goto 4, 3) := by decide +kernel
theorem dX11_end_12 : decode cX11_end 12 = .ok (.iconst 0, 1) := by decide +kernel
theorem dX11_end_13 : decode cX11_end 13 = .ok (.invokevirtual 185, 3) := by decide +kernel
theorem dX11_end_16 : decode cX11_end 16 = .ok (.ifCond .eq 5, 3) := by decide +kernel
theorem dX11_end_19 : decode cX11_end 19 = .ok (.iconst (-1), 1) := by decide +kernel
theorem dX11_end_20 : decode cX11_end 20 = .ok (.ireturn, 1) := by decide +kernel
theorem dX11_end_21 : decode cX11_end 21 = .ok (.iload_n 1, 1) := by decide +kernel
theorem dX11_end_22 : decode cX11_end 22 = .ok (.ifCond .ne 66, 3) := by decide +kernel
theorem dX11_end_25 : decode cX11_end 25 = .ok (.aload_n 0, 1) := by decide +kernel
theorem dX11_end_26 : decode cX11_end 26 = .ok (.aload_n 0, 1) := by decide +kernel
theorem dX11_end_27 : decode cX11_end 27 = .ok (.getfield 102, 3) := by decide +kernel
theorem dX11_end_30 : decode cX11_end 30 = .ok (.putfield 230, 3) := by decide +kernel
theorem dX11_end_33 : decode cX11_end 33 = .ok (.iconst 0, 1) := by decide +kernel
theorem dX11_end_34 : decode cX11_end 34 = .ok (.istore_n 2, 1) := by decide +kernel
theorem dX11_end_35 : decode cX11_end 35 = .ok (.iload_n 2, 1) := by decide +kernel
theorem dX11_end_36 : decode cX11_end 36 = .ok (.aload_n 0, 1) := by decide +kernel
theorem dX11_end_37 : decode cX11_end 37 = .ok (.getfield 230, 3) := by decide +kernel
theorem dX11_end_40 : decode cX11_end 40 = .ok (.if_icmp .ge 44, 3) := by decide +kernel
theorem dX11_end_43 : decode cX11_end 43 = .ok (.aload_n 0, 1) := by decide +kernel
theorem dX11_end_44 : decode cX11_end 44 = .ok (.iload_n 2, 1) := by decide +kernel
theorem dX11_end_45 : decode cX11_end 45 = .ok (.aload_n 0, 1) := by decide +kernel
theorem dX11_end_46 : decode cX11_end 46 = .ok (.getfield 87, 3) := by decide +kernel
theorem dX11_end_49 : decode cX11_end 49 = .ok (.iload_n 2, 1) := by decide +kernel
theorem dX11_end_50 : decode cX11_end 50 = .ok (.iaload, 1) := by decide +kernel
theorem dX11_end_51 : decode cX11_end 51 = .ok (.aload_n 0, 1) := by decide +kernel
theorem dX11_end_52 : decode cX11_end 52 = .ok (.getfield 90, 3) := by decide +kernel
theorem dX11_end_55 : decode cX11_end 55 = .ok (.iload_n 2, 1) := by decide +kernel
theorem dX11_end_56 : decode cX11_end 56 = .ok (.iaload, 1) := by decide +kernel
theorem dX11_end_57 : decode cX11_end 57 = .ok (.aload_n 0, 1) := by decide +kernel
theorem dX11_end_58 : decode cX11_end 58 = .ok (.getfield 93, 3) := by decide +kernel
theorem dX11_end_61 : decode cX11_end 61 = .ok (.iload_n 2, 1) := by decide +kernel
theorem dX11_end_62 : decode cX11_end 62 = .ok (.iaload, 1) := by decide +kernel
theorem dX11_end_63 : decode cX11_end 63 = .ok (.aload_n 0, 1) := by decide +kernel
theorem dX11_end_64 : decode cX11_end 64 = .ok (.getfield 96, 3) := by decide +kernel
theorem dX11_end_67 : decode cX11_end 67 = .ok (.iload_n 2, 1) := by decide +kernel
theorem dX11_end_68 : decode cX11_end 68 = .ok (.iaload, 1) := by decide +kernel
theorem dX11_end_69 : decode cX11_end 69 = .ok (.aload_n 0, 1) := by decide +kernel
theorem dX11_end_70 : decode cX11_end 70 = .ok (.getfield 99, 3) := by decide +kernel
theorem dX11_end_73 : decode cX11_end 73 = .ok (.iload_n 2, 1) := by decide +kernel
theorem dX11_end_74 : decode cX11_end 74 = .ok (.iaload, 1) := by decide +kernel
theorem dX11_end_75 : decode cX11_end 75 = .ok (.invokevirtual 245, 3) := by decide +kernel
theorem dX11_end_78 : decode cX11_end 78 = .ok (.iinc 2 1, 3) := by decide +kernel
theorem dX11_end_81 : decode cX11_end 81 = .ok (.goto (-46), 3) := by decide +kernel
theorem dX11_end_84 : decode cX11_end 84 = .ok (.aload_n 0, 1) := by decide +kernel
theorem dX11_end_85 : decode cX11_end 85 = .ok (.invokevirtual 194, 3) := by decide +kernel
theorem dX11_end_88 : decode cX11_end 88 = .ok (.aload_n 0, 1) := by decide +kernel
theorem dX11_end_89 : decode cX11_end 89 = .ok (.iconst (-1), 1) := by decide +kernel
theorem dX11_end_90 : decode cX11_end 90 = .ok (.putfield 102, 3) := by decide +kernel
theorem dX11_end_93 : decode cX11_end 93 = .ok (.aload_n 0, 1) := by decide +kernel
theorem dX11_end_94 : decode cX11_end 94 = .ok (.getfield 230, 3) := by decide +kernel
theorem dX11_end_97 : decode cX11_end 97 = .ok (.ireturn, 1) := by decide +kernel
theorem dX11_facts_0 : decode cX11_facts 0 = .ok (.aload_n 0, 1) := by decide +kernel
theorem dX11_facts_1 : decode cX11_facts 1 = .ok (.iconst 0, 1) := by decide +kernel
theorem dX11_facts_2 : decode cX11_facts 2 = .ok (.invokevirtual 185, 3) := by decide +kernel
theorem dX11_facts_5 : decode cX11_facts 5 = .ok (.pop, 1) := by decide +kernel
theorem dX11_facts_6 : decode cX11_facts 6 = .ok (.aload_n 0, 1) := by decide +kernel
theorem dX11_facts_7 : decode cX11_facts 7 = .ok (.getfield 230, 3) := by decide +kernel
theorem dX11_facts_10 : decode cX11_facts 10 = .ok (.ireturn, 1) := by decide +kernel
theorem dJ6_bitCount_0f7a4_0 : decode cJ6_bitCount_0f7a4 0 = .ok (.iload_n 0, 1) := by decide +kernel
theorem dJ6_bitCount_0f7a4_1 : decode cJ6_bitCount_0f7a4 1 = .ok (.iload_n 0, 1) := by decide +kernel
theorem dJ6_bitCount_0f7a4_2 : decode cJ6_bitCount_0f7a4 2 = .ok (.iconst 1, 1) := by decide +kernel
theorem dJ6_bitCount_0f7a4_3 : decode cJ6_bitCount_0f7a4 3 = .ok (.iushr, 1) := by decide +kernel
theorem dJ6_bitCount_0f7a4_4 : decode cJ6_bitCount_0f7a4 4 = .ok (.ldc_w 265, 3) := by decide +kernel
theorem dJ6_bitCount_0f7a4_7 : decode cJ6_bitCount_0f7a4 7 = .ok (.iand, 1) := by decide +kernel
theorem dJ6_bitCount_0f7a4_8 : decode cJ6_bitCount_0f7a4 8 = .ok (.isub, 1) := by decide +kernel
theorem dJ6_bitCount_0f7a4_9 : decode cJ6_bitCount_0f7a4 9 = .ok (.istore_n 0, 1) := by decide +kernel
theorem dJ6_bitCount_0f7a4_10 : decode cJ6_bitCount_0f7a4 10 = .ok (.iload_n 0, 1) := by decide +kernel
theorem dJ6_bitCount_0f7a4_11 : decode cJ6_bitCount_0f7a4 11 = .ok (.ldc_w 266, 3) := by decide +kernel
theorem dJ6_bitCount_0f7a4_14 : decode cJ6_bitCount_0f7a4 14 = .ok (.iand, 1) := by decide +kernel
theorem dJ6_bitCount_0f7a4_15 : decode cJ6_bitCount_0f7a4 15 = .ok (.iload_n 0, 1) := by decide +kernel
theorem dJ6_bitCount_0f7a4_16 : decode cJ6_bitCount_0f7a4 16 = .ok (.iconst 2, 1) := by decide +kernel
theorem dJ6_bitCount_0f7a4_17 : decode cJ6_bitCount_0f7a4 17 = .ok (.iushr, 1) := by decide +kernel
theorem dJ6_bitCount_0f7a4_18 : decode cJ6_bitCount_0f7a4 18 = .ok (.ldc_w 266, 3) := by decide +kernel
theorem dJ6_bitCount_0f7a4_21 : decode cJ6_bitCount_0f7a4 21 = .ok (.iand, 1) := by decide +kernel
theorem dJ6_bitCount_0f7a4_22 : decode cJ6_bitCount_0f7a4 22 = .ok (.iadd, 1) := by decide +kernel
theorem dJ6_bitCount_0f7a4_23 : decode cJ6_bitCount_0f7a4 23 = .ok (.istore_n 0, 1) := by decide +kernel
theorem dJ6_bitCount_0f7a4_24 : decode cJ6_bitCount_0f7a4 24 = .ok (.iload_n 0, 1) := by decide +kernel
theorem dJ6_bitCount_0f7a4_25 : decode cJ6_bitCount_0f7a4 25 = .ok (.iload_n 0, 1) := by decide +kernel
theorem dJ6_bitCount_0f7a4_26 : decode cJ6_bitCount_0f7a4 26 = .ok (.iconst 4, 1) := by decide +kernel
theorem dJ6_bitCount_0f7a4_27 : decode cJ6_bitCount_0f7a4 27 = .ok (.iushr, 1) := by decide +kernel
theorem dJ6_bitCount_0f7a4_28 : decode cJ6_bitCount_0f7a4 28 = .ok (.iadd, 1) := by decide +kernel
theorem dJ6_bitCount_0f7a4_29 : decode cJ6_bitCount_0f7a4 29 = .ok (.ldc_w 267, 3) := by decide +kernel
theorem dJ6_bitCount_0f7a4_32 : decode cJ6_bitCount_0f7a4 32 = .ok (.iand, 1) := by decide +kernel
theorem dJ6_bitCount_0f7a4_33 : decode cJ6_bitCount_0f7a4 33 = .ok (.istore_n 0, 1) := by decide +kernel
theorem dJ6_bitCount_0f7a4_34 : decode cJ6_bitCount_0f7a4 34 = .ok (.iload_n 0, 1) := by decide +kernel
theorem dJ6_bitCount_0f7a4_35 : decode cJ6_bitCount_0f7a4 35 = .ok (.iload_n 0, 1) := by decide +kernel
theorem dJ6_bitCount_0f7a4_36 : decode cJ6_bitCount_0f7a4 36 = .ok (.bipush 8, 2) := by decide +kernel
theorem dJ6_bitCount_0f7a4_38 : decode cJ6_bitCount_0f7a4 38 = .ok (.iushr, 1) := by decide +kernel
theorem dJ6_bitCount_0f7a4_39 : decode cJ6_bitCount_0f7a4 39 = .ok (.iadd, 1) := by decide +kernel
theorem dJ6_bitCount_0f7a4_40 : decode cJ6_bitCount_0f7a4 40 = .ok (.istore_n 0, 1) := by decide +kernel
theorem dJ6_bitCount_0f7a4_41 : decode cJ6_bitCount_0f7a4 41 = .ok (.iload_n 0, 1) := by decide +kernel
theorem dJ6_bitCount_0f7a4_42 : decode cJ6_bitCount_0f7a4 42 = .ok (.iload_n 0, 1) := by decide +kernel
theorem dJ6_bitCount_0f7a4_43 : decode cJ6_bitCount_0f7a4 43 = .ok (.bipush 16, 2) := by decide +kernel
theorem dJ6_bitCount_0f7a4_45 : decode cJ6_bitCount_0f7a4 45 = .ok (.iushr, 1) := by decide +kernel
theorem dJ6_bitCount_0f7a4_46 : decode cJ6_bitCount_0f7a4 46 = .ok (.iadd, 1) := by decide +kernel
theorem dJ6_bitCount_0f7a4_47 : decode cJ6_bitCount_0f7a4 47 = .ok (.istore_n 0, 1) := by decide +kernel
theorem dJ6_bitCount_0f7a4_48 : decode cJ6_bitCount_0f7a4 48 = .ok (.iload_n 0, 1) := by decide +kernel
theorem dJ6_bitCount_0f7a4_49 : decode cJ6_bitCount_0f7a4 49 = .ok (.bipush 63, 2) := by decide +kernel
theorem dJ6_bitCount_0f7a4_51 : decode cJ6_bitCount_0f7a4 51 = .ok (.iand, 1) := by decide +kernel
theorem dJ6_bitCount_0f7a4_52 : decode cJ6_bitCount_0f7a4 52 = .ok (.ireturn, 1) := by decide +kernel
theorem dJ9_abs_067f4_0 : decode cJ9_abs_067f4 0 = .ok (.lload_n 0, 1) := by decide +kernel
theorem dJ9_abs_067f4_1 : decode cJ9_abs_067f4 1 = .ok (.lconst 0, 1) := by decide +kernel
theorem dJ9_abs_067f4_2 : decode cJ9_abs_067f4 2 = .ok (.lcmp, 1) := by decide +kernel
theorem dJ9_abs_067f4_3 : decode cJ9_abs_067f4 3 = .ok (.ifCond .ge 8, 3) := by decide +kernel
theorem dJ9_abs_067f4_6 : decode cJ9_abs_067f4 6 = .ok (.lload_n 0, 1) := by decide +kernel
theorem dJ9_abs_067f4_7 : decode cJ9_abs_067f4 7 = .ok (.lneg, 1) := by decide +kernel
theorem dJ9_abs_067f4_8 : decode cJ9_abs_067f4 8 = .ok (.goto 4, 3) := by decide +kernel
theorem dJ9_abs_067f4_11 : decode cJ9_abs_067f4 11 = .ok (.lload_n 0, 1) := by decide +kernel
theorem dJ9_abs_067f4_12 : decode cJ9_abs_067f4 12 = .ok (.lreturn, 1) := by decide +kernel
theorem dJ9_max_7cf53_0 : decode cJ9_max_7cf53 0 = .ok (.iload_n 0, 1) := by decide +kernel
theorem dJ9_max_7cf53_1 : decode cJ9_max_7cf53 1 = .ok (.iload_n 1, 1) := by decide +kernel
theorem dJ9_max_7cf53_2 : decode cJ9_max_7cf53 2 = .ok (.if_icmp .lt 7, 3) := by decide +kernel
theorem dJ9_max_7cf53_5 : decode cJ9_max_7cf53 5 = .ok (.iload_n 0, 1) := by decide +kernel
theorem dJ9_max_7cf53_6 : decode cJ9_max_7cf53 6 = .ok (.goto 4, 3) := by decide +kernel
theorem dJ9_max_7cf53_9 : decode cJ9_max_7cf53 9 = .ok (.iload_n 1, 1) := by decide +kernel
theorem dJ9_max_7cf53_10 : decode cJ9_max_7cf53 10 = .ok (.ireturn, 1) := by decide +kernel
theorem dJ9_max_f86c9_0 : decode cJ9_max_f86c9 0 = .ok (.lload_n 0, 1) := by decide +kernel
theorem dJ9_max_f86c9_1 : decode cJ9_max_f86c9 1 = .ok (.lload_n 2, 1) := by decide +kernel
theorem dJ9_max_f86c9_2 : decode cJ9_max_f86c9 2 = .ok (.lcmp, 1) := by decide +kernel
theorem dJ9_max_f86c9_3 : decode cJ9_max_f86c9 3 = .ok (.ifCond .lt 7, 3) := by decide +kernel
theorem dJ9_max_f86c9_6 : decode cJ9_max_f86c9 6 = .ok (.lload_n 0, 1) := by decide +kernel
theorem dJ9_max_f86c9_7 : decode cJ9_max_f86c9 7 = .ok (.goto 4, 3) := by decide +kernel
theorem dJ9_max_f86c9_10 : decode cJ9_max_f86c9 10 = .ok (.lload_n 2, 1) := by decide +kernel
theorem dJ9_max_f86c9_11 : decode cJ9_max_f86c9 11 = .ok (.lreturn, 1) := by decide +kernel
theorem dJ9_min_7cf53_0 : decode cJ9_min_7cf53 0 = .ok (.iload_n 0, 1) := by decide +kernel
theorem dJ9_min_7cf53_1 : decode cJ9_min_7cf53 1 = .ok (.iload_n 1, 1) := by decide +kernel
theorem dJ9_min_7cf53_2 : decode cJ9_min_7cf53 2 = .ok (.if_icmp .gt 7, 3) := by decide +kernel
theorem dJ9_min_7cf53_5 : decode cJ9_min_7cf53 5 = .ok (.iload_n 0, 1) := by decide +kernel
theorem dJ9_min_7cf53_6 : decode cJ9_min_7cf53 6 = .ok (.goto 4, 3) := by decide +kernel
theorem dJ9_min_7cf53_9 : decode cJ9_min_7cf53 9 = .ok (.iload_n 1, 1) := by decide +kernel
theorem dJ9_min_7cf53_10 : decode cJ9_min_7cf53 10 = .ok (.ireturn, 1) := by decide +kernel
theorem dJ9_min_f86c9_0 : decode cJ9_min_f86c9 0 = .ok (.lload_n 0, 1) := by decide +kernel
theorem dJ9_min_f86c9_1 : decode cJ9_min_f86c9 1 = .ok (.lload_n 2, 1) := by decide +kernel
theorem dJ9_min_f86c9_2 : decode cJ9_min_f86c9 2 = .ok (.lcmp, 1) := by decide +kernel
theorem dJ9_min_f86c9_3 : decode cJ9_min_f86c9 3 = .ok (.ifCond .gt 7, 3) := by decide +kernel
theorem dJ9_min_f86c9_6 : decode cJ9_min_f86c9 6 = .ok (.lload_n 0, 1) := by decide +kernel
theorem dJ9_min_f86c9_7 : decode cJ9_min_f86c9 7 = .ok (.goto 4, 3) := by decide +kernel
theorem dJ9_min_f86c9_10 : decode cJ9_min_f86c9 10 = .ok (.lload_n 2, 1) := by decide +kernel
theorem dJ9_min_f86c9_11 : decode cJ9_min_f86c9 11 = .ok (.lreturn, 1) := by decide +kernel
theorem dJ7_fill_53178_0 : decode cJ7_fill_53178 0 = .ok (.iconst 0, 1) := by decide +kernel
theorem dJ7_fill_53178_1 : decode cJ7_fill_53178 1 = .ok (.istore_n 2, 1) := by decide +kernel
theorem dJ7_fill_53178_2 : decode cJ7_fill_53178 2 = .ok (.aload_n 0, 1) := by decide +kernel
theorem dJ7_fill_53178_3 : decode cJ7_fill_53178 3 = .ok (.arraylength, 1) := by decide +kernel
theorem dJ7_fill_53178_4 : decode cJ7_fill_53178 4 = .ok (.istore_n 3, 1) := by decide +kernel
theorem dJ7_fill_53178_5 : decode cJ7_fill_53178 5 = .ok (.iload_n 2, 1) := by decide +kernel
theorem dJ7_fill_53178_6 : decode cJ7_fill_53178 6 = .ok (.iload_n 3, 1) := by decide +kernel
theorem dJ7_fill_53178_7 : decode cJ7_fill_53178 7 = .ok (.if_icmp .ge 13, 3) := by decide +kernel
theorem dJ7_fill_53178_10 : decode cJ7_fill_53178 10 = .ok (.aload_n 0, 1) := by decide +kernel
theorem dJ7_fill_53178_11 : decode cJ7_fill_53178 11 = .ok (.iload_n 2, 1) := by decide +kernel
theorem dJ7_fill_53178_12 : decode cJ7_fill_53178 12 = .ok (.iload_n 1, 1) := by decide +kernel
theorem dJ7_fill_53178_13 : decode cJ7_fill_53178 13 = .ok (.iastore, 1) := by decide +kernel
theorem dJ7_fill_53178_14 : decode cJ7_fill_53178 14 = .ok (.iinc 2 1, 3) := by decide +kernel
theorem dJ7_fill_53178_17 : decode cJ7_fill_53178 17 = .ok (.goto (-12), 3) := by decide +kernel
theorem dJ7_fill_53178_20 : decode cJ7_fill_53178 20 = .ok (.return_, 1) := by decide +kernel
theorem dL_member_0 : decode cL_member 0 = .ok (.aload 4, 2) := by decide +kernel
theorem dL_member_2 : decode cL_member 2 = .ok (.iconst 0, 1) := by decide +kernel
theorem dL_member_3 : decode cL_member 3 = .ok (.aload_n 0, 1) := by decide +kernel
theorem dL_member_4 : decode cL_member 4 = .ok (.iload_n 1, 1) := by decide +kernel
theorem dL_member_5 : decode cL_member 5 = .ok (.iload_n 2, 1) := by decide +kernel
theorem dL_member_6 : decode cL_member 6 = .ok (.iload_n 3, 1) := by decide +kernel
theorem dL_member_7 : decode cL_member 7 = .ok (.invokevirtual 7, 3) := by decide +kernel
theorem dL_member_10 : decode cL_member 10 = .ok (.i2l, 1) := by decide +kernel
theorem dL_member_11 : decode cL_member 11 = .ok (.lastore, 1) := by decide +kernel
theorem dL_member_12 : decode cL_member 12 = .ok (.goto 15, 3) := by decide +kernel
theorem dL_member_15 : decode cL_member 15 = .ok (.astore 5, 2) := by decide +kernel
theorem dL_member_17 : decode cL_member 17 = .ok (.iconst 1, 1) := by decide +kernel
theorem dL_member_18 : decode cL_member 18 = .ok (.ireturn, 1) := by decide +kernel
theorem dL_member_19 : decode cL_member 19 = .ok (.astore 5, 2) := by decide +kernel
theorem dL_member_21 : decode cL_member 21 = .ok (.iconst 2, 1) := by decide +kernel
theorem dL_member_22 : decode cL_member 22 = .ok (.ireturn, 1) := by decide +kernel
theorem dL_member_23 : decode cL_member 23 = .ok (.astore 5, 2) := by decide +kernel
theorem dL_member_25 : decode cL_member 25 = .ok (.iconst 3, 1) := by decide +kernel
theorem dL_member_26 : decode cL_member 26 = .ok (.ireturn, 1) := by decide +kernel
theorem dL_member_27 : decode cL_member 27 = .ok (.iconst 0, 1) := by decide +kernel
theorem dL_member_28 : decode cL_member 28 = .ok (.ireturn, 1) := by decide +kernel
theorem dL_bridge_0 : decode cL_bridge 0 = .ok (.aload_n 3, 1) := by decide +kernel
theorem dL_bridge_1 : decode cL_bridge 1 = .ok (.iconst 0, 1) := by decide +kernel
theorem dL_bridge_2 : decode cL_bridge 2 = .ok (.aload_n 0, 1) := by decide +kernel
theorem dL_bridge_3 : decode cL_bridge 3 = .ok (.iload_n 1, 1) := by decide +kernel
theorem dL_bridge_4 : decode cL_bridge 4 = .ok (.iload_n 2, 1) := by decide +kernel
theorem dL_bridge_5 : decode cL_bridge 5 = .ok (.invokevirtual 19, 3) := by decide +kernel
theorem dL_bridge_8 : decode cL_bridge 8 = .ok (.i2l, 1) := by decide +kernel
theorem dL_bridge_9 : decode cL_bridge 9 = .ok (.lastore, 1) := by decide +kernel
theorem dL_bridge_10 : decode cL_bridge 10 = .ok (.goto 15, 3) := by decide +kernel
theorem dL_bridge_13 : decode cL_bridge 13 = .ok (.astore 4, 2) := by decide +kernel
theorem dL_bridge_15 : decode cL_bridge 15 = .ok (.iconst 1, 1) := by decide +kernel
theorem dL_bridge_16 : decode cL_bridge 16 = .ok (.ireturn, 1) := by decide +kernel
theorem dL_bridge_17 : decode cL_bridge 17 = .ok (.astore 4, 2) := by decide +kernel
theorem dL_bridge_19 : decode cL_bridge 19 = .ok (.iconst 2, 1) := by decide +kernel
theorem dL_bridge_20 : decode cL_bridge 20 = .ok (.ireturn, 1) := by decide +kernel
theorem dL_bridge_21 : decode cL_bridge 21 = .ok (.astore 4, 2) := by decide +kernel
theorem dL_bridge_23 : decode cL_bridge 23 = .ok (.iconst 3, 1) := by decide +kernel
theorem dL_bridge_24 : decode cL_bridge 24 = .ok (.ireturn, 1) := by decide +kernel
theorem dL_bridge_25 : decode cL_bridge 25 = .ok (.iconst 0, 1) := by decide +kernel
theorem dL_bridge_26 : decode cL_bridge 26 = .ok (.ireturn, 1) := by decide +kernel
theorem dL_move_0 : decode cL_move 0 = .ok (.aload 5, 2) := by decide +kernel
theorem dL_move_2 : decode cL_move 2 = .ok (.iconst 0, 1) := by decide +kernel
theorem dL_move_3 : decode cL_move 3 = .ok (.aload_n 0, 1) := by decide +kernel
theorem dL_move_4 : decode cL_move 4 = .ok (.iload_n 1, 1) := by decide +kernel
theorem dL_move_5 : decode cL_move 5 = .ok (.iload_n 2, 1) := by decide +kernel
theorem dL_move_6 : decode cL_move 6 = .ok (.iload_n 3, 1) := by decide +kernel
theorem dL_move_7 : decode cL_move 7 = .ok (.iload 4, 2) := by decide +kernel
theorem dL_move_9 : decode cL_move 9 = .ok (.invokevirtual 23, 3) := by decide +kernel
theorem dL_move_12 : decode cL_move 12 = .ok (.i2l, 1) := by decide +kernel
theorem dL_move_13 : decode cL_move 13 = .ok (.lastore, 1) := by decide +kernel
theorem dL_move_14 : decode cL_move 14 = .ok (.goto 11, 3) := by decide +kernel
theorem dL_move_17 : decode cL_move 17 = .ok (.astore 6, 2) := by decide +kernel
theorem dL_move_19 : decode cL_move 19 = .ok (.iconst 1, 1) := by decide +kernel
theorem dL_move_20 : decode cL_move 20 = .ok (.ireturn, 1) := by decide +kernel
theorem dL_move_21 : decode cL_move 21 = .ok (.astore 6, 2) := by decide +kernel
theorem dL_move_23 : decode cL_move 23 = .ok (.iconst 2, 1) := by decide +kernel
theorem dL_move_24 : decode cL_move 24 = .ok (.ireturn, 1) := by decide +kernel
theorem dL_move_25 : decode cL_move 25 = .ok (.iconst 0, 1) := by decide +kernel
theorem dL_move_26 : decode cL_move 26 = .ok (.ireturn, 1) := by decide +kernel
theorem dL_memberAt_0 : decode cL_memberAt 0 = .ok (.aload 4, 2) := by decide +kernel
theorem dL_memberAt_2 : decode cL_memberAt 2 = .ok (.iconst 0, 1) := by decide +kernel
theorem dL_memberAt_3 : decode cL_memberAt 3 = .ok (.aload_n 0, 1) := by decide +kernel
theorem dL_memberAt_4 : decode cL_memberAt 4 = .ok (.iload_n 1, 1) := by decide +kernel
theorem dL_memberAt_5 : decode cL_memberAt 5 = .ok (.iload_n 2, 1) := by decide +kernel
theorem dL_memberAt_6 : decode cL_memberAt 6 = .ok (.iload_n 3, 1) := by decide +kernel
theorem dL_memberAt_7 : decode cL_memberAt 7 = .ok (.invokevirtual 27, 3) := by decide +kernel
theorem dL_memberAt_10 : decode cL_memberAt 10 = .ok (.i2l, 1) := by decide +kernel
theorem dL_memberAt_11 : decode cL_memberAt 11 = .ok (.lastore, 1) := by decide +kernel
theorem dL_memberAt_12 : decode cL_memberAt 12 = .ok (.goto 11, 3) := by decide +kernel
theorem dL_memberAt_15 : decode cL_memberAt 15 = .ok (.astore 5, 2) := by decide +kernel
theorem dL_memberAt_17 : decode cL_memberAt 17 = .ok (.iconst 1, 1) := by decide +kernel
theorem dL_memberAt_18 : decode cL_memberAt 18 = .ok (.ireturn, 1) := by decide +kernel
theorem dL_memberAt_19 : decode cL_memberAt 19 = .ok (.astore 5, 2) := by decide +kernel
theorem dL_memberAt_21 : decode cL_memberAt 21 = .ok (.iconst 2, 1) := by decide +kernel
theorem dL_memberAt_22 : decode cL_memberAt 22 = .ok (.ireturn, 1) := by decide +kernel
theorem dL_memberAt_23 : decode cL_memberAt 23 = .ok (.iconst 0, 1) := by decide +kernel
theorem dL_memberAt_24 : decode cL_memberAt 24 = .ok (.ireturn, 1) := by decide +kernel
theorem dL_word_0 : decode cL_word 0 = .ok (.aload 4, 2) := by decide +kernel
theorem dL_word_2 : decode cL_word 2 = .ok (.iconst 0, 1) := by decide +kernel
theorem dL_word_3 : decode cL_word 3 = .ok (.aload_n 0, 1) := by decide +kernel
theorem dL_word_4 : decode cL_word 4 = .ok (.iload_n 1, 1) := by decide +kernel
theorem dL_word_5 : decode cL_word 5 = .ok (.iload_n 2, 1) := by decide +kernel
theorem dL_word_6 : decode cL_word 6 = .ok (.iload_n 3, 1) := by decide +kernel
theorem dL_word_7 : decode cL_word 7 = .ok (.invokevirtual 30, 3) := by decide +kernel
theorem dL_word_10 : decode cL_word 10 = .ok (.i2l, 1) := by decide +kernel
theorem dL_word_11 : decode cL_word 11 = .ok (.lastore, 1) := by decide +kernel
theorem dL_word_12 : decode cL_word 12 = .ok (.goto 11, 3) := by decide +kernel
theorem dL_word_15 : decode cL_word 15 = .ok (.astore 5, 2) := by decide +kernel
theorem dL_word_17 : decode cL_word 17 = .ok (.iconst 1, 1) := by decide +kernel
theorem dL_word_18 : decode cL_word 18 = .ok (.ireturn, 1) := by decide +kernel
theorem dL_word_19 : decode cL_word 19 = .ok (.astore 5, 2) := by decide +kernel
theorem dL_word_21 : decode cL_word 21 = .ok (.iconst 2, 1) := by decide +kernel
theorem dL_word_22 : decode cL_word 22 = .ok (.ireturn, 1) := by decide +kernel
theorem dL_word_23 : decode cL_word 23 = .ok (.iconst 0, 1) := by decide +kernel
theorem dL_word_24 : decode cL_word 24 = .ok (.ireturn, 1) := by decide +kernel
theorem dL_calculate_0 : decode cL_calculate 0 = .ok (.aload_n 3, 1) := by decide +kernel
theorem dL_calculate_1 : decode cL_calculate 1 = .ok (.iconst 0, 1) := by decide +kernel
theorem dL_calculate_2 : decode cL_calculate 2 = .ok (.aload_n 0, 1) := by decide +kernel
theorem dL_calculate_3 : decode cL_calculate 3 = .ok (.iload_n 1, 1) := by decide +kernel
theorem dL_calculate_4 : decode cL_calculate 4 = .ok (.iload_n 2, 1) := by decide +kernel
theorem dL_calculate_5 : decode cL_calculate 5 = .ok (.invokevirtual 33, 3) := by decide +kernel
theorem dL_calculate_8 : decode cL_calculate 8 = .ok (.i2l, 1) := by decide +kernel
theorem dL_calculate_9 : decode cL_calculate 9 = .ok (.lastore, 1) := by decide +kernel
theorem dL_calculate_10 : decode cL_calculate 10 = .ok (.goto 15, 3) := by decide +kernel
theorem dL_calculate_13 : decode cL_calculate 13 = .ok (.astore 4, 2) := by decide +kernel
theorem dL_calculate_15 : decode cL_calculate 15 = .ok (.iconst 1, 1) := by decide +kernel
theorem dL_calculate_16 : decode cL_calculate 16 = .ok (.ireturn, 1) := by decide +kernel
theorem dL_calculate_17 : decode cL_calculate 17 = .ok (.astore 4, 2) := by decide +kernel
theorem dL_calculate_19 : decode cL_calculate 19 = .ok (.iconst 2, 1) := by decide +kernel
theorem dL_calculate_20 : decode cL_calculate 20 = .ok (.ireturn, 1) := by decide +kernel
theorem dL_calculate_21 : decode cL_calculate 21 = .ok (.astore 4, 2) := by decide +kernel
theorem dL_calculate_23 : decode cL_calculate 23 = .ok (.iconst 3, 1) := by decide +kernel
theorem dL_calculate_24 : decode cL_calculate 24 = .ok (.ireturn, 1) := by decide +kernel
theorem dL_calculate_25 : decode cL_calculate 25 = .ok (.iconst 0, 1) := by decide +kernel
theorem dL_calculate_26 : decode cL_calculate 26 = .ok (.ireturn, 1) := by decide +kernel
theorem dL_hide_0 : decode cL_hide 0 = .ok (.aload 4, 2) := by decide +kernel
theorem dL_hide_2 : decode cL_hide 2 = .ok (.iconst 0, 1) := by decide +kernel
theorem dL_hide_3 : decode cL_hide 3 = .ok (.aload_n 0, 1) := by decide +kernel
theorem dL_hide_4 : decode cL_hide 4 = .ok (.iload_n 1, 1) := by decide +kernel
theorem dL_hide_5 : decode cL_hide 5 = .ok (.iload_n 2, 1) := by decide +kernel
theorem dL_hide_6 : decode cL_hide 6 = .ok (.iload_n 3, 1) := by decide +kernel
theorem dL_hide_7 : decode cL_hide 7 = .ok (.invokevirtual 36, 3) := by decide +kernel
theorem dL_hide_10 : decode cL_hide 10 = .ok (.ifCond .eq 7, 3) := by decide +kernel
theorem dL_hide_13 : decode cL_hide 13 = .ok (.lconst 1, 1) := by decide +kernel
theorem dL_hide_14 : decode cL_hide 14 = .ok (.goto 4, 3) := by decide +kernel
theorem dL_hide_17 : decode cL_hide 17 = .ok (.lconst 0, 1) := by decide +kernel
theorem dL_hide_18 : decode cL_hide 18 = .ok (.lastore, 1) := by decide +kernel
theorem dL_hide_19 : decode cL_hide 19 = .ok (.goto 11, 3) := by decide +kernel
theorem dL_hide_22 : decode cL_hide 22 = .ok (.astore 5, 2) := by decide +kernel
theorem dL_hide_24 : decode cL_hide 24 = .ok (.iconst 1, 1) := by decide +kernel
theorem dL_hide_25 : decode cL_hide 25 = .ok (.ireturn, 1) := by decide +kernel
theorem dL_hide_26 : decode cL_hide 26 = .ok (.astore 5, 2) := by decide +kernel
theorem dL_hide_28 : decode cL_hide 28 = .ok (.iconst 2, 1) := by decide +kernel
theorem dL_hide_29 : decode cL_hide 29 = .ok (.ireturn, 1) := by decide +kernel
theorem dL_hide_30 : decode cL_hide 30 = .ok (.iconst 0, 1) := by decide +kernel
theorem dL_hide_31 : decode cL_hide 31 = .ok (.ireturn, 1) := by decide +kernel
theorem dL_measure_0 : decode cL_measure 0 = .ok (.aload 4, 2) := by decide +kernel
theorem dL_measure_2 : decode cL_measure 2 = .ok (.iconst 0, 1) := by decide +kernel
theorem dL_measure_3 : decode cL_measure 3 = .ok (.aload_n 0, 1) := by decide +kernel
theorem dL_measure_4 : decode cL_measure 4 = .ok (.iload_n 1, 1) := by decide +kernel
theorem dL_measure_5 : decode cL_measure 5 = .ok (.iload_n 2, 1) := by decide +kernel
theorem dL_measure_6 : decode cL_measure 6 = .ok (.iload_n 3, 1) := by decide +kernel
theorem dL_measure_7 : decode cL_measure 7 = .ok (.invokevirtual 40, 3) := by decide +kernel
theorem dL_measure_10 : decode cL_measure 10 = .ok (.i2l, 1) := by decide +kernel
theorem dL_measure_11 : decode cL_measure 11 = .ok (.lastore, 1) := by decide +kernel
theorem dL_measure_12 : decode cL_measure 12 = .ok (.goto 15, 3) := by decide +kernel
theorem dL_measure_15 : decode cL_measure 15 = .ok (.astore 5, 2) := by decide +kernel
theorem dL_measure_17 : decode cL_measure 17 = .ok (.iconst 1, 1) := by decide +kernel
theorem dL_measure_18 : decode cL_measure 18 = .ok (.ireturn, 1) := by decide +kernel
theorem dL_measure_19 : decode cL_measure 19 = .ok (.astore 5, 2) := by decide +kernel
theorem dL_measure_21 : decode cL_measure 21 = .ok (.iconst 2, 1) := by decide +kernel
theorem dL_measure_22 : decode cL_measure 22 = .ok (.ireturn, 1) := by decide +kernel
theorem dL_measure_23 : decode cL_measure 23 = .ok (.astore 5, 2) := by decide +kernel
theorem dL_measure_25 : decode cL_measure 25 = .ok (.iconst 3, 1) := by decide +kernel
theorem dL_measure_26 : decode cL_measure 26 = .ok (.ireturn, 1) := by decide +kernel
theorem dL_measure_27 : decode cL_measure 27 = .ok (.iconst 0, 1) := by decide +kernel
theorem dL_measure_28 : decode cL_measure 28 = .ok (.ireturn, 1) := by decide +kernel
theorem dL_from_0 : decode cL_from 0 = .ok (.aload 4, 2) := by decide +kernel
theorem dL_from_2 : decode cL_from 2 = .ok (.iconst 0, 1) := by decide +kernel
theorem dL_from_3 : decode cL_from 3 = .ok (.aload_n 0, 1) := by decide +kernel
theorem dL_from_4 : decode cL_from 4 = .ok (.iload_n 1, 1) := by decide +kernel
theorem dL_from_5 : decode cL_from 5 = .ok (.iload_n 2, 1) := by decide +kernel
theorem dL_from_6 : decode cL_from 6 = .ok (.iload_n 3, 1) := by decide +kernel
theorem dL_from_7 : decode cL_from 7 = .ok (.invokevirtual 43, 3) := by decide +kernel
theorem dL_from_10 : decode cL_from 10 = .ok (.i2l, 1) := by decide +kernel
theorem dL_from_11 : decode cL_from 11 = .ok (.lastore, 1) := by decide +kernel
theorem dL_from_12 : decode cL_from 12 = .ok (.goto 11, 3) := by decide +kernel
theorem dL_from_15 : decode cL_from 15 = .ok (.astore 5, 2) := by decide +kernel
theorem dL_from_17 : decode cL_from 17 = .ok (.iconst 1, 1) := by decide +kernel
theorem dL_from_18 : decode cL_from 18 = .ok (.ireturn, 1) := by decide +kernel
theorem dL_from_19 : decode cL_from 19 = .ok (.astore 5, 2) := by decide +kernel
theorem dL_from_21 : decode cL_from 21 = .ok (.iconst 2, 1) := by decide +kernel
theorem dL_from_22 : decode cL_from 22 = .ok (.ireturn, 1) := by decide +kernel
theorem dL_from_23 : decode cL_from 23 = .ok (.iconst 0, 1) := by decide +kernel
theorem dL_from_24 : decode cL_from 24 = .ok (.ireturn, 1) := by decide +kernel
theorem dL_fact_0 : decode cL_fact 0 = .ok (.aload 6, 2) := by decide +kernel
theorem dL_fact_2 : decode cL_fact 2 = .ok (.iconst 0, 1) := by decide +kernel
theorem dL_fact_3 : decode cL_fact 3 = .ok (.aload_n 0, 1) := by decide +kernel
theorem dL_fact_4 : decode cL_fact 4 = .ok (.iload_n 1, 1) := by decide +kernel
theorem dL_fact_5 : decode cL_fact 5 = .ok (.iload_n 2, 1) := by decide +kernel
theorem dL_fact_6 : decode cL_fact 6 = .ok (.iload_n 3, 1) := by decide +kernel
theorem dL_fact_7 : decode cL_fact 7 = .ok (.iload 4, 2) := by decide +kernel
theorem dL_fact_9 : decode cL_fact 9 = .ok (.iload 5, 2) := by decide +kernel
theorem dL_fact_11 : decode cL_fact 11 = .ok (.invokevirtual 46, 3) := by decide +kernel
theorem dL_fact_14 : decode cL_fact 14 = .ok (.i2l, 1) := by decide +kernel
theorem dL_fact_15 : decode cL_fact 15 = .ok (.lastore, 1) := by decide +kernel
theorem dL_fact_16 : decode cL_fact 16 = .ok (.goto 15, 3) := by decide +kernel
theorem dL_fact_19 : decode cL_fact 19 = .ok (.astore 7, 2) := by decide +kernel
theorem dL_fact_21 : decode cL_fact 21 = .ok (.iconst 1, 1) := by decide +kernel
theorem dL_fact_22 : decode cL_fact 22 = .ok (.ireturn, 1) := by decide +kernel
theorem dL_fact_23 : decode cL_fact 23 = .ok (.astore 7, 2) := by decide +kernel
theorem dL_fact_25 : decode cL_fact 25 = .ok (.iconst 2, 1) := by decide +kernel
theorem dL_fact_26 : decode cL_fact 26 = .ok (.ireturn, 1) := by decide +kernel
theorem dL_fact_27 : decode cL_fact 27 = .ok (.astore 7, 2) := by decide +kernel
theorem dL_fact_29 : decode cL_fact 29 = .ok (.iconst 3, 1) := by decide +kernel
theorem dL_fact_30 : decode cL_fact 30 = .ok (.ireturn, 1) := by decide +kernel
theorem dL_fact_31 : decode cL_fact 31 = .ok (.iconst 0, 1) := by decide +kernel
theorem dL_fact_32 : decode cL_fact 32 = .ok (.ireturn, 1) := by decide +kernel
theorem dL_forget_0 : decode cL_forget 0 = .ok (.aload 5, 2) := by decide +kernel
theorem dL_forget_2 : decode cL_forget 2 = .ok (.iconst 0, 1) := by decide +kernel
theorem dL_forget_3 : decode cL_forget 3 = .ok (.aload_n 0, 1) := by decide +kernel
theorem dL_forget_4 : decode cL_forget 4 = .ok (.iload_n 1, 1) := by decide +kernel
theorem dL_forget_5 : decode cL_forget 5 = .ok (.iload_n 2, 1) := by decide +kernel
theorem dL_forget_6 : decode cL_forget 6 = .ok (.iload_n 3, 1) := by decide +kernel
theorem dL_forget_7 : decode cL_forget 7 = .ok (.iload 4, 2) := by decide +kernel
theorem dL_forget_9 : decode cL_forget 9 = .ok (.invokevirtual 50, 3) := by decide +kernel
theorem dL_forget_12 : decode cL_forget 12 = .ok (.i2l, 1) := by decide +kernel
theorem dL_forget_13 : decode cL_forget 13 = .ok (.lastore, 1) := by decide +kernel
theorem dL_forget_14 : decode cL_forget 14 = .ok (.goto 11, 3) := by decide +kernel
theorem dL_forget_17 : decode cL_forget 17 = .ok (.astore 6, 2) := by decide +kernel
theorem dL_forget_19 : decode cL_forget 19 = .ok (.iconst 1, 1) := by decide +kernel
theorem dL_forget_20 : decode cL_forget 20 = .ok (.ireturn, 1) := by decide +kernel
theorem dL_forget_21 : decode cL_forget 21 = .ok (.astore 6, 2) := by decide +kernel
theorem dL_forget_23 : decode cL_forget 23 = .ok (.iconst 2, 1) := by decide +kernel
theorem dL_forget_24 : decode cL_forget 24 = .ok (.ireturn, 1) := by decide +kernel
theorem dL_forget_25 : decode cL_forget 25 = .ok (.iconst 0, 1) := by decide +kernel
theorem dL_forget_26 : decode cL_forget 26 = .ok (.ireturn, 1) := by decide +kernel
theorem dL_cell_0 : decode cL_cell 0 = .ok (.aload 5, 2) := by decide +kernel
theorem dL_cell_2 : decode cL_cell 2 = .ok (.iconst 0, 1) := by decide +kernel
theorem dL_cell_3 : decode cL_cell 3 = .ok (.aload_n 0, 1) := by decide +kernel
theorem dL_cell_4 : decode cL_cell 4 = .ok (.iload_n 1, 1) := by decide +kernel
theorem dL_cell_5 : decode cL_cell 5 = .ok (.iload_n 2, 1) := by decide +kernel
theorem dL_cell_6 : decode cL_cell 6 = .ok (.iload_n 3, 1) := by decide +kernel
theorem dL_cell_7 : decode cL_cell 7 = .ok (.iload 4, 2) := by decide +kernel
theorem dL_cell_9 : decode cL_cell 9 = .ok (.invokevirtual 53, 3) := by decide +kernel
theorem dL_cell_12 : decode cL_cell 12 = .ok (.lastore, 1) := by decide +kernel
theorem dL_cell_13 : decode cL_cell 13 = .ok (.goto 7, 3) := by decide +kernel
theorem dL_cell_16 : decode cL_cell 16 = .ok (.astore 6, 2) := by decide +kernel
theorem dL_cell_18 : decode cL_cell 18 = .ok (.iconst 1, 1) := by decide +kernel
theorem dL_cell_19 : decode cL_cell 19 = .ok (.ireturn, 1) := by decide +kernel
theorem dL_cell_20 : decode cL_cell 20 = .ok (.iconst 0, 1) := by decide +kernel
theorem dL_cell_21 : decode cL_cell 21 = .ok (.ireturn, 1) := by decide +kernel
theorem dL_cellAnew_0 : decode cL_cellAnew 0 = .ok (.aload 5, 2) := by decide +kernel
theorem dL_cellAnew_2 : decode cL_cellAnew 2 = .ok (.iconst 0, 1) := by decide +kernel
theorem dL_cellAnew_3 : decode cL_cellAnew 3 = .ok (.aload_n 0, 1) := by decide +kernel
theorem dL_cellAnew_4 : decode cL_cellAnew 4 = .ok (.iload_n 1, 1) := by decide +kernel
theorem dL_cellAnew_5 : decode cL_cellAnew 5 = .ok (.iload_n 2, 1) := by decide +kernel
theorem dL_cellAnew_6 : decode cL_cellAnew 6 = .ok (.iload_n 3, 1) := by decide +kernel
theorem dL_cellAnew_7 : decode cL_cellAnew 7 = .ok (.iload 4, 2) := by decide +kernel
theorem dL_cellAnew_9 : decode cL_cellAnew 9 = .ok (.invokevirtual 57, 3) := by decide +kernel
theorem dL_cellAnew_12 : decode cL_cellAnew 12 = .ok (.lastore, 1) := by decide +kernel
theorem dL_cellAnew_13 : decode cL_cellAnew 13 = .ok (.goto 7, 3) := by decide +kernel
theorem dL_cellAnew_16 : decode cL_cellAnew 16 = .ok (.astore 6, 2) := by decide +kernel
theorem dL_cellAnew_18 : decode cL_cellAnew 18 = .ok (.iconst 1, 1) := by decide +kernel
theorem dL_cellAnew_19 : decode cL_cellAnew 19 = .ok (.ireturn, 1) := by decide +kernel
theorem dL_cellAnew_20 : decode cL_cellAnew 20 = .ok (.iconst 0, 1) := by decide +kernel
theorem dL_cellAnew_21 : decode cL_cellAnew 21 = .ok (.ireturn, 1) := by decide +kernel
theorem dL_at_0 : decode cL_at 0 = .ok (.aload_n 3, 1) := by decide +kernel
theorem dL_at_1 : decode cL_at 1 = .ok (.iconst 0, 1) := by decide +kernel
theorem dL_at_2 : decode cL_at 2 = .ok (.aload_n 0, 1) := by decide +kernel
theorem dL_at_3 : decode cL_at 3 = .ok (.iload_n 1, 1) := by decide +kernel
theorem dL_at_4 : decode cL_at 4 = .ok (.iload_n 2, 1) := by decide +kernel
theorem dL_at_5 : decode cL_at 5 = .ok (.invokevirtual 60, 3) := by decide +kernel
theorem dL_at_8 : decode cL_at 8 = .ok (.i2l, 1) := by decide +kernel
theorem dL_at_9 : decode cL_at 9 = .ok (.lastore, 1) := by decide +kernel
theorem dL_at_10 : decode cL_at 10 = .ok (.goto 7, 3) := by decide +kernel
theorem dL_at_13 : decode cL_at 13 = .ok (.astore 4, 2) := by decide +kernel
theorem dL_at_15 : decode cL_at 15 = .ok (.iconst 1, 1) := by decide +kernel
theorem dL_at_16 : decode cL_at 16 = .ok (.ireturn, 1) := by decide +kernel
theorem dL_at_17 : decode cL_at 17 = .ok (.iconst 0, 1) := by decide +kernel
theorem dL_at_18 : decode cL_at 18 = .ok (.ireturn, 1) := by decide +kernel
theorem dL_pick_0 : decode cL_pick 0 = .ok (.aload 6, 2) := by decide +kernel
theorem dL_pick_2 : decode cL_pick 2 = .ok (.iconst 0, 1) := by decide +kernel
theorem dL_pick_3 : decode cL_pick 3 = .ok (.aload_n 0, 1) := by decide +kernel
theorem dL_pick_4 : decode cL_pick 4 = .ok (.iload_n 1, 1) := by decide +kernel
theorem dL_pick_5 : decode cL_pick 5 = .ok (.iload_n 2, 1) := by decide +kernel
theorem dL_pick_6 : decode cL_pick 6 = .ok (.iload_n 3, 1) := by decide +kernel
theorem dL_pick_7 : decode cL_pick 7 = .ok (.iload 4, 2) := by decide +kernel
theorem dL_pick_9 : decode cL_pick 9 = .ok (.iload 5, 2) := by decide +kernel
theorem dL_pick_11 : decode cL_pick 11 = .ok (.invokevirtual 63, 3) := by decide +kernel
theorem dL_pick_14 : decode cL_pick 14 = .ok (.i2l, 1) := by decide +kernel
theorem dL_pick_15 : decode cL_pick 15 = .ok (.lastore, 1) := by decide +kernel
theorem dL_pick_16 : decode cL_pick 16 = .ok (.goto 15, 3) := by decide +kernel
theorem dL_pick_19 : decode cL_pick 19 = .ok (.astore 7, 2) := by decide +kernel
theorem dL_pick_21 : decode cL_pick 21 = .ok (.iconst 1, 1) := by decide +kernel
theorem dL_pick_22 : decode cL_pick 22 = .ok (.ireturn, 1) := by decide +kernel
theorem dL_pick_23 : decode cL_pick 23 = .ok (.astore 7, 2) := by decide +kernel
theorem dL_pick_25 : decode cL_pick 25 = .ok (.iconst 2, 1) := by decide +kernel
theorem dL_pick_26 : decode cL_pick 26 = .ok (.ireturn, 1) := by decide +kernel
theorem dL_pick_27 : decode cL_pick 27 = .ok (.astore 7, 2) := by decide +kernel
theorem dL_pick_29 : decode cL_pick 29 = .ok (.iconst 3, 1) := by decide +kernel
theorem dL_pick_30 : decode cL_pick 30 = .ok (.ireturn, 1) := by decide +kernel
theorem dL_pick_31 : decode cL_pick 31 = .ok (.iconst 0, 1) := by decide +kernel
theorem dL_pick_32 : decode cL_pick 32 = .ok (.ireturn, 1) := by decide +kernel
theorem dL_picked_0 : decode cL_picked 0 = .ok (.aload_n 3, 1) := by decide +kernel
theorem dL_picked_1 : decode cL_picked 1 = .ok (.iconst 0, 1) := by decide +kernel
theorem dL_picked_2 : decode cL_picked 2 = .ok (.aload_n 0, 1) := by decide +kernel
theorem dL_picked_3 : decode cL_picked 3 = .ok (.iload_n 1, 1) := by decide +kernel
theorem dL_picked_4 : decode cL_picked 4 = .ok (.iload_n 2, 1) := by decide +kernel
theorem dL_picked_5 : decode cL_picked 5 = .ok (.invokevirtual 66, 3) := by decide +kernel
theorem dL_picked_8 : decode cL_picked 8 = .ok (.i2l, 1) := by decide +kernel
theorem dL_picked_9 : decode cL_picked 9 = .ok (.lastore, 1) := by decide +kernel
theorem dL_picked_10 : decode cL_picked 10 = .ok (.goto 7, 3) := by decide +kernel
theorem dL_picked_13 : decode cL_picked 13 = .ok (.astore 4, 2) := by decide +kernel
theorem dL_picked_15 : decode cL_picked 15 = .ok (.iconst 1, 1) := by decide +kernel
theorem dL_picked_16 : decode cL_picked 16 = .ok (.ireturn, 1) := by decide +kernel
theorem dL_picked_17 : decode cL_picked 17 = .ok (.iconst 0, 1) := by decide +kernel
theorem dL_picked_18 : decode cL_picked 18 = .ok (.ireturn, 1) := by decide +kernel
theorem dL_cross_0 : decode cL_cross 0 = .ok (.aload 4, 2) := by decide +kernel
theorem dL_cross_2 : decode cL_cross 2 = .ok (.iconst 0, 1) := by decide +kernel
theorem dL_cross_3 : decode cL_cross 3 = .ok (.aload_n 0, 1) := by decide +kernel
theorem dL_cross_4 : decode cL_cross 4 = .ok (.iload_n 1, 1) := by decide +kernel
theorem dL_cross_5 : decode cL_cross 5 = .ok (.iload_n 2, 1) := by decide +kernel
theorem dL_cross_6 : decode cL_cross 6 = .ok (.iload_n 3, 1) := by decide +kernel
theorem dL_cross_7 : decode cL_cross 7 = .ok (.invokevirtual 69, 3) := by decide +kernel
theorem dL_cross_10 : decode cL_cross 10 = .ok (.i2l, 1) := by decide +kernel
theorem dL_cross_11 : decode cL_cross 11 = .ok (.lastore, 1) := by decide +kernel
theorem dL_cross_12 : decode cL_cross 12 = .ok (.goto 11, 3) := by decide +kernel
theorem dL_cross_15 : decode cL_cross 15 = .ok (.astore 5, 2) := by decide +kernel
theorem dL_cross_17 : decode cL_cross 17 = .ok (.iconst 1, 1) := by decide +kernel
theorem dL_cross_18 : decode cL_cross 18 = .ok (.ireturn, 1) := by decide +kernel
theorem dL_cross_19 : decode cL_cross 19 = .ok (.astore 5, 2) := by decide +kernel
theorem dL_cross_21 : decode cL_cross 21 = .ok (.iconst 2, 1) := by decide +kernel
theorem dL_cross_22 : decode cL_cross 22 = .ok (.ireturn, 1) := by decide +kernel
theorem dL_cross_23 : decode cL_cross 23 = .ok (.iconst 0, 1) := by decide +kernel
theorem dL_cross_24 : decode cL_cross 24 = .ok (.ireturn, 1) := by decide +kernel
theorem dL_write_0 : decode cL_write 0 = .ok (.aload 7, 2) := by decide +kernel
theorem dL_write_2 : decode cL_write 2 = .ok (.iconst 0, 1) := by decide +kernel
theorem dL_write_3 : decode cL_write 3 = .ok (.aload_n 0, 1) := by decide +kernel
theorem dL_write_4 : decode cL_write 4 = .ok (.iload_n 1, 1) := by decide +kernel
theorem dL_write_5 : decode cL_write 5 = .ok (.iload_n 2, 1) := by decide +kernel
theorem dL_write_6 : decode cL_write 6 = .ok (.iload_n 3, 1) := by decide +kernel
theorem dL_write_7 : decode cL_write 7 = .ok (.iload 4, 2) := by decide +kernel
theorem dL_write_9 : decode cL_write 9 = .ok (.iload 5, 2) := by decide +kernel
theorem dL_write_11 : decode cL_write 11 = .ok (.iload 6, 2) := by decide +kernel
theorem dL_write_13 : decode cL_write 13 = .ok (.invokevirtual 72, 3) := by decide +kernel
theorem dL_write_16 : decode cL_write 16 = .ok (.i2l, 1) := by decide +kernel
theorem dL_write_17 : decode cL_write 17 = .ok (.lastore, 1) := by decide +kernel
theorem dL_write_18 : decode cL_write 18 = .ok (.goto 15, 3) := by decide +kernel
theorem dL_write_21 : decode cL_write 21 = .ok (.astore 8, 2) := by decide +kernel
theorem dL_write_23 : decode cL_write 23 = .ok (.iconst 1, 1) := by decide +kernel
theorem dL_write_24 : decode cL_write 24 = .ok (.ireturn, 1) := by decide +kernel
theorem dL_write_25 : decode cL_write 25 = .ok (.astore 8, 2) := by decide +kernel
theorem dL_write_27 : decode cL_write 27 = .ok (.iconst 2, 1) := by decide +kernel
theorem dL_write_28 : decode cL_write 28 = .ok (.ireturn, 1) := by decide +kernel
theorem dL_write_29 : decode cL_write 29 = .ok (.astore 8, 2) := by decide +kernel
theorem dL_write_31 : decode cL_write 31 = .ok (.iconst 3, 1) := by decide +kernel
theorem dL_write_32 : decode cL_write 32 = .ok (.ireturn, 1) := by decide +kernel
theorem dL_write_33 : decode cL_write 33 = .ok (.iconst 0, 1) := by decide +kernel
theorem dL_write_34 : decode cL_write 34 = .ok (.ireturn, 1) := by decide +kernel
theorem dL_begin_0 : decode cL_begin 0 = .ok (.aload_n 0, 1) := by decide +kernel
theorem dL_begin_1 : decode cL_begin 1 = .ok (.invokevirtual 76, 3) := by decide +kernel
theorem dL_begin_4 : decode cL_begin 4 = .ok (.goto 6, 3) := by decide +kernel
theorem dL_begin_7 : decode cL_begin 7 = .ok (.astore_n 1, 1) := by decide +kernel
theorem dL_begin_8 : decode cL_begin 8 = .ok (.iconst 1, 1) := by decide +kernel
theorem dL_begin_9 : decode cL_begin 9 = .ok (.ireturn, 1) := by decide +kernel
theorem dL_begin_10 : decode cL_begin 10 = .ok (.iconst 0, 1) := by decide +kernel
theorem dL_begin_11 : decode cL_begin 11 = .ok (.ireturn, 1) := by decide +kernel
theorem dL_end_0 : decode cL_end 0 = .ok (.aload_n 2, 1) := by decide +kernel
theorem dL_end_1 : decode cL_end 1 = .ok (.iconst 0, 1) := by decide +kernel
theorem dL_end_2 : decode cL_end 2 = .ok (.aload_n 0, 1) := by decide +kernel
theorem dL_end_3 : decode cL_end 3 = .ok (.iload_n 1, 1) := by decide +kernel
theorem dL_end_4 : decode cL_end 4 = .ok (.invokevirtual 79, 3) := by decide +kernel
theorem dL_end_7 : decode cL_end 7 = .ok (.i2l, 1) := by decide +kernel
theorem dL_end_8 : decode cL_end 8 = .ok (.lastore, 1) := by decide +kernel
theorem dL_end_9 : decode cL_end 9 = .ok (.goto 6, 3) := by decide +kernel
theorem dL_end_12 : decode cL_end 12 = .ok (.astore_n 3, 1) := by decide +kernel
theorem dL_end_13 : decode cL_end 13 = .ok (.iconst 1, 1) := by decide +kernel
theorem dL_end_14 : decode cL_end 14 = .ok (.ireturn, 1) := by decide +kernel
theorem dL_end_15 : decode cL_end 15 = .ok (.iconst 0, 1) := by decide +kernel
theorem dL_end_16 : decode cL_end 16 = .ok (.ireturn, 1) := by decide +kernel
theorem dL_law_0 : decode cL_law 0 = .ok (.new 8, 3) := by decide +kernel
theorem dL_law_3 : decode cL_law 3 = .ok (.dup, 1) := by decide +kernel
theorem dL_law_4 : decode cL_law 4 = .ok (.invokespecial 83, 3) := by decide +kernel
theorem dL_law_7 : decode cL_law 7 = .ok (.astore_n 1, 1) := by decide +kernel
theorem dL_law_8 : decode cL_law 8 = .ok (.new 84, 3) := by decide +kernel
theorem dL_law_11 : decode cL_law 11 = .ok (.dup, 1) := by decide +kernel
theorem dL_law_12 : decode cL_law 12 = .ok (.invokespecial 86, 3) := by decide +kernel
theorem dL_law_15 : decode cL_law 15 = .ok (.astore_n 2, 1) := by decide +kernel
theorem dL_law_16 : decode cL_law 16 = .ok (.iconst 1, 1) := by decide +kernel
theorem dL_law_17 : decode cL_law 17 = .ok (.newarray .long, 2) := by decide +kernel
theorem dL_law_19 : decode cL_law 19 = .ok (.astore_n 3, 1) := by decide +kernel
theorem dL_law_20 : decode cL_law 20 = .ok (.iconst 0, 1) := by decide +kernel
theorem dL_law_21 : decode cL_law 21 = .ok (.istore 4, 2) := by decide +kernel
theorem dL_law_23 : decode cL_law 23 = .ok (.iload 4, 2) := by decide +kernel
theorem dL_law_25 : decode cL_law 25 = .ok (.aload_n 0, 1) := by decide +kernel
theorem dL_law_26 : decode cL_law 26 = .ok (.arraylength, 1) := by decide +kernel
theorem dL_law_27 : decode cL_law 27 = .ok (.bipush 7, 2) := by decide +kernel
theorem dL_law_29 : decode cL_law 29 = .ok (.isub, 1) := by decide +kernel
theorem dL_law_30 : decode cL_law 30 = .ok (.if_icmp .gt 1896, 3) := by decide +kernel
theorem dL_law_33 : decode cL_law 33 = .ok (.aload_n 0, 1) := by decide +kernel
theorem dL_law_34 : decode cL_law 34 = .ok (.iload 4, 2) := by decide +kernel
theorem dL_law_36 : decode cL_law 36 = .ok (.iaload, 1) := by decide +kernel
theorem dL_law_37 : decode cL_law 37 = .ok (.bipush 31, 2) := by decide +kernel
theorem dL_law_39 : decode cL_law 39 = .ok (.iand, 1) := by decide +kernel
theorem dL_law_40 : decode cL_law 40 = .ok (.tableswitch 1880 0 24 #[116, 196, 264, 356, 397, 477, 557, 625, 728, 769, 849, 929, 1033, 1125, 1216, 1307, 1320, 1333, 1401, 1505, 1573, 1653, 1771, 1795, 1867], 116) := by decide +kernel
theorem dL_law_156 : decode cL_law 156 = .ok (.aload_n 1, 1) := by decide +kernel
theorem dL_law_157 : decode cL_law 157 = .ok (.aload_n 0, 1) := by decide +kernel
theorem dL_law_158 : decode cL_law 158 = .ok (.iload 4, 2) := by decide +kernel
theorem dL_law_160 : decode cL_law 160 = .ok (.iconst 1, 1) := by decide +kernel
theorem dL_law_161 : decode cL_law 161 = .ok (.iadd, 1) := by decide +kernel
theorem dL_law_162 : decode cL_law 162 = .ok (.iaload, 1) := by decide +kernel
theorem dL_law_163 : decode cL_law 163 = .ok (.aload_n 0, 1) := by decide +kernel
theorem dL_law_164 : decode cL_law 164 = .ok (.iload 4, 2) := by decide +kernel
theorem dL_law_166 : decode cL_law 166 = .ok (.iconst 2, 1) := by decide +kernel
theorem dL_law_167 : decode cL_law 167 = .ok (.iadd, 1) := by decide +kernel
theorem dL_law_168 : decode cL_law 168 = .ok (.iaload, 1) := by decide +kernel
theorem dL_law_169 : decode cL_law 169 = .ok (.aload_n 0, 1) := by decide +kernel
theorem dL_law_170 : decode cL_law 170 = .ok (.iload 4, 2) := by decide +kernel
theorem dL_law_172 : decode cL_law 172 = .ok (.iconst 3, 1) := by decide +kernel
theorem dL_law_173 : decode cL_law 173 = .ok (.iadd, 1) := by decide +kernel
theorem dL_law_174 : decode cL_law 174 = .ok (.iaload, 1) := by decide +kernel
theorem dL_law_175 : decode cL_law 175 = .ok (.aload_n 3, 1) := by decide +kernel
theorem dL_law_176 : decode cL_law 176 = .ok (.invokestatic 87, 3) := by decide +kernel
theorem dL_law_179 : decode cL_law 179 = .ok (.istore 5, 2) := by decide +kernel
theorem dL_law_181 : decode cL_law 181 = .ok (.aload_n 2, 1) := by decide +kernel
theorem dL_law_182 : decode cL_law 182 = .ok (.aload_n 0, 1) := by decide +kernel
theorem dL_law_183 : decode cL_law 183 = .ok (.iload 4, 2) := by decide +kernel
theorem dL_law_185 : decode cL_law 185 = .ok (.iconst 1, 1) := by decide +kernel
theorem dL_law_186 : decode cL_law 186 = .ok (.iadd, 1) := by decide +kernel
theorem dL_law_187 : decode cL_law 187 = .ok (.iaload, 1) := by decide +kernel
theorem dL_law_188 : decode cL_law 188 = .ok (.aload_n 0, 1) := by decide +kernel
theorem dL_law_189 : decode cL_law 189 = .ok (.iload 4, 2) := by decide +kernel
theorem dL_law_191 : decode cL_law 191 = .ok (.iconst 2, 1) := by decide +kernel
theorem dL_law_192 : decode cL_law 192 = .ok (.iadd, 1) := by decide +kernel
theorem dL_law_193 : decode cL_law 193 = .ok (.iaload, 1) := by decide +kernel
theorem dL_law_194 : decode cL_law 194 = .ok (.aload_n 0, 1) := by decide +kernel
theorem dL_law_195 : decode cL_law 195 = .ok (.iload 4, 2) := by decide +kernel
theorem dL_law_197 : decode cL_law 197 = .ok (.iconst 3, 1) := by decide +kernel
theorem dL_law_198 : decode cL_law 198 = .ok (.iadd, 1) := by decide +kernel
theorem dL_law_199 : decode cL_law 199 = .ok (.iaload, 1) := by decide +kernel
theorem dL_law_200 : decode cL_law 200 = .ok (.invokevirtual 92, 3) := by decide +kernel
theorem dL_law_203 : decode cL_law 203 = .ok (.istore 6, 2) := by decide +kernel
theorem dL_law_205 : decode cL_law 205 = .ok (.aload_n 2, 1) := by decide +kernel
theorem dL_law_206 : decode cL_law 206 = .ok (.invokevirtual 93, 3) := by decide +kernel
theorem dL_law_209 : decode cL_law 209 = .ok (.iload 5, 2) := by decide +kernel
theorem dL_law_211 : decode cL_law 211 = .ok (.if_icmp .eq 5, 3) := by decide +kernel
theorem dL_law_214 : decode cL_law 214 = .ok (.iconst 0, 1) := by decide +kernel
theorem dL_law_215 : decode cL_law 215 = .ok (.ireturn, 1) := by decide +kernel
theorem dL_law_216 : decode cL_law 216 = .ok (.iload 5, 2) := by decide +kernel
theorem dL_law_218 : decode cL_law 218 = .ok (.ifCond .ne 15, 3) := by decide +kernel
theorem dL_law_221 : decode cL_law 221 = .ok (.aload_n 3, 1) := by decide +kernel
theorem dL_law_222 : decode cL_law 222 = .ok (.iconst 0, 1) := by decide +kernel
theorem dL_law_223 : decode cL_law 223 = .ok (.laload, 1) := by decide +kernel
theorem dL_law_224 : decode cL_law 224 = .ok (.iload 6, 2) := by decide +kernel
theorem dL_law_226 : decode cL_law 226 = .ok (.i2l, 1) := by decide +kernel
theorem dL_law_227 : decode cL_law 227 = .ok (.lcmp, 1) := by decide +kernel
theorem dL_law_228 : decode cL_law 228 = .ok (.ifCond .eq 5, 3) := by decide +kernel
theorem dL_law_231 : decode cL_law 231 = .ok (.iconst 0, 1) := by decide +kernel
theorem dL_law_232 : decode cL_law 232 = .ok (.ireturn, 1) := by decide +kernel
theorem dL_law_233 : decode cL_law 233 = .ok (.goto 1687, 3) := by decide +kernel
theorem dL_law_236 : decode cL_law 236 = .ok (.aload_n 1, 1) := by decide +kernel
theorem dL_law_237 : decode cL_law 237 = .ok (.aload_n 0, 1) := by decide +kernel
theorem dL_law_238 : decode cL_law 238 = .ok (.iload 4, 2) := by decide +kernel
theorem dL_law_240 : decode cL_law 240 = .ok (.iconst 1, 1) := by decide +kernel
theorem dL_law_241 : decode cL_law 241 = .ok (.iadd, 1) := by decide +kernel
theorem dL_law_242 : decode cL_law 242 = .ok (.iaload, 1) := by decide +kernel
theorem dL_law_243 : decode cL_law 243 = .ok (.aload_n 0, 1) := by decide +kernel
theorem dL_law_244 : decode cL_law 244 = .ok (.iload 4, 2) := by decide +kernel
theorem dL_law_246 : decode cL_law 246 = .ok (.iconst 2, 1) := by decide +kernel
theorem dL_law_247 : decode cL_law 247 = .ok (.iadd, 1) := by decide +kernel
theorem dL_law_248 : decode cL_law 248 = .ok (.iaload, 1) := by decide +kernel
theorem dL_law_249 : decode cL_law 249 = .ok (.aload_n 3, 1) := by decide +kernel
theorem dL_law_250 : decode cL_law 250 = .ok (.invokestatic 97, 3) := by decide +kernel
theorem dL_law_253 : decode cL_law 253 = .ok (.istore 5, 2) := by decide +kernel
theorem dL_law_255 : decode cL_law 255 = .ok (.aload_n 2, 1) := by decide +kernel
theorem dL_law_256 : decode cL_law 256 = .ok (.aload_n 0, 1) := by decide +kernel
theorem dL_law_257 : decode cL_law 257 = .ok (.iload 4, 2) := by decide +kernel
theorem dL_law_259 : decode cL_law 259 = .ok (.iconst 1, 1) := by decide +kernel
theorem dL_law_260 : decode cL_law 260 = .ok (.iadd, 1) := by decide +kernel
theorem dL_law_261 : decode cL_law 261 = .ok (.iaload, 1) := by decide +kernel
theorem dL_law_262 : decode cL_law 262 = .ok (.aload_n 0, 1) := by decide +kernel
theorem dL_law_263 : decode cL_law 263 = .ok (.iload 4, 2) := by decide +kernel
theorem dL_law_265 : decode cL_law 265 = .ok (.iconst 2, 1) := by decide +kernel
theorem dL_law_266 : decode cL_law 266 = .ok (.iadd, 1) := by decide +kernel
theorem dL_law_267 : decode cL_law 267 = .ok (.iaload, 1) := by decide +kernel
theorem dL_law_268 : decode cL_law 268 = .ok (.invokevirtual 100, 3) := by decide +kernel
theorem dL_law_271 : decode cL_law 271 = .ok (.istore 6, 2) := by decide +kernel
theorem dL_law_273 : decode cL_law 273 = .ok (.aload_n 2, 1) := by decide +kernel
theorem dL_law_274 : decode cL_law 274 = .ok (.invokevirtual 93, 3) := by decide +kernel
theorem dL_law_277 : decode cL_law 277 = .ok (.iload 5, 2) := by decide +kernel
theorem dL_law_279 : decode cL_law 279 = .ok (.if_icmp .eq 5, 3) := by decide +kernel
theorem dL_law_282 : decode cL_law 282 = .ok (.iconst 0, 1) := by decide +kernel
theorem dL_law_283 : decode cL_law 283 = .ok (.ireturn, 1) := by decide +kernel
theorem dL_law_284 : decode cL_law 284 = .ok (.iload 5, 2) := by decide +kernel
theorem dL_law_286 : decode cL_law 286 = .ok (.ifCond .ne 15, 3) := by decide +kernel
theorem dL_law_289 : decode cL_law 289 = .ok (.aload_n 3, 1) := by decide +kernel
theorem dL_law_290 : decode cL_law 290 = .ok (.iconst 0, 1) := by decide +kernel
theorem dL_law_291 : decode cL_law 291 = .ok (.laload, 1) := by decide +kernel
theorem dL_law_292 : decode cL_law 292 = .ok (.iload 6, 2) := by decide +kernel
theorem dL_law_294 : decode cL_law 294 = .ok (.i2l, 1) := by decide +kernel
theorem dL_law_295 : decode cL_law 295 = .ok (.lcmp, 1) := by decide +kernel
theorem dL_law_296 : decode cL_law 296 = .ok (.ifCond .eq 5, 3) := by decide +kernel
theorem dL_law_299 : decode cL_law 299 = .ok (.iconst 0, 1) := by decide +kernel
theorem dL_law_300 : decode cL_law 300 = .ok (.ireturn, 1) := by decide +kernel
theorem dL_law_301 : decode cL_law 301 = .ok (.goto 1619, 3) := by decide +kernel
theorem dL_law_304 : decode cL_law 304 = .ok (.aload_n 1, 1) := by decide +kernel
theorem dL_law_305 : decode cL_law 305 = .ok (.aload_n 0, 1) := by decide +kernel
theorem dL_law_306 : decode cL_law 306 = .ok (.iload 4, 2) := by decide +kernel
theorem dL_law_308 : decode cL_law 308 = .ok (.iconst 1, 1) := by decide +kernel
theorem dL_law_309 : decode cL_law 309 = .ok (.iadd, 1) := by decide +kernel
theorem dL_law_310 : decode cL_law 310 = .ok (.iaload, 1) := by decide +kernel
theorem dL_law_311 : decode cL_law 311 = .ok (.aload_n 0, 1) := by decide +kernel
theorem dL_law_312 : decode cL_law 312 = .ok (.iload 4, 2) := by decide +kernel
theorem dL_law_314 : decode cL_law 314 = .ok (.iconst 2, 1) := by decide +kernel
theorem dL_law_315 : decode cL_law 315 = .ok (.iadd, 1) := by decide +kernel
theorem dL_law_316 : decode cL_law 316 = .ok (.iaload, 1) := by decide +kernel
theorem dL_law_317 : decode cL_law 317 = .ok (.aload_n 0, 1) := by decide +kernel
theorem dL_law_318 : decode cL_law 318 = .ok (.iload 4, 2) := by decide +kernel
theorem dL_law_320 : decode cL_law 320 = .ok (.iconst 3, 1) := by decide +kernel
theorem dL_law_321 : decode cL_law 321 = .ok (.iadd, 1) := by decide +kernel
theorem dL_law_322 : decode cL_law 322 = .ok (.iaload, 1) := by decide +kernel
theorem dL_law_323 : decode cL_law 323 = .ok (.aload_n 0, 1) := by decide +kernel
theorem dL_law_324 : decode cL_law 324 = .ok (.iload 4, 2) := by decide +kernel
theorem dL_law_326 : decode cL_law 326 = .ok (.iconst 4, 1) := by decide +kernel
theorem dL_law_327 : decode cL_law 327 = .ok (.iadd, 1) := by decide +kernel
theorem dL_law_328 : decode cL_law 328 = .ok (.iaload, 1) := by decide +kernel
theorem dL_law_329 : decode cL_law 329 = .ok (.aload_n 3, 1) := by decide +kernel
theorem dL_law_330 : decode cL_law 330 = .ok (.invokestatic 101, 3) := by decide +kernel
theorem dL_law_333 : decode cL_law 333 = .ok (.istore 5, 2) := by decide +kernel
theorem dL_law_335 : decode cL_law 335 = .ok (.aload_n 2, 1) := by decide +kernel
theorem dL_law_336 : decode cL_law 336 = .ok (.aload_n 0, 1) := by decide +kernel
theorem dL_law_337 : decode cL_law 337 = .ok (.iload 4, 2) := by decide +kernel
theorem dL_law_339 : decode cL_law 339 = .ok (.iconst 1, 1) := by decide +kernel
theorem dL_law_340 : decode cL_law 340 = .ok (.iadd, 1) := by decide +kernel
theorem dL_law_341 : decode cL_law 341 = .ok (.iaload, 1) := by decide +kernel
theorem dL_law_342 : decode cL_law 342 = .ok (.aload_n 0, 1) := by decide +kernel
theorem dL_law_343 : decode cL_law 343 = .ok (.iload 4, 2) := by decide +kernel
theorem dL_law_345 : decode cL_law 345 = .ok (.iconst 2, 1) := by decide +kernel
theorem dL_law_346 : decode cL_law 346 = .ok (.iadd, 1) := by decide +kernel
theorem dL_law_347 : decode cL_law 347 = .ok (.iaload, 1) := by decide +kernel
theorem dL_law_348 : decode cL_law 348 = .ok (.aload_n 0, 1) := by decide +kernel
theorem dL_law_349 : decode cL_law 349 = .ok (.iload 4, 2) := by decide +kernel
theorem dL_law_351 : decode cL_law 351 = .ok (.iconst 3, 1) := by decide +kernel
theorem dL_law_352 : decode cL_law 352 = .ok (.iadd, 1) := by decide +kernel
theorem dL_law_353 : decode cL_law 353 = .ok (.iaload, 1) := by decide +kernel
theorem dL_law_354 : decode cL_law 354 = .ok (.aload_n 0, 1) := by decide +kernel
theorem dL_law_355 : decode cL_law 355 = .ok (.iload 4, 2) := by decide +kernel
theorem dL_law_357 : decode cL_law 357 = .ok (.iconst 4, 1) := by decide +kernel
theorem dL_law_358 : decode cL_law 358 = .ok (.iadd, 1) := by decide +kernel
theorem dL_law_359 : decode cL_law 359 = .ok (.iaload, 1) := by decide +kernel
theorem dL_law_360 : decode cL_law 360 = .ok (.invokevirtual 104, 3) := by decide +kernel
theorem dL_law_363 : decode cL_law 363 = .ok (.istore 6, 2) := by decide +kernel
theorem dL_law_365 : decode cL_law 365 = .ok (.aload_n 2, 1) := by decide +kernel
theorem dL_law_366 : decode cL_law 366 = .ok (.invokevirtual 93, 3) := by decide +kernel
theorem dL_law_369 : decode cL_law 369 = .ok (.iload 5, 2) := by decide +kernel
theorem dL_law_371 : decode cL_law 371 = .ok (.if_icmp .eq 5, 3) := by decide +kernel
theorem dL_law_374 : decode cL_law 374 = .ok (.iconst 0, 1) := by decide +kernel
theorem dL_law_375 : decode cL_law 375 = .ok (.ireturn, 1) := by decide +kernel
theorem dL_law_376 : decode cL_law 376 = .ok (.iload 5, 2) := by decide +kernel
theorem dL_law_378 : decode cL_law 378 = .ok (.ifCond .ne 15, 3) := by decide +kernel
theorem dL_law_381 : decode cL_law 381 = .ok (.aload_n 3, 1) := by decide +kernel
theorem dL_law_382 : decode cL_law 382 = .ok (.iconst 0, 1) := by decide +kernel
theorem dL_law_383 : decode cL_law 383 = .ok (.laload, 1) := by decide +kernel
theorem dL_law_384 : decode cL_law 384 = .ok (.iload 6, 2) := by decide +kernel
theorem dL_law_386 : decode cL_law 386 = .ok (.i2l, 1) := by decide +kernel
theorem dL_law_387 : decode cL_law 387 = .ok (.lcmp, 1) := by decide +kernel
theorem dL_law_388 : decode cL_law 388 = .ok (.ifCond .eq 5, 3) := by decide +kernel
theorem dL_law_391 : decode cL_law 391 = .ok (.iconst 0, 1) := by decide +kernel
theorem dL_law_392 : decode cL_law 392 = .ok (.ireturn, 1) := by decide +kernel
theorem dL_law_393 : decode cL_law 393 = .ok (.goto 1527, 3) := by decide +kernel
theorem dL_law_396 : decode cL_law 396 = .ok (.aload_n 1, 1) := by decide +kernel
theorem dL_law_397 : decode cL_law 397 = .ok (.aload_n 0, 1) := by decide +kernel
theorem dL_law_398 : decode cL_law 398 = .ok (.iload 4, 2) := by decide +kernel
theorem dL_law_400 : decode cL_law 400 = .ok (.iconst 1, 1) := by decide +kernel
theorem dL_law_401 : decode cL_law 401 = .ok (.iadd, 1) := by decide +kernel
theorem dL_law_402 : decode cL_law 402 = .ok (.iaload, 1) := by decide +kernel
theorem dL_law_403 : decode cL_law 403 = .ok (.ifCond .eq 7, 3) := by decide +kernel
theorem dL_law_406 : decode cL_law 406 = .ok (.iconst 1, 1) := by decide +kernel
theorem dL_law_407 : decode cL_law 407 = .ok (.goto 4, 3) := by decide +kernel
theorem dL_law_410 : decode cL_law 410 = .ok (.iconst 0, 1) := by decide +kernel
theorem dL_law_411 : decode cL_law 411 = .ok (.invokevirtual 105, 3) := by decide +kernel
theorem dL_law_414 : decode cL_law 414 = .ok (.aload_n 2, 1) := by decide +kernel
theorem dL_law_415 : decode cL_law 415 = .ok (.aload_n 0, 1) := by decide +kernel
theorem dL_law_416 : decode cL_law 416 = .ok (.iload 4, 2) := by decide +kernel
theorem dL_law_418 : decode cL_law 418 = .ok (.iconst 1, 1) := by decide +kernel
theorem dL_law_419 : decode cL_law 419 = .ok (.iadd, 1) := by decide +kernel
theorem dL_law_420 : decode cL_law 420 = .ok (.iaload, 1) := by decide +kernel
theorem dL_law_421 : decode cL_law 421 = .ok (.ifCond .eq 7, 3) := by decide +kernel
theorem dL_law_424 : decode cL_law 424 = .ok (.iconst 1, 1) := by decide +kernel
theorem dL_law_425 : decode cL_law 425 = .ok (.goto 4, 3) := by decide +kernel
theorem dL_law_428 : decode cL_law 428 = .ok (.iconst 0, 1) := by decide +kernel
theorem dL_law_429 : decode cL_law 429 = .ok (.invokevirtual 109, 3) := by decide +kernel
theorem dL_law_432 : decode cL_law 432 = .ok (.if_icmp .eq 1488, 3) := by decide +kernel
theorem dL_law_435 : decode cL_law 435 = .ok (.iconst 0, 1) := by decide +kernel
theorem dL_law_436 : decode cL_law 436 = .ok (.ireturn, 1) := by decide +kernel
theorem dL_law_437 : decode cL_law 437 = .ok (.aload_n 1, 1) := by decide +kernel
theorem dL_law_438 : decode cL_law 438 = .ok (.aload_n 0, 1) := by decide +kernel
theorem dL_law_439 : decode cL_law 439 = .ok (.iload 4, 2) := by decide +kernel
theorem dL_law_441 : decode cL_law 441 = .ok (.iconst 1, 1) := by decide +kernel
theorem dL_law_442 : decode cL_law 442 = .ok (.iadd, 1) := by decide +kernel
theorem dL_law_443 : decode cL_law 443 = .ok (.iaload, 1) := by decide +kernel
theorem dL_law_444 : decode cL_law 444 = .ok (.aload_n 0, 1) := by decide +kernel
theorem dL_law_445 : decode cL_law 445 = .ok (.iload 4, 2) := by decide +kernel
theorem dL_law_447 : decode cL_law 447 = .ok (.iconst 2, 1) := by decide +kernel
theorem dL_law_448 : decode cL_law 448 = .ok (.iadd, 1) := by decide +kernel
theorem dL_law_449 : decode cL_law 449 = .ok (.iaload, 1) := by decide +kernel
theorem dL_law_450 : decode cL_law 450 = .ok (.aload_n 0, 1) := by decide +kernel
theorem dL_law_451 : decode cL_law 451 = .ok (.iload 4, 2) := by decide +kernel
theorem dL_law_453 : decode cL_law 453 = .ok (.iconst 3, 1) := by decide +kernel
theorem dL_law_454 : decode cL_law 454 = .ok (.iadd, 1) := by decide +kernel
theorem dL_law_455 : decode cL_law 455 = .ok (.iaload, 1) := by decide +kernel
theorem dL_law_456 : decode cL_law 456 = .ok (.aload_n 3, 1) := by decide +kernel
theorem dL_law_457 : decode cL_law 457 = .ok (.invokestatic 110, 3) := by decide +kernel
theorem dL_law_460 : decode cL_law 460 = .ok (.istore 5, 2) := by decide +kernel
theorem dL_law_462 : decode cL_law 462 = .ok (.aload_n 2, 1) := by decide +kernel
theorem dL_law_463 : decode cL_law 463 = .ok (.aload_n 0, 1) := by decide +kernel
theorem dL_law_464 : decode cL_law 464 = .ok (.iload 4, 2) := by decide +kernel
theorem dL_law_466 : decode cL_law 466 = .ok (.iconst 1, 1) := by decide +kernel
theorem dL_law_467 : decode cL_law 467 = .ok (.iadd, 1) := by decide +kernel
theorem dL_law_468 : decode cL_law 468 = .ok (.iaload, 1) := by decide +kernel
theorem dL_law_469 : decode cL_law 469 = .ok (.aload_n 0, 1) := by decide +kernel
theorem dL_law_470 : decode cL_law 470 = .ok (.iload 4, 2) := by decide +kernel
theorem dL_law_472 : decode cL_law 472 = .ok (.iconst 2, 1) := by decide +kernel
theorem dL_law_473 : decode cL_law 473 = .ok (.iadd, 1) := by decide +kernel
theorem dL_law_474 : decode cL_law 474 = .ok (.iaload, 1) := by decide +kernel
theorem dL_law_475 : decode cL_law 475 = .ok (.aload_n 0, 1) := by decide +kernel
theorem dL_law_476 : decode cL_law 476 = .ok (.iload 4, 2) := by decide +kernel
theorem dL_law_478 : decode cL_law 478 = .ok (.iconst 3, 1) := by decide +kernel
theorem dL_law_479 : decode cL_law 479 = .ok (.iadd, 1) := by decide +kernel
theorem dL_law_480 : decode cL_law 480 = .ok (.iaload, 1) := by decide +kernel
theorem dL_law_481 : decode cL_law 481 = .ok (.invokevirtual 112, 3) := by decide +kernel
theorem dL_law_484 : decode cL_law 484 = .ok (.istore 6, 2) := by decide +kernel
theorem dL_law_486 : decode cL_law 486 = .ok (.aload_n 2, 1) := by decide +kernel
theorem dL_law_487 : decode cL_law 487 = .ok (.invokevirtual 93, 3) := by decide +kernel
theorem dL_law_490 : decode cL_law 490 = .ok (.iload 5, 2) := by decide +kernel
theorem dL_law_492 : decode cL_law 492 = .ok (.if_icmp .eq 5, 3) := by decide +kernel
theorem dL_law_495 : decode cL_law 495 = .ok (.iconst 0, 1) := by decide +kernel
theorem dL_law_496 : decode cL_law 496 = .ok (.ireturn, 1) := by decide +kernel
theorem dL_law_497 : decode cL_law 497 = .ok (.iload 5, 2) := by decide +kernel
theorem dL_law_499 : decode cL_law 499 = .ok (.ifCond .ne 15, 3) := by decide +kernel
theorem dL_law_502 : decode cL_law 502 = .ok (.aload_n 3, 1) := by decide +kernel
theorem dL_law_503 : decode cL_law 503 = .ok (.iconst 0, 1) := by decide +kernel
theorem dL_law_504 : decode cL_law 504 = .ok (.laload, 1) := by decide +kernel
theorem dL_law_505 : decode cL_law 505 = .ok (.iload 6, 2) := by decide +kernel
theorem dL_law_507 : decode cL_law 507 = .ok (.i2l, 1) := by decide +kernel
theorem dL_law_508 : decode cL_law 508 = .ok (.lcmp, 1) := by decide +kernel
theorem dL_law_509 : decode cL_law 509 = .ok (.ifCond .eq 5, 3) := by decide +kernel
theorem dL_law_512 : decode cL_law 512 = .ok (.iconst 0, 1) := by decide +kernel
theorem dL_law_513 : decode cL_law 513 = .ok (.ireturn, 1) := by decide +kernel
theorem dL_law_514 : decode cL_law 514 = .ok (.goto 1406, 3) := by decide +kernel
theorem dL_law_517 : decode cL_law 517 = .ok (.aload_n 1, 1) := by decide +kernel
theorem dL_law_518 : decode cL_law 518 = .ok (.aload_n 0, 1) := by decide +kernel
theorem dL_law_519 : decode cL_law 519 = .ok (.iload 4, 2) := by decide +kernel
theorem dL_law_521 : decode cL_law 521 = .ok (.iconst 1, 1) := by decide +kernel
theorem dL_law_522 : decode cL_law 522 = .ok (.iadd, 1) := by decide +kernel
theorem dL_law_523 : decode cL_law 523 = .ok (.iaload, 1) := by decide +kernel
theorem dL_law_524 : decode cL_law 524 = .ok (.aload_n 0, 1) := by decide +kernel
theorem dL_law_525 : decode cL_law 525 = .ok (.iload 4, 2) := by decide +kernel
theorem dL_law_527 : decode cL_law 527 = .ok (.iconst 2, 1) := by decide +kernel
theorem dL_law_528 : decode cL_law 528 = .ok (.iadd, 1) := by decide +kernel
theorem dL_law_529 : decode cL_law 529 = .ok (.iaload, 1) := by decide +kernel
theorem dL_law_530 : decode cL_law 530 = .ok (.aload_n 0, 1) := by decide +kernel
theorem dL_law_531 : decode cL_law 531 = .ok (.iload 4, 2) := by decide +kernel
theorem dL_law_533 : decode cL_law 533 = .ok (.iconst 3, 1) := by decide +kernel
theorem dL_law_534 : decode cL_law 534 = .ok (.iadd, 1) := by decide +kernel
theorem dL_law_535 : decode cL_law 535 = .ok (.iaload, 1) := by decide +kernel
theorem dL_law_536 : decode cL_law 536 = .ok (.aload_n 3, 1) := by decide +kernel
theorem dL_law_537 : decode cL_law 537 = .ok (.invokestatic 113, 3) := by decide +kernel
theorem dL_law_540 : decode cL_law 540 = .ok (.istore 5, 2) := by decide +kernel
theorem dL_law_542 : decode cL_law 542 = .ok (.aload_n 2, 1) := by decide +kernel
theorem dL_law_543 : decode cL_law 543 = .ok (.aload_n 0, 1) := by decide +kernel
theorem dL_law_544 : decode cL_law 544 = .ok (.iload 4, 2) := by decide +kernel
theorem dL_law_546 : decode cL_law 546 = .ok (.iconst 1, 1) := by decide +kernel
theorem dL_law_547 : decode cL_law 547 = .ok (.iadd, 1) := by decide +kernel
theorem dL_law_548 : decode cL_law 548 = .ok (.iaload, 1) := by decide +kernel
theorem dL_law_549 : decode cL_law 549 = .ok (.aload_n 0, 1) := by decide +kernel
theorem dL_law_550 : decode cL_law 550 = .ok (.iload 4, 2) := by decide +kernel
theorem dL_law_552 : decode cL_law 552 = .ok (.iconst 2, 1) := by decide +kernel
theorem dL_law_553 : decode cL_law 553 = .ok (.iadd, 1) := by decide +kernel
theorem dL_law_554 : decode cL_law 554 = .ok (.iaload, 1) := by decide +kernel
theorem dL_law_555 : decode cL_law 555 = .ok (.aload_n 0, 1) := by decide +kernel
theorem dL_law_556 : decode cL_law 556 = .ok (.iload 4, 2) := by decide +kernel
theorem dL_law_558 : decode cL_law 558 = .ok (.iconst 3, 1) := by decide +kernel
theorem dL_law_559 : decode cL_law 559 = .ok (.iadd, 1) := by decide +kernel
theorem dL_law_560 : decode cL_law 560 = .ok (.iaload, 1) := by decide +kernel
theorem dL_law_561 : decode cL_law 561 = .ok (.invokevirtual 115, 3) := by decide +kernel
theorem dL_law_564 : decode cL_law 564 = .ok (.istore 6, 2) := by decide +kernel
theorem dL_law_566 : decode cL_law 566 = .ok (.aload_n 2, 1) := by decide +kernel
theorem dL_law_567 : decode cL_law 567 = .ok (.invokevirtual 93, 3) := by decide +kernel
theorem dL_law_570 : decode cL_law 570 = .ok (.iload 5, 2) := by decide +kernel
theorem dL_law_572 : decode cL_law 572 = .ok (.if_icmp .eq 5, 3) := by decide +kernel
theorem dL_law_575 : decode cL_law 575 = .ok (.iconst 0, 1) := by decide +kernel
theorem dL_law_576 : decode cL_law 576 = .ok (.ireturn, 1) := by decide +kernel
theorem dL_law_577 : decode cL_law 577 = .ok (.iload 5, 2) := by decide +kernel
theorem dL_law_579 : decode cL_law 579 = .ok (.ifCond .ne 15, 3) := by decide +kernel
theorem dL_law_582 : decode cL_law 582 = .ok (.aload_n 3, 1) := by decide +kernel
theorem dL_law_583 : decode cL_law 583 = .ok (.iconst 0, 1) := by decide +kernel
theorem dL_law_584 : decode cL_law 584 = .ok (.laload, 1) := by decide +kernel
theorem dL_law_585 : decode cL_law 585 = .ok (.iload 6, 2) := by decide +kernel
theorem dL_law_587 : decode cL_law 587 = .ok (.i2l, 1) := by decide +kernel
theorem dL_law_588 : decode cL_law 588 = .ok (.lcmp, 1) := by decide +kernel
theorem dL_law_589 : decode cL_law 589 = .ok (.ifCond .eq 5, 3) := by decide +kernel
theorem dL_law_592 : decode cL_law 592 = .ok (.iconst 0, 1) := by decide +kernel
theorem dL_law_593 : decode cL_law 593 = .ok (.ireturn, 1) := by decide +kernel
theorem dL_law_594 : decode cL_law 594 = .ok (.goto 1326, 3) := by decide +kernel
theorem dL_law_597 : decode cL_law 597 = .ok (.aload_n 1, 1) := by decide +kernel
theorem dL_law_598 : decode cL_law 598 = .ok (.aload_n 0, 1) := by decide +kernel
theorem dL_law_599 : decode cL_law 599 = .ok (.iload 4, 2) := by decide +kernel
theorem dL_law_601 : decode cL_law 601 = .ok (.iconst 1, 1) := by decide +kernel
theorem dL_law_602 : decode cL_law 602 = .ok (.iadd, 1) := by decide +kernel
theorem dL_law_603 : decode cL_law 603 = .ok (.iaload, 1) := by decide +kernel
theorem dL_law_604 : decode cL_law 604 = .ok (.aload_n 0, 1) := by decide +kernel
theorem dL_law_605 : decode cL_law 605 = .ok (.iload 4, 2) := by decide +kernel
theorem dL_law_607 : decode cL_law 607 = .ok (.iconst 2, 1) := by decide +kernel
theorem dL_law_608 : decode cL_law 608 = .ok (.iadd, 1) := by decide +kernel
theorem dL_law_609 : decode cL_law 609 = .ok (.iaload, 1) := by decide +kernel
theorem dL_law_610 : decode cL_law 610 = .ok (.aload_n 3, 1) := by decide +kernel
theorem dL_law_611 : decode cL_law 611 = .ok (.invokestatic 116, 3) := by decide +kernel
theorem dL_law_614 : decode cL_law 614 = .ok (.istore 5, 2) := by decide +kernel
theorem dL_law_616 : decode cL_law 616 = .ok (.aload_n 2, 1) := by decide +kernel
theorem dL_law_617 : decode cL_law 617 = .ok (.aload_n 0, 1) := by decide +kernel
theorem dL_law_618 : decode cL_law 618 = .ok (.iload 4, 2) := by decide +kernel
theorem dL_law_620 : decode cL_law 620 = .ok (.iconst 1, 1) := by decide +kernel
theorem dL_law_621 : decode cL_law 621 = .ok (.iadd, 1) := by decide +kernel
theorem dL_law_622 : decode cL_law 622 = .ok (.iaload, 1) := by decide +kernel
theorem dL_law_623 : decode cL_law 623 = .ok (.aload_n 0, 1) := by decide +kernel
theorem dL_law_624 : decode cL_law 624 = .ok (.iload 4, 2) := by decide +kernel
theorem dL_law_626 : decode cL_law 626 = .ok (.iconst 2, 1) := by decide +kernel
theorem dL_law_627 : decode cL_law 627 = .ok (.iadd, 1) := by decide +kernel
theorem dL_law_628 : decode cL_law 628 = .ok (.iaload, 1) := by decide +kernel
theorem dL_law_629 : decode cL_law 629 = .ok (.invokevirtual 118, 3) := by decide +kernel
theorem dL_law_632 : decode cL_law 632 = .ok (.istore 6, 2) := by decide +kernel
theorem dL_law_634 : decode cL_law 634 = .ok (.aload_n 2, 1) := by decide +kernel
theorem dL_law_635 : decode cL_law 635 = .ok (.invokevirtual 93, 3) := by decide +kernel
theorem dL_law_638 : decode cL_law 638 = .ok (.iload 5, 2) := by decide +kernel
theorem dL_law_640 : decode cL_law 640 = .ok (.if_icmp .eq 5, 3) := by decide +kernel
theorem dL_law_643 : decode cL_law 643 = .ok (.iconst 0, 1) := by decide +kernel
theorem dL_law_644 : decode cL_law 644 = .ok (.ireturn, 1) := by decide +kernel
theorem dL_law_645 : decode cL_law 645 = .ok (.iload 5, 2) := by decide +kernel
theorem dL_law_647 : decode cL_law 647 = .ok (.ifCond .ne 15, 3) := by decide +kernel
theorem dL_law_650 : decode cL_law 650 = .ok (.aload_n 3, 1) := by decide +kernel
theorem dL_law_651 : decode cL_law 651 = .ok (.iconst 0, 1) := by decide +kernel
theorem dL_law_652 : decode cL_law 652 = .ok (.laload, 1) := by decide +kernel
theorem dL_law_653 : decode cL_law 653 = .ok (.iload 6, 2) := by decide +kernel
theorem dL_law_655 : decode cL_law 655 = .ok (.i2l, 1) := by decide +kernel
theorem dL_law_656 : decode cL_law 656 = .ok (.lcmp, 1) := by decide +kernel
theorem dL_law_657 : decode cL_law 657 = .ok (.ifCond .eq 5, 3) := by decide +kernel
theorem dL_law_660 : decode cL_law 660 = .ok (.iconst 0, 1) := by decide +kernel
theorem dL_law_661 : decode cL_law 661 = .ok (.ireturn, 1) := by decide +kernel
theorem dL_law_662 : decode cL_law 662 = .ok (.goto 1258, 3) := by decide +kernel
theorem dL_law_665 : decode cL_law 665 = .ok (.aload_n 1, 1) := by decide +kernel
theorem dL_law_666 : decode cL_law 666 = .ok (.aload_n 0, 1) := by decide +kernel
theorem dL_law_667 : decode cL_law 667 = .ok (.iload 4, 2) := by decide +kernel
theorem dL_law_669 : decode cL_law 669 = .ok (.iconst 1, 1) := by decide +kernel
theorem dL_law_670 : decode cL_law 670 = .ok (.iadd, 1) := by decide +kernel
theorem dL_law_671 : decode cL_law 671 = .ok (.iaload, 1) := by decide +kernel
theorem dL_law_672 : decode cL_law 672 = .ok (.aload_n 0, 1) := by decide +kernel
theorem dL_law_673 : decode cL_law 673 = .ok (.iload 4, 2) := by decide +kernel
theorem dL_law_675 : decode cL_law 675 = .ok (.iconst 2, 1) := by decide +kernel
theorem dL_law_676 : decode cL_law 676 = .ok (.iadd, 1) := by decide +kernel
theorem dL_law_677 : decode cL_law 677 = .ok (.iaload, 1) := by decide +kernel
theorem dL_law_678 : decode cL_law 678 = .ok (.aload_n 0, 1) := by decide +kernel
theorem dL_law_679 : decode cL_law 679 = .ok (.iload 4, 2) := by decide +kernel
theorem dL_law_681 : decode cL_law 681 = .ok (.iconst 3, 1) := by decide +kernel
theorem dL_law_682 : decode cL_law 682 = .ok (.iadd, 1) := by decide +kernel
theorem dL_law_683 : decode cL_law 683 = .ok (.iaload, 1) := by decide +kernel
theorem dL_law_684 : decode cL_law 684 = .ok (.ifCond .eq 7, 3) := by decide +kernel
theorem dL_law_687 : decode cL_law 687 = .ok (.iconst 1, 1) := by decide +kernel
theorem dL_law_688 : decode cL_law 688 = .ok (.goto 4, 3) := by decide +kernel
theorem dL_law_691 : decode cL_law 691 = .ok (.iconst 0, 1) := by decide +kernel
theorem dL_law_692 : decode cL_law 692 = .ok (.aload_n 3, 1) := by decide +kernel
theorem dL_law_693 : decode cL_law 693 = .ok (.invokestatic 119, 3) := by decide +kernel
theorem dL_law_696 : decode cL_law 696 = .ok (.istore 5, 2) := by decide +kernel
theorem dL_law_698 : decode cL_law 698 = .ok (.aload_n 2, 1) := by decide +kernel
theorem dL_law_699 : decode cL_law 699 = .ok (.aload_n 0, 1) := by decide +kernel
theorem dL_law_700 : decode cL_law 700 = .ok (.iload 4, 2) := by decide +kernel
theorem dL_law_702 : decode cL_law 702 = .ok (.iconst 1, 1) := by decide +kernel
theorem dL_law_703 : decode cL_law 703 = .ok (.iadd, 1) := by decide +kernel
theorem dL_law_704 : decode cL_law 704 = .ok (.iaload, 1) := by decide +kernel
theorem dL_law_705 : decode cL_law 705 = .ok (.aload_n 0, 1) := by decide +kernel
theorem dL_law_706 : decode cL_law 706 = .ok (.iload 4, 2) := by decide +kernel
theorem dL_law_708 : decode cL_law 708 = .ok (.iconst 2, 1) := by decide +kernel
theorem dL_law_709 : decode cL_law 709 = .ok (.iadd, 1) := by decide +kernel
theorem dL_law_710 : decode cL_law 710 = .ok (.iaload, 1) := by decide +kernel
theorem dL_law_711 : decode cL_law 711 = .ok (.aload_n 0, 1) := by decide +kernel
theorem dL_law_712 : decode cL_law 712 = .ok (.iload 4, 2) := by decide +kernel
theorem dL_law_714 : decode cL_law 714 = .ok (.iconst 3, 1) := by decide +kernel
theorem dL_law_715 : decode cL_law 715 = .ok (.iadd, 1) := by decide +kernel
theorem dL_law_716 : decode cL_law 716 = .ok (.iaload, 1) := by decide +kernel
theorem dL_law_717 : decode cL_law 717 = .ok (.ifCond .eq 7, 3) := by decide +kernel
theorem dL_law_720 : decode cL_law 720 = .ok (.iconst 1, 1) := by decide +kernel
theorem dL_law_721 : decode cL_law 721 = .ok (.goto 4, 3) := by decide +kernel
theorem dL_law_724 : decode cL_law 724 = .ok (.iconst 0, 1) := by decide +kernel
theorem dL_law_725 : decode cL_law 725 = .ok (.invokevirtual 122, 3) := by decide +kernel
theorem dL_law_728 : decode cL_law 728 = .ok (.istore 6, 2) := by decide +kernel
theorem dL_law_730 : decode cL_law 730 = .ok (.aload_n 2, 1) := by decide +kernel
theorem dL_law_731 : decode cL_law 731 = .ok (.invokevirtual 93, 3) := by decide +kernel
theorem dL_law_734 : decode cL_law 734 = .ok (.iload 5, 2) := by decide +kernel
theorem dL_law_736 : decode cL_law 736 = .ok (.if_icmp .eq 5, 3) := by decide +kernel
theorem dL_law_739 : decode cL_law 739 = .ok (.iconst 0, 1) := by decide +kernel
theorem dL_law_740 : decode cL_law 740 = .ok (.ireturn, 1) := by decide +kernel
theorem dL_law_741 : decode cL_law 741 = .ok (.iload 5, 2) := by decide +kernel
theorem dL_law_743 : decode cL_law 743 = .ok (.ifCond .ne 22, 3) := by decide +kernel
theorem dL_law_746 : decode cL_law 746 = .ok (.aload_n 3, 1) := by decide +kernel
theorem dL_law_747 : decode cL_law 747 = .ok (.iconst 0, 1) := by decide +kernel
theorem dL_law_748 : decode cL_law 748 = .ok (.laload, 1) := by decide +kernel
theorem dL_law_749 : decode cL_law 749 = .ok (.iload 6, 2) := by decide +kernel
theorem dL_law_751 : decode cL_law 751 = .ok (.ifCond .eq 7, 3) := by decide +kernel
theorem dL_law_754 : decode cL_law 754 = .ok (.lconst 1, 1) := by decide +kernel
theorem dL_law_755 : decode cL_law 755 = .ok (.goto 4, 3) := by decide +kernel
theorem dL_law_758 : decode cL_law 758 = .ok (.lconst 0, 1) := by decide +kernel
theorem dL_law_759 : decode cL_law 759 = .ok (.lcmp, 1) := by decide +kernel
theorem dL_law_760 : decode cL_law 760 = .ok (.ifCond .eq 5, 3) := by decide +kernel
theorem dL_law_763 : decode cL_law 763 = .ok (.iconst 0, 1) := by decide +kernel
theorem dL_law_764 : decode cL_law 764 = .ok (.ireturn, 1) := by decide +kernel
theorem dL_law_765 : decode cL_law 765 = .ok (.goto 1155, 3) := by decide +kernel
theorem dL_law_768 : decode cL_law 768 = .ok (.aload_n 1, 1) := by decide +kernel
theorem dL_law_769 : decode cL_law 769 = .ok (.aload_n 0, 1) := by decide +kernel
theorem dL_law_770 : decode cL_law 770 = .ok (.iload 4, 2) := by decide +kernel
theorem dL_law_772 : decode cL_law 772 = .ok (.iconst 1, 1) := by decide +kernel
theorem dL_law_773 : decode cL_law 773 = .ok (.iadd, 1) := by decide +kernel
theorem dL_law_774 : decode cL_law 774 = .ok (.iaload, 1) := by decide +kernel
theorem dL_law_775 : decode cL_law 775 = .ok (.ifCond .eq 7, 3) := by decide +kernel
theorem dL_law_778 : decode cL_law 778 = .ok (.iconst 1, 1) := by decide +kernel
theorem dL_law_779 : decode cL_law 779 = .ok (.goto 4, 3) := by decide +kernel
theorem dL_law_782 : decode cL_law 782 = .ok (.iconst 0, 1) := by decide +kernel
theorem dL_law_783 : decode cL_law 783 = .ok (.invokevirtual 123, 3) := by decide +kernel
theorem dL_law_786 : decode cL_law 786 = .ok (.aload_n 2, 1) := by decide +kernel
theorem dL_law_787 : decode cL_law 787 = .ok (.aload_n 0, 1) := by decide +kernel
theorem dL_law_788 : decode cL_law 788 = .ok (.iload 4, 2) := by decide +kernel
theorem dL_law_790 : decode cL_law 790 = .ok (.iconst 1, 1) := by decide +kernel
theorem dL_law_791 : decode cL_law 791 = .ok (.iadd, 1) := by decide +kernel
theorem dL_law_792 : decode cL_law 792 = .ok (.iaload, 1) := by decide +kernel
theorem dL_law_793 : decode cL_law 793 = .ok (.ifCond .eq 7, 3) := by decide +kernel
theorem dL_law_796 : decode cL_law 796 = .ok (.iconst 1, 1) := by decide +kernel
theorem dL_law_797 : decode cL_law 797 = .ok (.goto 4, 3) := by decide +kernel
theorem dL_law_800 : decode cL_law 800 = .ok (.iconst 0, 1) := by decide +kernel
theorem dL_law_801 : decode cL_law 801 = .ok (.invokevirtual 126, 3) := by decide +kernel
theorem dL_law_804 : decode cL_law 804 = .ok (.if_icmp .eq 1116, 3) := by decide +kernel
theorem dL_law_807 : decode cL_law 807 = .ok (.iconst 0, 1) := by decide +kernel
theorem dL_law_808 : decode cL_law 808 = .ok (.ireturn, 1) := by decide +kernel
theorem dL_law_809 : decode cL_law 809 = .ok (.aload_n 1, 1) := by decide +kernel
theorem dL_law_810 : decode cL_law 810 = .ok (.aload_n 0, 1) := by decide +kernel
theorem dL_law_811 : decode cL_law 811 = .ok (.iload 4, 2) := by decide +kernel
theorem dL_law_813 : decode cL_law 813 = .ok (.iconst 1, 1) := by decide +kernel
theorem dL_law_814 : decode cL_law 814 = .ok (.iadd, 1) := by decide +kernel
theorem dL_law_815 : decode cL_law 815 = .ok (.iaload, 1) := by decide +kernel
theorem dL_law_816 : decode cL_law 816 = .ok (.aload_n 0, 1) := by decide +kernel
theorem dL_law_817 : decode cL_law 817 = .ok (.iload 4, 2) := by decide +kernel
theorem dL_law_819 : decode cL_law 819 = .ok (.iconst 2, 1) := by decide +kernel
theorem dL_law_820 : decode cL_law 820 = .ok (.iadd, 1) := by decide +kernel
theorem dL_law_821 : decode cL_law 821 = .ok (.iaload, 1) := by decide +kernel
theorem dL_law_822 : decode cL_law 822 = .ok (.aload_n 0, 1) := by decide +kernel
theorem dL_law_823 : decode cL_law 823 = .ok (.iload 4, 2) := by decide +kernel
theorem dL_law_825 : decode cL_law 825 = .ok (.iconst 3, 1) := by decide +kernel
theorem dL_law_826 : decode cL_law 826 = .ok (.iadd, 1) := by decide +kernel
theorem dL_law_827 : decode cL_law 827 = .ok (.iaload, 1) := by decide +kernel
theorem dL_law_828 : decode cL_law 828 = .ok (.aload_n 3, 1) := by decide +kernel
theorem dL_law_829 : decode cL_law 829 = .ok (.invokestatic 127, 3) := by decide +kernel
theorem dL_law_832 : decode cL_law 832 = .ok (.istore 5, 2) := by decide +kernel
theorem dL_law_834 : decode cL_law 834 = .ok (.aload_n 2, 1) := by decide +kernel
theorem dL_law_835 : decode cL_law 835 = .ok (.aload_n 0, 1) := by decide +kernel
theorem dL_law_836 : decode cL_law 836 = .ok (.iload 4, 2) := by decide +kernel
theorem dL_law_838 : decode cL_law 838 = .ok (.iconst 1, 1) := by decide +kernel
theorem dL_law_839 : decode cL_law 839 = .ok (.iadd, 1) := by decide +kernel
theorem dL_law_840 : decode cL_law 840 = .ok (.iaload, 1) := by decide +kernel
theorem dL_law_841 : decode cL_law 841 = .ok (.aload_n 0, 1) := by decide +kernel
theorem dL_law_842 : decode cL_law 842 = .ok (.iload 4, 2) := by decide +kernel
theorem dL_law_844 : decode cL_law 844 = .ok (.iconst 2, 1) := by decide +kernel
theorem dL_law_845 : decode cL_law 845 = .ok (.iadd, 1) := by decide +kernel
theorem dL_law_846 : decode cL_law 846 = .ok (.iaload, 1) := by decide +kernel
theorem dL_law_847 : decode cL_law 847 = .ok (.aload_n 0, 1) := by decide +kernel
theorem dL_law_848 : decode cL_law 848 = .ok (.iload 4, 2) := by decide +kernel
theorem dL_law_850 : decode cL_law 850 = .ok (.iconst 3, 1) := by decide +kernel
theorem dL_law_851 : decode cL_law 851 = .ok (.iadd, 1) := by decide +kernel
theorem dL_law_852 : decode cL_law 852 = .ok (.iaload, 1) := by decide +kernel
theorem dL_law_853 : decode cL_law 853 = .ok (.invokevirtual 129, 3) := by decide +kernel
theorem dL_law_856 : decode cL_law 856 = .ok (.istore 6, 2) := by decide +kernel
theorem dL_law_858 : decode cL_law 858 = .ok (.aload_n 2, 1) := by decide +kernel
theorem dL_law_859 : decode cL_law 859 = .ok (.invokevirtual 93, 3) := by decide +kernel
theorem dL_law_862 : decode cL_law 862 = .ok (.iload 5, 2) := by decide +kernel
theorem dL_law_864 : decode cL_law 864 = .ok (.if_icmp .eq 5, 3) := by decide +kernel
theorem dL_law_867 : decode cL_law 867 = .ok (.iconst 0, 1) := by decide +kernel
theorem dL_law_868 : decode cL_law 868 = .ok (.ireturn, 1) := by decide +kernel
theorem dL_law_869 : decode cL_law 869 = .ok (.iload 5, 2) := by decide +kernel
theorem dL_law_871 : decode cL_law 871 = .ok (.ifCond .ne 15, 3) := by decide +kernel
theorem dL_law_874 : decode cL_law 874 = .ok (.aload_n 3, 1) := by decide +kernel
theorem dL_law_875 : decode cL_law 875 = .ok (.iconst 0, 1) := by decide +kernel
theorem dL_law_876 : decode cL_law 876 = .ok (.laload, 1) := by decide +kernel
theorem dL_law_877 : decode cL_law 877 = .ok (.iload 6, 2) := by decide +kernel
theorem dL_law_879 : decode cL_law 879 = .ok (.i2l, 1) := by decide +kernel
theorem dL_law_880 : decode cL_law 880 = .ok (.lcmp, 1) := by decide +kernel
theorem dL_law_881 : decode cL_law 881 = .ok (.ifCond .eq 5, 3) := by decide +kernel
theorem dL_law_884 : decode cL_law 884 = .ok (.iconst 0, 1) := by decide +kernel
theorem dL_law_885 : decode cL_law 885 = .ok (.ireturn, 1) := by decide +kernel
theorem dL_law_886 : decode cL_law 886 = .ok (.goto 1034, 3) := by decide +kernel
theorem dL_law_889 : decode cL_law 889 = .ok (.aload_n 1, 1) := by decide +kernel
theorem dL_law_890 : decode cL_law 890 = .ok (.aload_n 0, 1) := by decide +kernel
theorem dL_law_891 : decode cL_law 891 = .ok (.iload 4, 2) := by decide +kernel
theorem dL_law_893 : decode cL_law 893 = .ok (.iconst 1, 1) := by decide +kernel
theorem dL_law_894 : decode cL_law 894 = .ok (.iadd, 1) := by decide +kernel
theorem dL_law_895 : decode cL_law 895 = .ok (.iaload, 1) := by decide +kernel
theorem dL_law_896 : decode cL_law 896 = .ok (.aload_n 0, 1) := by decide +kernel
theorem dL_law_897 : decode cL_law 897 = .ok (.iload 4, 2) := by decide +kernel
theorem dL_law_899 : decode cL_law 899 = .ok (.iconst 2, 1) := by decide +kernel
theorem dL_law_900 : decode cL_law 900 = .ok (.iadd, 1) := by decide +kernel
theorem dL_law_901 : decode cL_law 901 = .ok (.iaload, 1) := by decide +kernel
theorem dL_law_902 : decode cL_law 902 = .ok (.aload_n 0, 1) := by decide +kernel
theorem dL_law_903 : decode cL_law 903 = .ok (.iload 4, 2) := by decide +kernel
theorem dL_law_905 : decode cL_law 905 = .ok (.iconst 3, 1) := by decide +kernel
theorem dL_law_906 : decode cL_law 906 = .ok (.iadd, 1) := by decide +kernel
theorem dL_law_907 : decode cL_law 907 = .ok (.iaload, 1) := by decide +kernel
theorem dL_law_908 : decode cL_law 908 = .ok (.aload_n 3, 1) := by decide +kernel
theorem dL_law_909 : decode cL_law 909 = .ok (.invokestatic 130, 3) := by decide +kernel
theorem dL_law_912 : decode cL_law 912 = .ok (.istore 5, 2) := by decide +kernel
theorem dL_law_914 : decode cL_law 914 = .ok (.aload_n 2, 1) := by decide +kernel
theorem dL_law_915 : decode cL_law 915 = .ok (.aload_n 0, 1) := by decide +kernel
theorem dL_law_916 : decode cL_law 916 = .ok (.iload 4, 2) := by decide +kernel
theorem dL_law_918 : decode cL_law 918 = .ok (.iconst 1, 1) := by decide +kernel
theorem dL_law_919 : decode cL_law 919 = .ok (.iadd, 1) := by decide +kernel
theorem dL_law_920 : decode cL_law 920 = .ok (.iaload, 1) := by decide +kernel
theorem dL_law_921 : decode cL_law 921 = .ok (.aload_n 0, 1) := by decide +kernel
theorem dL_law_922 : decode cL_law 922 = .ok (.iload 4, 2) := by decide +kernel
theorem dL_law_924 : decode cL_law 924 = .ok (.iconst 2, 1) := by decide +kernel
theorem dL_law_925 : decode cL_law 925 = .ok (.iadd, 1) := by decide +kernel
theorem dL_law_926 : decode cL_law 926 = .ok (.iaload, 1) := by decide +kernel
theorem dL_law_927 : decode cL_law 927 = .ok (.aload_n 0, 1) := by decide +kernel
theorem dL_law_928 : decode cL_law 928 = .ok (.iload 4, 2) := by decide +kernel
theorem dL_law_930 : decode cL_law 930 = .ok (.iconst 3, 1) := by decide +kernel
theorem dL_law_931 : decode cL_law 931 = .ok (.iadd, 1) := by decide +kernel
theorem dL_law_932 : decode cL_law 932 = .ok (.iaload, 1) := by decide +kernel
theorem dL_law_933 : decode cL_law 933 = .ok (.invokevirtual 132, 3) := by decide +kernel
theorem dL_law_936 : decode cL_law 936 = .ok (.istore 6, 2) := by decide +kernel
theorem dL_law_938 : decode cL_law 938 = .ok (.aload_n 2, 1) := by decide +kernel
theorem dL_law_939 : decode cL_law 939 = .ok (.invokevirtual 93, 3) := by decide +kernel
theorem dL_law_942 : decode cL_law 942 = .ok (.iload 5, 2) := by decide +kernel
theorem dL_law_944 : decode cL_law 944 = .ok (.if_icmp .eq 5, 3) := by decide +kernel
theorem dL_law_947 : decode cL_law 947 = .ok (.iconst 0, 1) := by decide +kernel
theorem dL_law_948 : decode cL_law 948 = .ok (.ireturn, 1) := by decide +kernel
theorem dL_law_949 : decode cL_law 949 = .ok (.iload 5, 2) := by decide +kernel
theorem dL_law_951 : decode cL_law 951 = .ok (.ifCond .ne 15, 3) := by decide +kernel
theorem dL_law_954 : decode cL_law 954 = .ok (.aload_n 3, 1) := by decide +kernel
theorem dL_law_955 : decode cL_law 955 = .ok (.iconst 0, 1) := by decide +kernel
theorem dL_law_956 : decode cL_law 956 = .ok (.laload, 1) := by decide +kernel
theorem dL_law_957 : decode cL_law 957 = .ok (.iload 6, 2) := by decide +kernel
theorem dL_law_959 : decode cL_law 959 = .ok (.i2l, 1) := by decide +kernel
theorem dL_law_960 : decode cL_law 960 = .ok (.lcmp, 1) := by decide +kernel
theorem dL_law_961 : decode cL_law 961 = .ok (.ifCond .eq 5, 3) := by decide +kernel
theorem dL_law_964 : decode cL_law 964 = .ok (.iconst 0, 1) := by decide +kernel
theorem dL_law_965 : decode cL_law 965 = .ok (.ireturn, 1) := by decide +kernel
theorem dL_law_966 : decode cL_law 966 = .ok (.goto 954, 3) := by decide +kernel
theorem dL_law_969 : decode cL_law 969 = .ok (.aload_n 1, 1) := by decide +kernel
theorem dL_law_970 : decode cL_law 970 = .ok (.aload_n 0, 1) := by decide +kernel
theorem dL_law_971 : decode cL_law 971 = .ok (.iload 4, 2) := by decide +kernel
theorem dL_law_973 : decode cL_law 973 = .ok (.iconst 1, 1) := by decide +kernel
theorem dL_law_974 : decode cL_law 974 = .ok (.iadd, 1) := by decide +kernel
theorem dL_law_975 : decode cL_law 975 = .ok (.iaload, 1) := by decide +kernel
theorem dL_law_976 : decode cL_law 976 = .ok (.aload_n 0, 1) := by decide +kernel
theorem dL_law_977 : decode cL_law 977 = .ok (.iload 4, 2) := by decide +kernel
theorem dL_law_979 : decode cL_law 979 = .ok (.iconst 2, 1) := by decide +kernel
theorem dL_law_980 : decode cL_law 980 = .ok (.iadd, 1) := by decide +kernel
theorem dL_law_981 : decode cL_law 981 = .ok (.iaload, 1) := by decide +kernel
theorem dL_law_982 : decode cL_law 982 = .ok (.aload_n 0, 1) := by decide +kernel
theorem dL_law_983 : decode cL_law 983 = .ok (.iload 4, 2) := by decide +kernel
theorem dL_law_985 : decode cL_law 985 = .ok (.iconst 3, 1) := by decide +kernel
theorem dL_law_986 : decode cL_law 986 = .ok (.iadd, 1) := by decide +kernel
theorem dL_law_987 : decode cL_law 987 = .ok (.iaload, 1) := by decide +kernel
theorem dL_law_988 : decode cL_law 988 = .ok (.aload_n 0, 1) := by decide +kernel
theorem dL_law_989 : decode cL_law 989 = .ok (.iload 4, 2) := by decide +kernel
theorem dL_law_991 : decode cL_law 991 = .ok (.iconst 4, 1) := by decide +kernel
theorem dL_law_992 : decode cL_law 992 = .ok (.iadd, 1) := by decide +kernel
theorem dL_law_993 : decode cL_law 993 = .ok (.iaload, 1) := by decide +kernel
theorem dL_law_994 : decode cL_law 994 = .ok (.aload_n 0, 1) := by decide +kernel
theorem dL_law_995 : decode cL_law 995 = .ok (.iload 4, 2) := by decide +kernel
theorem dL_law_997 : decode cL_law 997 = .ok (.iconst 5, 1) := by decide +kernel
theorem dL_law_998 : decode cL_law 998 = .ok (.iadd, 1) := by decide +kernel
theorem dL_law_999 : decode cL_law 999 = .ok (.iaload, 1) := by decide +kernel
theorem dL_law_1000 : decode cL_law 1000 = .ok (.aload_n 3, 1) := by decide +kernel
theorem dL_law_1001 : decode cL_law 1001 = .ok (.invokestatic 133, 3) := by decide +kernel
theorem dL_law_1004 : decode cL_law 1004 = .ok (.istore 5, 2) := by decide +kernel
theorem dL_law_1006 : decode cL_law 1006 = .ok (.aload_n 2, 1) := by decide +kernel
theorem dL_law_1007 : decode cL_law 1007 = .ok (.aload_n 0, 1) := by decide +kernel
theorem dL_law_1008 : decode cL_law 1008 = .ok (.iload 4, 2) := by decide +kernel
theorem dL_law_1010 : decode cL_law 1010 = .ok (.iconst 1, 1) := by decide +kernel
theorem dL_law_1011 : decode cL_law 1011 = .ok (.iadd, 1) := by decide +kernel
theorem dL_law_1012 : decode cL_law 1012 = .ok (.iaload, 1) := by decide +kernel
theorem dL_law_1013 : decode cL_law 1013 = .ok (.aload_n 0, 1) := by decide +kernel
theorem dL_law_1014 : decode cL_law 1014 = .ok (.iload 4, 2) := by decide +kernel
theorem dL_law_1016 : decode cL_law 1016 = .ok (.iconst 2, 1) := by decide +kernel
theorem dL_law_1017 : decode cL_law 1017 = .ok (.iadd, 1) := by decide +kernel
theorem dL_law_1018 : decode cL_law 1018 = .ok (.iaload, 1) := by decide +kernel
theorem dL_law_1019 : decode cL_law 1019 = .ok (.aload_n 0, 1) := by decide +kernel
theorem dL_law_1020 : decode cL_law 1020 = .ok (.iload 4, 2) := by decide +kernel
theorem dL_law_1022 : decode cL_law 1022 = .ok (.iconst 3, 1) := by decide +kernel
theorem dL_law_1023 : decode cL_law 1023 = .ok (.iadd, 1) := by decide +kernel
theorem dL_law_1024 : decode cL_law 1024 = .ok (.iaload, 1) := by decide +kernel
theorem dL_law_1025 : decode cL_law 1025 = .ok (.aload_n 0, 1) := by decide +kernel
theorem dL_law_1026 : decode cL_law 1026 = .ok (.iload 4, 2) := by decide +kernel
theorem dL_law_1028 : decode cL_law 1028 = .ok (.iconst 4, 1) := by decide +kernel
theorem dL_law_1029 : decode cL_law 1029 = .ok (.iadd, 1) := by decide +kernel
theorem dL_law_1030 : decode cL_law 1030 = .ok (.iaload, 1) := by decide +kernel
theorem dL_law_1031 : decode cL_law 1031 = .ok (.aload_n 0, 1) := by decide +kernel
theorem dL_law_1032 : decode cL_law 1032 = .ok (.iload 4, 2) := by decide +kernel
theorem dL_law_1034 : decode cL_law 1034 = .ok (.iconst 5, 1) := by decide +kernel
theorem dL_law_1035 : decode cL_law 1035 = .ok (.iadd, 1) := by decide +kernel
theorem dL_law_1036 : decode cL_law 1036 = .ok (.iaload, 1) := by decide +kernel
theorem dL_law_1037 : decode cL_law 1037 = .ok (.invokevirtual 136, 3) := by decide +kernel
theorem dL_law_1040 : decode cL_law 1040 = .ok (.istore 6, 2) := by decide +kernel
theorem dL_law_1042 : decode cL_law 1042 = .ok (.aload_n 2, 1) := by decide +kernel
theorem dL_law_1043 : decode cL_law 1043 = .ok (.invokevirtual 93, 3) := by decide +kernel
theorem dL_law_1046 : decode cL_law 1046 = .ok (.iload 5, 2) := by decide +kernel
theorem dL_law_1048 : decode cL_law 1048 = .ok (.if_icmp .eq 5, 3) := by decide +kernel
theorem dL_law_1051 : decode cL_law 1051 = .ok (.iconst 0, 1) := by decide +kernel
theorem dL_law_1052 : decode cL_law 1052 = .ok (.ireturn, 1) := by decide +kernel
theorem dL_law_1053 : decode cL_law 1053 = .ok (.iload 5, 2) := by decide +kernel
theorem dL_law_1055 : decode cL_law 1055 = .ok (.ifCond .ne 15, 3) := by decide +kernel
theorem dL_law_1058 : decode cL_law 1058 = .ok (.aload_n 3, 1) := by decide +kernel
theorem dL_law_1059 : decode cL_law 1059 = .ok (.iconst 0, 1) := by decide +kernel
theorem dL_law_1060 : decode cL_law 1060 = .ok (.laload, 1) := by decide +kernel
theorem dL_law_1061 : decode cL_law 1061 = .ok (.iload 6, 2) := by decide +kernel
theorem dL_law_1063 : decode cL_law 1063 = .ok (.i2l, 1) := by decide +kernel
theorem dL_law_1064 : decode cL_law 1064 = .ok (.lcmp, 1) := by decide +kernel
theorem dL_law_1065 : decode cL_law 1065 = .ok (.ifCond .eq 5, 3) := by decide +kernel
theorem dL_law_1068 : decode cL_law 1068 = .ok (.iconst 0, 1) := by decide +kernel
theorem dL_law_1069 : decode cL_law 1069 = .ok (.ireturn, 1) := by decide +kernel
theorem dL_law_1070 : decode cL_law 1070 = .ok (.goto 850, 3) := by decide +kernel
theorem dL_law_1073 : decode cL_law 1073 = .ok (.aload_n 1, 1) := by decide +kernel
theorem dL_law_1074 : decode cL_law 1074 = .ok (.aload_n 0, 1) := by decide +kernel
theorem dL_law_1075 : decode cL_law 1075 = .ok (.iload 4, 2) := by decide +kernel
theorem dL_law_1077 : decode cL_law 1077 = .ok (.iconst 1, 1) := by decide +kernel
theorem dL_law_1078 : decode cL_law 1078 = .ok (.iadd, 1) := by decide +kernel
theorem dL_law_1079 : decode cL_law 1079 = .ok (.iaload, 1) := by decide +kernel
theorem dL_law_1080 : decode cL_law 1080 = .ok (.aload_n 0, 1) := by decide +kernel
theorem dL_law_1081 : decode cL_law 1081 = .ok (.iload 4, 2) := by decide +kernel
theorem dL_law_1083 : decode cL_law 1083 = .ok (.iconst 2, 1) := by decide +kernel
theorem dL_law_1084 : decode cL_law 1084 = .ok (.iadd, 1) := by decide +kernel
theorem dL_law_1085 : decode cL_law 1085 = .ok (.iaload, 1) := by decide +kernel
theorem dL_law_1086 : decode cL_law 1086 = .ok (.aload_n 0, 1) := by decide +kernel
theorem dL_law_1087 : decode cL_law 1087 = .ok (.iload 4, 2) := by decide +kernel
theorem dL_law_1089 : decode cL_law 1089 = .ok (.iconst 3, 1) := by decide +kernel
theorem dL_law_1090 : decode cL_law 1090 = .ok (.iadd, 1) := by decide +kernel
theorem dL_law_1091 : decode cL_law 1091 = .ok (.iaload, 1) := by decide +kernel
theorem dL_law_1092 : decode cL_law 1092 = .ok (.aload_n 0, 1) := by decide +kernel
theorem dL_law_1093 : decode cL_law 1093 = .ok (.iload 4, 2) := by decide +kernel
theorem dL_law_1095 : decode cL_law 1095 = .ok (.iconst 4, 1) := by decide +kernel
theorem dL_law_1096 : decode cL_law 1096 = .ok (.iadd, 1) := by decide +kernel
theorem dL_law_1097 : decode cL_law 1097 = .ok (.iaload, 1) := by decide +kernel
theorem dL_law_1098 : decode cL_law 1098 = .ok (.aload_n 3, 1) := by decide +kernel
theorem dL_law_1099 : decode cL_law 1099 = .ok (.invokestatic 137, 3) := by decide +kernel
theorem dL_law_1102 : decode cL_law 1102 = .ok (.istore 5, 2) := by decide +kernel
theorem dL_law_1104 : decode cL_law 1104 = .ok (.aload_n 2, 1) := by decide +kernel
theorem dL_law_1105 : decode cL_law 1105 = .ok (.aload_n 0, 1) := by decide +kernel
theorem dL_law_1106 : decode cL_law 1106 = .ok (.iload 4, 2) := by decide +kernel
theorem dL_law_1108 : decode cL_law 1108 = .ok (.iconst 1, 1) := by decide +kernel
theorem dL_law_1109 : decode cL_law 1109 = .ok (.iadd, 1) := by decide +kernel
theorem dL_law_1110 : decode cL_law 1110 = .ok (.iaload, 1) := by decide +kernel
theorem dL_law_1111 : decode cL_law 1111 = .ok (.aload_n 0, 1) := by decide +kernel
theorem dL_law_1112 : decode cL_law 1112 = .ok (.iload 4, 2) := by decide +kernel
theorem dL_law_1114 : decode cL_law 1114 = .ok (.iconst 2, 1) := by decide +kernel
theorem dL_law_1115 : decode cL_law 1115 = .ok (.iadd, 1) := by decide +kernel
theorem dL_law_1116 : decode cL_law 1116 = .ok (.iaload, 1) := by decide +kernel
theorem dL_law_1117 : decode cL_law 1117 = .ok (.aload_n 0, 1) := by decide +kernel
theorem dL_law_1118 : decode cL_law 1118 = .ok (.iload 4, 2) := by decide +kernel
theorem dL_law_1120 : decode cL_law 1120 = .ok (.iconst 3, 1) := by decide +kernel
theorem dL_law_1121 : decode cL_law 1121 = .ok (.iadd, 1) := by decide +kernel
theorem dL_law_1122 : decode cL_law 1122 = .ok (.iaload, 1) := by decide +kernel
theorem dL_law_1123 : decode cL_law 1123 = .ok (.aload_n 0, 1) := by decide +kernel
theorem dL_law_1124 : decode cL_law 1124 = .ok (.iload 4, 2) := by decide +kernel
theorem dL_law_1126 : decode cL_law 1126 = .ok (.iconst 4, 1) := by decide +kernel
theorem dL_law_1127 : decode cL_law 1127 = .ok (.iadd, 1) := by decide +kernel
theorem dL_law_1128 : decode cL_law 1128 = .ok (.iaload, 1) := by decide +kernel
theorem dL_law_1129 : decode cL_law 1129 = .ok (.invokevirtual 139, 3) := by decide +kernel
theorem dL_law_1132 : decode cL_law 1132 = .ok (.istore 6, 2) := by decide +kernel
theorem dL_law_1134 : decode cL_law 1134 = .ok (.aload_n 2, 1) := by decide +kernel
theorem dL_law_1135 : decode cL_law 1135 = .ok (.invokevirtual 93, 3) := by decide +kernel
theorem dL_law_1138 : decode cL_law 1138 = .ok (.iload 5, 2) := by decide +kernel
theorem dL_law_1140 : decode cL_law 1140 = .ok (.if_icmp .eq 5, 3) := by decide +kernel
theorem dL_law_1143 : decode cL_law 1143 = .ok (.iconst 0, 1) := by decide +kernel
theorem dL_law_1144 : decode cL_law 1144 = .ok (.ireturn, 1) := by decide +kernel
theorem dL_law_1145 : decode cL_law 1145 = .ok (.iload 5, 2) := by decide +kernel
theorem dL_law_1147 : decode cL_law 1147 = .ok (.ifCond .ne 15, 3) := by decide +kernel
theorem dL_law_1150 : decode cL_law 1150 = .ok (.aload_n 3, 1) := by decide +kernel
theorem dL_law_1151 : decode cL_law 1151 = .ok (.iconst 0, 1) := by decide +kernel
theorem dL_law_1152 : decode cL_law 1152 = .ok (.laload, 1) := by decide +kernel
theorem dL_law_1153 : decode cL_law 1153 = .ok (.iload 6, 2) := by decide +kernel
theorem dL_law_1155 : decode cL_law 1155 = .ok (.i2l, 1) := by decide +kernel
theorem dL_law_1156 : decode cL_law 1156 = .ok (.lcmp, 1) := by decide +kernel
theorem dL_law_1157 : decode cL_law 1157 = .ok (.ifCond .eq 5, 3) := by decide +kernel
theorem dL_law_1160 : decode cL_law 1160 = .ok (.iconst 0, 1) := by decide +kernel
theorem dL_law_1161 : decode cL_law 1161 = .ok (.ireturn, 1) := by decide +kernel
theorem dL_law_1162 : decode cL_law 1162 = .ok (.goto 758, 3) := by decide +kernel
theorem dL_law_1165 : decode cL_law 1165 = .ok (.aload_n 1, 1) := by decide +kernel
theorem dL_law_1166 : decode cL_law 1166 = .ok (.aload_n 0, 1) := by decide +kernel
theorem dL_law_1167 : decode cL_law 1167 = .ok (.iload 4, 2) := by decide +kernel
theorem dL_law_1169 : decode cL_law 1169 = .ok (.iconst 1, 1) := by decide +kernel
theorem dL_law_1170 : decode cL_law 1170 = .ok (.iadd, 1) := by decide +kernel
theorem dL_law_1171 : decode cL_law 1171 = .ok (.iaload, 1) := by decide +kernel
theorem dL_law_1172 : decode cL_law 1172 = .ok (.aload_n 0, 1) := by decide +kernel
theorem dL_law_1173 : decode cL_law 1173 = .ok (.iload 4, 2) := by decide +kernel
theorem dL_law_1175 : decode cL_law 1175 = .ok (.iconst 2, 1) := by decide +kernel
theorem dL_law_1176 : decode cL_law 1176 = .ok (.iadd, 1) := by decide +kernel
theorem dL_law_1177 : decode cL_law 1177 = .ok (.iaload, 1) := by decide +kernel
theorem dL_law_1178 : decode cL_law 1178 = .ok (.aload_n 0, 1) := by decide +kernel
theorem dL_law_1179 : decode cL_law 1179 = .ok (.iload 4, 2) := by decide +kernel
theorem dL_law_1181 : decode cL_law 1181 = .ok (.iconst 3, 1) := by decide +kernel
theorem dL_law_1182 : decode cL_law 1182 = .ok (.iadd, 1) := by decide +kernel
theorem dL_law_1183 : decode cL_law 1183 = .ok (.iaload, 1) := by decide +kernel
theorem dL_law_1184 : decode cL_law 1184 = .ok (.aload_n 0, 1) := by decide +kernel
theorem dL_law_1185 : decode cL_law 1185 = .ok (.iload 4, 2) := by decide +kernel
theorem dL_law_1187 : decode cL_law 1187 = .ok (.iconst 4, 1) := by decide +kernel
theorem dL_law_1188 : decode cL_law 1188 = .ok (.iadd, 1) := by decide +kernel
theorem dL_law_1189 : decode cL_law 1189 = .ok (.iaload, 1) := by decide +kernel
theorem dL_law_1190 : decode cL_law 1190 = .ok (.aload_n 3, 1) := by decide +kernel
theorem dL_law_1191 : decode cL_law 1191 = .ok (.invokestatic 140, 3) := by decide +kernel
theorem dL_law_1194 : decode cL_law 1194 = .ok (.istore 5, 2) := by decide +kernel
theorem dL_law_1196 : decode cL_law 1196 = .ok (.aload_n 2, 1) := by decide +kernel
theorem dL_law_1197 : decode cL_law 1197 = .ok (.aload_n 0, 1) := by decide +kernel
theorem dL_law_1198 : decode cL_law 1198 = .ok (.iload 4, 2) := by decide +kernel
theorem dL_law_1200 : decode cL_law 1200 = .ok (.iconst 1, 1) := by decide +kernel
theorem dL_law_1201 : decode cL_law 1201 = .ok (.iadd, 1) := by decide +kernel
theorem dL_law_1202 : decode cL_law 1202 = .ok (.iaload, 1) := by decide +kernel
theorem dL_law_1203 : decode cL_law 1203 = .ok (.aload_n 0, 1) := by decide +kernel
theorem dL_law_1204 : decode cL_law 1204 = .ok (.iload 4, 2) := by decide +kernel
theorem dL_law_1206 : decode cL_law 1206 = .ok (.iconst 2, 1) := by decide +kernel
theorem dL_law_1207 : decode cL_law 1207 = .ok (.iadd, 1) := by decide +kernel
theorem dL_law_1208 : decode cL_law 1208 = .ok (.iaload, 1) := by decide +kernel
theorem dL_law_1209 : decode cL_law 1209 = .ok (.aload_n 0, 1) := by decide +kernel
theorem dL_law_1210 : decode cL_law 1210 = .ok (.iload 4, 2) := by decide +kernel
theorem dL_law_1212 : decode cL_law 1212 = .ok (.iconst 3, 1) := by decide +kernel
theorem dL_law_1213 : decode cL_law 1213 = .ok (.iadd, 1) := by decide +kernel
theorem dL_law_1214 : decode cL_law 1214 = .ok (.iaload, 1) := by decide +kernel
theorem dL_law_1215 : decode cL_law 1215 = .ok (.aload_n 0, 1) := by decide +kernel
theorem dL_law_1216 : decode cL_law 1216 = .ok (.iload 4, 2) := by decide +kernel
theorem dL_law_1218 : decode cL_law 1218 = .ok (.iconst 4, 1) := by decide +kernel
theorem dL_law_1219 : decode cL_law 1219 = .ok (.iadd, 1) := by decide +kernel
theorem dL_law_1220 : decode cL_law 1220 = .ok (.iaload, 1) := by decide +kernel
theorem dL_law_1221 : decode cL_law 1221 = .ok (.invokevirtual 142, 3) := by decide +kernel
theorem dL_law_1224 : decode cL_law 1224 = .ok (.lstore 6, 2) := by decide +kernel
theorem dL_law_1226 : decode cL_law 1226 = .ok (.aload_n 2, 1) := by decide +kernel
theorem dL_law_1227 : decode cL_law 1227 = .ok (.invokevirtual 93, 3) := by decide +kernel
theorem dL_law_1230 : decode cL_law 1230 = .ok (.iload 5, 2) := by decide +kernel
theorem dL_law_1232 : decode cL_law 1232 = .ok (.if_icmp .eq 5, 3) := by decide +kernel
theorem dL_law_1235 : decode cL_law 1235 = .ok (.iconst 0, 1) := by decide +kernel
theorem dL_law_1236 : decode cL_law 1236 = .ok (.ireturn, 1) := by decide +kernel
theorem dL_law_1237 : decode cL_law 1237 = .ok (.iload 5, 2) := by decide +kernel
theorem dL_law_1239 : decode cL_law 1239 = .ok (.ifCond .ne 14, 3) := by decide +kernel
theorem dL_law_1242 : decode cL_law 1242 = .ok (.aload_n 3, 1) := by decide +kernel
theorem dL_law_1243 : decode cL_law 1243 = .ok (.iconst 0, 1) := by decide +kernel
theorem dL_law_1244 : decode cL_law 1244 = .ok (.laload, 1) := by decide +kernel
theorem dL_law_1245 : decode cL_law 1245 = .ok (.lload 6, 2) := by decide +kernel
theorem dL_law_1247 : decode cL_law 1247 = .ok (.lcmp, 1) := by decide +kernel
theorem dL_law_1248 : decode cL_law 1248 = .ok (.ifCond .eq 5, 3) := by decide +kernel
theorem dL_law_1251 : decode cL_law 1251 = .ok (.iconst 0, 1) := by decide +kernel
theorem dL_law_1252 : decode cL_law 1252 = .ok (.ireturn, 1) := by decide +kernel
theorem dL_law_1253 : decode cL_law 1253 = .ok (.goto 667, 3) := by decide +kernel
theorem dL_law_1256 : decode cL_law 1256 = .ok (.aload_n 1, 1) := by decide +kernel
theorem dL_law_1257 : decode cL_law 1257 = .ok (.aload_n 0, 1) := by decide +kernel
theorem dL_law_1258 : decode cL_law 1258 = .ok (.iload 4, 2) := by decide +kernel
theorem dL_law_1260 : decode cL_law 1260 = .ok (.iconst 1, 1) := by decide +kernel
theorem dL_law_1261 : decode cL_law 1261 = .ok (.iadd, 1) := by decide +kernel
theorem dL_law_1262 : decode cL_law 1262 = .ok (.iaload, 1) := by decide +kernel
theorem dL_law_1263 : decode cL_law 1263 = .ok (.aload_n 0, 1) := by decide +kernel
theorem dL_law_1264 : decode cL_law 1264 = .ok (.iload 4, 2) := by decide +kernel
theorem dL_law_1266 : decode cL_law 1266 = .ok (.iconst 2, 1) := by decide +kernel
theorem dL_law_1267 : decode cL_law 1267 = .ok (.iadd, 1) := by decide +kernel
theorem dL_law_1268 : decode cL_law 1268 = .ok (.iaload, 1) := by decide +kernel
theorem dL_law_1269 : decode cL_law 1269 = .ok (.aload_n 0, 1) := by decide +kernel
theorem dL_law_1270 : decode cL_law 1270 = .ok (.iload 4, 2) := by decide +kernel
theorem dL_law_1272 : decode cL_law 1272 = .ok (.iconst 3, 1) := by decide +kernel
theorem dL_law_1273 : decode cL_law 1273 = .ok (.iadd, 1) := by decide +kernel
theorem dL_law_1274 : decode cL_law 1274 = .ok (.iaload, 1) := by decide +kernel
theorem dL_law_1275 : decode cL_law 1275 = .ok (.aload_n 0, 1) := by decide +kernel
theorem dL_law_1276 : decode cL_law 1276 = .ok (.iload 4, 2) := by decide +kernel
theorem dL_law_1278 : decode cL_law 1278 = .ok (.iconst 4, 1) := by decide +kernel
theorem dL_law_1279 : decode cL_law 1279 = .ok (.iadd, 1) := by decide +kernel
theorem dL_law_1280 : decode cL_law 1280 = .ok (.iaload, 1) := by decide +kernel
theorem dL_law_1281 : decode cL_law 1281 = .ok (.aload_n 3, 1) := by decide +kernel
theorem dL_law_1282 : decode cL_law 1282 = .ok (.invokestatic 143, 3) := by decide +kernel
theorem dL_law_1285 : decode cL_law 1285 = .ok (.istore 5, 2) := by decide +kernel
theorem dL_law_1287 : decode cL_law 1287 = .ok (.aload_n 2, 1) := by decide +kernel
theorem dL_law_1288 : decode cL_law 1288 = .ok (.aload_n 0, 1) := by decide +kernel
theorem dL_law_1289 : decode cL_law 1289 = .ok (.iload 4, 2) := by decide +kernel
theorem dL_law_1291 : decode cL_law 1291 = .ok (.iconst 1, 1) := by decide +kernel
theorem dL_law_1292 : decode cL_law 1292 = .ok (.iadd, 1) := by decide +kernel
theorem dL_law_1293 : decode cL_law 1293 = .ok (.iaload, 1) := by decide +kernel
theorem dL_law_1294 : decode cL_law 1294 = .ok (.aload_n 0, 1) := by decide +kernel
theorem dL_law_1295 : decode cL_law 1295 = .ok (.iload 4, 2) := by decide +kernel
theorem dL_law_1297 : decode cL_law 1297 = .ok (.iconst 2, 1) := by decide +kernel
theorem dL_law_1298 : decode cL_law 1298 = .ok (.iadd, 1) := by decide +kernel
theorem dL_law_1299 : decode cL_law 1299 = .ok (.iaload, 1) := by decide +kernel
theorem dL_law_1300 : decode cL_law 1300 = .ok (.aload_n 0, 1) := by decide +kernel
theorem dL_law_1301 : decode cL_law 1301 = .ok (.iload 4, 2) := by decide +kernel
theorem dL_law_1303 : decode cL_law 1303 = .ok (.iconst 3, 1) := by decide +kernel
theorem dL_law_1304 : decode cL_law 1304 = .ok (.iadd, 1) := by decide +kernel
theorem dL_law_1305 : decode cL_law 1305 = .ok (.iaload, 1) := by decide +kernel
theorem dL_law_1306 : decode cL_law 1306 = .ok (.aload_n 0, 1) := by decide +kernel
theorem dL_law_1307 : decode cL_law 1307 = .ok (.iload 4, 2) := by decide +kernel
theorem dL_law_1309 : decode cL_law 1309 = .ok (.iconst 4, 1) := by decide +kernel
theorem dL_law_1310 : decode cL_law 1310 = .ok (.iadd, 1) := by decide +kernel
theorem dL_law_1311 : decode cL_law 1311 = .ok (.iaload, 1) := by decide +kernel
theorem dL_law_1312 : decode cL_law 1312 = .ok (.invokevirtual 145, 3) := by decide +kernel
theorem dL_law_1315 : decode cL_law 1315 = .ok (.lstore 6, 2) := by decide +kernel
theorem dL_law_1317 : decode cL_law 1317 = .ok (.aload_n 2, 1) := by decide +kernel
theorem dL_law_1318 : decode cL_law 1318 = .ok (.invokevirtual 93, 3) := by decide +kernel
theorem dL_law_1321 : decode cL_law 1321 = .ok (.iload 5, 2) := by decide +kernel
theorem dL_law_1323 : decode cL_law 1323 = .ok (.if_icmp .eq 5, 3) := by decide +kernel
theorem dL_law_1326 : decode cL_law 1326 = .ok (.iconst 0, 1) := by decide +kernel
theorem dL_law_1327 : decode cL_law 1327 = .ok (.ireturn, 1) := by decide +kernel
theorem dL_law_1328 : decode cL_law 1328 = .ok (.iload 5, 2) := by decide +kernel
theorem dL_law_1330 : decode cL_law 1330 = .ok (.ifCond .ne 14, 3) := by decide +kernel
theorem dL_law_1333 : decode cL_law 1333 = .ok (.aload_n 3, 1) := by decide +kernel
theorem dL_law_1334 : decode cL_law 1334 = .ok (.iconst 0, 1) := by decide +kernel
theorem dL_law_1335 : decode cL_law 1335 = .ok (.laload, 1) := by decide +kernel
theorem dL_law_1336 : decode cL_law 1336 = .ok (.lload 6, 2) := by decide +kernel
theorem dL_law_1338 : decode cL_law 1338 = .ok (.lcmp, 1) := by decide +kernel
theorem dL_law_1339 : decode cL_law 1339 = .ok (.ifCond .eq 5, 3) := by decide +kernel
theorem dL_law_1342 : decode cL_law 1342 = .ok (.iconst 0, 1) := by decide +kernel
theorem dL_law_1343 : decode cL_law 1343 = .ok (.ireturn, 1) := by decide +kernel
theorem dL_law_1344 : decode cL_law 1344 = .ok (.goto 576, 3) := by decide +kernel
theorem dL_law_1347 : decode cL_law 1347 = .ok (.aload_n 1, 1) := by decide +kernel
theorem dL_law_1348 : decode cL_law 1348 = .ok (.invokevirtual 146, 3) := by decide +kernel
theorem dL_law_1351 : decode cL_law 1351 = .ok (.aload_n 2, 1) := by decide +kernel
theorem dL_law_1352 : decode cL_law 1352 = .ok (.invokevirtual 149, 3) := by decide +kernel
theorem dL_law_1355 : decode cL_law 1355 = .ok (.if_icmp .eq 565, 3) := by decide +kernel
theorem dL_law_1358 : decode cL_law 1358 = .ok (.iconst 0, 1) := by decide +kernel
theorem dL_law_1359 : decode cL_law 1359 = .ok (.ireturn, 1) := by decide +kernel
theorem dL_law_1360 : decode cL_law 1360 = .ok (.aload_n 1, 1) := by decide +kernel
theorem dL_law_1361 : decode cL_law 1361 = .ok (.invokevirtual 150, 3) := by decide +kernel
theorem dL_law_1364 : decode cL_law 1364 = .ok (.aload_n 2, 1) := by decide +kernel
theorem dL_law_1365 : decode cL_law 1365 = .ok (.invokevirtual 153, 3) := by decide +kernel
theorem dL_law_1368 : decode cL_law 1368 = .ok (.if_icmp .eq 552, 3) := by decide +kernel
theorem dL_law_1371 : decode cL_law 1371 = .ok (.iconst 0, 1) := by decide +kernel
theorem dL_law_1372 : decode cL_law 1372 = .ok (.ireturn, 1) := by decide +kernel
theorem dL_law_1373 : decode cL_law 1373 = .ok (.aload_n 1, 1) := by decide +kernel
theorem dL_law_1374 : decode cL_law 1374 = .ok (.aload_n 0, 1) := by decide +kernel
theorem dL_law_1375 : decode cL_law 1375 = .ok (.iload 4, 2) := by decide +kernel
theorem dL_law_1377 : decode cL_law 1377 = .ok (.iconst 1, 1) := by decide +kernel
theorem dL_law_1378 : decode cL_law 1378 = .ok (.iadd, 1) := by decide +kernel
theorem dL_law_1379 : decode cL_law 1379 = .ok (.iaload, 1) := by decide +kernel
theorem dL_law_1380 : decode cL_law 1380 = .ok (.aload_n 0, 1) := by decide +kernel
theorem dL_law_1381 : decode cL_law 1381 = .ok (.iload 4, 2) := by decide +kernel
theorem dL_law_1383 : decode cL_law 1383 = .ok (.iconst 2, 1) := by decide +kernel
theorem dL_law_1384 : decode cL_law 1384 = .ok (.iadd, 1) := by decide +kernel
theorem dL_law_1385 : decode cL_law 1385 = .ok (.iaload, 1) := by decide +kernel
theorem dL_law_1386 : decode cL_law 1386 = .ok (.aload_n 3, 1) := by decide +kernel
theorem dL_law_1387 : decode cL_law 1387 = .ok (.invokestatic 154, 3) := by decide +kernel
theorem dL_law_1390 : decode cL_law 1390 = .ok (.istore 5, 2) := by decide +kernel
theorem dL_law_1392 : decode cL_law 1392 = .ok (.aload_n 2, 1) := by decide +kernel
theorem dL_law_1393 : decode cL_law 1393 = .ok (.aload_n 0, 1) := by decide +kernel
theorem dL_law_1394 : decode cL_law 1394 = .ok (.iload 4, 2) := by decide +kernel
theorem dL_law_1396 : decode cL_law 1396 = .ok (.iconst 1, 1) := by decide +kernel
theorem dL_law_1397 : decode cL_law 1397 = .ok (.iadd, 1) := by decide +kernel
theorem dL_law_1398 : decode cL_law 1398 = .ok (.iaload, 1) := by decide +kernel
theorem dL_law_1399 : decode cL_law 1399 = .ok (.aload_n 0, 1) := by decide +kernel
theorem dL_law_1400 : decode cL_law 1400 = .ok (.iload 4, 2) := by decide +kernel
theorem dL_law_1402 : decode cL_law 1402 = .ok (.iconst 2, 1) := by decide +kernel
theorem dL_law_1403 : decode cL_law 1403 = .ok (.iadd, 1) := by decide +kernel
theorem dL_law_1404 : decode cL_law 1404 = .ok (.iaload, 1) := by decide +kernel
theorem dL_law_1405 : decode cL_law 1405 = .ok (.invokevirtual 156, 3) := by decide +kernel
theorem dL_law_1408 : decode cL_law 1408 = .ok (.istore 6, 2) := by decide +kernel
theorem dL_law_1410 : decode cL_law 1410 = .ok (.aload_n 2, 1) := by decide +kernel
theorem dL_law_1411 : decode cL_law 1411 = .ok (.invokevirtual 93, 3) := by decide +kernel
theorem dL_law_1414 : decode cL_law 1414 = .ok (.iload 5, 2) := by decide +kernel
theorem dL_law_1416 : decode cL_law 1416 = .ok (.if_icmp .eq 5, 3) := by decide +kernel
theorem dL_law_1419 : decode cL_law 1419 = .ok (.iconst 0, 1) := by decide +kernel
theorem dL_law_1420 : decode cL_law 1420 = .ok (.ireturn, 1) := by decide +kernel
theorem dL_law_1421 : decode cL_law 1421 = .ok (.iload 5, 2) := by decide +kernel
theorem dL_law_1423 : decode cL_law 1423 = .ok (.ifCond .ne 15, 3) := by decide +kernel
theorem dL_law_1426 : decode cL_law 1426 = .ok (.aload_n 3, 1) := by decide +kernel
theorem dL_law_1427 : decode cL_law 1427 = .ok (.iconst 0, 1) := by decide +kernel
theorem dL_law_1428 : decode cL_law 1428 = .ok (.laload, 1) := by decide +kernel
theorem dL_law_1429 : decode cL_law 1429 = .ok (.iload 6, 2) := by decide +kernel
theorem dL_law_1431 : decode cL_law 1431 = .ok (.i2l, 1) := by decide +kernel
theorem dL_law_1432 : decode cL_law 1432 = .ok (.lcmp, 1) := by decide +kernel
theorem dL_law_1433 : decode cL_law 1433 = .ok (.ifCond .eq 5, 3) := by decide +kernel
theorem dL_law_1436 : decode cL_law 1436 = .ok (.iconst 0, 1) := by decide +kernel
theorem dL_law_1437 : decode cL_law 1437 = .ok (.ireturn, 1) := by decide +kernel
theorem dL_law_1438 : decode cL_law 1438 = .ok (.goto 482, 3) := by decide +kernel
theorem dL_law_1441 : decode cL_law 1441 = .ok (.aload_n 1, 1) := by decide +kernel
theorem dL_law_1442 : decode cL_law 1442 = .ok (.aload_n 0, 1) := by decide +kernel
theorem dL_law_1443 : decode cL_law 1443 = .ok (.iload 4, 2) := by decide +kernel
theorem dL_law_1445 : decode cL_law 1445 = .ok (.iconst 1, 1) := by decide +kernel
theorem dL_law_1446 : decode cL_law 1446 = .ok (.iadd, 1) := by decide +kernel
theorem dL_law_1447 : decode cL_law 1447 = .ok (.iaload, 1) := by decide +kernel
theorem dL_law_1448 : decode cL_law 1448 = .ok (.aload_n 0, 1) := by decide +kernel
theorem dL_law_1449 : decode cL_law 1449 = .ok (.iload 4, 2) := by decide +kernel
theorem dL_law_1451 : decode cL_law 1451 = .ok (.iconst 2, 1) := by decide +kernel
theorem dL_law_1452 : decode cL_law 1452 = .ok (.iadd, 1) := by decide +kernel
theorem dL_law_1453 : decode cL_law 1453 = .ok (.iaload, 1) := by decide +kernel
theorem dL_law_1454 : decode cL_law 1454 = .ok (.aload_n 0, 1) := by decide +kernel
theorem dL_law_1455 : decode cL_law 1455 = .ok (.iload 4, 2) := by decide +kernel
theorem dL_law_1457 : decode cL_law 1457 = .ok (.iconst 3, 1) := by decide +kernel
theorem dL_law_1458 : decode cL_law 1458 = .ok (.iadd, 1) := by decide +kernel
theorem dL_law_1459 : decode cL_law 1459 = .ok (.iaload, 1) := by decide +kernel
theorem dL_law_1460 : decode cL_law 1460 = .ok (.aload_n 0, 1) := by decide +kernel
theorem dL_law_1461 : decode cL_law 1461 = .ok (.iload 4, 2) := by decide +kernel
theorem dL_law_1463 : decode cL_law 1463 = .ok (.iconst 4, 1) := by decide +kernel
theorem dL_law_1464 : decode cL_law 1464 = .ok (.iadd, 1) := by decide +kernel
theorem dL_law_1465 : decode cL_law 1465 = .ok (.iaload, 1) := by decide +kernel
theorem dL_law_1466 : decode cL_law 1466 = .ok (.aload_n 0, 1) := by decide +kernel
theorem dL_law_1467 : decode cL_law 1467 = .ok (.iload 4, 2) := by decide +kernel
theorem dL_law_1469 : decode cL_law 1469 = .ok (.iconst 5, 1) := by decide +kernel
theorem dL_law_1470 : decode cL_law 1470 = .ok (.iadd, 1) := by decide +kernel
theorem dL_law_1471 : decode cL_law 1471 = .ok (.iaload, 1) := by decide +kernel
theorem dL_law_1472 : decode cL_law 1472 = .ok (.aload_n 3, 1) := by decide +kernel
theorem dL_law_1473 : decode cL_law 1473 = .ok (.invokestatic 157, 3) := by decide +kernel
theorem dL_law_1476 : decode cL_law 1476 = .ok (.istore 5, 2) := by decide +kernel
theorem dL_law_1478 : decode cL_law 1478 = .ok (.aload_n 2, 1) := by decide +kernel
theorem dL_law_1479 : decode cL_law 1479 = .ok (.aload_n 0, 1) := by decide +kernel
theorem dL_law_1480 : decode cL_law 1480 = .ok (.iload 4, 2) := by decide +kernel
theorem dL_law_1482 : decode cL_law 1482 = .ok (.iconst 1, 1) := by decide +kernel
theorem dL_law_1483 : decode cL_law 1483 = .ok (.iadd, 1) := by decide +kernel
theorem dL_law_1484 : decode cL_law 1484 = .ok (.iaload, 1) := by decide +kernel
theorem dL_law_1485 : decode cL_law 1485 = .ok (.aload_n 0, 1) := by decide +kernel
theorem dL_law_1486 : decode cL_law 1486 = .ok (.iload 4, 2) := by decide +kernel
theorem dL_law_1488 : decode cL_law 1488 = .ok (.iconst 2, 1) := by decide +kernel
theorem dL_law_1489 : decode cL_law 1489 = .ok (.iadd, 1) := by decide +kernel
theorem dL_law_1490 : decode cL_law 1490 = .ok (.iaload, 1) := by decide +kernel
theorem dL_law_1491 : decode cL_law 1491 = .ok (.aload_n 0, 1) := by decide +kernel
theorem dL_law_1492 : decode cL_law 1492 = .ok (.iload 4, 2) := by decide +kernel
theorem dL_law_1494 : decode cL_law 1494 = .ok (.iconst 3, 1) := by decide +kernel
theorem dL_law_1495 : decode cL_law 1495 = .ok (.iadd, 1) := by decide +kernel
theorem dL_law_1496 : decode cL_law 1496 = .ok (.iaload, 1) := by decide +kernel
theorem dL_law_1497 : decode cL_law 1497 = .ok (.aload_n 0, 1) := by decide +kernel
theorem dL_law_1498 : decode cL_law 1498 = .ok (.iload 4, 2) := by decide +kernel
theorem dL_law_1500 : decode cL_law 1500 = .ok (.iconst 4, 1) := by decide +kernel
theorem dL_law_1501 : decode cL_law 1501 = .ok (.iadd, 1) := by decide +kernel
theorem dL_law_1502 : decode cL_law 1502 = .ok (.iaload, 1) := by decide +kernel
theorem dL_law_1503 : decode cL_law 1503 = .ok (.aload_n 0, 1) := by decide +kernel
theorem dL_law_1504 : decode cL_law 1504 = .ok (.iload 4, 2) := by decide +kernel
theorem dL_law_1506 : decode cL_law 1506 = .ok (.iconst 5, 1) := by decide +kernel
theorem dL_law_1507 : decode cL_law 1507 = .ok (.iadd, 1) := by decide +kernel
theorem dL_law_1508 : decode cL_law 1508 = .ok (.iaload, 1) := by decide +kernel
theorem dL_law_1509 : decode cL_law 1509 = .ok (.invokevirtual 159, 3) := by decide +kernel
theorem dL_law_1512 : decode cL_law 1512 = .ok (.istore 6, 2) := by decide +kernel
theorem dL_law_1514 : decode cL_law 1514 = .ok (.aload_n 2, 1) := by decide +kernel
theorem dL_law_1515 : decode cL_law 1515 = .ok (.invokevirtual 93, 3) := by decide +kernel
theorem dL_law_1518 : decode cL_law 1518 = .ok (.iload 5, 2) := by decide +kernel
theorem dL_law_1520 : decode cL_law 1520 = .ok (.if_icmp .eq 5, 3) := by decide +kernel
theorem dL_law_1523 : decode cL_law 1523 = .ok (.iconst 0, 1) := by decide +kernel
theorem dL_law_1524 : decode cL_law 1524 = .ok (.ireturn, 1) := by decide +kernel
theorem dL_law_1525 : decode cL_law 1525 = .ok (.iload 5, 2) := by decide +kernel
theorem dL_law_1527 : decode cL_law 1527 = .ok (.ifCond .ne 15, 3) := by decide +kernel
theorem dL_law_1530 : decode cL_law 1530 = .ok (.aload_n 3, 1) := by decide +kernel
theorem dL_law_1531 : decode cL_law 1531 = .ok (.iconst 0, 1) := by decide +kernel
theorem dL_law_1532 : decode cL_law 1532 = .ok (.laload, 1) := by decide +kernel
theorem dL_law_1533 : decode cL_law 1533 = .ok (.iload 6, 2) := by decide +kernel
theorem dL_law_1535 : decode cL_law 1535 = .ok (.i2l, 1) := by decide +kernel
theorem dL_law_1536 : decode cL_law 1536 = .ok (.lcmp, 1) := by decide +kernel
theorem dL_law_1537 : decode cL_law 1537 = .ok (.ifCond .eq 5, 3) := by decide +kernel
theorem dL_law_1540 : decode cL_law 1540 = .ok (.iconst 0, 1) := by decide +kernel
theorem dL_law_1541 : decode cL_law 1541 = .ok (.ireturn, 1) := by decide +kernel
theorem dL_law_1542 : decode cL_law 1542 = .ok (.goto 378, 3) := by decide +kernel
theorem dL_law_1545 : decode cL_law 1545 = .ok (.aload_n 1, 1) := by decide +kernel
theorem dL_law_1546 : decode cL_law 1546 = .ok (.aload_n 0, 1) := by decide +kernel
theorem dL_law_1547 : decode cL_law 1547 = .ok (.iload 4, 2) := by decide +kernel
theorem dL_law_1549 : decode cL_law 1549 = .ok (.iconst 1, 1) := by decide +kernel
theorem dL_law_1550 : decode cL_law 1550 = .ok (.iadd, 1) := by decide +kernel
theorem dL_law_1551 : decode cL_law 1551 = .ok (.iaload, 1) := by decide +kernel
theorem dL_law_1552 : decode cL_law 1552 = .ok (.aload_n 0, 1) := by decide +kernel
theorem dL_law_1553 : decode cL_law 1553 = .ok (.iload 4, 2) := by decide +kernel
theorem dL_law_1555 : decode cL_law 1555 = .ok (.iconst 2, 1) := by decide +kernel
theorem dL_law_1556 : decode cL_law 1556 = .ok (.iadd, 1) := by decide +kernel
theorem dL_law_1557 : decode cL_law 1557 = .ok (.iaload, 1) := by decide +kernel
theorem dL_law_1558 : decode cL_law 1558 = .ok (.aload_n 3, 1) := by decide +kernel
theorem dL_law_1559 : decode cL_law 1559 = .ok (.invokestatic 160, 3) := by decide +kernel
theorem dL_law_1562 : decode cL_law 1562 = .ok (.istore 5, 2) := by decide +kernel
theorem dL_law_1564 : decode cL_law 1564 = .ok (.aload_n 2, 1) := by decide +kernel
theorem dL_law_1565 : decode cL_law 1565 = .ok (.aload_n 0, 1) := by decide +kernel
theorem dL_law_1566 : decode cL_law 1566 = .ok (.iload 4, 2) := by decide +kernel
theorem dL_law_1568 : decode cL_law 1568 = .ok (.iconst 1, 1) := by decide +kernel
theorem dL_law_1569 : decode cL_law 1569 = .ok (.iadd, 1) := by decide +kernel
theorem dL_law_1570 : decode cL_law 1570 = .ok (.iaload, 1) := by decide +kernel
theorem dL_law_1571 : decode cL_law 1571 = .ok (.aload_n 0, 1) := by decide +kernel
theorem dL_law_1572 : decode cL_law 1572 = .ok (.iload 4, 2) := by decide +kernel
theorem dL_law_1574 : decode cL_law 1574 = .ok (.iconst 2, 1) := by decide +kernel
theorem dL_law_1575 : decode cL_law 1575 = .ok (.iadd, 1) := by decide +kernel
theorem dL_law_1576 : decode cL_law 1576 = .ok (.iaload, 1) := by decide +kernel
theorem dL_law_1577 : decode cL_law 1577 = .ok (.invokevirtual 162, 3) := by decide +kernel
theorem dL_law_1580 : decode cL_law 1580 = .ok (.istore 6, 2) := by decide +kernel
theorem dL_law_1582 : decode cL_law 1582 = .ok (.aload_n 2, 1) := by decide +kernel
theorem dL_law_1583 : decode cL_law 1583 = .ok (.invokevirtual 93, 3) := by decide +kernel
theorem dL_law_1586 : decode cL_law 1586 = .ok (.iload 5, 2) := by decide +kernel
theorem dL_law_1588 : decode cL_law 1588 = .ok (.if_icmp .eq 5, 3) := by decide +kernel
theorem dL_law_1591 : decode cL_law 1591 = .ok (.iconst 0, 1) := by decide +kernel
theorem dL_law_1592 : decode cL_law 1592 = .ok (.ireturn, 1) := by decide +kernel
theorem dL_law_1593 : decode cL_law 1593 = .ok (.iload 5, 2) := by decide +kernel
theorem dL_law_1595 : decode cL_law 1595 = .ok (.ifCond .ne 15, 3) := by decide +kernel
theorem dL_law_1598 : decode cL_law 1598 = .ok (.aload_n 3, 1) := by decide +kernel
theorem dL_law_1599 : decode cL_law 1599 = .ok (.iconst 0, 1) := by decide +kernel
theorem dL_law_1600 : decode cL_law 1600 = .ok (.laload, 1) := by decide +kernel
theorem dL_law_1601 : decode cL_law 1601 = .ok (.iload 6, 2) := by decide +kernel
theorem dL_law_1603 : decode cL_law 1603 = .ok (.i2l, 1) := by decide +kernel
theorem dL_law_1604 : decode cL_law 1604 = .ok (.lcmp, 1) := by decide +kernel
theorem dL_law_1605 : decode cL_law 1605 = .ok (.ifCond .eq 5, 3) := by decide +kernel
theorem dL_law_1608 : decode cL_law 1608 = .ok (.iconst 0, 1) := by decide +kernel
theorem dL_law_1609 : decode cL_law 1609 = .ok (.ireturn, 1) := by decide +kernel
theorem dL_law_1610 : decode cL_law 1610 = .ok (.goto 310, 3) := by decide +kernel
theorem dL_law_1613 : decode cL_law 1613 = .ok (.aload_n 1, 1) := by decide +kernel
theorem dL_law_1614 : decode cL_law 1614 = .ok (.aload_n 0, 1) := by decide +kernel
theorem dL_law_1615 : decode cL_law 1615 = .ok (.iload 4, 2) := by decide +kernel
theorem dL_law_1617 : decode cL_law 1617 = .ok (.iconst 1, 1) := by decide +kernel
theorem dL_law_1618 : decode cL_law 1618 = .ok (.iadd, 1) := by decide +kernel
theorem dL_law_1619 : decode cL_law 1619 = .ok (.iaload, 1) := by decide +kernel
theorem dL_law_1620 : decode cL_law 1620 = .ok (.aload_n 0, 1) := by decide +kernel
theorem dL_law_1621 : decode cL_law 1621 = .ok (.iload 4, 2) := by decide +kernel
theorem dL_law_1623 : decode cL_law 1623 = .ok (.iconst 2, 1) := by decide +kernel
theorem dL_law_1624 : decode cL_law 1624 = .ok (.iadd, 1) := by decide +kernel
theorem dL_law_1625 : decode cL_law 1625 = .ok (.iaload, 1) := by decide +kernel
theorem dL_law_1626 : decode cL_law 1626 = .ok (.aload_n 0, 1) := by decide +kernel
theorem dL_law_1627 : decode cL_law 1627 = .ok (.iload 4, 2) := by decide +kernel
theorem dL_law_1629 : decode cL_law 1629 = .ok (.iconst 3, 1) := by decide +kernel
theorem dL_law_1630 : decode cL_law 1630 = .ok (.iadd, 1) := by decide +kernel
theorem dL_law_1631 : decode cL_law 1631 = .ok (.iaload, 1) := by decide +kernel
theorem dL_law_1632 : decode cL_law 1632 = .ok (.aload_n 3, 1) := by decide +kernel
theorem dL_law_1633 : decode cL_law 1633 = .ok (.invokestatic 163, 3) := by decide +kernel
theorem dL_law_1636 : decode cL_law 1636 = .ok (.istore 5, 2) := by decide +kernel
theorem dL_law_1638 : decode cL_law 1638 = .ok (.aload_n 2, 1) := by decide +kernel
theorem dL_law_1639 : decode cL_law 1639 = .ok (.aload_n 0, 1) := by decide +kernel
theorem dL_law_1640 : decode cL_law 1640 = .ok (.iload 4, 2) := by decide +kernel
theorem dL_law_1642 : decode cL_law 1642 = .ok (.iconst 1, 1) := by decide +kernel
theorem dL_law_1643 : decode cL_law 1643 = .ok (.iadd, 1) := by decide +kernel
theorem dL_law_1644 : decode cL_law 1644 = .ok (.iaload, 1) := by decide +kernel
theorem dL_law_1645 : decode cL_law 1645 = .ok (.aload_n 0, 1) := by decide +kernel
theorem dL_law_1646 : decode cL_law 1646 = .ok (.iload 4, 2) := by decide +kernel
theorem dL_law_1648 : decode cL_law 1648 = .ok (.iconst 2, 1) := by decide +kernel
theorem dL_law_1649 : decode cL_law 1649 = .ok (.iadd, 1) := by decide +kernel
theorem dL_law_1650 : decode cL_law 1650 = .ok (.iaload, 1) := by decide +kernel
theorem dL_law_1651 : decode cL_law 1651 = .ok (.aload_n 0, 1) := by decide +kernel
theorem dL_law_1652 : decode cL_law 1652 = .ok (.iload 4, 2) := by decide +kernel
theorem dL_law_1654 : decode cL_law 1654 = .ok (.iconst 3, 1) := by decide +kernel
theorem dL_law_1655 : decode cL_law 1655 = .ok (.iadd, 1) := by decide +kernel
theorem dL_law_1656 : decode cL_law 1656 = .ok (.iaload, 1) := by decide +kernel
theorem dL_law_1657 : decode cL_law 1657 = .ok (.invokevirtual 165, 3) := by decide +kernel
theorem dL_law_1660 : decode cL_law 1660 = .ok (.istore 6, 2) := by decide +kernel
theorem dL_law_1662 : decode cL_law 1662 = .ok (.aload_n 2, 1) := by decide +kernel
theorem dL_law_1663 : decode cL_law 1663 = .ok (.invokevirtual 93, 3) := by decide +kernel
theorem dL_law_1666 : decode cL_law 1666 = .ok (.iload 5, 2) := by decide +kernel
theorem dL_law_1668 : decode cL_law 1668 = .ok (.if_icmp .eq 5, 3) := by decide +kernel
theorem dL_law_1671 : decode cL_law 1671 = .ok (.iconst 0, 1) := by decide +kernel
theorem dL_law_1672 : decode cL_law 1672 = .ok (.ireturn, 1) := by decide +kernel
theorem dL_law_1673 : decode cL_law 1673 = .ok (.iload 5, 2) := by decide +kernel
theorem dL_law_1675 : decode cL_law 1675 = .ok (.ifCond .ne 15, 3) := by decide +kernel
theorem dL_law_1678 : decode cL_law 1678 = .ok (.aload_n 3, 1) := by decide +kernel
theorem dL_law_1679 : decode cL_law 1679 = .ok (.iconst 0, 1) := by decide +kernel
theorem dL_law_1680 : decode cL_law 1680 = .ok (.laload, 1) := by decide +kernel
theorem dL_law_1681 : decode cL_law 1681 = .ok (.iload 6, 2) := by decide +kernel
theorem dL_law_1683 : decode cL_law 1683 = .ok (.i2l, 1) := by decide +kernel
theorem dL_law_1684 : decode cL_law 1684 = .ok (.lcmp, 1) := by decide +kernel
theorem dL_law_1685 : decode cL_law 1685 = .ok (.ifCond .eq 5, 3) := by decide +kernel
theorem dL_law_1688 : decode cL_law 1688 = .ok (.iconst 0, 1) := by decide +kernel
theorem dL_law_1689 : decode cL_law 1689 = .ok (.ireturn, 1) := by decide +kernel
theorem dL_law_1690 : decode cL_law 1690 = .ok (.goto 230, 3) := by decide +kernel
theorem dL_law_1693 : decode cL_law 1693 = .ok (.aload_n 1, 1) := by decide +kernel
theorem dL_law_1694 : decode cL_law 1694 = .ok (.aload_n 0, 1) := by decide +kernel
theorem dL_law_1695 : decode cL_law 1695 = .ok (.iload 4, 2) := by decide +kernel
theorem dL_law_1697 : decode cL_law 1697 = .ok (.iconst 1, 1) := by decide +kernel
theorem dL_law_1698 : decode cL_law 1698 = .ok (.iadd, 1) := by decide +kernel
theorem dL_law_1699 : decode cL_law 1699 = .ok (.iaload, 1) := by decide +kernel
theorem dL_law_1700 : decode cL_law 1700 = .ok (.aload_n 0, 1) := by decide +kernel
theorem dL_law_1701 : decode cL_law 1701 = .ok (.iload 4, 2) := by decide +kernel
theorem dL_law_1703 : decode cL_law 1703 = .ok (.iconst 2, 1) := by decide +kernel
theorem dL_law_1704 : decode cL_law 1704 = .ok (.iadd, 1) := by decide +kernel
theorem dL_law_1705 : decode cL_law 1705 = .ok (.iaload, 1) := by decide +kernel
theorem dL_law_1706 : decode cL_law 1706 = .ok (.aload_n 0, 1) := by decide +kernel
theorem dL_law_1707 : decode cL_law 1707 = .ok (.iload 4, 2) := by decide +kernel
theorem dL_law_1709 : decode cL_law 1709 = .ok (.iconst 3, 1) := by decide +kernel
theorem dL_law_1710 : decode cL_law 1710 = .ok (.iadd, 1) := by decide +kernel
theorem dL_law_1711 : decode cL_law 1711 = .ok (.iaload, 1) := by decide +kernel
theorem dL_law_1712 : decode cL_law 1712 = .ok (.aload_n 0, 1) := by decide +kernel
theorem dL_law_1713 : decode cL_law 1713 = .ok (.iload 4, 2) := by decide +kernel
theorem dL_law_1715 : decode cL_law 1715 = .ok (.iconst 4, 1) := by decide +kernel
theorem dL_law_1716 : decode cL_law 1716 = .ok (.iadd, 1) := by decide +kernel
theorem dL_law_1717 : decode cL_law 1717 = .ok (.iaload, 1) := by decide +kernel
theorem dL_law_1718 : decode cL_law 1718 = .ok (.aload_n 0, 1) := by decide +kernel
theorem dL_law_1719 : decode cL_law 1719 = .ok (.iload 4, 2) := by decide +kernel
theorem dL_law_1721 : decode cL_law 1721 = .ok (.iconst 5, 1) := by decide +kernel
theorem dL_law_1722 : decode cL_law 1722 = .ok (.iadd, 1) := by decide +kernel
theorem dL_law_1723 : decode cL_law 1723 = .ok (.iaload, 1) := by decide +kernel
theorem dL_law_1724 : decode cL_law 1724 = .ok (.aload_n 0, 1) := by decide +kernel
theorem dL_law_1725 : decode cL_law 1725 = .ok (.iload 4, 2) := by decide +kernel
theorem dL_law_1727 : decode cL_law 1727 = .ok (.bipush 6, 2) := by decide +kernel
theorem dL_law_1729 : decode cL_law 1729 = .ok (.iadd, 1) := by decide +kernel
theorem dL_law_1730 : decode cL_law 1730 = .ok (.iaload, 1) := by decide +kernel
theorem dL_law_1731 : decode cL_law 1731 = .ok (.aload_n 3, 1) := by decide +kernel
theorem dL_law_1732 : decode cL_law 1732 = .ok (.invokestatic 166, 3) := by decide +kernel
theorem dL_law_1735 : decode cL_law 1735 = .ok (.istore 5, 2) := by decide +kernel
theorem dL_law_1737 : decode cL_law 1737 = .ok (.aload_n 2, 1) := by decide +kernel
theorem dL_law_1738 : decode cL_law 1738 = .ok (.aload_n 0, 1) := by decide +kernel
theorem dL_law_1739 : decode cL_law 1739 = .ok (.iload 4, 2) := by decide +kernel
theorem dL_law_1741 : decode cL_law 1741 = .ok (.iconst 1, 1) := by decide +kernel
theorem dL_law_1742 : decode cL_law 1742 = .ok (.iadd, 1) := by decide +kernel
theorem dL_law_1743 : decode cL_law 1743 = .ok (.iaload, 1) := by decide +kernel
theorem dL_law_1744 : decode cL_law 1744 = .ok (.aload_n 0, 1) := by decide +kernel
theorem dL_law_1745 : decode cL_law 1745 = .ok (.iload 4, 2) := by decide +kernel
theorem dL_law_1747 : decode cL_law 1747 = .ok (.iconst 2, 1) := by decide +kernel
theorem dL_law_1748 : decode cL_law 1748 = .ok (.iadd, 1) := by decide +kernel
theorem dL_law_1749 : decode cL_law 1749 = .ok (.iaload, 1) := by decide +kernel
theorem dL_law_1750 : decode cL_law 1750 = .ok (.aload_n 0, 1) := by decide +kernel
theorem dL_law_1751 : decode cL_law 1751 = .ok (.iload 4, 2) := by decide +kernel
theorem dL_law_1753 : decode cL_law 1753 = .ok (.iconst 3, 1) := by decide +kernel
theorem dL_law_1754 : decode cL_law 1754 = .ok (.iadd, 1) := by decide +kernel
theorem dL_law_1755 : decode cL_law 1755 = .ok (.iaload, 1) := by decide +kernel
theorem dL_law_1756 : decode cL_law 1756 = .ok (.aload_n 0, 1) := by decide +kernel
theorem dL_law_1757 : decode cL_law 1757 = .ok (.iload 4, 2) := by decide +kernel
theorem dL_law_1759 : decode cL_law 1759 = .ok (.iconst 4, 1) := by decide +kernel
theorem dL_law_1760 : decode cL_law 1760 = .ok (.iadd, 1) := by decide +kernel
theorem dL_law_1761 : decode cL_law 1761 = .ok (.iaload, 1) := by decide +kernel
theorem dL_law_1762 : decode cL_law 1762 = .ok (.aload_n 0, 1) := by decide +kernel
theorem dL_law_1763 : decode cL_law 1763 = .ok (.iload 4, 2) := by decide +kernel
theorem dL_law_1765 : decode cL_law 1765 = .ok (.iconst 5, 1) := by decide +kernel
theorem dL_law_1766 : decode cL_law 1766 = .ok (.iadd, 1) := by decide +kernel
theorem dL_law_1767 : decode cL_law 1767 = .ok (.iaload, 1) := by decide +kernel
theorem dL_law_1768 : decode cL_law 1768 = .ok (.aload_n 0, 1) := by decide +kernel
theorem dL_law_1769 : decode cL_law 1769 = .ok (.iload 4, 2) := by decide +kernel
theorem dL_law_1771 : decode cL_law 1771 = .ok (.bipush 6, 2) := by decide +kernel
theorem dL_law_1773 : decode cL_law 1773 = .ok (.iadd, 1) := by decide +kernel
theorem dL_law_1774 : decode cL_law 1774 = .ok (.iaload, 1) := by decide +kernel
theorem dL_law_1775 : decode cL_law 1775 = .ok (.invokevirtual 169, 3) := by decide +kernel
theorem dL_law_1778 : decode cL_law 1778 = .ok (.istore 6, 2) := by decide +kernel
theorem dL_law_1780 : decode cL_law 1780 = .ok (.aload_n 2, 1) := by decide +kernel
theorem dL_law_1781 : decode cL_law 1781 = .ok (.invokevirtual 93, 3) := by decide +kernel
theorem dL_law_1784 : decode cL_law 1784 = .ok (.iload 5, 2) := by decide +kernel
theorem dL_law_1786 : decode cL_law 1786 = .ok (.if_icmp .eq 5, 3) := by decide +kernel
theorem dL_law_1789 : decode cL_law 1789 = .ok (.iconst 0, 1) := by decide +kernel
theorem dL_law_1790 : decode cL_law 1790 = .ok (.ireturn, 1) := by decide +kernel
theorem dL_law_1791 : decode cL_law 1791 = .ok (.iload 5, 2) := by decide +kernel
theorem dL_law_1793 : decode cL_law 1793 = .ok (.ifCond .ne 15, 3) := by decide +kernel
theorem dL_law_1796 : decode cL_law 1796 = .ok (.aload_n 3, 1) := by decide +kernel
theorem dL_law_1797 : decode cL_law 1797 = .ok (.iconst 0, 1) := by decide +kernel
theorem dL_law_1798 : decode cL_law 1798 = .ok (.laload, 1) := by decide +kernel
theorem dL_law_1799 : decode cL_law 1799 = .ok (.iload 6, 2) := by decide +kernel
theorem dL_law_1801 : decode cL_law 1801 = .ok (.i2l, 1) := by decide +kernel
theorem dL_law_1802 : decode cL_law 1802 = .ok (.lcmp, 1) := by decide +kernel
theorem dL_law_1803 : decode cL_law 1803 = .ok (.ifCond .eq 5, 3) := by decide +kernel
theorem dL_law_1806 : decode cL_law 1806 = .ok (.iconst 0, 1) := by decide +kernel
theorem dL_law_1807 : decode cL_law 1807 = .ok (.ireturn, 1) := by decide +kernel
theorem dL_law_1808 : decode cL_law 1808 = .ok (.goto 112, 3) := by decide +kernel
theorem dL_law_1811 : decode cL_law 1811 = .ok (.aload_n 1, 1) := by decide +kernel
theorem dL_law_1812 : decode cL_law 1812 = .ok (.invokestatic 170, 3) := by decide +kernel
theorem dL_law_1815 : decode cL_law 1815 = .ok (.istore 5, 2) := by decide +kernel
theorem dL_law_1817 : decode cL_law 1817 = .ok (.aload_n 2, 1) := by decide +kernel
theorem dL_law_1818 : decode cL_law 1818 = .ok (.invokevirtual 173, 3) := by decide +kernel
theorem dL_law_1821 : decode cL_law 1821 = .ok (.aload_n 2, 1) := by decide +kernel
theorem dL_law_1822 : decode cL_law 1822 = .ok (.invokevirtual 93, 3) := by decide +kernel
theorem dL_law_1825 : decode cL_law 1825 = .ok (.iload 5, 2) := by decide +kernel
theorem dL_law_1827 : decode cL_law 1827 = .ok (.if_icmp .eq 5, 3) := by decide +kernel
theorem dL_law_1830 : decode cL_law 1830 = .ok (.iconst 0, 1) := by decide +kernel
theorem dL_law_1831 : decode cL_law 1831 = .ok (.ireturn, 1) := by decide +kernel
theorem dL_law_1832 : decode cL_law 1832 = .ok (.goto 88, 3) := by decide +kernel
theorem dL_law_1835 : decode cL_law 1835 = .ok (.aload_n 1, 1) := by decide +kernel
theorem dL_law_1836 : decode cL_law 1836 = .ok (.aload_n 0, 1) := by decide +kernel
theorem dL_law_1837 : decode cL_law 1837 = .ok (.iload 4, 2) := by decide +kernel
theorem dL_law_1839 : decode cL_law 1839 = .ok (.iconst 1, 1) := by decide +kernel
theorem dL_law_1840 : decode cL_law 1840 = .ok (.iadd, 1) := by decide +kernel
theorem dL_law_1841 : decode cL_law 1841 = .ok (.iaload, 1) := by decide +kernel
theorem dL_law_1842 : decode cL_law 1842 = .ok (.ifCond .eq 7, 3) := by decide +kernel
theorem dL_law_1845 : decode cL_law 1845 = .ok (.iconst 1, 1) := by decide +kernel
theorem dL_law_1846 : decode cL_law 1846 = .ok (.goto 4, 3) := by decide +kernel
theorem dL_law_1849 : decode cL_law 1849 = .ok (.iconst 0, 1) := by decide +kernel
theorem dL_law_1850 : decode cL_law 1850 = .ok (.aload_n 3, 1) := by decide +kernel
theorem dL_law_1851 : decode cL_law 1851 = .ok (.invokestatic 174, 3) := by decide +kernel
theorem dL_law_1854 : decode cL_law 1854 = .ok (.istore 5, 2) := by decide +kernel
theorem dL_law_1856 : decode cL_law 1856 = .ok (.aload_n 2, 1) := by decide +kernel
theorem dL_law_1857 : decode cL_law 1857 = .ok (.aload_n 0, 1) := by decide +kernel
theorem dL_law_1858 : decode cL_law 1858 = .ok (.iload 4, 2) := by decide +kernel
theorem dL_law_1860 : decode cL_law 1860 = .ok (.iconst 1, 1) := by decide +kernel
theorem dL_law_1861 : decode cL_law 1861 = .ok (.iadd, 1) := by decide +kernel
theorem dL_law_1862 : decode cL_law 1862 = .ok (.iaload, 1) := by decide +kernel
theorem dL_law_1863 : decode cL_law 1863 = .ok (.ifCond .eq 7, 3) := by decide +kernel
theorem dL_law_1866 : decode cL_law 1866 = .ok (.iconst 1, 1) := by decide +kernel
theorem dL_law_1867 : decode cL_law 1867 = .ok (.goto 4, 3) := by decide +kernel
theorem dL_law_1870 : decode cL_law 1870 = .ok (.iconst 0, 1) := by decide +kernel
theorem dL_law_1871 : decode cL_law 1871 = .ok (.invokevirtual 177, 3) := by decide +kernel
theorem dL_law_1874 : decode cL_law 1874 = .ok (.istore 6, 2) := by decide +kernel
theorem dL_law_1876 : decode cL_law 1876 = .ok (.aload_n 2, 1) := by decide +kernel
theorem dL_law_1877 : decode cL_law 1877 = .ok (.invokevirtual 93, 3) := by decide +kernel
theorem dL_law_1880 : decode cL_law 1880 = .ok (.iload 5, 2) := by decide +kernel
theorem dL_law_1882 : decode cL_law 1882 = .ok (.if_icmp .eq 5, 3) := by decide +kernel
theorem dL_law_1885 : decode cL_law 1885 = .ok (.iconst 0, 1) := by decide +kernel
theorem dL_law_1886 : decode cL_law 1886 = .ok (.ireturn, 1) := by decide +kernel
theorem dL_law_1887 : decode cL_law 1887 = .ok (.iload 5, 2) := by decide +kernel
theorem dL_law_1889 : decode cL_law 1889 = .ok (.ifCond .ne 15, 3) := by decide +kernel
theorem dL_law_1892 : decode cL_law 1892 = .ok (.aload_n 3, 1) := by decide +kernel
theorem dL_law_1893 : decode cL_law 1893 = .ok (.iconst 0, 1) := by decide +kernel
theorem dL_law_1894 : decode cL_law 1894 = .ok (.laload, 1) := by decide +kernel
theorem dL_law_1895 : decode cL_law 1895 = .ok (.iload 6, 2) := by decide +kernel
theorem dL_law_1897 : decode cL_law 1897 = .ok (.i2l, 1) := by decide +kernel
theorem dL_law_1898 : decode cL_law 1898 = .ok (.lcmp, 1) := by decide +kernel
theorem dL_law_1899 : decode cL_law 1899 = .ok (.ifCond .eq 5, 3) := by decide +kernel
theorem dL_law_1902 : decode cL_law 1902 = .ok (.iconst 0, 1) := by decide +kernel
theorem dL_law_1903 : decode cL_law 1903 = .ok (.ireturn, 1) := by decide +kernel
theorem dL_law_1904 : decode cL_law 1904 = .ok (.goto 16, 3) := by decide +kernel
theorem dL_law_1907 : decode cL_law 1907 = .ok (.aload_n 1, 1) := by decide +kernel
theorem dL_law_1908 : decode cL_law 1908 = .ok (.invokevirtual 178, 3) := by decide +kernel
theorem dL_law_1911 : decode cL_law 1911 = .ok (.aload_n 2, 1) := by decide +kernel
theorem dL_law_1912 : decode cL_law 1912 = .ok (.invokevirtual 181, 3) := by decide +kernel
theorem dL_law_1915 : decode cL_law 1915 = .ok (.if_icmp .eq 5, 3) := by decide +kernel
theorem dL_law_1918 : decode cL_law 1918 = .ok (.iconst 0, 1) := by decide +kernel
theorem dL_law_1919 : decode cL_law 1919 = .ok (.ireturn, 1) := by decide +kernel
theorem dL_law_1920 : decode cL_law 1920 = .ok (.iinc 4 7, 3) := by decide +kernel
theorem dL_law_1923 : decode cL_law 1923 = .ok (.goto (-1900), 3) := by decide +kernel
theorem dL_law_1926 : decode cL_law 1926 = .ok (.iconst 1, 1) := by decide +kernel
theorem dL_law_1927 : decode cL_law 1927 = .ok (.ireturn, 1) := by decide +kernel
