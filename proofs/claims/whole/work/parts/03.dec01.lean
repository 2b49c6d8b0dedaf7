theorem dX7_chosenCell_26 : decode cX7_chosenCell 26 = .ok (.getfield 67, 3) := by decide +kernel
theorem dX7_chosenCell_29 : decode cX7_chosenCell 29 = .ok (.iadd, 1) := by decide +kernel
theorem dX7_chosenCell_30 : decode cX7_chosenCell 30 = .ok (.ireturn, 1) := by decide +kernel
theorem dX7_weight_0 : decode cX7_weight 0 = .ok (.aload_n 0, 1) := by decide +kernel
theorem dX7_weight_1 : decode cX7_weight 1 = .ok (.getfield 70, 3) := by decide +kernel
theorem dX7_weight_4 : decode cX7_weight 4 = .ok (.ifCond .eq 13, 3) := by decide +kernel
theorem dX7_weight_7 : decode cX7_weight 7 = .ok (.aload_n 0, 1) := by decide +kernel
theorem dX7_weight_8 : decode cX7_weight 8 = .ok (.iload_n 1, 1) := by decide +kernel
theorem dX7_weight_9 : decode cX7_weight 9 = .ok (.invokevirtual 74, 3) := by decide +kernel
theorem dX7_weight_12 : decode cX7_weight 12 = .ok (.ifCond .ne 5, 3) := by decide +kernel
theorem dX7_weight_15 : decode cX7_weight 15 = .ok (.iconst 0, 1) := by decide +kernel
theorem dX7_weight_16 : decode cX7_weight 16 = .ok (.ireturn, 1) := by decide +kernel
theorem dX7_weight_17 : decode cX7_weight 17 = .ok (.iload_n 1, 1) := by decide +kernel
theorem dX7_weight_18 : decode cX7_weight 18 = .ok (.iconst 0, 1) := by decide +kernel
theorem dX7_weight_19 : decode cX7_weight 19 = .ok (.invokestatic 45, 3) := by decide +kernel
theorem dX7_weight_22 : decode cX7_weight 22 = .ok (.istore_n 3, 1) := by decide +kernel
theorem dX7_weight_23 : decode cX7_weight 23 = .ok (.aload_n 0, 1) := by decide +kernel
theorem dX7_weight_24 : decode cX7_weight 24 = .ok (.getfield 75, 3) := by decide +kernel
theorem dX7_weight_27 : decode cX7_weight 27 = .ok (.ifCond .eq 8, 3) := by decide +kernel
theorem dX7_weight_30 : decode cX7_weight 30 = .ok (.bipush 12, 2) := by decide +kernel
theorem dX7_weight_32 : decode cX7_weight 32 = .ok (.goto 4, 3) := by decide +kernel
theorem dX7_weight_35 : decode cX7_weight 35 = .ok (.iload_n 3, 1) := by decide +kernel
theorem dX7_weight_36 : decode cX7_weight 36 = .ok (.istore 4, 2) := by decide +kernel
theorem dX7_weight_38 : decode cX7_weight 38 = .ok (.aload_n 0, 1) := by decide +kernel
theorem dX7_weight_39 : decode cX7_weight 39 = .ok (.getfield 12, 3) := by decide +kernel
theorem dX7_weight_42 : decode cX7_weight 42 = .ok (.iload 4, 2) := by decide +kernel
theorem dX7_weight_44 : decode cX7_weight 44 = .ok (.iload_n 3, 1) := by decide +kernel
theorem dX7_weight_45 : decode cX7_weight 45 = .ok (.iload_n 2, 1) := by decide +kernel
theorem dX7_weight_46 : decode cX7_weight 46 = .ok (.iconst 0, 1) := by decide +kernel
theorem dX7_weight_47 : decode cX7_weight 47 = .ok (.invokestatic 45, 3) := by decide +kernel
theorem dX7_weight_50 : decode cX7_weight 50 = .ok (.invokevirtual 78, 3) := by decide +kernel
theorem dX7_weight_53 : decode cX7_weight 53 = .ok (.istore 5, 2) := by decide +kernel
theorem dX7_weight_55 : decode cX7_weight 55 = .ok (.iload 5, 2) := by decide +kernel
theorem dX7_weight_57 : decode cX7_weight 57 = .ok (.ifCond .eq 27, 3) := by decide +kernel
theorem dX7_weight_60 : decode cX7_weight 60 = .ok (.iload 5, 2) := by decide +kernel
theorem dX7_weight_62 : decode cX7_weight 62 = .ok (.aload_n 0, 1) := by decide +kernel
theorem dX7_weight_63 : decode cX7_weight 63 = .ok (.getfield 18, 3) := by decide +kernel
theorem dX7_weight_66 : decode cX7_weight 66 = .ok (.iload 4, 2) := by decide +kernel
theorem dX7_weight_68 : decode cX7_weight 68 = .ok (.iload_n 1, 1) := by decide +kernel
theorem dX7_weight_69 : decode cX7_weight 69 = .ok (.iconst 1, 1) := by decide +kernel
theorem dX7_weight_70 : decode cX7_weight 70 = .ok (.invokestatic 45, 3) := by decide +kernel
theorem dX7_weight_73 : decode cX7_weight 73 = .ok (.iload_n 2, 1) := by decide +kernel
theorem dX7_weight_74 : decode cX7_weight 74 = .ok (.iconst 1, 1) := by decide +kernel
theorem dX7_weight_75 : decode cX7_weight 75 = .ok (.invokestatic 45, 3) := by decide +kernel
theorem dX7_weight_78 : decode cX7_weight 78 = .ok (.invokevirtual 78, 3) := by decide +kernel
theorem dX7_weight_81 : decode cX7_weight 81 = .ok (.imul, 1) := by decide +kernel
theorem dX7_weight_82 : decode cX7_weight 82 = .ok (.istore 5, 2) := by decide +kernel
theorem dX7_weight_84 : decode cX7_weight 84 = .ok (.iload 5, 2) := by decide +kernel
theorem dX7_weight_86 : decode cX7_weight 86 = .ok (.ifCond .eq 27, 3) := by decide +kernel
theorem dX7_weight_89 : decode cX7_weight 89 = .ok (.iload 5, 2) := by decide +kernel
theorem dX7_weight_91 : decode cX7_weight 91 = .ok (.aload_n 0, 1) := by decide +kernel
theorem dX7_weight_92 : decode cX7_weight 92 = .ok (.getfield 21, 3) := by decide +kernel
theorem dX7_weight_95 : decode cX7_weight 95 = .ok (.iload 4, 2) := by decide +kernel
theorem dX7_weight_97 : decode cX7_weight 97 = .ok (.iload_n 1, 1) := by decide +kernel
theorem dX7_weight_98 : decode cX7_weight 98 = .ok (.iconst 2, 1) := by decide +kernel
theorem dX7_weight_99 : decode cX7_weight 99 = .ok (.invokestatic 45, 3) := by decide +kernel
theorem dX7_weight_102 : decode cX7_weight 102 = .ok (.iload_n 2, 1) := by decide +kernel
theorem dX7_weight_103 : decode cX7_weight 103 = .ok (.iconst 2, 1) := by decide +kernel
theorem dX7_weight_104 : decode cX7_weight 104 = .ok (.invokestatic 45, 3) := by decide +kernel
theorem dX7_weight_107 : decode cX7_weight 107 = .ok (.invokevirtual 78, 3) := by decide +kernel
theorem dX7_weight_110 : decode cX7_weight 110 = .ok (.imul, 1) := by decide +kernel
theorem dX7_weight_111 : decode cX7_weight 111 = .ok (.istore 5, 2) := by decide +kernel
theorem dX7_weight_113 : decode cX7_weight 113 = .ok (.iload 5, 2) := by decide +kernel
theorem dX7_weight_115 : decode cX7_weight 115 = .ok (.ireturn, 1) := by decide +kernel
theorem dX8_init_0 : decode cX8_init 0 = .ok (.aload_n 0, 1) := by decide +kernel
theorem dX8_init_1 : decode cX8_init 1 = .ok (.invokespecial 3, 3) := by decide +kernel
theorem dX8_init_4 : decode cX8_init 4 = .ok (.aload_n 0, 1) := by decide +kernel
theorem dX8_init_5 : decode cX8_init 5 = .ok (.bipush 50, 2) := by decide +kernel
theorem dX8_init_7 : decode cX8_init 7 = .ok (.newarray .long, 2) := by decide +kernel
theorem dX8_init_9 : decode cX8_init 9 = .ok (.putfield 9, 3) := by decide +kernel
theorem dX8_init_12 : decode cX8_init 12 = .ok (.aload_n 0, 1) := by decide +kernel
theorem dX8_init_13 : decode cX8_init 13 = .ok (.bipush 50, 2) := by decide +kernel
theorem dX8_init_15 : decode cX8_init 15 = .ok (.newarray .long, 2) := by decide +kernel
theorem dX8_init_17 : decode cX8_init 17 = .ok (.putfield 15, 3) := by decide +kernel
theorem dX8_init_20 : decode cX8_init 20 = .ok (.aload_n 0, 1) := by decide +kernel
theorem dX8_init_21 : decode cX8_init 21 = .ok (.bipush 50, 2) := by decide +kernel
theorem dX8_init_23 : decode cX8_init 23 = .ok (.newarray .long, 2) := by decide +kernel
theorem dX8_init_25 : decode cX8_init 25 = .ok (.putfield 18, 3) := by decide +kernel
theorem dX8_init_28 : decode cX8_init 28 = .ok (.return_, 1) := by decide +kernel
theorem dX8_start_0 : decode cX8_start 0 = .ok (.aload_n 0, 1) := by decide +kernel
theorem dX8_start_1 : decode cX8_start 1 = .ok (.iload_n 1, 1) := by decide +kernel
theorem dX8_start_2 : decode cX8_start 2 = .ok (.bipush 50, 2) := by decide +kernel
theorem dX8_start_4 : decode cX8_start 4 = .ok (.invokestatic 21, 3) := by decide +kernel
theorem dX8_start_7 : decode cX8_start 7 = .ok (.putfield 27, 3) := by decide +kernel
theorem dX8_start_10 : decode cX8_start 10 = .ok (.aload_n 0, 1) := by decide +kernel
theorem dX8_start_11 : decode cX8_start 11 = .ok (.lload_n 2, 1) := by decide +kernel
theorem dX8_start_12 : decode cX8_start 12 = .ok (.putfield 31, 3) := by decide +kernel
theorem dX8_start_15 : decode cX8_start 15 = .ok (.return_, 1) := by decide +kernel
theorem dX8_own_0 : decode cX8_own 0 = .ok (.iload_n 1, 1) := by decide +kernel
theorem dX8_own_1 : decode cX8_own 1 = .ok (.ifCond .lt 18, 3) := by decide +kernel
theorem dX8_own_4 : decode cX8_own 4 = .ok (.iload_n 1, 1) := by decide +kernel
theorem dX8_own_5 : decode cX8_own 5 = .ok (.aload_n 0, 1) := by decide +kernel
theorem dX8_own_6 : decode cX8_own 6 = .ok (.getfield 27, 3) := by decide +kernel
theorem dX8_own_9 : decode cX8_own 9 = .ok (.if_icmp .ge 10, 3) := by decide +kernel
theorem dX8_own_12 : decode cX8_own 12 = .ok (.aload_n 0, 1) := by decide +kernel
theorem dX8_own_13 : decode cX8_own 13 = .ok (.getfield 9, 3) := by decide +kernel
theorem dX8_own_16 : decode cX8_own 16 = .ok (.iload_n 1, 1) := by decide +kernel
theorem dX8_own_17 : decode cX8_own 17 = .ok (.lload_n 2, 1) := by decide +kernel
theorem dX8_own_18 : decode cX8_own 18 = .ok (.lastore, 1) := by decide +kernel
theorem dX8_own_19 : decode cX8_own 19 = .ok (.return_, 1) := by decide +kernel
theorem dX8_shareAt_0 : decode cX8_shareAt 0 = .ok (.iload_n 1, 1) := by decide +kernel
theorem dX8_shareAt_1 : decode cX8_shareAt 1 = .ok (.ifCond .lt 20, 3) := by decide +kernel
theorem dX8_shareAt_4 : decode cX8_shareAt 4 = .ok (.iload_n 1, 1) := by decide +kernel
theorem dX8_shareAt_5 : decode cX8_shareAt 5 = .ok (.aload_n 0, 1) := by decide +kernel
theorem dX8_shareAt_6 : decode cX8_shareAt 6 = .ok (.getfield 27, 3) := by decide +kernel
theorem dX8_shareAt_9 : decode cX8_shareAt 9 = .ok (.if_icmp .ge 12, 3) := by decide +kernel
theorem dX8_shareAt_12 : decode cX8_shareAt 12 = .ok (.aload_n 0, 1) := by decide +kernel
theorem dX8_shareAt_13 : decode cX8_shareAt 13 = .ok (.getfield 15, 3) := by decide +kernel
theorem dX8_shareAt_16 : decode cX8_shareAt 16 = .ok (.iload_n 1, 1) := by decide +kernel
theorem dX8_shareAt_17 : decode cX8_shareAt 17 = .ok (.laload, 1) := by decide +kernel
theorem dX8_shareAt_18 : decode cX8_shareAt 18 = .ok (.goto 4, 3) := by decide +kernel
theorem dX8_shareAt_21 : decode cX8_shareAt 21 = .ok (.lconst 0, 1) := by decide +kernel
theorem dX8_shareAt_22 : decode cX8_shareAt 22 = .ok (.lreturn, 1) := by decide +kernel
theorem dX8_share_0 : decode cX8_share 0 = .ok (.lconst 0, 1) := by decide +kernel
theorem dX8_share_1 : decode cX8_share 1 = .ok (.lstore_n 2, 1) := by decide +kernel
theorem dX8_share_2 : decode cX8_share 2 = .ok (.iload_n 1, 1) := by decide +kernel
theorem dX8_share_3 : decode cX8_share 3 = .ok (.iconst 1, 1) := by decide +kernel
theorem dX8_share_4 : decode cX8_share 4 = .ok (.if_icmp .ne 7, 3) := by decide +kernel
theorem dX8_share_7 : decode cX8_share 7 = .ok (.iconst 1, 1) := by decide +kernel
theorem dX8_share_8 : decode cX8_share 8 = .ok (.goto 4, 3) := by decide +kernel
theorem dX8_share_11 : decode cX8_share 11 = .ok (.iconst 0, 1) := by decide +kernel
theorem dX8_share_12 : decode cX8_share 12 = .ok (.istore 4, 2) := by decide +kernel
theorem dX8_share_14 : decode cX8_share 14 = .ok (.iconst 0, 1) := by decide +kernel
theorem dX8_share_15 : decode cX8_share 15 = .ok (.istore 5, 2) := by decide +kernel
theorem dX8_share_17 : decode cX8_share 17 = .ok (.iload 5, 2) := by decide +kernel
theorem dX8_share_19 : decode cX8_share 19 = .ok (.aload_n 0, 1) := by decide +kernel
theorem dX8_share_20 : decode cX8_share 20 = .ok (.getfield 27, 3) := by decide +kernel
theorem dX8_share_23 : decode cX8_share 23 = .ok (.if_icmp .ge 43, 3) := by decide +kernel
theorem dX8_share_26 : decode cX8_share 26 = .ok (.lload_n 2, 1) := by decide +kernel
theorem dX8_share_27 : decode cX8_share 27 = .ok (.aload_n 0, 1) := by decide +kernel
theorem dX8_share_28 : decode cX8_share 28 = .ok (.getfield 9, 3) := by decide +kernel
theorem dX8_share_31 : decode cX8_share 31 = .ok (.iload 5, 2) := by decide +kernel
theorem dX8_share_33 : decode cX8_share 33 = .ok (.laload, 1) := by decide +kernel
theorem dX8_share_34 : decode cX8_share 34 = .ok (.ladd, 1) := by decide +kernel
theorem dX8_share_35 : decode cX8_share 35 = .ok (.lstore_n 2, 1) := by decide +kernel
theorem dX8_share_36 : decode cX8_share 36 = .ok (.iload 4, 2) := by decide +kernel
theorem dX8_share_38 : decode cX8_share 38 = .ok (.ifCond .eq 19, 3) := by decide +kernel
theorem dX8_share_41 : decode cX8_share 41 = .ok (.aload_n 0, 1) := by decide +kernel
theorem dX8_share_42 : decode cX8_share 42 = .ok (.getfield 9, 3) := by decide +kernel
theorem dX8_share_45 : decode cX8_share 45 = .ok (.iload 5, 2) := by decide +kernel
theorem dX8_share_47 : decode cX8_share 47 = .ok (.laload, 1) := by decide +kernel
theorem dX8_share_48 : decode cX8_share 48 = .ok (.lconst 0, 1) := by decide +kernel
theorem dX8_share_49 : decode cX8_share 49 = .ok (.lcmp, 1) := by decide +kernel
theorem dX8_share_50 : decode cX8_share 50 = .ok (.ifCond .lt 7, 3) := by decide +kernel
theorem dX8_share_53 : decode cX8_share 53 = .ok (.iconst 1, 1) := by decide +kernel
theorem dX8_share_54 : decode cX8_share 54 = .ok (.goto 4, 3) := by decide +kernel
theorem dX8_share_57 : decode cX8_share 57 = .ok (.iconst 0, 1) := by decide +kernel
theorem dX8_share_58 : decode cX8_share 58 = .ok (.istore 4, 2) := by decide +kernel
theorem dX8_share_60 : decode cX8_share 60 = .ok (.iinc 5 1, 3) := by decide +kernel
theorem dX8_share_63 : decode cX8_share 63 = .ok (.goto (-46), 3) := by decide +kernel
theorem dX8_share_66 : decode cX8_share 66 = .ok (.iload_n 1, 1) := by decide +kernel
theorem dX8_share_67 : decode cX8_share 67 = .ok (.iconst 2, 1) := by decide +kernel
theorem dX8_share_68 : decode cX8_share 68 = .ok (.if_icmp .ne 11, 3) := by decide +kernel
theorem dX8_share_71 : decode cX8_share 71 = .ok (.aload_n 0, 1) := by decide +kernel
theorem dX8_share_72 : decode cX8_share 72 = .ok (.lload_n 2, 1) := by decide +kernel
theorem dX8_share_73 : decode cX8_share 73 = .ok (.invokevirtual 35, 3) := by decide +kernel
theorem dX8_share_76 : decode cX8_share 76 = .ok (.goto 26, 3) := by decide +kernel
theorem dX8_share_79 : decode cX8_share 79 = .ok (.iload 4, 2) := by decide +kernel
theorem dX8_share_81 : decode cX8_share 81 = .ok (.ifCond .eq 17, 3) := by decide +kernel
theorem dX8_share_84 : decode cX8_share 84 = .ok (.lload_n 2, 1) := by decide +kernel
theorem dX8_share_85 : decode cX8_share 85 = .ok (.lconst 0, 1) := by decide +kernel
theorem dX8_share_86 : decode cX8_share 86 = .ok (.lcmp, 1) := by decide +kernel
theorem dX8_share_87 : decode cX8_share 87 = .ok (.ifCond .le 11, 3) := by decide +kernel
theorem dX8_share_90 : decode cX8_share 90 = .ok (.aload_n 0, 1) := by decide +kernel
theorem dX8_share_91 : decode cX8_share 91 = .ok (.lload_n 2, 1) := by decide +kernel
theorem dX8_share_92 : decode cX8_share 92 = .ok (.invokevirtual 39, 3) := by decide +kernel
theorem dX8_share_95 : decode cX8_share 95 = .ok (.goto 7, 3) := by decide +kernel
theorem dX8_share_98 : decode cX8_share 98 = .ok (.aload_n 0, 1) := by decide +kernel
theorem dX8_share_99 : decode cX8_share 99 = .ok (.invokevirtual 42, 3) := by decide +kernel
theorem dX8_share_102 : decode cX8_share 102 = .ok (.return_, 1) := by decide +kernel
theorem dX8_equally_0 : decode cX8_equally 0 = .ok (.aload_n 0, 1) := by decide +kernel
theorem dX8_equally_1 : decode cX8_equally 1 = .ok (.getfield 27, 3) := by decide +kernel
theorem dX8_equally_4 : decode cX8_equally 4 = .ok (.ifCond .gt 4, 3) := by decide +kernel
theorem dX8_equally_7 : decode cX8_equally 7 = .ok (.return_, 1) := by decide +kernel
theorem dX8_equally_8 : decode cX8_equally 8 = .ok (.iconst 0, 1) := by decide +kernel
theorem dX8_equally_9 : decode cX8_equally 9 = .ok (.istore_n 1, 1) := by decide +kernel
theorem dX8_equally_10 : decode cX8_equally 10 = .ok (.iload_n 1, 1) := by decide +kernel
theorem dX8_equally_11 : decode cX8_equally 11 = .ok (.aload_n 0, 1) := by decide +kernel
theorem dX8_equally_12 : decode cX8_equally 12 = .ok (.getfield 27, 3) := by decide +kernel
theorem dX8_equally_15 : decode cX8_equally 15 = .ok (.if_icmp .ge 48, 3) := by decide +kernel
theorem dX8_equally_18 : decode cX8_equally 18 = .ok (.aload_n 0, 1) := by decide +kernel
theorem dX8_equally_19 : decode cX8_equally 19 = .ok (.getfield 15, 3) := by decide +kernel
theorem dX8_equally_22 : decode cX8_equally 22 = .ok (.iload_n 1, 1) := by decide +kernel
theorem dX8_equally_23 : decode cX8_equally 23 = .ok (.aload_n 0, 1) := by decide +kernel
theorem dX8_equally_24 : decode cX8_equally 24 = .ok (.getfield 31, 3) := by decide +kernel
theorem dX8_equally_27 : decode cX8_equally 27 = .ok (.aload_n 0, 1) := by decide +kernel
theorem dX8_equally_28 : decode cX8_equally 28 = .ok (.getfield 27, 3) := by decide +kernel
theorem dX8_equally_31 : decode cX8_equally 31 = .ok (.i2l, 1) := by decide +kernel
theorem dX8_equally_32 : decode cX8_equally 32 = .ok (.ldiv, 1) := by decide +kernel
theorem dX8_equally_33 : decode cX8_equally 33 = .ok (.iload_n 1, 1) := by decide +kernel
theorem dX8_equally_34 : decode cX8_equally 34 = .ok (.i2l, 1) := by decide +kernel
theorem dX8_equally_35 : decode cX8_equally 35 = .ok (.aload_n 0, 1) := by decide +kernel
theorem dX8_equally_36 : decode cX8_equally 36 = .ok (.getfield 31, 3) := by decide +kernel
theorem dX8_equally_39 : decode cX8_equally 39 = .ok (.aload_n 0, 1) := by decide +kernel
theorem dX8_equally_40 : decode cX8_equally 40 = .ok (.getfield 27, 3) := by decide +kernel
theorem dX8_equally_43 : decode cX8_equally 43 = .ok (.i2l, 1) := by decide +kernel
theorem dX8_equally_44 : decode cX8_equally 44 = .ok (.lrem, 1) := by decide +kernel
theorem dX8_equally_45 : decode cX8_equally 45 = .ok (.lcmp, 1) := by decide +kernel
theorem dX8_equally_46 : decode cX8_equally 46 = .ok (.ifCond .ge 7, 3) := by decide +kernel
theorem dX8_equally_49 : decode cX8_equally 49 = .ok (.iconst 1, 1) := by decide +kernel
theorem dX8_equally_50 : decode cX8_equally 50 = .ok (.goto 4, 3) := by decide +kernel
theorem dX8_equally_53 : decode cX8_equally 53 = .ok (.iconst 0, 1) := by decide +kernel
theorem dX8_equally_54 : decode cX8_equally 54 = .ok (.i2l, 1) := by decide +kernel
theorem dX8_equally_55 : decode cX8_equally 55 = .ok (.ladd, 1) := by decide +kernel
theorem dX8_equally_56 : decode cX8_equally 56 = .ok (.lastore, 1) := by decide +kernel
theorem dX8_equally_57 : decode cX8_equally 57 = .ok (.iinc 1 1, 3) := by decide +kernel
theorem dX8_equally_60 : decode cX8_equally 60 = .ok (.goto (-50), 3) := by decide +kernel
theorem dX8_equally_63 : decode cX8_equally 63 = .ok (.return_, 1) := by decide +kernel
theorem dX8_leaveRest_0 : decode cX8_leaveRest 0 = .ok (.iconst 0, 1) := by decide +kernel
theorem dX8_leaveRest_1 : decode cX8_leaveRest 1 = .ok (.istore_n 3, 1) := by decide +kernel
theorem dX8_leaveRest_2 : decode cX8_leaveRest 2 = .ok (.iload_n 3, 1) := by decide +kernel
theorem dX8_leaveRest_3 : decode cX8_leaveRest 3 = .ok (.aload_n 0, 1) := by decide +kernel
theorem dX8_leaveRest_4 : decode cX8_leaveRest 4 = .ok (.getfield 27, 3) := by decide +kernel
theorem dX8_leaveRest_7 : decode cX8_leaveRest 7 = .ok (.if_icmp .ge 41, 3) := by decide +kernel
theorem dX8_leaveRest_10 : decode cX8_leaveRest 10 = .ok (.aload_n 0, 1) := by decide +kernel
theorem dX8_leaveRest_11 : decode cX8_leaveRest 11 = .ok (.getfield 15, 3) := by decide +kernel
theorem dX8_leaveRest_14 : decode cX8_leaveRest 14 = .ok (.iload_n 3, 1) := by decide +kernel
theorem dX8_leaveRest_15 : decode cX8_leaveRest 15 = .ok (.iload_n 3, 1) := by decide +kernel
theorem dX8_leaveRest_16 : decode cX8_leaveRest 16 = .ok (.ifCond .ne 19, 3) := by decide +kernel
theorem dX8_leaveRest_19 : decode cX8_leaveRest 19 = .ok (.aload_n 0, 1) := by decide +kernel
theorem dX8_leaveRest_20 : decode cX8_leaveRest 20 = .ok (.getfield 31, 3) := by decide +kernel
theorem dX8_leaveRest_23 : decode cX8_leaveRest 23 = .ok (.lload_n 1, 1) := by decide +kernel
theorem dX8_leaveRest_24 : decode cX8_leaveRest 24 = .ok (.aload_n 0, 1) := by decide +kernel
theorem dX8_leaveRest_25 : decode cX8_leaveRest 25 = .ok (.getfield 9, 3) := by decide +kernel
theorem dX8_leaveRest_28 : decode cX8_leaveRest 28 = .ok (.iconst 0, 1) := by decide +kernel
theorem dX8_leaveRest_29 : decode cX8_leaveRest 29 = .ok (.laload, 1) := by decide +kernel
theorem dX8_leaveRest_30 : decode cX8_leaveRest 30 = .ok (.lsub, 1) := by decide +kernel
theorem dX8_leaveRest_31 : decode cX8_leaveRest 31 = .ok (.lsub, 1) := by decide +kernel
theorem dX8_leaveRest_32 : decode cX8_leaveRest 32 = .ok (.goto 9, 3) := by decide +kernel
theorem dX8_leaveRest_35 : decode cX8_leaveRest 35 = .ok (.aload_n 0, 1) := by decide +kernel
theorem dX8_leaveRest_36 : decode cX8_leaveRest 36 = .ok (.getfield 9, 3) := by decide +kernel
theorem dX8_leaveRest_39 : decode cX8_leaveRest 39 = .ok (.iload_n 3, 1) := by decide +kernel
theorem dX8_leaveRest_40 : decode cX8_leaveRest 40 = .ok (.laload, 1) := by decide +kernel
theorem dX8_leaveRest_41 : decode cX8_leaveRest 41 = .ok (.lastore, 1) := by decide +kernel
theorem dX8_leaveRest_42 : decode cX8_leaveRest 42 = .ok (.iinc 3 1, 3) := by decide +kernel
theorem dX8_leaveRest_45 : decode cX8_leaveRest 45 = .ok (.goto (-43), 3) := by decide +kernel
theorem dX8_leaveRest_48 : decode cX8_leaveRest 48 = .ok (.return_, 1) := by decide +kernel
theorem dX8_byWeights_0 : decode cX8_byWeights 0 = .ok (.lload_n 1, 1) := by decide +kernel
theorem dX8_byWeights_1 : decode cX8_byWeights 1 = .ok (.lconst 0, 1) := by decide +kernel
theorem dX8_byWeights_2 : decode cX8_byWeights 2 = .ok (.lcmp, 1) := by decide +kernel
theorem dX8_byWeights_3 : decode cX8_byWeights 3 = .ok (.ifCond .gt 4, 3) := by decide +kernel
theorem dX8_byWeights_6 : decode cX8_byWeights 6 = .ok (.return_, 1) := by decide +kernel
theorem dX8_byWeights_7 : decode cX8_byWeights 7 = .ok (.aload_n 0, 1) := by decide +kernel
theorem dX8_byWeights_8 : decode cX8_byWeights 8 = .ok (.getfield 31, 3) := by decide +kernel
theorem dX8_byWeights_11 : decode cX8_byWeights 11 = .ok (.lstore_n 3, 1) := by decide +kernel
theorem dX8_byWeights_12 : decode cX8_byWeights 12 = .ok (.iconst 0, 1) := by decide +kernel
theorem dX8_byWeights_13 : decode cX8_byWeights 13 = .ok (.istore 5, 2) := by decide +kernel
theorem dX8_byWeights_15 : decode cX8_byWeights 15 = .ok (.iload 5, 2) := by decide +kernel
theorem dX8_byWeights_17 : decode cX8_byWeights 17 = .ok (.aload_n 0, 1) := by decide +kernel
theorem dX8_byWeights_18 : decode cX8_byWeights 18 = .ok (.getfield 27, 3) := by decide +kernel
theorem dX8_byWeights_21 : decode cX8_byWeights 21 = .ok (.if_icmp .ge 61, 3) := by decide +kernel
theorem dX8_byWeights_24 : decode cX8_byWeights 24 = .ok (.aload_n 0, 1) := by decide +kernel
theorem dX8_byWeights_25 : decode cX8_byWeights 25 = .ok (.getfield 15, 3) := by decide +kernel
theorem dX8_byWeights_28 : decode cX8_byWeights 28 = .ok (.iload 5, 2) := by decide +kernel
theorem dX8_byWeights_30 : decode cX8_byWeights 30 = .ok (.aload_n 0, 1) := by decide +kernel
theorem dX8_byWeights_31 : decode cX8_byWeights 31 = .ok (.getfield 31, 3) := by decide +kernel
theorem dX8_byWeights_34 : decode cX8_byWeights 34 = .ok (.aload_n 0, 1) := by decide +kernel
theorem dX8_byWeights_35 : decode cX8_byWeights 35 = .ok (.getfield 9, 3) := by decide +kernel
theorem dX8_byWeights_38 : decode cX8_byWeights 38 = .ok (.iload 5, 2) := by decide +kernel
theorem dX8_byWeights_40 : decode cX8_byWeights 40 = .ok (.laload, 1) := by decide +kernel
theorem dX8_byWeights_41 : decode cX8_byWeights 41 = .ok (.lmul, 1) := by decide +kernel
theorem dX8_byWeights_42 : decode cX8_byWeights 42 = .ok (.lload_n 1, 1) := by decide +kernel
theorem dX8_byWeights_43 : decode cX8_byWeights 43 = .ok (.ldiv, 1) := by decide +kernel
theorem dX8_byWeights_44 : decode cX8_byWeights 44 = .ok (.lastore, 1) := by decide +kernel
theorem dX8_byWeights_45 : decode cX8_byWeights 45 = .ok (.aload_n 0, 1) := by decide +kernel
theorem dX8_byWeights_46 : decode cX8_byWeights 46 = .ok (.getfield 18, 3) := by decide +kernel
theorem dX8_byWeights_49 : decode cX8_byWeights 49 = .ok (.iload 5, 2) := by decide +kernel
theorem dX8_byWeights_51 : decode cX8_byWeights 51 = .ok (.aload_n 0, 1) := by decide +kernel
theorem dX8_byWeights_52 : decode cX8_byWeights 52 = .ok (.getfield 31, 3) := by decide +kernel
theorem dX8_byWeights_55 : decode cX8_byWeights 55 = .ok (.aload_n 0, 1) := by decide +kernel
theorem dX8_byWeights_56 : decode cX8_byWeights 56 = .ok (.getfield 9, 3) := by decide +kernel
theorem dX8_byWeights_59 : decode cX8_byWeights 59 = .ok (.iload 5, 2) := by decide +kernel
theorem dX8_byWeights_61 : decode cX8_byWeights 61 = .ok (.laload, 1) := by decide +kernel
theorem dX8_byWeights_62 : decode cX8_byWeights 62 = .ok (.lmul, 1) := by decide +kernel
theorem dX8_byWeights_63 : decode cX8_byWeights 63 = .ok (.lload_n 1, 1) := by decide +kernel
theorem dX8_byWeights_64 : decode cX8_byWeights 64 = .ok (.lrem, 1) := by decide +kernel
theorem dX8_byWeights_65 : decode cX8_byWeights 65 = .ok (.lastore, 1) := by decide +kernel
theorem dX8_byWeights_66 : decode cX8_byWeights 66 = .ok (.lload_n 3, 1) := by decide +kernel
theorem dX8_byWeights_67 : decode cX8_byWeights 67 = .ok (.aload_n 0, 1) := by decide +kernel
theorem dX8_byWeights_68 : decode cX8_byWeights 68 = .ok (.getfield 15, 3) := by decide +kernel
theorem dX8_byWeights_71 : decode cX8_byWeights 71 = .ok (.iload 5, 2) := by decide +kernel
theorem dX8_byWeights_73 : decode cX8_byWeights 73 = .ok (.laload, 1) := by decide +kernel
theorem dX8_byWeights_74 : decode cX8_byWeights 74 = .ok (.lsub, 1) := by decide +kernel
theorem dX8_byWeights_75 : decode cX8_byWeights 75 = .ok (.lstore_n 3, 1) := by decide +kernel
theorem dX8_byWeights_76 : decode cX8_byWeights 76 = .ok (.iinc 5 1, 3) := by decide +kernel
theorem dX8_byWeights_79 : decode cX8_byWeights 79 = .ok (.goto (-64), 3) := by decide +kernel
theorem dX8_byWeights_82 : decode cX8_byWeights 82 = .ok (.iconst 0, 1) := by decide +kernel
theorem dX8_byWeights_83 : decode cX8_byWeights 83 = .ok (.istore 5, 2) := by decide +kernel
theorem dX8_byWeights_85 : decode cX8_byWeights 85 = .ok (.iload 5, 2) := by decide +kernel
theorem dX8_byWeights_87 : decode cX8_byWeights 87 = .ok (.i2l, 1) := by decide +kernel
theorem dX8_byWeights_88 : decode cX8_byWeights 88 = .ok (.lload_n 3, 1) := by decide +kernel
theorem dX8_byWeights_89 : decode cX8_byWeights 89 = .ok (.lcmp, 1) := by decide +kernel
theorem dX8_byWeights_90 : decode cX8_byWeights 90 = .ok (.ifCond .ge 45, 3) := by decide +kernel
theorem dX8_byWeights_93 : decode cX8_byWeights 93 = .ok (.iload 5, 2) := by decide +kernel
theorem dX8_byWeights_95 : decode cX8_byWeights 95 = .ok (.aload_n 0, 1) := by decide +kernel
theorem dX8_byWeights_96 : decode cX8_byWeights 96 = .ok (.getfield 27, 3) := by decide +kernel
theorem dX8_byWeights_99 : decode cX8_byWeights 99 = .ok (.if_icmp .ge 36, 3) := by decide +kernel
theorem dX8_byWeights_102 : decode cX8_byWeights 102 = .ok (.aload_n 0, 1) := by decide +kernel
theorem dX8_byWeights_103 : decode cX8_byWeights 103 = .ok (.invokevirtual 45, 3) := by decide +kernel
theorem dX8_byWeights_106 : decode cX8_byWeights 106 = .ok (.istore 6, 2) := by decide +kernel
theorem dX8_byWeights_108 : decode cX8_byWeights 108 = .ok (.aload_n 0, 1) := by decide +kernel
theorem dX8_byWeights_109 : decode cX8_byWeights 109 = .ok (.getfield 15, 3) := by decide +kernel
theorem dX8_byWeights_112 : decode cX8_byWeights 112 = .ok (.iload 6, 2) := by decide +kernel
theorem dX8_byWeights_114 : decode cX8_byWeights 114 = .ok (.dup2, 1) := by decide +kernel
theorem dX8_byWeights_115 : decode cX8_byWeights 115 = .ok (.laload, 1) := by decide +kernel
theorem dX8_byWeights_116 : decode cX8_byWeights 116 = .ok (.lconst 1, 1) := by decide +kernel
theorem dX8_byWeights_117 : decode cX8_byWeights 117 = .ok (.ladd, 1) := by decide +kernel
theorem dX8_byWeights_118 : decode cX8_byWeights 118 = .ok (.lastore, 1) := by decide +kernel
theorem dX8_byWeights_119 : decode cX8_byWeights 119 = .ok (.aload_n 0, 1) := by decide +kernel
theorem dX8_byWeights_120 : decode cX8_byWeights 120 = .ok (.getfield 18, 3) := by decide +kernel
theorem dX8_byWeights_123 : decode cX8_byWeights 123 = .ok (.iload 6, 2) := by decide +kernel
theorem dX8_byWeights_125 : decode cX8_byWeights 125 = .ok (.ldc2_w 49, 3) := by decide +kernel
theorem dX8_byWeights_128 : decode cX8_byWeights 128 = .ok (.lastore, 1) := by decide +kernel
theorem dX8_byWeights_129 : decode cX8_byWeights 129 = .ok (.iinc 5 1, 3) := by decide +kernel
theorem dX8_byWeights_132 : decode cX8_byWeights 132 = .ok (.goto (-47), 3) := by decide +kernel
theorem dX8_byWeights_135 : decode cX8_byWeights 135 = .ok (.return_, 1) := by decide +kernel
theorem dX8_greatestRemainder_0 : decode cX8_greatestRemainder 0 = .ok (.iconst 0, 1) := by decide +kernel
theorem dX8_greatestRemainder_1 : decode cX8_greatestRemainder 1 = .ok (.istore_n 1, 1) := by decide +kernel
theorem dX8_greatestRemainder_2 : decode cX8_greatestRemainder 2 = .ok (.iconst 1, 1) := by decide +kernel
theorem dX8_greatestRemainder_3 : decode cX8_greatestRemainder 3 = .ok (.istore_n 2, 1) := by decide +kernel
theorem dX8_greatestRemainder_4 : decode cX8_greatestRemainder 4 = .ok (.iload_n 2, 1) := by decide +kernel
theorem dX8_greatestRemainder_5 : decode cX8_greatestRemainder 5 = .ok (.aload_n 0, 1) := by decide +kernel
theorem dX8_greatestRemainder_6 : decode cX8_greatestRemainder 6 = .ok (.getfield 27, 3) := by decide +kernel
theorem dX8_greatestRemainder_9 : decode cX8_greatestRemainder 9 = .ok (.if_icmp .ge 27, 3) := by decide +kernel
theorem dX8_greatestRemainder_12 : decode cX8_greatestRemainder 12 = .ok (.aload_n 0, 1) := by decide +kernel
theorem dX8_greatestRemainder_13 : decode cX8_greatestRemainder 13 = .ok (.getfield 18, 3) := by decide +kernel
theorem dX8_greatestRemainder_16 : decode cX8_greatestRemainder 16 = .ok (.iload_n 2, 1) := by decide +kernel
theorem dX8_greatestRemainder_17 : decode cX8_greatestRemainder 17 = .ok (.laload, 1) := by decide +kernel
theorem dX8_greatestRemainder_18 : decode cX8_greatestRemainder 18 = .ok (.aload_n 0, 1) := by decide +kernel
theorem dX8_greatestRemainder_19 : decode cX8_greatestRemainder 19 = .ok (.getfield 18, 3) := by decide +kernel
theorem dX8_greatestRemainder_22 : decode cX8_greatestRemainder 22 = .ok (.iload_n 1, 1) := by decide +kernel
theorem dX8_greatestRemainder_23 : decode cX8_greatestRemainder 23 = .ok (.laload, 1) := by decide +kernel
theorem dX8_greatestRemainder_24 : decode cX8_greatestRemainder 24 = .ok (.lcmp, 1) := by decide +kernel
theorem dX8_greatestRemainder_25 : decode cX8_greatestRemainder 25 = .ok (.ifCond .le 5, 3) := by decide +kernel
theorem dX8_greatestRemainder_28 : decode cX8_greatestRemainder 28 = .ok (.iload_n 2, 1) := by decide +kernel
theorem dX8_greatestRemainder_29 : decode cX8_greatestRemainder 29 = .ok (.istore_n 1, 1) := by decide +kernel
theorem dX8_greatestRemainder_30 : decode cX8_greatestRemainder 30 = .ok (.iinc 2 1, 3) := by decide +kernel
theorem dX8_greatestRemainder_33 : decode cX8_greatestRemainder 33 = .ok (.goto (-29), 3) := by decide +kernel
theorem dX8_greatestRemainder_36 : decode cX8_greatestRemainder 36 = .ok (.iload_n 1, 1) := by decide +kernel
theorem dX8_greatestRemainder_37 : decode cX8_greatestRemainder 37 = .ok (.ireturn, 1) := by decide +kernel
theorem dX8_inRange_0 : decode cX8_inRange 0 = .ok (.iconst 0, 1) := by decide +kernel
theorem dX8_inRange_1 : decode cX8_inRange 1 = .ok (.istore_n 1, 1) := by decide +kernel
theorem dX8_inRange_2 : decode cX8_inRange 2 = .ok (.iload_n 1, 1) := by decide +kernel
theorem dX8_inRange_3 : decode cX8_inRange 3 = .ok (.aload_n 0, 1) := by decide +kernel
theorem dX8_inRange_4 : decode cX8_inRange 4 = .ok (.getfield 27, 3) := by decide +kernel
theorem dX8_inRange_7 : decode cX8_inRange 7 = .ok (.if_icmp .ge 37, 3) := by decide +kernel
theorem dX8_inRange_10 : decode cX8_inRange 10 = .ok (.aload_n 0, 1) := by decide +kernel
theorem dX8_inRange_11 : decode cX8_inRange 11 = .ok (.getfield 15, 3) := by decide +kernel
theorem dX8_inRange_14 : decode cX8_inRange 14 = .ok (.iload_n 1, 1) := by decide +kernel
theorem dX8_inRange_15 : decode cX8_inRange 15 = .ok (.laload, 1) := by decide +kernel
theorem dX8_inRange_16 : decode cX8_inRange 16 = .ok (.ldc2_w 51, 3) := by decide +kernel
theorem dX8_inRange_19 : decode cX8_inRange 19 = .ok (.lcmp, 1) := by decide +kernel
theorem dX8_inRange_20 : decode cX8_inRange 20 = .ok (.ifCond .lt 16, 3) := by decide +kernel
theorem dX8_inRange_23 : decode cX8_inRange 23 = .ok (.aload_n 0, 1) := by decide +kernel
theorem dX8_inRange_24 : decode cX8_inRange 24 = .ok (.getfield 15, 3) := by decide +kernel
theorem dX8_inRange_27 : decode cX8_inRange 27 = .ok (.iload_n 1, 1) := by decide +kernel
theorem dX8_inRange_28 : decode cX8_inRange 28 = .ok (.laload, 1) := by decide +kernel
theorem dX8_inRange_29 : decode cX8_inRange 29 = .ok (.ldc2_w 53, 3) := by decide +kernel
theorem dX8_inRange_32 : decode cX8_inRange 32 = .ok (.lcmp, 1) := by decide +kernel
theorem dX8_inRange_33 : decode cX8_inRange 33 = .ok (.ifCond .le 5, 3) := by decide +kernel
theorem dX8_inRange_36 : decode cX8_inRange 36 = .ok (.iconst 0, 1) := by decide +kernel
theorem dX8_inRange_37 : decode cX8_inRange 37 = .ok (.ireturn, 1) := by decide +kernel
theorem dX8_inRange_38 : decode cX8_inRange 38 = .ok (.iinc 1 1, 3) := by decide +kernel
theorem dX8_inRange_41 : decode cX8_inRange 41 = .ok (.goto (-39), 3) := by decide +kernel
theorem dX8_inRange_44 : decode cX8_inRange 44 = .ok (.iconst 1, 1) := by decide +kernel
theorem dX8_inRange_45 : decode cX8_inRange 45 = .ok (.ireturn, 1) := by decide +kernel
theorem dX9_init_0 : decode cX9_init 0 = .ok (.aload_n 0, 1) := by decide +kernel
theorem dX9_init_1 : decode cX9_init 1 = .ok (.invokespecial 3, 3) := by decide +kernel
theorem dX9_init_4 : decode cX9_init 4 = .ok (.aload_n 0, 1) := by decide +kernel
theorem dX9_init_5 : decode cX9_init 5 = .ok (.iconst 1, 1) := by decide +kernel
theorem dX9_init_6 : decode cX9_init 6 = .ok (.putfield 9, 3) := by decide +kernel
theorem dX9_init_9 : decode cX9_init 9 = .ok (.aload_n 0, 1) := by decide +kernel
theorem dX9_init_10 : decode cX9_init 10 = .ok (.bipush 12, 2) := by decide +kernel
theorem dX9_init_12 : decode cX9_init 12 = .ok (.newarray .int, 2) := by decide +kernel
theorem dX9_init_14 : decode cX9_init 14 = .ok (.putfield 15, 3) := by decide +kernel
theorem dX9_init_17 : decode cX9_init 17 = .ok (.aload_n 0, 1) := by decide +kernel
theorem dX9_init_18 : decode cX9_init 18 = .ok (.bipush 12, 2) := by decide +kernel
theorem dX9_init_20 : decode cX9_init 20 = .ok (.newarray .int, 2) := by decide +kernel
theorem dX9_init_22 : decode cX9_init 22 = .ok (.putfield 19, 3) := by decide +kernel
theorem dX9_init_25 : decode cX9_init 25 = .ok (.aload_n 0, 1) := by decide +kernel
theorem dX9_init_26 : decode cX9_init 26 = .ok (.getfield 19, 3) := by decide +kernel
theorem dX9_init_29 : decode cX9_init 29 = .ok (.iconst (-1), 1) := by decide +kernel
theorem dX9_init_30 : decode cX9_init 30 = .ok (.invokestatic 22, 3) := by decide +kernel
theorem dX9_init_33 : decode cX9_init 33 = .ok (.aload_n 0, 1) := by decide +kernel
theorem dX9_init_34 : decode cX9_init 34 = .ok (.getfield 19, 3) := by decide +kernel
theorem dX9_init_37 : decode cX9_init 37 = .ok (.iconst 0, 1) := by decide +kernel
theorem dX9_init_38 : decode cX9_init 38 = .ok (.iconst 0, 1) := by decide +kernel
theorem dX9_init_39 : decode cX9_init 39 = .ok (.iastore, 1) := by decide +kernel
theorem dX9_init_40 : decode cX9_init 40 = .ok (.return_, 1) := by decide +kernel
theorem dX9_placeOf_0 : decode cX9_placeOf 0 = .ok (.iload_n 1, 1) := by decide +kernel
theorem dX9_placeOf_1 : decode cX9_placeOf 1 = .ok (.ifCond .lt 18, 3) := by decide +kernel
theorem dX9_placeOf_4 : decode cX9_placeOf 4 = .ok (.iload_n 1, 1) := by decide +kernel
theorem dX9_placeOf_5 : decode cX9_placeOf 5 = .ok (.bipush 12, 2) := by decide +kernel
theorem dX9_placeOf_7 : decode cX9_placeOf 7 = .ok (.if_icmp .ge 12, 3) := by decide +kernel
theorem dX9_placeOf_10 : decode cX9_placeOf 10 = .ok (.aload_n 0, 1) := by decide +kernel
theorem dX9_placeOf_11 : decode cX9_placeOf 11 = .ok (.getfield 19, 3) := by decide +kernel
theorem dX9_placeOf_14 : decode cX9_placeOf 14 = .ok (.iload_n 1, 1) := by decide +kernel
theorem dX9_placeOf_15 : decode cX9_placeOf 15 = .ok (.iaload, 1) := by decide +kernel
theorem dX9_placeOf_16 : decode cX9_placeOf 16 = .ok (.goto 4, 3) := by decide +kernel
theorem dX9_placeOf_19 : decode cX9_placeOf 19 = .ok (.iconst (-1), 1) := by decide +kernel
theorem dX9_placeOf_20 : decode cX9_placeOf 20 = .ok (.ireturn, 1) := by decide +kernel
theorem dX9_insert_0 : decode cX9_insert 0 = .ok (.aload_n 0, 1) := by decide +kernel
theorem dX9_insert_1 : decode cX9_insert 1 = .ok (.getfield 9, 3) := by decide +kernel
theorem dX9_insert_4 : decode cX9_insert 4 = .ok (.bipush 12, 2) := by decide +kernel
theorem dX9_insert_6 : decode cX9_insert 6 = .ok (.if_icmp .ge 13, 3) := by decide +kernel
theorem dX9_insert_9 : decode cX9_insert 9 = .ok (.iload_n 1, 1) := by decide +kernel
theorem dX9_insert_10 : decode cX9_insert 10 = .ok (.ifCond .lt 9, 3) := by decide +kernel
theorem dX9_insert_13 : decode cX9_insert 13 = .ok (.iload_n 1, 1) := by decide +kernel
theorem dX9_insert_14 : decode cX9_insert 14 = .ok (.bipush 12, 2) := by decide +kernel
theorem dX9_insert_16 : decode cX9_insert 16 = .ok (.if_icmp .lt 4, 3) := by decide +kernel
theorem dX9_insert_19 : decode cX9_insert 19 = .ok (.return_, 1) := by decide +kernel
theorem dX9_insert_20 : decode cX9_insert 20 = .ok (.aload_n 0, 1) := by decide +kernel
theorem dX9_insert_21 : decode cX9_insert 21 = .ok (.iload_n 2, 1) := by decide +kernel
theorem dX9_insert_22 : decode cX9_insert 22 = .ok (.invokevirtual 28, 3) := by decide +kernel
theorem dX9_insert_25 : decode cX9_insert 25 = .ok (.iconst 1, 1) := by decide +kernel
theorem dX9_insert_26 : decode cX9_insert 26 = .ok (.iadd, 1) := by decide +kernel
theorem dX9_insert_27 : decode cX9_insert 27 = .ok (.istore 4, 2) := by decide +kernel
theorem dX9_insert_29 : decode cX9_insert 29 = .ok (.iload 4, 2) := by decide +kernel
theorem dX9_insert_31 : decode cX9_insert 31 = .ok (.aload_n 0, 1) := by decide +kernel
theorem dX9_insert_32 : decode cX9_insert 32 = .ok (.getfield 9, 3) := by decide +kernel
theorem dX9_insert_35 : decode cX9_insert 35 = .ok (.if_icmp .ge 28, 3) := by decide +kernel
theorem dX9_insert_38 : decode cX9_insert 38 = .ok (.aload_n 3, 1) := by decide +kernel
theorem dX9_insert_39 : decode cX9_insert 39 = .ok (.aload_n 0, 1) := by decide +kernel
theorem dX9_insert_40 : decode cX9_insert 40 = .ok (.getfield 15, 3) := by decide +kernel
theorem dX9_insert_43 : decode cX9_insert 43 = .ok (.iload 4, 2) := by decide +kernel
theorem dX9_insert_45 : decode cX9_insert 45 = .ok (.iaload, 1) := by decide +kernel
theorem dX9_insert_46 : decode cX9_insert 46 = .ok (.invokevirtual 32, 3) := by decide +kernel
theorem dX9_insert_49 : decode cX9_insert 49 = .ok (.aload_n 3, 1) := by decide +kernel
theorem dX9_insert_50 : decode cX9_insert 50 = .ok (.iload_n 2, 1) := by decide +kernel
theorem dX9_insert_51 : decode cX9_insert 51 = .ok (.invokevirtual 32, 3) := by decide +kernel
theorem dX9_insert_54 : decode cX9_insert 54 = .ok (.if_icmp .le 9, 3) := by decide +kernel
theorem dX9_insert_57 : decode cX9_insert 57 = .ok (.iinc 4 1, 3) := by decide +kernel
theorem dX9_insert_60 : decode cX9_insert 60 = .ok (.goto (-31), 3) := by decide +kernel
theorem dX9_insert_63 : decode cX9_insert 63 = .ok (.aload_n 0, 1) := by decide +kernel
theorem dX9_insert_64 : decode cX9_insert 64 = .ok (.getfield 9, 3) := by decide +kernel
theorem dX9_insert_67 : decode cX9_insert 67 = .ok (.istore 5, 2) := by decide +kernel
theorem dX9_insert_69 : decode cX9_insert 69 = .ok (.iload 5, 2) := by decide +kernel
theorem dX9_insert_71 : decode cX9_insert 71 = .ok (.iload 4, 2) := by decide +kernel
theorem dX9_insert_73 : decode cX9_insert 73 = .ok (.if_icmp .le 39, 3) := by decide +kernel
theorem dX9_insert_76 : decode cX9_insert 76 = .ok (.aload_n 0, 1) := by decide +kernel
theorem dX9_insert_77 : decode cX9_insert 77 = .ok (.getfield 15, 3) := by decide +kernel
theorem dX9_insert_80 : decode cX9_insert 80 = .ok (.iload 5, 2) := by decide +kernel
theorem dX9_insert_82 : decode cX9_insert 82 = .ok (.aload_n 0, 1) := by decide +kernel
theorem dX9_insert_83 : decode cX9_insert 83 = .ok (.getfield 15, 3) := by decide +kernel
theorem dX9_insert_86 : decode cX9_insert 86 = .ok (.iload 5, 2) := by decide +kernel
theorem dX9_insert_88 : decode cX9_insert 88 = .ok (.iconst 1, 1) := by decide +kernel
theorem dX9_insert_89 : decode cX9_insert 89 = .ok (.isub, 1) := by decide +kernel
theorem dX9_insert_90 : decode cX9_insert 90 = .ok (.iaload, 1) := by decide +kernel
theorem dX9_insert_91 : decode cX9_insert 91 = .ok (.iastore, 1) := by decide +kernel
theorem dX9_insert_92 : decode cX9_insert 92 = .ok (.aload_n 0, 1) := by decide +kernel
theorem dX9_insert_93 : decode cX9_insert 93 = .ok (.getfield 19, 3) := by decide +kernel
theorem dX9_insert_96 : decode cX9_insert 96 = .ok (.aload_n 0, 1) := by decide +kernel
theorem dX9_insert_97 : decode cX9_insert 97 = .ok (.getfield 15, 3) := by decide +kernel
theorem dX9_insert_100 : decode cX9_insert 100 = .ok (.iload 5, 2) := by decide +kernel
theorem dX9_insert_102 : decode cX9_insert 102 = .ok (.iaload, 1) := by decide +kernel
theorem dX9_insert_103 : decode cX9_insert 103 = .ok (.iload 5, 2) := by decide +kernel
theorem dX9_insert_105 : decode cX9_insert 105 = .ok (.iastore, 1) := by decide +kernel
theorem dX9_insert_106 : decode cX9_insert 106 = .ok (.iinc 5 (-1), 3) := by decide +kernel
theorem dX9_insert_109 : decode cX9_insert 109 = .ok (.goto (-40), 3) := by decide +kernel
theorem dX9_insert_112 : decode cX9_insert 112 = .ok (.aload_n 0, 1) := by decide +kernel
theorem dX9_insert_113 : decode cX9_insert 113 = .ok (.getfield 15, 3) := by decide +kernel
theorem dX9_insert_116 : decode cX9_insert 116 = .ok (.iload 4, 2) := by decide +kernel
theorem dX9_insert_118 : decode cX9_insert 118 = .ok (.iload_n 1, 1) := by decide +kernel
theorem dX9_insert_119 : decode cX9_insert 119 = .ok (.iastore, 1) := by decide +kernel
theorem dX9_insert_120 : decode cX9_insert 120 = .ok (.aload_n 0, 1) := by decide +kernel
theorem dX9_insert_121 : decode cX9_insert 121 = .ok (.getfield 19, 3) := by decide +kernel
theorem dX9_insert_124 : decode cX9_insert 124 = .ok (.iload_n 1, 1) := by decide +kernel
theorem dX9_insert_125 : decode cX9_insert 125 = .ok (.iload 4, 2) := by decide +kernel
theorem dX9_insert_127 : decode cX9_insert 127 = .ok (.iastore, 1) := by decide +kernel
theorem dX9_insert_128 : decode cX9_insert 128 = .ok (.aload_n 0, 1) := by decide +kernel
theorem dX9_insert_129 : decode cX9_insert 129 = .ok (.dup, 1) := by decide +kernel
theorem dX9_insert_130 : decode cX9_insert 130 = .ok (.getfield 9, 3) := by decide +kernel
theorem dX9_insert_133 : decode cX9_insert 133 = .ok (.iconst 1, 1) := by decide +kernel
theorem dX9_insert_134 : decode cX9_insert 134 = .ok (.iadd, 1) := by decide +kernel
theorem dX9_insert_135 : decode cX9_insert 135 = .ok (.putfield 9, 3) := by decide +kernel
theorem dX9_insert_138 : decode cX9_insert 138 = .ok (.return_, 1) := by decide +kernel
theorem dX9_ahead_0 : decode cX9_ahead 0 = .ok (.iload_n 2, 1) := by decide +kernel
theorem dX9_ahead_1 : decode cX9_ahead 1 = .ok (.istore 4, 2) := by decide +kernel
theorem dX9_ahead_3 : decode cX9_ahead 3 = .ok (.aload_n 0, 1) := by decide +kernel
theorem dX9_ahead_4 : decode cX9_ahead 4 = .ok (.iload_n 1, 1) := by decide +kernel
theorem dX9_ahead_5 : decode cX9_ahead 5 = .ok (.invokevirtual 28, 3) := by decide +kernel
theorem dX9_ahead_8 : decode cX9_ahead 8 = .ok (.iconst 1, 1) := by decide +kernel
theorem dX9_ahead_9 : decode cX9_ahead 9 = .ok (.isub, 1) := by decide +kernel
theorem dX9_ahead_10 : decode cX9_ahead 10 = .ok (.istore 5, 2) := by decide +kernel
theorem dX9_ahead_12 : decode cX9_ahead 12 = .ok (.iload 5, 2) := by decide +kernel
theorem dX9_ahead_14 : decode cX9_ahead 14 = .ok (.ifCond .lt 53, 3) := by decide +kernel
theorem dX9_ahead_17 : decode cX9_ahead 17 = .ok (.iload 5, 2) := by decide +kernel
theorem dX9_ahead_19 : decode cX9_ahead 19 = .ok (.aload_n 0, 1) := by decide +kernel
theorem dX9_ahead_20 : decode cX9_ahead 20 = .ok (.getfield 9, 3) := by decide +kernel
theorem dX9_ahead_23 : decode cX9_ahead 23 = .ok (.if_icmp .ge 44, 3) := by decide +kernel
theorem dX9_ahead_26 : decode cX9_ahead 26 = .ok (.aload_n 3, 1) := by decide +kernel
theorem dX9_ahead_27 : decode cX9_ahead 27 = .ok (.aload_n 0, 1) := by decide +kernel
theorem dX9_ahead_28 : decode cX9_ahead 28 = .ok (.getfield 15, 3) := by decide +kernel
theorem dX9_ahead_31 : decode cX9_ahead 31 = .ok (.iload 5, 2) := by decide +kernel
theorem dX9_ahead_33 : decode cX9_ahead 33 = .ok (.iaload, 1) := by decide +kernel
theorem dX9_ahead_34 : decode cX9_ahead 34 = .ok (.invokevirtual 32, 3) := by decide +kernel
theorem dX9_ahead_37 : decode cX9_ahead 37 = .ok (.aload_n 3, 1) := by decide +kernel
theorem dX9_ahead_38 : decode cX9_ahead 38 = .ok (.iload_n 1, 1) := by decide +kernel
theorem dX9_ahead_39 : decode cX9_ahead 39 = .ok (.invokevirtual 32, 3) := by decide +kernel
theorem dX9_ahead_42 : decode cX9_ahead 42 = .ok (.if_icmp .ne 19, 3) := by decide +kernel
theorem dX9_ahead_45 : decode cX9_ahead 45 = .ok (.iinc 4 (-1), 3) := by decide +kernel
theorem dX9_ahead_48 : decode cX9_ahead 48 = .ok (.iload 4, 2) := by decide +kernel
theorem dX9_ahead_50 : decode cX9_ahead 50 = .ok (.ifCond .ne 11, 3) := by decide +kernel
theorem dX9_ahead_53 : decode cX9_ahead 53 = .ok (.aload_n 0, 1) := by decide +kernel
theorem dX9_ahead_54 : decode cX9_ahead 54 = .ok (.getfield 15, 3) := by decide +kernel
theorem dX9_ahead_57 : decode cX9_ahead 57 = .ok (.iload 5, 2) := by decide +kernel
theorem dX9_ahead_59 : decode cX9_ahead 59 = .ok (.iaload, 1) := by decide +kernel
theorem dX9_ahead_60 : decode cX9_ahead 60 = .ok (.ireturn, 1) := by decide +kernel
theorem dX9_ahead_61 : decode cX9_ahead 61 = .ok (.iinc 5 (-1), 3) := by decide +kernel
theorem dX9_ahead_64 : decode cX9_ahead 64 = .ok (.goto (-52), 3) := by decide +kernel
theorem dX9_ahead_67 : decode cX9_ahead 67 = .ok (.iconst (-1), 1) := by decide +kernel
theorem dX9_ahead_68 : decode cX9_ahead 68 = .ok (.ireturn, 1) := by decide +kernel
theorem dX10_init_0 : decode cX10_init 0 = .ok (.aload_n 0, 1) := by decide +kernel
theorem dX10_init_1 : decode cX10_init 1 = .ok (.invokespecial 3, 3) := by decide +kernel
theorem dX10_init_4 : decode cX10_init 4 = .ok (.aload_n 0, 1) := by decide +kernel
theorem dX10_init_5 : decode cX10_init 5 = .ok (.new 9, 3) := by decide +kernel
theorem dX10_init_8 : decode cX10_init 8 = .ok (.dup, 1) := by decide +kernel
theorem dX10_init_9 : decode cX10_init 9 = .ok (.invokespecial 11, 3) := by decide +kernel
theorem dX10_init_12 : decode cX10_init 12 = .ok (.putfield 12, 3) := by decide +kernel
theorem dX10_init_15 : decode cX10_init 15 = .ok (.aload_n 0, 1) := by decide +kernel
theorem dX10_init_16 : decode cX10_init 16 = .ok (.new 18, 3) := by decide +kernel
theorem dX10_init_19 : decode cX10_init 19 = .ok (.dup, 1) := by decide +kernel
theorem dX10_init_20 : decode cX10_init 20 = .ok (.invokespecial 20, 3) := by decide +kernel
theorem dX10_init_23 : decode cX10_init 23 = .ok (.putfield 21, 3) := by decide +kernel
theorem dX10_init_26 : decode cX10_init 26 = .ok (.aload_n 0, 1) := by decide +kernel
theorem dX10_init_27 : decode cX10_init 27 = .ok (.new 25, 3) := by decide +kernel
theorem dX10_init_30 : decode cX10_init 30 = .ok (.dup, 1) := by decide +kernel
theorem dX10_init_31 : decode cX10_init 31 = .ok (.invokespecial 27, 3) := by decide +kernel
theorem dX10_init_34 : decode cX10_init 34 = .ok (.putfield 28, 3) := by decide +kernel
theorem dX10_init_37 : decode cX10_init 37 = .ok (.aload_n 0, 1) := by decide +kernel
theorem dX10_init_38 : decode cX10_init 38 = .ok (.new 32, 3) := by decide +kernel
theorem dX10_init_41 : decode cX10_init 41 = .ok (.dup, 1) := by decide +kernel
theorem dX10_init_42 : decode cX10_init 42 = .ok (.invokespecial 34, 3) := by decide +kernel
theorem dX10_init_45 : decode cX10_init 45 = .ok (.putfield 35, 3) := by decide +kernel
theorem dX10_init_48 : decode cX10_init 48 = .ok (.aload_n 0, 1) := by decide +kernel
theorem dX10_init_49 : decode cX10_init 49 = .ok (.new 39, 3) := by decide +kernel
theorem dX10_init_52 : decode cX10_init 52 = .ok (.dup, 1) := by decide +kernel
theorem dX10_init_53 : decode cX10_init 53 = .ok (.invokespecial 41, 3) := by decide +kernel
theorem dX10_init_56 : decode cX10_init 56 = .ok (.putfield 42, 3) := by decide +kernel
theorem dX10_init_59 : decode cX10_init 59 = .ok (.aload_n 0, 1) := by decide +kernel
theorem dX10_init_60 : decode cX10_init 60 = .ok (.new 46, 3) := by decide +kernel
theorem dX10_init_63 : decode cX10_init 63 = .ok (.dup, 1) := by decide +kernel
theorem dX10_init_64 : decode cX10_init 64 = .ok (.aload_n 0, 1) := by decide +kernel
theorem dX10_init_65 : decode cX10_init 65 = .ok (.getfield 12, 3) := by decide +kernel
theorem dX10_init_68 : decode cX10_init 68 = .ok (.aload_n 0, 1) := by decide +kernel
theorem dX10_init_69 : decode cX10_init 69 = .ok (.getfield 21, 3) := by decide +kernel
theorem dX10_init_72 : decode cX10_init 72 = .ok (.aload_n 0, 1) := by decide +kernel
theorem dX10_init_73 : decode cX10_init 73 = .ok (.getfield 28, 3) := by decide +kernel
theorem dX10_init_76 : decode cX10_init 76 = .ok (.invokespecial 48, 3) := by decide +kernel
theorem dX10_init_79 : decode cX10_init 79 = .ok (.putfield 51, 3) := by decide +kernel
theorem dX10_init_82 : decode cX10_init 82 = .ok (.aload_n 0, 1) := by decide +kernel
theorem dX10_init_83 : decode cX10_init 83 = .ok (.new 55, 3) := by decide +kernel
theorem dX10_init_86 : decode cX10_init 86 = .ok (.dup, 1) := by decide +kernel
theorem dX10_init_87 : decode cX10_init 87 = .ok (.invokespecial 57, 3) := by decide +kernel
theorem dX10_init_90 : decode cX10_init 90 = .ok (.putfield 58, 3) := by decide +kernel
theorem dX10_init_93 : decode cX10_init 93 = .ok (.return_, 1) := by decide +kernel
theorem dX10_member_0 : decode cX10_member 0 = .ok (.aload_n 0, 1) := by decide +kernel
theorem dX10_member_1 : decode cX10_member 1 = .ok (.iload_n 1, 1) := by decide +kernel
theorem dX10_member_2 : decode cX10_member 2 = .ok (.invokevirtual 62, 3) := by decide +kernel
theorem dX10_member_5 : decode cX10_member 5 = .ok (.astore 4, 2) := by decide +kernel
theorem dX10_member_7 : decode cX10_member 7 = .ok (.aload 4, 2) := by decide +kernel
theorem dX10_member_9 : decode cX10_member 9 = .ok (.iload_n 2, 1) := by decide +kernel
theorem dX10_member_10 : decode cX10_member 10 = .ok (.invokestatic 66, 3) := by decide +kernel
theorem dX10_member_13 : decode cX10_member 13 = .ok (.iload_n 3, 1) := by decide +kernel
theorem dX10_member_14 : decode cX10_member 14 = .ok (.iconst (-1), 1) := by decide +kernel
theorem dX10_member_15 : decode cX10_member 15 = .ok (.iconst 1, 1) := by decide +kernel
theorem dX10_member_16 : decode cX10_member 16 = .ok (.invokestatic 70, 3) := by decide +kernel
theorem dX10_member_19 : decode cX10_member 19 = .ok (.aload 4, 2) := by decide +kernel
theorem dX10_member_21 : decode cX10_member 21 = .ok (.iload_n 2, 1) := by decide +kernel
theorem dX10_member_22 : decode cX10_member 22 = .ok (.invokevirtual 74, 3) := by decide +kernel
theorem dX10_member_25 : decode cX10_member 25 = .ok (.ifCond .eq 17, 3) := by decide +kernel
theorem dX10_member_28 : decode cX10_member 28 = .ok (.aload 4, 2) := by decide +kernel
theorem dX10_member_30 : decode cX10_member 30 = .ok (.getfield 80, 3) := by decide +kernel
theorem dX10_member_33 : decode cX10_member 33 = .ok (.bipush 12, 2) := by decide +kernel
theorem dX10_member_35 : decode cX10_member 35 = .ok (.if_icmp .ge 7, 3) := by decide +kernel
theorem dX10_member_38 : decode cX10_member 38 = .ok (.iconst 1, 1) := by decide +kernel
theorem dX10_member_39 : decode cX10_member 39 = .ok (.goto 4, 3) := by decide +kernel
theorem dX10_member_42 : decode cX10_member 42 = .ok (.iconst 0, 1) := by decide +kernel
theorem dX10_member_43 : decode cX10_member 43 = .ok (.invokestatic 84, 3) := by decide +kernel
theorem dX10_member_46 : decode cX10_member 46 = .ok (.aload 4, 2) := by decide +kernel
theorem dX10_member_48 : decode cX10_member 48 = .ok (.iload_n 2, 1) := by decide +kernel
theorem dX10_member_49 : decode cX10_member 49 = .ok (.iload_n 3, 1) := by decide +kernel
theorem dX10_member_50 : decode cX10_member 50 = .ok (.invokevirtual 88, 3) := by decide +kernel
theorem dX10_member_53 : decode cX10_member 53 = .ok (.istore 5, 2) := by decide +kernel
theorem dX10_member_55 : decode cX10_member 55 = .ok (.iload_n 1, 1) := by decide +kernel
theorem dX10_member_56 : decode cX10_member 56 = .ok (.ifCond .ne 18, 3) := by decide +kernel
theorem dX10_member_59 : decode cX10_member 59 = .ok (.aload_n 0, 1) := by decide +kernel
theorem dX10_member_60 : decode cX10_member 60 = .ok (.getfield 12, 3) := by decide +kernel
theorem dX10_member_63 : decode cX10_member 63 = .ok (.getfield 92, 3) := by decide +kernel
theorem dX10_member_66 : decode cX10_member 66 = .ok (.iload 5, 2) := by decide +kernel
theorem dX10_member_68 : decode cX10_member 68 = .ok (.iload_n 2, 1) := by decide +kernel
theorem dX10_member_69 : decode cX10_member 69 = .ok (.aload 4, 2) := by decide +kernel
theorem dX10_member_71 : decode cX10_member 71 = .ok (.invokevirtual 96, 3) := by decide +kernel
theorem dX10_member_74 : decode cX10_member 74 = .ok (.aload_n 0, 1) := by decide +kernel
theorem dX10_member_75 : decode cX10_member 75 = .ok (.getfield 12, 3) := by decide +kernel
theorem dX10_member_78 : decode cX10_member 78 = .ok (.invokevirtual 102, 3) := by decide +kernel
theorem dX10_member_81 : decode cX10_member 81 = .ok (.aload_n 0, 1) := by decide +kernel
theorem dX10_member_82 : decode cX10_member 82 = .ok (.getfield 35, 3) := by decide +kernel
theorem dX10_member_85 : decode cX10_member 85 = .ok (.invokevirtual 105, 3) := by decide +kernel
theorem dX10_member_88 : decode cX10_member 88 = .ok (.iload 5, 2) := by decide +kernel
theorem dX10_member_90 : decode cX10_member 90 = .ok (.ireturn, 1) := by decide +kernel
theorem dX10_bridge_0 : decode cX10_bridge 0 = .ok (.aload_n 0, 1) := by decide +kernel
theorem dX10_bridge_1 : decode cX10_bridge 1 = .ok (.iload_n 1, 1) := by decide +kernel
theorem dX10_bridge_2 : decode cX10_bridge 2 = .ok (.invokevirtual 62, 3) := by decide +kernel
theorem dX10_bridge_5 : decode cX10_bridge 5 = .ok (.astore_n 3, 1) := by decide +kernel
theorem dX10_bridge_6 : decode cX10_bridge 6 = .ok (.iload_n 2, 1) := by decide +kernel
theorem dX10_bridge_7 : decode cX10_bridge 7 = .ok (.iconst 1, 1) := by decide +kernel
theorem dX10_bridge_8 : decode cX10_bridge 8 = .ok (.if_icmp .lt 14, 3) := by decide +kernel
theorem dX10_bridge_11 : decode cX10_bridge 11 = .ok (.iload_n 2, 1) := by decide +kernel
theorem dX10_bridge_12 : decode cX10_bridge 12 = .ok (.sipush 4095, 3) := by decide +kernel
theorem dX10_bridge_15 : decode cX10_bridge 15 = .ok (.if_icmp .gt 7, 3) := by decide +kernel
theorem dX10_bridge_18 : decode cX10_bridge 18 = .ok (.iconst 1, 1) := by decide +kernel
theorem dX10_bridge_19 : decode cX10_bridge 19 = .ok (.goto 4, 3) := by decide +kernel
theorem dX10_bridge_22 : decode cX10_bridge 22 = .ok (.iconst 0, 1) := by decide +kernel
theorem dX10_bridge_23 : decode cX10_bridge 23 = .ok (.istore 4, 2) := by decide +kernel
theorem dX10_bridge_25 : decode cX10_bridge 25 = .ok (.iload 4, 2) := by decide +kernel
theorem dX10_bridge_27 : decode cX10_bridge 27 = .ok (.ifCond .eq 22, 3) := by decide +kernel
theorem dX10_bridge_30 : decode cX10_bridge 30 = .ok (.iload_n 2, 1) := by decide +kernel
theorem dX10_bridge_31 : decode cX10_bridge 31 = .ok (.aload_n 3, 1) := by decide +kernel
theorem dX10_bridge_32 : decode cX10_bridge 32 = .ok (.getfield 80, 3) := by decide +kernel
theorem dX10_bridge_35 : decode cX10_bridge 35 = .ok (.ishr, 1) := by decide +kernel
theorem dX10_bridge_36 : decode cX10_bridge 36 = .ok (.ifCond .eq 13, 3) := by decide +kernel
theorem dX10_bridge_39 : decode cX10_bridge 39 = .ok (.new 108, 3) := by decide +kernel
theorem dX10_bridge_42 : decode cX10_bridge 42 = .ok (.dup, 1) := by decide +kernel
theorem dX10_bridge_43 : decode cX10_bridge 43 = .ok (.ldc 110, 2) := by decide +kernel
theorem dX10_bridge_45 : decode cX10_bridge 45 = .ok (.invokespecial 112, 3) := by decide +kernel
theorem dX10_bridge_48 : decode cX10_bridge 48 = .ok (.athrow, 1) := by decide +kernel
theorem dX10_bridge_49 : decode cX10_bridge 49 = .ok (.iload_n 2, 1) := by decide +kernel
theorem dX10_bridge_50 : decode cX10_bridge 50 = .ok (.iconst 1, 1) := by decide +kernel
theorem dX10_bridge_51 : decode cX10_bridge 51 = .ok (.sipush 4095, 3) := by decide +kernel
theorem dX10_bridge_54 : decode cX10_bridge 54 = .ok (.invokestatic 70, 3) := by decide +kernel
theorem dX10_bridge_57 : decode cX10_bridge 57 = .ok (.iload_n 2, 1) := by decide +kernel
theorem dX10_bridge_58 : decode cX10_bridge 58 = .ok (.invokestatic 115, 3) := by decide +kernel
theorem dX10_bridge_61 : decode cX10_bridge 61 = .ok (.iconst 5, 1) := by decide +kernel
theorem dX10_bridge_62 : decode cX10_bridge 62 = .ok (.if_icmp .gt 15, 3) := by decide +kernel
theorem dX10_bridge_65 : decode cX10_bridge 65 = .ok (.aload_n 3, 1) := by decide +kernel
theorem dX10_bridge_66 : decode cX10_bridge 66 = .ok (.iload_n 2, 1) := by decide +kernel
theorem dX10_bridge_67 : decode cX10_bridge 67 = .ok (.invokevirtual 121, 3) := by decide +kernel
theorem dX10_bridge_70 : decode cX10_bridge 70 = .ok (.ifCond .eq 7, 3) := by decide +kernel
theorem dX10_bridge_73 : decode cX10_bridge 73 = .ok (.iconst 1, 1) := by decide +kernel
theorem dX10_bridge_74 : decode cX10_bridge 74 = .ok (.goto 4, 3) := by decide +kernel
theorem dX10_bridge_77 : decode cX10_bridge 77 = .ok (.iconst 0, 1) := by decide +kernel
theorem dX10_bridge_78 : decode cX10_bridge 78 = .ok (.invokestatic 84, 3) := by decide +kernel
theorem dX10_bridge_81 : decode cX10_bridge 81 = .ok (.aload_n 3, 1) := by decide +kernel
theorem dX10_bridge_82 : decode cX10_bridge 82 = .ok (.getfield 80, 3) := by decide +kernel
theorem dX10_bridge_85 : decode cX10_bridge 85 = .ok (.bipush 12, 2) := by decide +kernel
theorem dX10_bridge_87 : decode cX10_bridge 87 = .ok (.if_icmp .ge 7, 3) := by decide +kernel
theorem dX10_bridge_90 : decode cX10_bridge 90 = .ok (.iconst 1, 1) := by decide +kernel
theorem dX10_bridge_91 : decode cX10_bridge 91 = .ok (.goto 4, 3) := by decide +kernel
theorem dX10_bridge_94 : decode cX10_bridge 94 = .ok (.iconst 0, 1) := by decide +kernel
theorem dX10_bridge_95 : decode cX10_bridge 95 = .ok (.invokestatic 84, 3) := by decide +kernel
theorem dX10_bridge_98 : decode cX10_bridge 98 = .ok (.aload_n 3, 1) := by decide +kernel
theorem dX10_bridge_99 : decode cX10_bridge 99 = .ok (.iload_n 2, 1) := by decide +kernel
theorem dX10_bridge_100 : decode cX10_bridge 100 = .ok (.invokevirtual 124, 3) := by decide +kernel
theorem dX10_bridge_103 : decode cX10_bridge 103 = .ok (.istore 5, 2) := by decide +kernel
theorem dX10_bridge_105 : decode cX10_bridge 105 = .ok (.aload_n 0, 1) := by decide +kernel
theorem dX10_bridge_106 : decode cX10_bridge 106 = .ok (.getfield 12, 3) := by decide +kernel
theorem dX10_bridge_109 : decode cX10_bridge 109 = .ok (.invokevirtual 102, 3) := by decide +kernel
theorem dX10_bridge_112 : decode cX10_bridge 112 = .ok (.aload_n 0, 1) := by decide +kernel
theorem dX10_bridge_113 : decode cX10_bridge 113 = .ok (.getfield 35, 3) := by decide +kernel
theorem dX10_bridge_116 : decode cX10_bridge 116 = .ok (.invokevirtual 105, 3) := by decide +kernel
theorem dX10_bridge_119 : decode cX10_bridge 119 = .ok (.iload 5, 2) := by decide +kernel
theorem dX10_bridge_121 : decode cX10_bridge 121 = .ok (.ireturn, 1) := by decide +kernel
theorem dX10_move_0 : decode cX10_move 0 = .ok (.aload_n 0, 1) := by decide +kernel
theorem dX10_move_1 : decode cX10_move 1 = .ok (.iload_n 1, 1) := by decide +kernel
theorem dX10_move_2 : decode cX10_move 2 = .ok (.invokevirtual 62, 3) := by decide +kernel
theorem dX10_move_5 : decode cX10_move 5 = .ok (.astore 5, 2) := by decide +kernel
theorem dX10_move_7 : decode cX10_move 7 = .ok (.aload 5, 2) := by decide +kernel
theorem dX10_move_9 : decode cX10_move 9 = .ok (.iload_n 2, 1) := by decide +kernel
theorem dX10_move_10 : decode cX10_move 10 = .ok (.invokestatic 66, 3) := by decide +kernel
theorem dX10_move_13 : decode cX10_move 13 = .ok (.aload 5, 2) := by decide +kernel
theorem dX10_move_15 : decode cX10_move 15 = .ok (.iload_n 3, 1) := by decide +kernel
theorem dX10_move_16 : decode cX10_move 16 = .ok (.invokestatic 66, 3) := by decide +kernel
theorem dX10_move_19 : decode cX10_move 19 = .ok (.aload_n 0, 1) := by decide +kernel
theorem dX10_move_20 : decode cX10_move 20 = .ok (.getfield 12, 3) := by decide +kernel
theorem dX10_move_23 : decode cX10_move 23 = .ok (.getfield 127, 3) := by decide +kernel
theorem dX10_move_26 : decode cX10_move 26 = .ok (.iload 4, 2) := by decide +kernel
theorem dX10_move_28 : decode cX10_move 28 = .ok (.invokestatic 66, 3) := by decide +kernel
theorem dX10_move_31 : decode cX10_move 31 = .ok (.iload_n 1, 1) := by decide +kernel
theorem dX10_move_32 : decode cX10_move 32 = .ok (.ifCond .eq 7, 3) := by decide +kernel
theorem dX10_move_35 : decode cX10_move 35 = .ok (.iload_n 2, 1) := by decide +kernel
theorem dX10_move_36 : decode cX10_move 36 = .ok (.ifCond .ne 13, 3) := by decide +kernel
theorem dX10_move_39 : decode cX10_move 39 = .ok (.new 108, 3) := by decide +kernel
theorem dX10_move_42 : decode cX10_move 42 = .ok (.dup, 1) := by decide +kernel
theorem dX10_move_43 : decode cX10_move 43 = .ok (.ldc 131, 2) := by decide +kernel
theorem dX10_move_45 : decode cX10_move 45 = .ok (.invokespecial 112, 3) := by decide +kernel
theorem dX10_move_48 : decode cX10_move 48 = .ok (.athrow, 1) := by decide +kernel
theorem dX10_move_49 : decode cX10_move 49 = .ok (.aload 5, 2) := by decide +kernel
theorem dX10_move_51 : decode cX10_move 51 = .ok (.iload_n 2, 1) := by decide +kernel
theorem dX10_move_52 : decode cX10_move 52 = .ok (.invokevirtual 74, 3) := by decide +kernel
theorem dX10_move_55 : decode cX10_move 55 = .ok (.ifCond .eq 31, 3) := by decide +kernel
theorem dX10_move_58 : decode cX10_move 58 = .ok (.aload 5, 2) := by decide +kernel
theorem dX10_move_60 : decode cX10_move 60 = .ok (.iload_n 3, 1) := by decide +kernel
theorem dX10_move_61 : decode cX10_move 61 = .ok (.invokevirtual 74, 3) := by decide +kernel
theorem dX10_move_64 : decode cX10_move 64 = .ok (.ifCond .eq 22, 3) := by decide +kernel
theorem dX10_move_67 : decode cX10_move 67 = .ok (.aload_n 0, 1) := by decide +kernel
theorem dX10_move_68 : decode cX10_move 68 = .ok (.getfield 12, 3) := by decide +kernel
theorem dX10_move_71 : decode cX10_move 71 = .ok (.getfield 127, 3) := by decide +kernel
theorem dX10_move_74 : decode cX10_move 74 = .ok (.iload 4, 2) := by decide +kernel
theorem dX10_move_76 : decode cX10_move 76 = .ok (.invokevirtual 74, 3) := by decide +kernel
theorem dX10_move_79 : decode cX10_move 79 = .ok (.ifCond .eq 7, 3) := by decide +kernel
theorem dX10_move_82 : decode cX10_move 82 = .ok (.iconst 1, 1) := by decide +kernel
theorem dX10_move_83 : decode cX10_move 83 = .ok (.goto 4, 3) := by decide +kernel
theorem dX10_move_86 : decode cX10_move 86 = .ok (.iconst 0, 1) := by decide +kernel
theorem dX10_move_87 : decode cX10_move 87 = .ok (.invokestatic 84, 3) := by decide +kernel
theorem dX10_move_90 : decode cX10_move 90 = .ok (.iload_n 3, 1) := by decide +kernel
theorem dX10_move_91 : decode cX10_move 91 = .ok (.iload_n 2, 1) := by decide +kernel
theorem dX10_move_92 : decode cX10_move 92 = .ok (.if_icmp .ge 19, 3) := by decide +kernel
theorem dX10_move_95 : decode cX10_move 95 = .ok (.aload_n 0, 1) := by decide +kernel
theorem dX10_move_96 : decode cX10_move 96 = .ok (.getfield 12, 3) := by decide +kernel
theorem dX10_move_99 : decode cX10_move 99 = .ok (.invokevirtual 133, 3) := by decide +kernel
theorem dX10_move_102 : decode cX10_move 102 = .ok (.bipush 10, 2) := by decide +kernel
theorem dX10_move_104 : decode cX10_move 104 = .ok (.if_icmp .ge 7, 3) := by decide +kernel
theorem dX10_move_107 : decode cX10_move 107 = .ok (.iconst 1, 1) := by decide +kernel
theorem dX10_move_108 : decode cX10_move 108 = .ok (.goto 4, 3) := by decide +kernel
theorem dX10_move_111 : decode cX10_move 111 = .ok (.iconst 0, 1) := by decide +kernel
theorem dX10_move_112 : decode cX10_move 112 = .ok (.invokestatic 84, 3) := by decide +kernel
theorem dX10_move_115 : decode cX10_move 115 = .ok (.aload 5, 2) := by decide +kernel
theorem dX10_move_117 : decode cX10_move 117 = .ok (.iload_n 2, 1) := by decide +kernel
theorem dX10_move_118 : decode cX10_move 118 = .ok (.invokevirtual 137, 3) := by decide +kernel
theorem dX10_move_121 : decode cX10_move 121 = .ok (.istore 6, 2) := by decide +kernel
theorem dX10_move_123 : decode cX10_move 123 = .ok (.aload 5, 2) := by decide +kernel
theorem dX10_move_125 : decode cX10_move 125 = .ok (.getfield 140, 3) := by decide +kernel
theorem dX10_move_128 : decode cX10_move 128 = .ok (.iload_n 2, 1) := by decide +kernel
theorem dX10_move_129 : decode cX10_move 129 = .ok (.iload_n 3, 1) := by decide +kernel
theorem dX10_move_130 : decode cX10_move 130 = .ok (.iload 4, 2) := by decide +kernel
theorem dX10_move_132 : decode cX10_move 132 = .ok (.invokevirtual 144, 3) := by decide +kernel
theorem dX10_move_135 : decode cX10_move 135 = .ok (.aload_n 0, 1) := by decide +kernel
theorem dX10_move_136 : decode cX10_move 136 = .ok (.getfield 12, 3) := by decide +kernel
theorem dX10_move_139 : decode cX10_move 139 = .ok (.invokevirtual 102, 3) := by decide +kernel
theorem dX10_move_142 : decode cX10_move 142 = .ok (.aload_n 0, 1) := by decide +kernel
theorem dX10_move_143 : decode cX10_move 143 = .ok (.getfield 35, 3) := by decide +kernel
theorem dX10_move_146 : decode cX10_move 146 = .ok (.invokevirtual 105, 3) := by decide +kernel
theorem dX10_move_149 : decode cX10_move 149 = .ok (.iload 6, 2) := by decide +kernel
theorem dX10_move_151 : decode cX10_move 151 = .ok (.ireturn, 1) := by decide +kernel
theorem dX10_asNow_0 : decode cX10_asNow 0 = .ok (.aload_n 0, 1) := by decide +kernel
theorem dX10_asNow_1 : decode cX10_asNow 1 = .ok (.getfield 12, 3) := by decide +kernel
theorem dX10_asNow_4 : decode cX10_asNow 4 = .ok (.getfield 149, 3) := by decide +kernel
theorem dX10_asNow_7 : decode cX10_asNow 7 = .ok (.istore_n 2, 1) := by decide +kernel
theorem dX10_asNow_8 : decode cX10_asNow 8 = .ok (.aload_n 0, 1) := by decide +kernel
theorem dX10_asNow_9 : decode cX10_asNow 9 = .ok (.getfield 12, 3) := by decide +kernel
theorem dX10_asNow_12 : decode cX10_asNow 12 = .ok (.iload_n 1, 1) := by decide +kernel
theorem dX10_asNow_13 : decode cX10_asNow 13 = .ok (.putfield 149, 3) := by decide +kernel
theorem dX10_asNow_16 : decode cX10_asNow 16 = .ok (.aload_n 0, 1) := by decide +kernel
theorem dX10_asNow_17 : decode cX10_asNow 17 = .ok (.getfield 35, 3) := by decide +kernel
theorem dX10_asNow_20 : decode cX10_asNow 20 = .ok (.invokevirtual 105, 3) := by decide +kernel
theorem dX10_asNow_23 : decode cX10_asNow 23 = .ok (.iload_n 2, 1) := by decide +kernel
theorem dX10_asNow_24 : decode cX10_asNow 24 = .ok (.ireturn, 1) := by decide +kernel
theorem dX10_memberAt_0 : decode cX10_memberAt 0 = .ok (.aload_n 0, 1) := by decide +kernel
theorem dX10_memberAt_1 : decode cX10_memberAt 1 = .ok (.iload_n 1, 1) := by decide +kernel
theorem dX10_memberAt_2 : decode cX10_memberAt 2 = .ok (.invokevirtual 62, 3) := by decide +kernel
theorem dX10_memberAt_5 : decode cX10_memberAt 5 = .ok (.astore 4, 2) := by decide +kernel
theorem dX10_memberAt_7 : decode cX10_memberAt 7 = .ok (.aload 4, 2) := by decide +kernel
theorem dX10_memberAt_9 : decode cX10_memberAt 9 = .ok (.iload_n 2, 1) := by decide +kernel
theorem dX10_memberAt_10 : decode cX10_memberAt 10 = .ok (.invokestatic 66, 3) := by decide +kernel
theorem dX10_memberAt_13 : decode cX10_memberAt 13 = .ok (.iload_n 3, 1) := by decide +kernel
theorem dX10_memberAt_14 : decode cX10_memberAt 14 = .ok (.iconst 0, 1) := by decide +kernel
theorem dX10_memberAt_15 : decode cX10_memberAt 15 = .ok (.iconst 4, 1) := by decide +kernel
theorem dX10_memberAt_16 : decode cX10_memberAt 16 = .ok (.invokestatic 70, 3) := by decide +kernel
theorem dX10_memberAt_19 : decode cX10_memberAt 19 = .ok (.iload_n 3, 1) := by decide +kernel
theorem dX10_memberAt_20 : decode cX10_memberAt 20 = .ok (.tableswitch 73 0 3 #[32, 39, 46, 53], 32) := by decide +kernel
theorem dX10_memberAt_52 : decode cX10_memberAt 52 = .ok (.aload 4, 2) := by decide +kernel
theorem dX10_memberAt_54 : decode cX10_memberAt 54 = .ok (.iload_n 2, 1) := by decide +kernel
theorem dX10_memberAt_55 : decode cX10_memberAt 55 = .ok (.invokevirtual 153, 3) := by decide +kernel
theorem dX10_memberAt_58 : decode cX10_memberAt 58 = .ok (.ireturn, 1) := by decide +kernel
theorem dX10_memberAt_59 : decode cX10_memberAt 59 = .ok (.aload 4, 2) := by decide +kernel
theorem dX10_memberAt_61 : decode cX10_memberAt 61 = .ok (.iload_n 2, 1) := by decide +kernel
theorem dX10_memberAt_62 : decode cX10_memberAt 62 = .ok (.invokevirtual 137, 3) := by decide +kernel
theorem dX10_memberAt_65 : decode cX10_memberAt 65 = .ok (.ireturn, 1) := by decide +kernel
theorem dX10_memberAt_66 : decode cX10_memberAt 66 = .ok (.aload 4, 2) := by decide +kernel
theorem dX10_memberAt_68 : decode cX10_memberAt 68 = .ok (.iload_n 2, 1) := by decide +kernel
theorem dX10_memberAt_69 : decode cX10_memberAt 69 = .ok (.invokevirtual 156, 3) := by decide +kernel
theorem dX10_memberAt_72 : decode cX10_memberAt 72 = .ok (.ireturn, 1) := by decide +kernel
theorem dX10_memberAt_73 : decode cX10_memberAt 73 = .ok (.iload_n 1, 1) := by decide +kernel
theorem dX10_memberAt_74 : decode cX10_memberAt 74 = .ok (.ifCond .ne 17, 3) := by decide +kernel
theorem dX10_memberAt_77 : decode cX10_memberAt 77 = .ok (.aload_n 0, 1) := by decide +kernel
theorem dX10_memberAt_78 : decode cX10_memberAt 78 = .ok (.getfield 12, 3) := by decide +kernel
theorem dX10_memberAt_81 : decode cX10_memberAt 81 = .ok (.getfield 92, 3) := by decide +kernel
theorem dX10_memberAt_84 : decode cX10_memberAt 84 = .ok (.iload_n 2, 1) := by decide +kernel
theorem dX10_memberAt_85 : decode cX10_memberAt 85 = .ok (.invokevirtual 159, 3) := by decide +kernel
theorem dX10_memberAt_88 : decode cX10_memberAt 88 = .ok (.goto 4, 3) := by decide +kernel
theorem dX10_memberAt_91 : decode cX10_memberAt 91 = .ok (.iconst (-1), 1) := by decide +kernel
theorem dX10_memberAt_92 : decode cX10_memberAt 92 = .ok (.ireturn, 1) := by decide +kernel
theorem dX10_memberAt_93 : decode cX10_memberAt 93 = .ok (.aload 4, 2) := by decide +kernel
theorem dX10_memberAt_95 : decode cX10_memberAt 95 = .ok (.iload_n 2, 1) := by decide +kernel
theorem dX10_memberAt_96 : decode cX10_memberAt 96 = .ok (.invokevirtual 162, 3) := by decide +kernel
theorem dX10_memberAt_99 : decode cX10_memberAt 99 = .ok (.ifCond .eq 7, 3) := by decide +kernel
theorem dX10_memberAt_102 : decode cX10_memberAt 102 = .ok (.iconst 1, 1) := by decide +kernel
theorem dX10_memberAt_103 : decode cX10_memberAt 103 = .ok (.goto 4, 3) := by decide +kernel
theorem dX10_memberAt_106 : decode cX10_memberAt 106 = .ok (.iconst 0, 1) := by decide +kernel
theorem dX10_memberAt_107 : decode cX10_memberAt 107 = .ok (.ireturn, 1) := by decide +kernel
theorem dX10_word_0 : decode cX10_word 0 = .ok (.iload_n 1, 1) := by decide +kernel
theorem dX10_word_1 : decode cX10_word 1 = .ok (.iconst 0, 1) := by decide +kernel
theorem dX10_word_2 : decode cX10_word 2 = .ok (.bipush 6, 2) := by decide +kernel
theorem dX10_word_4 : decode cX10_word 4 = .ok (.invokestatic 70, 3) := by decide +kernel
theorem dX10_word_7 : decode cX10_word 7 = .ok (.iload_n 1, 1) := by decide +kernel
theorem dX10_word_8 : decode cX10_word 8 = .ok (.ifCond .ne 11, 3) := by decide +kernel
theorem dX10_word_11 : decode cX10_word 11 = .ok (.iload_n 2, 1) := by decide +kernel
theorem dX10_word_12 : decode cX10_word 12 = .ok (.ldc 165, 2) := by decide +kernel
theorem dX10_word_14 : decode cX10_word 14 = .ok (.ldc 166, 2) := by decide +kernel
theorem dX10_word_16 : decode cX10_word 16 = .ok (.invokestatic 70, 3) := by decide +kernel
theorem dX10_word_19 : decode cX10_word 19 = .ok (.iload_n 1, 1) := by decide +kernel
theorem dX10_word_20 : decode cX10_word 20 = .ok (.iconst 1, 1) := by decide +kernel
theorem dX10_word_21 : decode cX10_word 21 = .ok (.if_icmp .eq 8, 3) := by decide +kernel
theorem dX10_word_24 : decode cX10_word 24 = .ok (.iload_n 1, 1) := by decide +kernel
theorem dX10_word_25 : decode cX10_word 25 = .ok (.iconst 2, 1) := by decide +kernel
theorem dX10_word_26 : decode cX10_word 26 = .ok (.if_icmp .ne 10, 3) := by decide +kernel
theorem dX10_word_29 : decode cX10_word 29 = .ok (.iload_n 2, 1) := by decide +kernel
theorem dX10_word_30 : decode cX10_word 30 = .ok (.iconst 0, 1) := by decide +kernel
theorem dX10_word_31 : decode cX10_word 31 = .ok (.bipush 11, 2) := by decide +kernel
theorem dX10_word_33 : decode cX10_word 33 = .ok (.invokestatic 70, 3) := by decide +kernel
theorem dX10_word_36 : decode cX10_word 36 = .ok (.iload_n 1, 1) := by decide +kernel
theorem dX10_word_37 : decode cX10_word 37 = .ok (.iconst 1, 1) := by decide +kernel
theorem dX10_word_38 : decode cX10_word 38 = .ok (.if_icmp .ne 10, 3) := by decide +kernel
theorem dX10_word_41 : decode cX10_word 41 = .ok (.iload_n 3, 1) := by decide +kernel
theorem dX10_word_42 : decode cX10_word 42 = .ok (.iconst 0, 1) := by decide +kernel
theorem dX10_word_43 : decode cX10_word 43 = .ok (.bipush 11, 2) := by decide +kernel
theorem dX10_word_45 : decode cX10_word 45 = .ok (.invokestatic 70, 3) := by decide +kernel
theorem dX10_word_48 : decode cX10_word 48 = .ok (.aload_n 0, 1) := by decide +kernel
theorem dX10_word_49 : decode cX10_word 49 = .ok (.getfield 58, 3) := by decide +kernel
theorem dX10_word_52 : decode cX10_word 52 = .ok (.iload_n 1, 1) := by decide +kernel
theorem dX10_word_53 : decode cX10_word 53 = .ok (.invokevirtual 167, 3) := by decide +kernel
theorem dX10_word_56 : decode cX10_word 56 = .ok (.invokestatic 84, 3) := by decide +kernel
theorem dX10_word_59 : decode cX10_word 59 = .ok (.aload_n 0, 1) := by decide +kernel
theorem dX10_word_60 : decode cX10_word 60 = .ok (.getfield 58, 3) := by decide +kernel
theorem dX10_word_63 : decode cX10_word 63 = .ok (.iload_n 1, 1) := by decide +kernel
theorem dX10_word_64 : decode cX10_word 64 = .ok (.iload_n 2, 1) := by decide +kernel
theorem dX10_word_65 : decode cX10_word 65 = .ok (.iload_n 3, 1) := by decide +kernel
theorem dX10_word_66 : decode cX10_word 66 = .ok (.invokevirtual 170, 3) := by decide +kernel
theorem dX10_word_69 : decode cX10_word 69 = .ok (.aload_n 0, 1) := by decide +kernel
theorem dX10_word_70 : decode cX10_word 70 = .ok (.getfield 58, 3) := by decide +kernel
theorem dX10_word_73 : decode cX10_word 73 = .ok (.getfield 173, 3) := by decide +kernel
theorem dX10_word_76 : decode cX10_word 76 = .ok (.ireturn, 1) := by decide +kernel
theorem dX10_calculate_0 : decode cX10_calculate 0 = .ok (.aload_n 0, 1) := by decide +kernel
theorem dX10_calculate_1 : decode cX10_calculate 1 = .ok (.iload_n 1, 1) := by decide +kernel
theorem dX10_calculate_2 : decode cX10_calculate 2 = .ok (.invokevirtual 62, 3) := by decide +kernel
theorem dX10_calculate_5 : decode cX10_calculate 5 = .ok (.astore_n 3, 1) := by decide +kernel
theorem dX10_calculate_6 : decode cX10_calculate 6 = .ok (.iload_n 2, 1) := by decide +kernel
theorem dX10_calculate_7 : decode cX10_calculate 7 = .ok (.iconst 0, 1) := by decide +kernel
theorem dX10_calculate_8 : decode cX10_calculate 8 = .ok (.bipush 100, 2) := by decide +kernel
theorem dX10_calculate_10 : decode cX10_calculate 10 = .ok (.invokestatic 70, 3) := by decide +kernel
theorem dX10_calculate_13 : decode cX10_calculate 13 = .ok (.aload_n 0, 1) := by decide +kernel
theorem dX10_calculate_14 : decode cX10_calculate 14 = .ok (.getfield 58, 3) := by decide +kernel
theorem dX10_calculate_17 : decode cX10_calculate 17 = .ok (.getfield 174, 3) := by decide +kernel
theorem dX10_calculate_20 : decode cX10_calculate 20 = .ok (.iconst 1, 1) := by decide +kernel
theorem dX10_calculate_21 : decode cX10_calculate 21 = .ok (.if_icmp .ne 30, 3) := by decide +kernel
theorem dX10_calculate_24 : decode cX10_calculate 24 = .ok (.aload_n 0, 1) := by decide +kernel
theorem dX10_calculate_25 : decode cX10_calculate 25 = .ok (.getfield 58, 3) := by decide +kernel
theorem dX10_calculate_28 : decode cX10_calculate 28 = .ok (.aload_n 3, 1) := by decide +kernel
theorem dX10_calculate_29 : decode cX10_calculate 29 = .ok (.getfield 80, 3) := by decide +kernel
theorem dX10_calculate_32 : decode cX10_calculate 32 = .ok (.invokevirtual 177, 3) := by decide +kernel
theorem dX10_calculate_35 : decode cX10_calculate 35 = .ok (.ifCond .ne 16, 3) := by decide +kernel
theorem dX10_calculate_38 : decode cX10_calculate 38 = .ok (.aload_n 3, 1) := by decide +kernel
theorem dX10_calculate_39 : decode cX10_calculate 39 = .ok (.getfield 80, 3) := by decide +kernel
theorem dX10_calculate_42 : decode cX10_calculate 42 = .ok (.bipush 12, 2) := by decide +kernel
theorem dX10_calculate_44 : decode cX10_calculate 44 = .ok (.if_icmp .ge 7, 3) := by decide +kernel
theorem dX10_calculate_47 : decode cX10_calculate 47 = .ok (.iconst 1, 1) := by decide +kernel
theorem dX10_calculate_48 : decode cX10_calculate 48 = .ok (.goto 4, 3) := by decide +kernel
theorem dX10_calculate_51 : decode cX10_calculate 51 = .ok (.iconst 0, 1) := by decide +kernel
theorem dX10_calculate_52 : decode cX10_calculate 52 = .ok (.invokestatic 84, 3) := by decide +kernel
theorem dX10_calculate_55 : decode cX10_calculate 55 = .ok (.aload_n 3, 1) := by decide +kernel
theorem dX10_calculate_56 : decode cX10_calculate 56 = .ok (.aload_n 0, 1) := by decide +kernel
theorem dX10_calculate_57 : decode cX10_calculate 57 = .ok (.getfield 58, 3) := by decide +kernel
theorem dX10_calculate_60 : decode cX10_calculate 60 = .ok (.iload_n 2, 1) := by decide +kernel
theorem dX10_calculate_61 : decode cX10_calculate 61 = .ok (.invokevirtual 180, 3) := by decide +kernel
theorem dX10_calculate_64 : decode cX10_calculate 64 = .ok (.istore 4, 2) := by decide +kernel
theorem dX10_calculate_66 : decode cX10_calculate 66 = .ok (.aload_n 0, 1) := by decide +kernel
theorem dX10_calculate_67 : decode cX10_calculate 67 = .ok (.new 55, 3) := by decide +kernel
theorem dX10_calculate_70 : decode cX10_calculate 70 = .ok (.dup, 1) := by decide +kernel
theorem dX10_calculate_71 : decode cX10_calculate 71 = .ok (.invokespecial 57, 3) := by decide +kernel
theorem dX10_calculate_74 : decode cX10_calculate 74 = .ok (.putfield 58, 3) := by decide +kernel
theorem dX10_calculate_77 : decode cX10_calculate 77 = .ok (.aload_n 0, 1) := by decide +kernel
theorem dX10_calculate_78 : decode cX10_calculate 78 = .ok (.getfield 35, 3) := by decide +kernel
theorem dX10_calculate_81 : decode cX10_calculate 81 = .ok (.invokevirtual 105, 3) := by decide +kernel
theorem dX10_calculate_84 : decode cX10_calculate 84 = .ok (.iload 4, 2) := by decide +kernel
theorem dX10_calculate_86 : decode cX10_calculate 86 = .ok (.ireturn, 1) := by decide +kernel
theorem dX10_hide_0 : decode cX10_hide 0 = .ok (.aload_n 0, 1) := by decide +kernel
theorem dX10_hide_1 : decode cX10_hide 1 = .ok (.iload_n 1, 1) := by decide +kernel
theorem dX10_hide_2 : decode cX10_hide 2 = .ok (.invokevirtual 62, 3) := by decide +kernel
theorem dX10_hide_5 : decode cX10_hide 5 = .ok (.astore 4, 2) := by decide +kernel
theorem dX10_hide_7 : decode cX10_hide 7 = .ok (.aload 4, 2) := by decide +kernel
theorem dX10_hide_9 : decode cX10_hide 9 = .ok (.iload_n 2, 1) := by decide +kernel
theorem dX10_hide_10 : decode cX10_hide 10 = .ok (.invokestatic 66, 3) := by decide +kernel
theorem dX10_hide_13 : decode cX10_hide 13 = .ok (.iload_n 2, 1) := by decide +kernel
theorem dX10_hide_14 : decode cX10_hide 14 = .ok (.ifCond .ne 13, 3) := by decide +kernel
theorem dX10_hide_17 : decode cX10_hide 17 = .ok (.new 108, 3) := by decide +kernel
theorem dX10_hide_20 : decode cX10_hide 20 = .ok (.dup, 1) := by decide +kernel
theorem dX10_hide_21 : decode cX10_hide 21 = .ok (.ldc 184, 2) := by decide +kernel
theorem dX10_hide_23 : decode cX10_hide 23 = .ok (.invokespecial 112, 3) := by decide +kernel
theorem dX10_hide_26 : decode cX10_hide 26 = .ok (.athrow, 1) := by decide +kernel
theorem dX10_hide_27 : decode cX10_hide 27 = .ok (.aload 4, 2) := by decide +kernel
theorem dX10_hide_29 : decode cX10_hide 29 = .ok (.iload_n 2, 1) := by decide +kernel
theorem dX10_hide_30 : decode cX10_hide 30 = .ok (.invokevirtual 74, 3) := by decide +kernel
theorem dX10_hide_33 : decode cX10_hide 33 = .ok (.invokestatic 84, 3) := by decide +kernel
theorem dX10_hide_36 : decode cX10_hide 36 = .ok (.aload 4, 2) := by decide +kernel
theorem dX10_hide_38 : decode cX10_hide 38 = .ok (.iload_n 2, 1) := by decide +kernel
theorem dX10_hide_39 : decode cX10_hide 39 = .ok (.iload_n 3, 1) := by decide +kernel
theorem dX10_hide_40 : decode cX10_hide 40 = .ok (.invokevirtual 186, 3) := by decide +kernel
theorem dX10_hide_43 : decode cX10_hide 43 = .ok (.istore 5, 2) := by decide +kernel
theorem dX10_hide_45 : decode cX10_hide 45 = .ok (.aload_n 0, 1) := by decide +kernel
theorem dX10_hide_46 : decode cX10_hide 46 = .ok (.getfield 35, 3) := by decide +kernel
theorem dX10_hide_49 : decode cX10_hide 49 = .ok (.invokevirtual 105, 3) := by decide +kernel
theorem dX10_hide_52 : decode cX10_hide 52 = .ok (.iload 5, 2) := by decide +kernel
theorem dX10_hide_54 : decode cX10_hide 54 = .ok (.ireturn, 1) := by decide +kernel
theorem dX10_totals_0 : decode cX10_totals 0 = .ok (.aload_n 0, 1) := by decide +kernel
theorem dX10_totals_1 : decode cX10_totals 1 = .ok (.getfield 12, 3) := by decide +kernel
theorem dX10_totals_4 : decode cX10_totals 4 = .ok (.getfield 190, 3) := by decide +kernel
theorem dX10_totals_7 : decode cX10_totals 7 = .ok (.istore_n 2, 1) := by decide +kernel
theorem dX10_totals_8 : decode cX10_totals 8 = .ok (.aload_n 0, 1) := by decide +kernel
theorem dX10_totals_9 : decode cX10_totals 9 = .ok (.getfield 12, 3) := by decide +kernel
theorem dX10_totals_12 : decode cX10_totals 12 = .ok (.iload_n 1, 1) := by decide +kernel
theorem dX10_totals_13 : decode cX10_totals 13 = .ok (.putfield 190, 3) := by decide +kernel
theorem dX10_totals_16 : decode cX10_totals 16 = .ok (.aload_n 0, 1) := by decide +kernel
theorem dX10_totals_17 : decode cX10_totals 17 = .ok (.getfield 35, 3) := by decide +kernel
theorem dX10_totals_20 : decode cX10_totals 20 = .ok (.invokevirtual 105, 3) := by decide +kernel
theorem dX10_totals_23 : decode cX10_totals 23 = .ok (.iload_n 2, 1) := by decide +kernel
theorem dX10_totals_24 : decode cX10_totals 24 = .ok (.ireturn, 1) := by decide +kernel
theorem dX10_measure_0 : decode cX10_measure 0 = .ok (.iload_n 1, 1) := by decide +kernel
theorem dX10_measure_1 : decode cX10_measure 1 = .ok (.iconst 3, 1) := by decide +kernel
theorem dX10_measure_2 : decode cX10_measure 2 = .ok (.if_icmp .ne 13, 3) := by decide +kernel
theorem dX10_measure_5 : decode cX10_measure 5 = .ok (.aload_n 0, 1) := by decide +kernel
theorem dX10_measure_6 : decode cX10_measure 6 = .ok (.iload_n 2, 1) := by decide +kernel
theorem dX10_measure_7 : decode cX10_measure 7 = .ok (.invokevirtual 193, 3) := by decide +kernel
theorem dX10_measure_10 : decode cX10_measure 10 = .ok (.aload_n 0, 1) := by decide +kernel
theorem dX10_measure_11 : decode cX10_measure 11 = .ok (.iload_n 3, 1) := by decide +kernel
theorem dX10_measure_12 : decode cX10_measure 12 = .ok (.invokevirtual 193, 3) := by decide +kernel
theorem dX10_measure_15 : decode cX10_measure 15 = .ok (.iload_n 1, 1) := by decide +kernel
theorem dX10_measure_16 : decode cX10_measure 16 = .ok (.iconst 0, 1) := by decide +kernel
theorem dX10_measure_17 : decode cX10_measure 17 = .ok (.iconst 3, 1) := by decide +kernel
theorem dX10_measure_18 : decode cX10_measure 18 = .ok (.invokestatic 70, 3) := by decide +kernel
theorem dX10_measure_21 : decode cX10_measure 21 = .ok (.aload_n 0, 1) := by decide +kernel
theorem dX10_measure_22 : decode cX10_measure 22 = .ok (.getfield 21, 3) := by decide +kernel
theorem dX10_measure_25 : decode cX10_measure 25 = .ok (.getfield 197, 3) := by decide +kernel
theorem dX10_measure_28 : decode cX10_measure 28 = .ok (.iconst 4, 1) := by decide +kernel
theorem dX10_measure_29 : decode cX10_measure 29 = .ok (.if_icmp .ge 7, 3) := by decide +kernel
theorem dX10_measure_32 : decode cX10_measure 32 = .ok (.iconst 1, 1) := by decide +kernel
theorem dX10_measure_33 : decode cX10_measure 33 = .ok (.goto 4, 3) := by decide +kernel
theorem dX10_measure_36 : decode cX10_measure 36 = .ok (.iconst 0, 1) := by decide +kernel
theorem dX10_measure_37 : decode cX10_measure 37 = .ok (.invokestatic 84, 3) := by decide +kernel
theorem dX10_measure_40 : decode cX10_measure 40 = .ok (.aload_n 0, 1) := by decide +kernel
theorem dX10_measure_41 : decode cX10_measure 41 = .ok (.getfield 21, 3) := by decide +kernel
theorem dX10_measure_44 : decode cX10_measure 44 = .ok (.iload_n 1, 1) := by decide +kernel
theorem dX10_measure_45 : decode cX10_measure 45 = .ok (.iload_n 2, 1) := by decide +kernel
theorem dX10_measure_46 : decode cX10_measure 46 = .ok (.iload_n 3, 1) := by decide +kernel
theorem dX10_measure_47 : decode cX10_measure 47 = .ok (.invokevirtual 198, 3) := by decide +kernel
theorem dX10_measure_50 : decode cX10_measure 50 = .ok (.istore 4, 2) := by decide +kernel
theorem dX10_measure_52 : decode cX10_measure 52 = .ok (.aload_n 0, 1) := by decide +kernel
theorem dX10_measure_53 : decode cX10_measure 53 = .ok (.getfield 35, 3) := by decide +kernel
theorem dX10_measure_56 : decode cX10_measure 56 = .ok (.invokevirtual 105, 3) := by decide +kernel
theorem dX10_measure_59 : decode cX10_measure 59 = .ok (.iload 4, 2) := by decide +kernel
theorem dX10_measure_61 : decode cX10_measure 61 = .ok (.ireturn, 1) := by decide +kernel
theorem dX10_from_0 : decode cX10_from 0 = .ok (.aload_n 0, 1) := by decide +kernel
theorem dX10_from_1 : decode cX10_from 1 = .ok (.iload_n 1, 1) := by decide +kernel
theorem dX10_from_2 : decode cX10_from 2 = .ok (.invokevirtual 193, 3) := by decide +kernel
theorem dX10_from_5 : decode cX10_from 5 = .ok (.aload_n 0, 1) := by decide +kernel
theorem dX10_from_6 : decode cX10_from 6 = .ok (.iload_n 2, 1) := by decide +kernel
theorem dX10_from_7 : decode cX10_from 7 = .ok (.invokevirtual 62, 3) := by decide +kernel
theorem dX10_from_10 : decode cX10_from 10 = .ok (.pop, 1) := by decide +kernel
theorem dX10_from_11 : decode cX10_from 11 = .ok (.iload_n 3, 1) := by decide +kernel
theorem dX10_from_12 : decode cX10_from 12 = .ok (.iconst 0, 1) := by decide +kernel
theorem dX10_from_13 : decode cX10_from 13 = .ok (.bipush 11, 2) := by decide +kernel
theorem dX10_from_15 : decode cX10_from 15 = .ok (.invokestatic 70, 3) := by decide +kernel
theorem dX10_from_18 : decode cX10_from 18 = .ok (.aload_n 0, 1) := by decide +kernel
theorem dX10_from_19 : decode cX10_from 19 = .ok (.getfield 21, 3) := by decide +kernel
theorem dX10_from_22 : decode cX10_from 22 = .ok (.iload_n 1, 1) := by decide +kernel
theorem dX10_from_23 : decode cX10_from 23 = .ok (.iload_n 2, 1) := by decide +kernel
theorem dX10_from_24 : decode cX10_from 24 = .ok (.iload_n 3, 1) := by decide +kernel
theorem dX10_from_25 : decode cX10_from 25 = .ok (.invokevirtual 202, 3) := by decide +kernel
theorem dX10_from_28 : decode cX10_from 28 = .ok (.istore 4, 2) := by decide +kernel
theorem dX10_from_30 : decode cX10_from 30 = .ok (.aload_n 0, 1) := by decide +kernel
theorem dX10_from_31 : decode cX10_from 31 = .ok (.getfield 35, 3) := by decide +kernel
theorem dX10_from_34 : decode cX10_from 34 = .ok (.invokevirtual 105, 3) := by decide +kernel
theorem dX10_from_37 : decode cX10_from 37 = .ok (.iload 4, 2) := by decide +kernel
theorem dX10_from_39 : decode cX10_from 39 = .ok (.ireturn, 1) := by decide +kernel
theorem dX10_fact_0 : decode cX10_fact 0 = .ok (.aload_n 0, 1) := by decide +kernel
theorem dX10_fact_1 : decode cX10_fact 1 = .ok (.iload_n 1, 1) := by decide +kernel
theorem dX10_fact_2 : decode cX10_fact 2 = .ok (.iload_n 2, 1) := by decide +kernel
theorem dX10_fact_3 : decode cX10_fact 3 = .ok (.iload_n 3, 1) := by decide +kernel
theorem dX10_fact_4 : decode cX10_fact 4 = .ok (.iload 4, 2) := by decide +kernel
theorem dX10_fact_6 : decode cX10_fact 6 = .ok (.invokevirtual 205, 3) := by decide +kernel
theorem dX10_fact_9 : decode cX10_fact 9 = .ok (.istore 6, 2) := by decide +kernel
theorem dX10_fact_11 : decode cX10_fact 11 = .ok (.iload 5, 2) := by decide +kernel
theorem dX10_fact_13 : decode cX10_fact 13 = .ok (.ldc 165, 2) := by decide +kernel
theorem dX10_fact_15 : decode cX10_fact 15 = .ok (.ldc 166, 2) := by decide +kernel
theorem dX10_fact_17 : decode cX10_fact 17 = .ok (.invokestatic 70, 3) := by decide +kernel
theorem dX10_fact_20 : decode cX10_fact 20 = .ok (.aload_n 0, 1) := by decide +kernel
theorem dX10_fact_21 : decode cX10_fact 21 = .ok (.getfield 12, 3) := by decide +kernel
theorem dX10_fact_24 : decode cX10_fact 24 = .ok (.iload 6, 2) := by decide +kernel
theorem dX10_fact_26 : decode cX10_fact 26 = .ok (.invokevirtual 209, 3) := by decide +kernel
theorem dX10_fact_29 : decode cX10_fact 29 = .ok (.ifCond .eq 20, 3) := by decide +kernel
theorem dX10_fact_32 : decode cX10_fact 32 = .ok (.aload_n 0, 1) := by decide +kernel
theorem dX10_fact_33 : decode cX10_fact 33 = .ok (.getfield 21, 3) := by decide +kernel
theorem dX10_fact_36 : decode cX10_fact 36 = .ok (.iload 4, 2) := by decide +kernel
theorem dX10_fact_38 : decode cX10_fact 38 = .ok (.invokevirtual 210, 3) := by decide +kernel
theorem dX10_fact_41 : decode cX10_fact 41 = .ok (.iconst 3, 1) := by decide +kernel
theorem dX10_fact_42 : decode cX10_fact 42 = .ok (.if_icmp .eq 7, 3) := by decide +kernel
theorem dX10_fact_45 : decode cX10_fact 45 = .ok (.iconst 1, 1) := by decide +kernel
theorem dX10_fact_46 : decode cX10_fact 46 = .ok (.goto 4, 3) := by decide +kernel
theorem dX10_fact_49 : decode cX10_fact 49 = .ok (.iconst 0, 1) := by decide +kernel
theorem dX10_fact_50 : decode cX10_fact 50 = .ok (.invokestatic 84, 3) := by decide +kernel
theorem dX10_fact_53 : decode cX10_fact 53 = .ok (.aload_n 0, 1) := by decide +kernel
theorem dX10_fact_54 : decode cX10_fact 54 = .ok (.getfield 28, 3) := by decide +kernel
theorem dX10_fact_57 : decode cX10_fact 57 = .ok (.iload 6, 2) := by decide +kernel
theorem dX10_fact_59 : decode cX10_fact 59 = .ok (.iload 4, 2) := by decide +kernel
theorem dX10_fact_61 : decode cX10_fact 61 = .ok (.invokevirtual 211, 3) := by decide +kernel
theorem dX10_fact_64 : decode cX10_fact 64 = .ok (.istore 7, 2) := by decide +kernel
theorem dX10_fact_66 : decode cX10_fact 66 = .ok (.iload 7, 2) := by decide +kernel
theorem dX10_fact_68 : decode cX10_fact 68 = .ok (.iconst (-1), 1) := by decide +kernel
theorem dX10_fact_69 : decode cX10_fact 69 = .ok (.if_icmp .ne 15, 3) := by decide +kernel
theorem dX10_fact_72 : decode cX10_fact 72 = .ok (.aload_n 0, 1) := by decide +kernel
theorem dX10_fact_73 : decode cX10_fact 73 = .ok (.getfield 28, 3) := by decide +kernel
theorem dX10_fact_76 : decode cX10_fact 76 = .ok (.getfield 214, 3) := by decide +kernel
theorem dX10_fact_79 : decode cX10_fact 79 = .ok (.bipush 50, 2) := by decide +kernel
theorem dX10_fact_81 : decode cX10_fact 81 = .ok (.if_icmp .ge 7, 3) := by decide +kernel
theorem dX10_fact_84 : decode cX10_fact 84 = .ok (.iconst 1, 1) := by decide +kernel
theorem dX10_fact_85 : decode cX10_fact 85 = .ok (.goto 4, 3) := by decide +kernel
theorem dX10_fact_88 : decode cX10_fact 88 = .ok (.iconst 0, 1) := by decide +kernel
theorem dX10_fact_89 : decode cX10_fact 89 = .ok (.invokestatic 84, 3) := by decide +kernel
theorem dX10_fact_92 : decode cX10_fact 92 = .ok (.iload 7, 2) := by decide +kernel
theorem dX10_fact_94 : decode cX10_fact 94 = .ok (.iconst (-1), 1) := by decide +kernel
theorem dX10_fact_95 : decode cX10_fact 95 = .ok (.if_icmp .ne 27, 3) := by decide +kernel
theorem dX10_fact_98 : decode cX10_fact 98 = .ok (.aload_n 0, 1) := by decide +kernel
theorem dX10_fact_99 : decode cX10_fact 99 = .ok (.getfield 28, 3) := by decide +kernel
theorem dX10_fact_102 : decode cX10_fact 102 = .ok (.iload 6, 2) := by decide +kernel
theorem dX10_fact_104 : decode cX10_fact 104 = .ok (.iload 4, 2) := by decide +kernel
theorem dX10_fact_106 : decode cX10_fact 106 = .ok (.iload 5, 2) := by decide +kernel
theorem dX10_fact_108 : decode cX10_fact 108 = .ok (.invokevirtual 215, 3) := by decide +kernel
theorem dX10_fact_111 : decode cX10_fact 111 = .ok (.aload_n 0, 1) := by decide +kernel
theorem dX10_fact_112 : decode cX10_fact 112 = .ok (.iload 6, 2) := by decide +kernel
theorem dX10_fact_114 : decode cX10_fact 114 = .ok (.iload 4, 2) := by decide +kernel
theorem dX10_fact_116 : decode cX10_fact 116 = .ok (.invokevirtual 217, 3) := by decide +kernel
theorem dX10_fact_119 : decode cX10_fact 119 = .ok (.goto 12, 3) := by decide +kernel
theorem dX10_fact_122 : decode cX10_fact 122 = .ok (.aload_n 0, 1) := by decide +kernel
theorem dX10_fact_123 : decode cX10_fact 123 = .ok (.iload 7, 2) := by decide +kernel
theorem dX10_fact_125 : decode cX10_fact 125 = .ok (.iload 5, 2) := by decide +kernel
theorem dX10_fact_127 : decode cX10_fact 127 = .ok (.invokevirtual 221, 3) := by decide +kernel
theorem dX10_fact_130 : decode cX10_fact 130 = .ok (.pop, 1) := by decide +kernel
theorem dX10_fact_131 : decode cX10_fact 131 = .ok (.aload_n 0, 1) := by decide +kernel
theorem dX10_fact_132 : decode cX10_fact 132 = .ok (.getfield 28, 3) := by decide +kernel
theorem dX10_fact_135 : decode cX10_fact 135 = .ok (.getfield 214, 3) := by decide +kernel
theorem dX10_fact_138 : decode cX10_fact 138 = .ok (.ireturn, 1) := by decide +kernel
theorem dX10_forget_0 : decode cX10_forget 0 = .ok (.aload_n 0, 1) := by decide +kernel
theorem dX10_forget_1 : decode cX10_forget 1 = .ok (.iload_n 1, 1) := by decide +kernel
theorem dX10_forget_2 : decode cX10_forget 2 = .ok (.iload_n 2, 1) := by decide +kernel
theorem dX10_forget_3 : decode cX10_forget 3 = .ok (.iload_n 3, 1) := by decide +kernel
theorem dX10_forget_4 : decode cX10_forget 4 = .ok (.iload 4, 2) := by decide +kernel
theorem dX10_forget_6 : decode cX10_forget 6 = .ok (.invokevirtual 205, 3) := by decide +kernel
theorem dX10_forget_9 : decode cX10_forget 9 = .ok (.istore 5, 2) := by decide +kernel
theorem dX10_forget_11 : decode cX10_forget 11 = .ok (.aload_n 0, 1) := by decide +kernel
theorem dX10_forget_12 : decode cX10_forget 12 = .ok (.getfield 28, 3) := by decide +kernel
theorem dX10_forget_15 : decode cX10_forget 15 = .ok (.iload 5, 2) := by decide +kernel
theorem dX10_forget_17 : decode cX10_forget 17 = .ok (.iload 4, 2) := by decide +kernel
theorem dX10_forget_19 : decode cX10_forget 19 = .ok (.invokevirtual 211, 3) := by decide +kernel
theorem dX10_forget_22 : decode cX10_forget 22 = .ok (.istore 6, 2) := by decide +kernel
theorem dX10_forget_24 : decode cX10_forget 24 = .ok (.iload 6, 2) := by decide +kernel
theorem dX10_forget_26 : decode cX10_forget 26 = .ok (.iconst (-1), 1) := by decide +kernel
theorem dX10_forget_27 : decode cX10_forget 27 = .ok (.if_icmp .eq 7, 3) := by decide +kernel
theorem dX10_forget_30 : decode cX10_forget 30 = .ok (.iconst 1, 1) := by decide +kernel
theorem dX10_forget_31 : decode cX10_forget 31 = .ok (.goto 4, 3) := by decide +kernel
theorem dX10_forget_34 : decode cX10_forget 34 = .ok (.iconst 0, 1) := by decide +kernel
theorem dX10_forget_35 : decode cX10_forget 35 = .ok (.invokestatic 84, 3) := by decide +kernel
theorem dX10_forget_38 : decode cX10_forget 38 = .ok (.aload_n 0, 1) := by decide +kernel
theorem dX10_forget_39 : decode cX10_forget 39 = .ok (.getfield 28, 3) := by decide +kernel
theorem dX10_forget_42 : decode cX10_forget 42 = .ok (.iload 6, 2) := by decide +kernel
theorem dX10_forget_44 : decode cX10_forget 44 = .ok (.invokevirtual 225, 3) := by decide +kernel
theorem dX10_forget_47 : decode cX10_forget 47 = .ok (.istore 7, 2) := by decide +kernel
theorem dX10_forget_49 : decode cX10_forget 49 = .ok (.aload_n 0, 1) := by decide +kernel
theorem dX10_forget_50 : decode cX10_forget 50 = .ok (.getfield 28, 3) := by decide +kernel
theorem dX10_forget_53 : decode cX10_forget 53 = .ok (.iload 6, 2) := by decide +kernel
theorem dX10_forget_55 : decode cX10_forget 55 = .ok (.invokevirtual 228, 3) := by decide +kernel
theorem dX10_forget_58 : decode cX10_forget 58 = .ok (.aload_n 0, 1) := by decide +kernel
theorem dX10_forget_59 : decode cX10_forget 59 = .ok (.iload 5, 2) := by decide +kernel
theorem dX10_forget_61 : decode cX10_forget 61 = .ok (.iload 4, 2) := by decide +kernel
theorem dX10_forget_63 : decode cX10_forget 63 = .ok (.invokevirtual 217, 3) := by decide +kernel
theorem dX10_forget_66 : decode cX10_forget 66 = .ok (.iload 7, 2) := by decide +kernel
theorem dX10_forget_68 : decode cX10_forget 68 = .ok (.ireturn, 1) := by decide +kernel
theorem dX10_cell_0 : decode cX10_cell 0 = .ok (.aload_n 0, 1) := by decide +kernel
theorem dX10_cell_1 : decode cX10_cell 1 = .ok (.iload_n 1, 1) := by decide +kernel
theorem dX10_cell_2 : decode cX10_cell 2 = .ok (.iload_n 2, 1) := by decide +kernel
theorem dX10_cell_3 : decode cX10_cell 3 = .ok (.iload_n 3, 1) := by decide +kernel
theorem dX10_cell_4 : decode cX10_cell 4 = .ok (.iload 4, 2) := by decide +kernel
theorem dX10_cell_6 : decode cX10_cell 6 = .ok (.invokevirtual 205, 3) := by decide +kernel
theorem dX10_cell_9 : decode cX10_cell 9 = .ok (.istore 5, 2) := by decide +kernel
theorem dX10_cell_11 : decode cX10_cell 11 = .ok (.aload_n 0, 1) := by decide +kernel
theorem dX10_cell_12 : decode cX10_cell 12 = .ok (.getfield 12, 3) := by decide +kernel
theorem dX10_cell_15 : decode cX10_cell 15 = .ok (.iload 5, 2) := by decide +kernel
theorem dX10_cell_17 : decode cX10_cell 17 = .ok (.invokevirtual 231, 3) := by decide +kernel
theorem dX10_cell_20 : decode cX10_cell 20 = .ok (.ifCond .ne 7, 3) := by decide +kernel
theorem dX10_cell_23 : decode cX10_cell 23 = .ok (.ldc2_w 232, 3) := by decide +kernel
theorem dX10_cell_26 : decode cX10_cell 26 = .ok (.lreturn, 1) := by decide +kernel
theorem dX10_cell_27 : decode cX10_cell 27 = .ok (.aload_n 0, 1) := by decide +kernel
theorem dX10_cell_28 : decode cX10_cell 28 = .ok (.getfield 35, 3) := by decide +kernel
theorem dX10_cell_31 : decode cX10_cell 31 = .ok (.iload 5, 2) := by decide +kernel
theorem dX10_cell_33 : decode cX10_cell 33 = .ok (.iload 4, 2) := by decide +kernel
theorem dX10_cell_35 : decode cX10_cell 35 = .ok (.invokevirtual 234, 3) := by decide +kernel
theorem dX10_cell_38 : decode cX10_cell 38 = .ok (.istore 6, 2) := by decide +kernel
theorem dX10_cell_40 : decode cX10_cell 40 = .ok (.iload 6, 2) := by decide +kernel
theorem dX10_cell_42 : decode cX10_cell 42 = .ok (.iconst (-1), 1) := by decide +kernel
theorem dX10_cell_43 : decode cX10_cell 43 = .ok (.if_icmp .eq 26, 3) := by decide +kernel
theorem dX10_cell_46 : decode cX10_cell 46 = .ok (.aload_n 0, 1) := by decide +kernel
theorem dX10_cell_47 : decode cX10_cell 47 = .ok (.getfield 35, 3) := by decide +kernel
theorem dX10_cell_50 : decode cX10_cell 50 = .ok (.dup, 1) := by decide +kernel
theorem dX10_cell_51 : decode cX10_cell 51 = .ok (.getfield 235, 3) := by decide +kernel
theorem dX10_cell_54 : decode cX10_cell 54 = .ok (.iconst 1, 1) := by decide +kernel
theorem dX10_cell_55 : decode cX10_cell 55 = .ok (.iadd, 1) := by decide +kernel
theorem dX10_cell_56 : decode cX10_cell 56 = .ok (.putfield 235, 3) := by decide +kernel
theorem dX10_cell_59 : decode cX10_cell 59 = .ok (.aload_n 0, 1) := by decide +kernel
theorem dX10_cell_60 : decode cX10_cell 60 = .ok (.getfield 35, 3) := by decide +kernel
theorem dX10_cell_63 : decode cX10_cell 63 = .ok (.iload 6, 2) := by decide +kernel
theorem dX10_cell_65 : decode cX10_cell 65 = .ok (.invokevirtual 238, 3) := by decide +kernel
theorem dX10_cell_68 : decode cX10_cell 68 = .ok (.lreturn, 1) := by decide +kernel
theorem dX10_cell_69 : decode cX10_cell 69 = .ok (.aload_n 0, 1) := by decide +kernel
theorem dX10_cell_70 : decode cX10_cell 70 = .ok (.getfield 51, 3) := by decide +kernel
theorem dX10_cell_73 : decode cX10_cell 73 = .ok (.iload 4, 2) := by decide +kernel
theorem dX10_cell_75 : decode cX10_cell 75 = .ok (.invokevirtual 242, 3) := by decide +kernel
theorem dX10_cell_78 : decode cX10_cell 78 = .ok (.aload_n 0, 1) := by decide +kernel
theorem dX10_cell_79 : decode cX10_cell 79 = .ok (.getfield 51, 3) := by decide +kernel
theorem dX10_cell_82 : decode cX10_cell 82 = .ok (.iload 5, 2) := by decide +kernel
theorem dX10_cell_84 : decode cX10_cell 84 = .ok (.invokevirtual 245, 3) := by decide +kernel
theorem dX10_cell_87 : decode cX10_cell 87 = .ok (.lstore 7, 2) := by decide +kernel
theorem dX10_cell_89 : decode cX10_cell 89 = .ok (.aload_n 0, 1) := by decide +kernel
theorem dX10_cell_90 : decode cX10_cell 90 = .ok (.getfield 35, 3) := by decide +kernel
theorem dX10_cell_93 : decode cX10_cell 93 = .ok (.iload 5, 2) := by decide +kernel
theorem dX10_cell_95 : decode cX10_cell 95 = .ok (.iload 4, 2) := by decide +kernel
theorem dX10_cell_97 : decode cX10_cell 97 = .ok (.lload 7, 2) := by decide +kernel
theorem dX10_cell_99 : decode cX10_cell 99 = .ok (.invokevirtual 248, 3) := by decide +kernel
theorem dX10_cell_102 : decode cX10_cell 102 = .ok (.lload 7, 2) := by decide +kernel
theorem dX10_cell_104 : decode cX10_cell 104 = .ok (.lreturn, 1) := by decide +kernel
theorem dX10_cellAnew_0 : decode cX10_cellAnew 0 = .ok (.aload_n 0, 1) := by decide +kernel
theorem dX10_cellAnew_1 : decode cX10_cellAnew 1 = .ok (.iload_n 1, 1) := by decide +kernel
theorem dX10_cellAnew_2 : decode cX10_cellAnew 2 = .ok (.iload_n 2, 1) := by decide +kernel
theorem dX10_cellAnew_3 : decode cX10_cellAnew 3 = .ok (.iload_n 3, 1) := by decide +kernel
theorem dX10_cellAnew_4 : decode cX10_cellAnew 4 = .ok (.iload 4, 2) := by decide +kernel
theorem dX10_cellAnew_6 : decode cX10_cellAnew 6 = .ok (.invokevirtual 205, 3) := by decide +kernel
theorem dX10_cellAnew_9 : decode cX10_cellAnew 9 = .ok (.istore 5, 2) := by decide +kernel
theorem dX10_cellAnew_11 : decode cX10_cellAnew 11 = .ok (.aload_n 0, 1) := by decide +kernel
theorem dX10_cellAnew_12 : decode cX10_cellAnew 12 = .ok (.getfield 51, 3) := by decide +kernel
theorem dX10_cellAnew_15 : decode cX10_cellAnew 15 = .ok (.iload 4, 2) := by decide +kernel
theorem dX10_cellAnew_17 : decode cX10_cellAnew 17 = .ok (.invokevirtual 242, 3) := by decide +kernel
theorem dX10_cellAnew_20 : decode cX10_cellAnew 20 = .ok (.aload_n 0, 1) := by decide +kernel
theorem dX10_cellAnew_21 : decode cX10_cellAnew 21 = .ok (.getfield 51, 3) := by decide +kernel
theorem dX10_cellAnew_24 : decode cX10_cellAnew 24 = .ok (.iload 5, 2) := by decide +kernel
theorem dX10_cellAnew_26 : decode cX10_cellAnew 26 = .ok (.invokevirtual 245, 3) := by decide +kernel
theorem dX10_cellAnew_29 : decode cX10_cellAnew 29 = .ok (.lreturn, 1) := by decide +kernel
theorem dX10_kept_0 : decode cX10_kept 0 = .ok (.aload_n 0, 1) := by decide +kernel
theorem dX10_kept_1 : decode cX10_kept 1 = .ok (.getfield 35, 3) := by decide +kernel
theorem dX10_kept_4 : decode cX10_kept 4 = .ok (.getfield 252, 3) := by decide +kernel
theorem dX10_kept_7 : decode cX10_kept 7 = .ok (.ireturn, 1) := by decide +kernel
theorem dX10_hits_0 : decode cX10_hits 0 = .ok (.aload_n 0, 1) := by decide +kernel
theorem dX10_hits_1 : decode cX10_hits 1 = .ok (.getfield 35, 3) := by decide +kernel
theorem dX10_hits_4 : decode cX10_hits 4 = .ok (.getfield 235, 3) := by decide +kernel
theorem dX10_hits_7 : decode cX10_hits 7 = .ok (.ireturn, 1) := by decide +kernel
theorem dX10_at_0 : decode cX10_at 0 = .ok (.aload_n 0, 1) := by decide +kernel
theorem dX10_at_1 : decode cX10_at 1 = .ok (.iload_n 1, 1) := by decide +kernel
theorem dX10_at_2 : decode cX10_at 2 = .ok (.invokevirtual 62, 3) := by decide +kernel
theorem dX10_at_5 : decode cX10_at 5 = .ok (.astore_n 3, 1) := by decide +kernel
theorem dX10_at_6 : decode cX10_at 6 = .ok (.aload_n 3, 1) := by decide +kernel
theorem dX10_at_7 : decode cX10_at 7 = .ok (.iload_n 2, 1) := by decide +kernel
theorem dX10_at_8 : decode cX10_at 8 = .ok (.invokestatic 66, 3) := by decide +kernel
theorem dX10_at_11 : decode cX10_at 11 = .ok (.aload_n 3, 1) := by decide +kernel
theorem dX10_at_12 : decode cX10_at 12 = .ok (.getfield 253, 3) := by decide +kernel
theorem dX10_at_15 : decode cX10_at 15 = .ok (.istore 4, 2) := by decide +kernel
theorem dX10_at_17 : decode cX10_at 17 = .ok (.aload_n 3, 1) := by decide +kernel
theorem dX10_at_18 : decode cX10_at 18 = .ok (.iload_n 2, 1) := by decide +kernel
theorem dX10_at_19 : decode cX10_at 19 = .ok (.putfield 253, 3) := by decide +kernel
theorem dX10_at_22 : decode cX10_at 22 = .ok (.iload 4, 2) := by decide +kernel
theorem dX10_at_24 : decode cX10_at 24 = .ok (.ireturn, 1) := by decide +kernel
theorem dX10_pick_0 : decode cX10_pick 0 = .ok (.aload_n 0, 1) := by decide +kernel
theorem dX10_pick_1 : decode cX10_pick 1 = .ok (.iload_n 1, 1) := by decide +kernel
theorem dX10_pick_2 : decode cX10_pick 2 = .ok (.invokevirtual 62, 3) := by decide +kernel
theorem dX10_pick_5 : decode cX10_pick 5 = .ok (.astore 6, 2) := by decide +kernel
theorem dX10_pick_7 : decode cX10_pick 7 = .ok (.iload_n 2, 1) := by decide +kernel
theorem dX10_pick_8 : decode cX10_pick 8 = .ok (.iconst 2, 1) := by decide +kernel
theorem dX10_pick_9 : decode cX10_pick 9 = .ok (.if_icmp .eq 9, 3) := by decide +kernel
theorem dX10_pick_12 : decode cX10_pick 12 = .ok (.aload 6, 2) := by decide +kernel
theorem dX10_pick_14 : decode cX10_pick 14 = .ok (.iload_n 3, 1) := by decide +kernel
theorem dX10_pick_15 : decode cX10_pick 15 = .ok (.invokestatic 66, 3) := by decide +kernel
theorem dX10_pick_18 : decode cX10_pick 18 = .ok (.iload 5, 2) := by decide +kernel
theorem dX10_pick_20 : decode cX10_pick 20 = .ok (.ifCond .eq 9, 3) := by decide +kernel
theorem dX10_pick_23 : decode cX10_pick 23 = .ok (.aload_n 0, 1) := by decide +kernel
theorem dX10_pick_24 : decode cX10_pick 24 = .ok (.iload 4, 2) := by decide +kernel
theorem dX10_pick_26 : decode cX10_pick 26 = .ok (.invokevirtual 193, 3) := by decide +kernel
theorem dX10_pick_29 : decode cX10_pick 29 = .ok (.iload_n 2, 1) := by decide +kernel
theorem dX10_pick_30 : decode cX10_pick 30 = .ok (.iconst 0, 1) := by decide +kernel
theorem dX10_pick_31 : decode cX10_pick 31 = .ok (.iconst 2, 1) := by decide +kernel
theorem dX10_pick_32 : decode cX10_pick 32 = .ok (.invokestatic 70, 3) := by decide +kernel
theorem dX10_pick_35 : decode cX10_pick 35 = .ok (.iload 5, 2) := by decide +kernel
theorem dX10_pick_37 : decode cX10_pick 37 = .ok (.iconst 0, 1) := by decide +kernel
theorem dX10_pick_38 : decode cX10_pick 38 = .ok (.bipush 12, 2) := by decide +kernel
theorem dX10_pick_40 : decode cX10_pick 40 = .ok (.invokestatic 70, 3) := by decide +kernel
theorem dX10_pick_43 : decode cX10_pick 43 = .ok (.iload_n 2, 1) := by decide +kernel
theorem dX10_pick_44 : decode cX10_pick 44 = .ok (.iconst 2, 1) := by decide +kernel
theorem dX10_pick_45 : decode cX10_pick 45 = .ok (.if_icmp .ne 10, 3) := by decide +kernel
theorem dX10_pick_48 : decode cX10_pick 48 = .ok (.iload_n 3, 1) := by decide +kernel
theorem dX10_pick_49 : decode cX10_pick 49 = .ok (.iconst 0, 1) := by decide +kernel
theorem dX10_pick_50 : decode cX10_pick 50 = .ok (.bipush 11, 2) := by decide +kernel
theorem dX10_pick_52 : decode cX10_pick 52 = .ok (.invokestatic 70, 3) := by decide +kernel
theorem dX10_pick_55 : decode cX10_pick 55 = .ok (.iload_n 2, 1) := by decide +kernel
theorem dX10_pick_56 : decode cX10_pick 56 = .ok (.iconst 2, 1) := by decide +kernel
theorem dX10_pick_57 : decode cX10_pick 57 = .ok (.if_icmp .eq 12, 3) := by decide +kernel
theorem dX10_pick_60 : decode cX10_pick 60 = .ok (.aload 6, 2) := by decide +kernel
theorem dX10_pick_62 : decode cX10_pick 62 = .ok (.iload_n 3, 1) := by decide +kernel
theorem dX10_pick_63 : decode cX10_pick 63 = .ok (.invokevirtual 74, 3) := by decide +kernel
theorem dX10_pick_66 : decode cX10_pick 66 = .ok (.ifCond .eq 7, 3) := by decide +kernel
theorem dX10_pick_69 : decode cX10_pick 69 = .ok (.iconst 1, 1) := by decide +kernel
theorem dX10_pick_70 : decode cX10_pick 70 = .ok (.goto 4, 3) := by decide +kernel
theorem dX10_pick_73 : decode cX10_pick 73 = .ok (.iconst 0, 1) := by decide +kernel
theorem dX10_pick_74 : decode cX10_pick 74 = .ok (.invokestatic 84, 3) := by decide +kernel
theorem dX10_pick_77 : decode cX10_pick 77 = .ok (.aload 6, 2) := by decide +kernel
theorem dX10_pick_79 : decode cX10_pick 79 = .ok (.iload_n 2, 1) := by decide +kernel
theorem dX10_pick_80 : decode cX10_pick 80 = .ok (.iload_n 3, 1) := by decide +kernel
theorem dX10_pick_81 : decode cX10_pick 81 = .ok (.invokevirtual 256, 3) := by decide +kernel
theorem dX10_pick_84 : decode cX10_pick 84 = .ok (.iload 5, 2) := by decide +kernel
theorem dX10_pick_86 : decode cX10_pick 86 = .ok (.ifCond .eq 22, 3) := by decide +kernel
theorem dX10_pick_89 : decode cX10_pick 89 = .ok (.aload_n 0, 1) := by decide +kernel
theorem dX10_pick_90 : decode cX10_pick 90 = .ok (.getfield 51, 3) := by decide +kernel
theorem dX10_pick_93 : decode cX10_pick 93 = .ok (.iload 4, 2) := by decide +kernel
theorem dX10_pick_95 : decode cX10_pick 95 = .ok (.invokevirtual 242, 3) := by decide +kernel
theorem dX10_pick_98 : decode cX10_pick 98 = .ok (.aload_n 0, 1) := by decide +kernel
theorem dX10_pick_99 : decode cX10_pick 99 = .ok (.getfield 51, 3) := by decide +kernel
theorem dX10_pick_102 : decode cX10_pick 102 = .ok (.iload_n 1, 1) := by decide +kernel
theorem dX10_pick_103 : decode cX10_pick 103 = .ok (.iload 5, 2) := by decide +kernel
theorem dX10_pick_105 : decode cX10_pick 105 = .ok (.invokevirtual 259, 3) := by decide +kernel
theorem dX10_pick_108 : decode cX10_pick 108 = .ok (.aload 6, 2) := by decide +kernel
theorem dX10_pick_110 : decode cX10_pick 110 = .ok (.getfield 262, 3) := by decide +kernel
theorem dX10_pick_113 : decode cX10_pick 113 = .ok (.ireturn, 1) := by decide +kernel
theorem dX10_picked_0 : decode cX10_picked 0 = .ok (.aload_n 0, 1) := by decide +kernel
theorem dX10_picked_1 : decode cX10_picked 1 = .ok (.iload_n 1, 1) := by decide +kernel
theorem dX10_picked_2 : decode cX10_picked 2 = .ok (.invokevirtual 62, 3) := by decide +kernel
theorem dX10_picked_5 : decode cX10_picked 5 = .ok (.astore_n 3, 1) := by decide +kernel
theorem dX10_picked_6 : decode cX10_picked 6 = .ok (.iload_n 2, 1) := by decide +kernel
theorem dX10_picked_7 : decode cX10_picked 7 = .ok (.ifCond .ge 14, 3) := by decide +kernel
theorem dX10_picked_10 : decode cX10_picked 10 = .ok (.new 108, 3) := by decide +kernel
theorem dX10_picked_13 : decode cX10_picked 13 = .ok (.dup, 1) := by decide +kernel
theorem dX10_picked_14 : decode cX10_picked 14 = .ok (.ldc_w 265, 3) := by decide +kernel
theorem dX10_picked_17 : decode cX10_picked 17 = .ok (.invokespecial 112, 3) := by decide +kernel
theorem dX10_picked_20 : decode cX10_picked 20 = .ok (.athrow, 1) := by decide +kernel
theorem dX10_picked_21 : decode cX10_picked 21 = .ok (.aload_n 3, 1) := by decide +kernel
theorem dX10_picked_22 : decode cX10_picked 22 = .ok (.iload_n 2, 1) := by decide +kernel
theorem dX10_picked_23 : decode cX10_picked 23 = .ok (.invokevirtual 267, 3) := by decide +kernel
theorem dX10_picked_26 : decode cX10_picked 26 = .ok (.ireturn, 1) := by decide +kernel
theorem dX10_cross_0 : decode cX10_cross 0 = .ok (.aload_n 0, 1) := by decide +kernel
theorem dX10_cross_1 : decode cX10_cross 1 = .ok (.iload_n 1, 1) := by decide +kernel
theorem dX10_cross_2 : decode cX10_cross 2 = .ok (.invokevirtual 62, 3) := by decide +kernel
theorem dX10_cross_5 : decode cX10_cross 5 = .ok (.astore 4, 2) := by decide +kernel
theorem dX10_cross_7 : decode cX10_cross 7 = .ok (.aload_n 0, 1) := by decide +kernel
theorem dX10_cross_8 : decode cX10_cross 8 = .ok (.iload_n 2, 1) := by decide +kernel
theorem dX10_cross_9 : decode cX10_cross 9 = .ok (.invokevirtual 62, 3) := by decide +kernel
theorem dX10_cross_12 : decode cX10_cross 12 = .ok (.astore 5, 2) := by decide +kernel
theorem dX10_cross_14 : decode cX10_cross 14 = .ok (.aload_n 0, 1) := by decide +kernel
theorem dX10_cross_15 : decode cX10_cross 15 = .ok (.iload_n 3, 1) := by decide +kernel
theorem dX10_cross_16 : decode cX10_cross 16 = .ok (.invokevirtual 193, 3) := by decide +kernel
theorem dX10_cross_19 : decode cX10_cross 19 = .ok (.iload_n 1, 1) := by decide +kernel
theorem dX10_cross_20 : decode cX10_cross 20 = .ok (.iload_n 2, 1) := by decide +kernel
theorem dX10_cross_21 : decode cX10_cross 21 = .ok (.if_icmp .ne 14, 3) := by decide +kernel
theorem dX10_cross_24 : decode cX10_cross 24 = .ok (.new 270, 3) := by decide +kernel
theorem dX10_cross_27 : decode cX10_cross 27 = .ok (.dup, 1) := by decide +kernel
theorem dX10_cross_28 : decode cX10_cross 28 = .ok (.ldc_w 272, 3) := by decide +kernel
theorem dX10_cross_31 : decode cX10_cross 31 = .ok (.invokespecial 274, 3) := by decide +kernel
theorem dX10_cross_34 : decode cX10_cross 34 = .ok (.athrow, 1) := by decide +kernel
theorem dX10_cross_35 : decode cX10_cross 35 = .ok (.aload_n 0, 1) := by decide +kernel
theorem dX10_cross_36 : decode cX10_cross 36 = .ok (.getfield 51, 3) := by decide +kernel
theorem dX10_cross_39 : decode cX10_cross 39 = .ok (.iload_n 3, 1) := by decide +kernel
theorem dX10_cross_40 : decode cX10_cross 40 = .ok (.invokevirtual 242, 3) := by decide +kernel
theorem dX10_cross_43 : decode cX10_cross 43 = .ok (.iconst 0, 1) := by decide +kernel
theorem dX10_cross_44 : decode cX10_cross 44 = .ok (.istore 6, 2) := by decide +kernel
theorem dX10_cross_46 : decode cX10_cross 46 = .ok (.iconst 0, 1) := by decide +kernel
theorem dX10_cross_47 : decode cX10_cross 47 = .ok (.istore 7, 2) := by decide +kernel
theorem dX10_cross_49 : decode cX10_cross 49 = .ok (.iload 7, 2) := by decide +kernel
theorem dX10_cross_51 : decode cX10_cross 51 = .ok (.aload 4, 2) := by decide +kernel
theorem dX10_cross_53 : decode cX10_cross 53 = .ok (.getfield 262, 3) := by decide +kernel
theorem dX10_cross_56 : decode cX10_cross 56 = .ok (.if_icmp .ge 78, 3) := by decide +kernel
theorem dX10_cross_59 : decode cX10_cross 59 = .ok (.aload_n 0, 1) := by decide +kernel
theorem dX10_cross_60 : decode cX10_cross 60 = .ok (.getfield 12, 3) := by decide +kernel
theorem dX10_cross_63 : decode cX10_cross 63 = .ok (.invokevirtual 275, 3) := by decide +kernel
theorem dX10_cross_66 : decode cX10_cross 66 = .ok (.iload_n 1, 1) := by decide +kernel
theorem dX10_cross_67 : decode cX10_cross 67 = .ok (.aload 4, 2) := by decide +kernel
theorem dX10_cross_69 : decode cX10_cross 69 = .ok (.iload 7, 2) := by decide +kernel
theorem dX10_cross_71 : decode cX10_cross 71 = .ok (.invokevirtual 267, 3) := by decide +kernel
theorem dX10_cross_74 : decode cX10_cross 74 = .ok (.invokestatic 278, 3) := by decide +kernel
theorem dX10_cross_77 : decode cX10_cross 77 = .ok (.istore 8, 2) := by decide +kernel
theorem dX10_cross_79 : decode cX10_cross 79 = .ok (.iconst 0, 1) := by decide +kernel
theorem dX10_cross_80 : decode cX10_cross 80 = .ok (.istore 9, 2) := by decide +kernel
theorem dX10_cross_82 : decode cX10_cross 82 = .ok (.iload 9, 2) := by decide +kernel
theorem dX10_cross_84 : decode cX10_cross 84 = .ok (.aload 5, 2) := by decide +kernel
theorem dX10_cross_86 : decode cX10_cross 86 = .ok (.getfield 262, 3) := by decide +kernel
theorem dX10_cross_89 : decode cX10_cross 89 = .ok (.if_icmp .ge 39, 3) := by decide +kernel
theorem dX10_cross_92 : decode cX10_cross 92 = .ok (.aload_n 0, 1) := by decide +kernel
theorem dX10_cross_93 : decode cX10_cross 93 = .ok (.getfield 51, 3) := by decide +kernel
theorem dX10_cross_96 : decode cX10_cross 96 = .ok (.iload 8, 2) := by decide +kernel
theorem dX10_cross_98 : decode cX10_cross 98 = .ok (.iload_n 2, 1) := by decide +kernel
theorem dX10_cross_99 : decode cX10_cross 99 = .ok (.aload 5, 2) := by decide +kernel
theorem dX10_cross_101 : decode cX10_cross 101 = .ok (.iload 9, 2) := by decide +kernel
theorem dX10_cross_103 : decode cX10_cross 103 = .ok (.invokevirtual 267, 3) := by decide +kernel
theorem dX10_cross_106 : decode cX10_cross 106 = .ok (.invokestatic 278, 3) := by decide +kernel
theorem dX10_cross_109 : decode cX10_cross 109 = .ok (.invokevirtual 245, 3) := by decide +kernel
theorem dX10_cross_112 : decode cX10_cross 112 = .ok (.ldc2_w 232, 3) := by decide +kernel
theorem dX10_cross_115 : decode cX10_cross 115 = .ok (.lcmp, 1) := by decide +kernel
theorem dX10_cross_116 : decode cX10_cross 116 = .ok (.ifCond .eq 6, 3) := by decide +kernel
theorem dX10_cross_119 : decode cX10_cross 119 = .ok (.iinc 6 1, 3) := by decide +kernel
theorem dX10_cross_122 : decode cX10_cross 122 = .ok (.iinc 9 1, 3) := by decide +kernel
theorem dX10_cross_125 : decode cX10_cross 125 = .ok (.goto (-43), 3) := by decide +kernel
theorem dX10_cross_128 : decode cX10_cross 128 = .ok (.iinc 7 1, 3) := by decide +kernel
theorem dX10_cross_131 : decode cX10_cross 131 = .ok (.goto (-82), 3) := by decide +kernel
theorem dX10_cross_134 : decode cX10_cross 134 = .ok (.iload 6, 2) := by decide +kernel
theorem dX10_cross_136 : decode cX10_cross 136 = .ok (.ireturn, 1) := by decide +kernel
theorem dX10_write_0 : decode cX10_write 0 = .ok (.aload_n 0, 1) := by decide +kernel
theorem dX10_write_1 : decode cX10_write 1 = .ok (.iload_n 1, 1) := by decide +kernel
theorem dX10_write_2 : decode cX10_write 2 = .ok (.iload_n 2, 1) := by decide +kernel
theorem dX10_write_3 : decode cX10_write 3 = .ok (.iload_n 3, 1) := by decide +kernel
theorem dX10_write_4 : decode cX10_write 4 = .ok (.iload 4, 2) := by decide +kernel
theorem dX10_write_6 : decode cX10_write 6 = .ok (.invokevirtual 205, 3) := by decide +kernel
theorem dX10_write_9 : decode cX10_write 9 = .ok (.istore 7, 2) := by decide +kernel
theorem dX10_write_11 : decode cX10_write 11 = .ok (.iload 5, 2) := by decide +kernel
theorem dX10_write_13 : decode cX10_write 13 = .ok (.iconst 0, 1) := by decide +kernel
theorem dX10_write_14 : decode cX10_write 14 = .ok (.ldc 166, 2) := by decide +kernel
theorem dX10_write_16 : decode cX10_write 16 = .ok (.invokestatic 70, 3) := by decide +kernel
theorem dX10_write_19 : decode cX10_write 19 = .ok (.iload 6, 2) := by decide +kernel
theorem dX10_write_21 : decode cX10_write 21 = .ok (.iconst 0, 1) := by decide +kernel
theorem dX10_write_22 : decode cX10_write 22 = .ok (.iconst 2, 1) := by decide +kernel
theorem dX10_write_23 : decode cX10_write 23 = .ok (.invokestatic 70, 3) := by decide +kernel
theorem dX10_write_26 : decode cX10_write 26 = .ok (.aload_n 0, 1) := by decide +kernel
theorem dX10_write_27 : decode cX10_write 27 = .ok (.getfield 21, 3) := by decide +kernel
theorem dX10_write_30 : decode cX10_write 30 = .ok (.iload 4, 2) := by decide +kernel
theorem dX10_write_32 : decode cX10_write 32 = .ok (.invokevirtual 210, 3) := by decide +kernel
theorem dX10_write_35 : decode cX10_write 35 = .ok (.ifCond .ne 31, 3) := by decide +kernel
theorem dX10_write_38 : decode cX10_write 38 = .ok (.aload_n 0, 1) := by decide +kernel
theorem dX10_write_39 : decode cX10_write 39 = .ok (.getfield 12, 3) := by decide +kernel
theorem dX10_write_42 : decode cX10_write 42 = .ok (.iload 7, 2) := by decide +kernel
theorem dX10_write_44 : decode cX10_write 44 = .ok (.invokevirtual 231, 3) := by decide +kernel
theorem dX10_write_47 : decode cX10_write 47 = .ok (.ifCond .eq 19, 3) := by decide +kernel
theorem dX10_write_50 : decode cX10_write 50 = .ok (.aload_n 0, 1) := by decide +kernel
theorem dX10_write_51 : decode cX10_write 51 = .ok (.getfield 12, 3) := by decide +kernel
theorem dX10_write_54 : decode cX10_write 54 = .ok (.iload 7, 2) := by decide +kernel
theorem dX10_write_56 : decode cX10_write 56 = .ok (.invokevirtual 281, 3) := by decide +kernel
theorem dX10_write_59 : decode cX10_write 59 = .ok (.ifCond .ne 7, 3) := by decide +kernel
theorem dX10_write_62 : decode cX10_write 62 = .ok (.iconst 1, 1) := by decide +kernel
theorem dX10_write_63 : decode cX10_write 63 = .ok (.goto 4, 3) := by decide +kernel
theorem dX10_write_66 : decode cX10_write 66 = .ok (.iconst 0, 1) := by decide +kernel
theorem dX10_write_67 : decode cX10_write 67 = .ok (.invokestatic 84, 3) := by decide +kernel
theorem dX10_write_70 : decode cX10_write 70 = .ok (.aload_n 0, 1) := by decide +kernel
theorem dX10_write_71 : decode cX10_write 71 = .ok (.getfield 51, 3) := by decide +kernel
theorem dX10_write_74 : decode cX10_write 74 = .ok (.iload 7, 2) := by decide +kernel
theorem dX10_write_76 : decode cX10_write 76 = .ok (.iload 4, 2) := by decide +kernel
theorem dX10_write_78 : decode cX10_write 78 = .ok (.invokevirtual 284, 3) := by decide +kernel
theorem dX10_write_81 : decode cX10_write 81 = .ok (.aload_n 0, 1) := by decide +kernel
theorem dX10_write_82 : decode cX10_write 82 = .ok (.getfield 51, 3) := by decide +kernel
theorem dX10_write_85 : decode cX10_write 85 = .ok (.getfield 287, 3) := by decide +kernel
theorem dX10_write_88 : decode cX10_write 88 = .ok (.ifCond .ne 58, 3) := by decide +kernel
theorem dX10_write_91 : decode cX10_write 91 = .ok (.aload_n 0, 1) := by decide +kernel
theorem dX10_write_92 : decode cX10_write 92 = .ok (.getfield 12, 3) := by decide +kernel
theorem dX10_write_95 : decode cX10_write 95 = .ok (.iload 7, 2) := by decide +kernel
theorem dX10_write_97 : decode cX10_write 97 = .ok (.invokevirtual 209, 3) := by decide +kernel
theorem dX10_write_100 : decode cX10_write 100 = .ok (.ifCond .eq 19, 3) := by decide +kernel
theorem dX10_write_103 : decode cX10_write 103 = .ok (.aload_n 0, 1) := by decide +kernel
theorem dX10_write_104 : decode cX10_write 104 = .ok (.getfield 28, 3) := by decide +kernel
theorem dX10_write_107 : decode cX10_write 107 = .ok (.getfield 214, 3) := by decide +kernel
theorem dX10_write_110 : decode cX10_write 110 = .ok (.bipush 50, 2) := by decide +kernel
theorem dX10_write_112 : decode cX10_write 112 = .ok (.if_icmp .ge 7, 3) := by decide +kernel
theorem dX10_write_115 : decode cX10_write 115 = .ok (.iconst 1, 1) := by decide +kernel
theorem dX10_write_116 : decode cX10_write 116 = .ok (.goto 4, 3) := by decide +kernel
theorem dX10_write_119 : decode cX10_write 119 = .ok (.iconst 0, 1) := by decide +kernel
theorem dX10_write_120 : decode cX10_write 120 = .ok (.invokestatic 84, 3) := by decide +kernel
theorem dX10_write_123 : decode cX10_write 123 = .ok (.aload_n 0, 1) := by decide +kernel
theorem dX10_write_124 : decode cX10_write 124 = .ok (.getfield 28, 3) := by decide +kernel
theorem dX10_write_127 : decode cX10_write 127 = .ok (.iload 7, 2) := by decide +kernel
theorem dX10_write_129 : decode cX10_write 129 = .ok (.iload 4, 2) := by decide +kernel
theorem dX10_write_131 : decode cX10_write 131 = .ok (.iload 5, 2) := by decide +kernel
theorem dX10_write_133 : decode cX10_write 133 = .ok (.invokevirtual 215, 3) := by decide +kernel
theorem dX10_write_136 : decode cX10_write 136 = .ok (.aload_n 0, 1) := by decide +kernel
theorem dX10_write_137 : decode cX10_write 137 = .ok (.iload 7, 2) := by decide +kernel
theorem dX10_write_139 : decode cX10_write 139 = .ok (.iload 4, 2) := by decide +kernel
theorem dX10_write_141 : decode cX10_write 141 = .ok (.invokevirtual 217, 3) := by decide +kernel
theorem dX10_write_144 : decode cX10_write 144 = .ok (.iconst 1, 1) := by decide +kernel
theorem dX10_write_145 : decode cX10_write 145 = .ok (.ireturn, 1) := by decide +kernel
theorem dX10_write_146 : decode cX10_write 146 = .ok (.aload_n 0, 1) := by decide +kernel
theorem dX10_write_147 : decode cX10_write 147 = .ok (.getfield 51, 3) := by decide +kernel
theorem dX10_write_150 : decode cX10_write 150 = .ok (.invokevirtual 290, 3) := by decide +kernel
theorem dX10_write_153 : decode cX10_write 153 = .ok (.invokestatic 84, 3) := by decide +kernel
theorem dX10_write_156 : decode cX10_write 156 = .ok (.aload_n 0, 1) := by decide +kernel
theorem dX10_write_157 : decode cX10_write 157 = .ok (.getfield 42, 3) := by decide +kernel
theorem dX10_write_160 : decode cX10_write 160 = .ok (.aload_n 0, 1) := by decide +kernel
theorem dX10_write_161 : decode cX10_write 161 = .ok (.getfield 51, 3) := by decide +kernel
theorem dX10_write_164 : decode cX10_write 164 = .ok (.getfield 287, 3) := by decide +kernel
theorem dX10_write_167 : decode cX10_write 167 = .ok (.iload 5, 2) := by decide +kernel
theorem dX10_write_169 : decode cX10_write 169 = .ok (.i2l, 1) := by decide +kernel
theorem dX10_write_170 : decode cX10_write 170 = .ok (.invokevirtual 294, 3) := by decide +kernel
theorem dX10_write_173 : decode cX10_write 173 = .ok (.iconst 0, 1) := by decide +kernel
theorem dX10_write_174 : decode cX10_write 174 = .ok (.istore 8, 2) := by decide +kernel
theorem dX10_write_176 : decode cX10_write 176 = .ok (.iload 8, 2) := by decide +kernel
theorem dX10_write_178 : decode cX10_write 178 = .ok (.aload_n 0, 1) := by decide +kernel
theorem dX10_write_179 : decode cX10_write 179 = .ok (.getfield 51, 3) := by decide +kernel
theorem dX10_write_182 : decode cX10_write 182 = .ok (.getfield 287, 3) := by decide +kernel
theorem dX10_write_185 : decode cX10_write 185 = .ok (.if_icmp .ge 35, 3) := by decide +kernel
theorem dX10_write_188 : decode cX10_write 188 = .ok (.aload_n 0, 1) := by decide +kernel
theorem dX10_write_189 : decode cX10_write 189 = .ok (.getfield 42, 3) := by decide +kernel
theorem dX10_write_192 : decode cX10_write 192 = .ok (.iload 8, 2) := by decide +kernel
theorem dX10_write_194 : decode cX10_write 194 = .ok (.aload_n 0, 1) := by decide +kernel
theorem dX10_write_195 : decode cX10_write 195 = .ok (.getfield 28, 3) := by decide +kernel
theorem dX10_write_198 : decode cX10_write 198 = .ok (.aload_n 0, 1) := by decide +kernel
theorem dX10_write_199 : decode cX10_write 199 = .ok (.getfield 51, 3) := by decide +kernel
theorem dX10_write_202 : decode cX10_write 202 = .ok (.iload 8, 2) := by decide +kernel
theorem dX10_write_204 : decode cX10_write 204 = .ok (.invokevirtual 298, 3) := by decide +kernel
theorem dX10_write_207 : decode cX10_write 207 = .ok (.invokevirtual 225, 3) := by decide +kernel
theorem dX10_write_210 : decode cX10_write 210 = .ok (.i2l, 1) := by decide +kernel
theorem dX10_write_211 : decode cX10_write 211 = .ok (.invokevirtual 301, 3) := by decide +kernel
theorem dX10_write_214 : decode cX10_write 214 = .ok (.iinc 8 1, 3) := by decide +kernel
theorem dX10_write_217 : decode cX10_write 217 = .ok (.goto (-41), 3) := by decide +kernel
theorem dX10_write_220 : decode cX10_write 220 = .ok (.aload_n 0, 1) := by decide +kernel
theorem dX10_write_221 : decode cX10_write 221 = .ok (.getfield 42, 3) := by decide +kernel
theorem dX10_write_224 : decode cX10_write 224 = .ok (.iload 6, 2) := by decide +kernel
theorem dX10_write_226 : decode cX10_write 226 = .ok (.invokevirtual 304, 3) := by decide +kernel
theorem dX10_write_229 : decode cX10_write 229 = .ok (.aload_n 0, 1) := by decide +kernel
theorem dX10_write_230 : decode cX10_write 230 = .ok (.getfield 42, 3) := by decide +kernel
theorem dX10_write_233 : decode cX10_write 233 = .ok (.invokevirtual 307, 3) := by decide +kernel
theorem dX10_write_236 : decode cX10_write 236 = .ok (.invokestatic 84, 3) := by decide +kernel
theorem dX10_write_239 : decode cX10_write 239 = .ok (.aload_n 0, 1) := by decide +kernel
theorem dX10_write_240 : decode cX10_write 240 = .ok (.invokevirtual 310, 3) := by decide +kernel
theorem dX10_write_243 : decode cX10_write 243 = .ok (.ireturn, 1) := by decide +kernel
theorem dX10_begin_0 : decode cX10_begin 0 = .ok (.aload_n 0, 1) := by decide +kernel
theorem dX10_begin_1 : decode cX10_begin 1 = .ok (.getfield 28, 3) := by decide +kernel
theorem dX10_begin_4 : decode cX10_begin 4 = .ok (.getfield 313, 3) := by decide +kernel
theorem dX10_begin_7 : decode cX10_begin 7 = .ok (.ifCond .ne 7, 3) := by decide +kernel
theorem dX10_begin_10 : decode cX10_begin 10 = .ok (.iconst 1, 1) := by decide +kernel
theorem dX10_begin_11 : decode cX10_begin 11 = .ok (.goto 4, 3) := by decide +kernel
theorem dX10_begin_14 : decode cX10_begin 14 = .ok (.iconst 0, 1) := by decide +kernel
theorem dX10_begin_15 : decode cX10_begin 15 = .ok (.invokestatic 84, 3) := by decide +kernel
theorem dX10_begin_18 : decode cX10_begin 18 = .ok (.aload_n 0, 1) := by decide +kernel
theorem dX10_begin_19 : decode cX10_begin 19 = .ok (.getfield 28, 3) := by decide +kernel
theorem dX10_begin_22 : decode cX10_begin 22 = .ok (.invokevirtual 316, 3) := by decide +kernel
theorem dX10_begin_25 : decode cX10_begin 25 = .ok (.return_, 1) := by decide +kernel
theorem dX10_end_0 : decode cX10_end 0 = .ok (.aload_n 0, 1) := by decide +kernel
theorem dX10_end_1 : decode cX10_end 1 = .ok (.getfield 28, 3) := by decide +kernel
theorem dX10_end_4 : decode cX10_end 4 = .ok (.getfield 313, 3) := by decide +kernel
theorem dX10_end_7 : decode cX10_end 7 = .ok (.invokestatic 84, 3) := by decide +kernel
theorem dX10_end_10 : decode cX10_end 10 = .ok (.aload_n 0, 1) := by decide +kernel
theorem dX10_end_11 : decode cX10_end 11 = .ok (.getfield 28, 3) := by decide +kernel
theorem dX10_end_14 : decode cX10_end 14 = .ok (.iconst 0, 1) := by decide +kernel
theorem dX10_end_15 : decode cX10_end 15 = .ok (.putfield 313, 3) := by decide +kernel
theorem dX10_end_18 : decode cX10_end 18 = .ok (.iload_n 1, 1) := by decide +kernel
theorem dX10_end_19 : decode cX10_end 19 = .ok (.ifCond .ne 17, 3) := by decide +kernel
theorem dX10_end_22 : decode cX10_end 22 = .ok (.aload_n 0, 1) := by decide +kernel
theorem dX10_end_23 : decode cX10_end 23 = .ok (.getfield 28, 3) := by decide +kernel
theorem dX10_end_26 : decode cX10_end 26 = .ok (.invokevirtual 319, 3) := by decide +kernel
theorem dX10_end_29 : decode cX10_end 29 = .ok (.aload_n 0, 1) := by decide +kernel
theorem dX10_end_30 : decode cX10_end 30 = .ok (.getfield 35, 3) := by decide +kernel
theorem dX10_end_33 : decode cX10_end 33 = .ok (.invokevirtual 105, 3) := by decide +kernel
theorem dX10_end_36 : decode cX10_end 36 = .ok (.aload_n 0, 1) := by decide +kernel
theorem dX10_end_37 : decode cX10_end 37 = .ok (.getfield 28, 3) := by decide +kernel
theorem dX10_end_40 : decode cX10_end 40 = .ok (.getfield 214, 3) := by decide +kernel
theorem dX10_end_43 : decode cX10_end 43 = .ok (.ireturn, 1) := by decide +kernel
theorem dX10_facts_0 : decode cX10_facts 0 = .ok (.aload_n 0, 1) := by decide +kernel
theorem dX10_facts_1 : decode cX10_facts 1 = .ok (.getfield 28, 3) := by decide +kernel
theorem dX10_facts_4 : decode cX10_facts 4 = .ok (.getfield 214, 3) := by decide +kernel
theorem dX10_facts_7 : decode cX10_facts 7 = .ok (.ireturn, 1) := by decide +kernel
theorem dX10_existing_0 : decode cX10_existing 0 = .ok (.iload_n 1, 1) := by decide +kernel
theorem dX10_existing_1 : decode cX10_existing 1 = .ok (.ifCond .lt 8, 3) := by decide +kernel
theorem dX10_existing_4 : decode cX10_existing 4 = .ok (.iload_n 1, 1) := by decide +kernel
theorem dX10_existing_5 : decode cX10_existing 5 = .ok (.iconst 3, 1) := by decide +kernel
theorem dX10_existing_6 : decode cX10_existing 6 = .ok (.if_icmp .lt 14, 3) := by decide +kernel
theorem dX10_existing_9 : decode cX10_existing 9 = .ok (.new 108, 3) := by decide +kernel
theorem dX10_existing_12 : decode cX10_existing 12 = .ok (.dup, 1) := by decide +kernel
theorem dX10_existing_13 : decode cX10_existing 13 = .ok (.ldc_w 322, 3) := by decide +kernel
theorem dX10_existing_16 : decode cX10_existing 16 = .ok (.invokespecial 112, 3) := by decide +kernel
theorem dX10_existing_19 : decode cX10_existing 19 = .ok (.athrow, 1) := by decide +kernel
theorem dX10_existing_20 : decode cX10_existing 20 = .ok (.aload_n 0, 1) := by decide +kernel
theorem dX10_existing_21 : decode cX10_existing 21 = .ok (.getfield 12, 3) := by decide +kernel
theorem dX10_existing_24 : decode cX10_existing 24 = .ok (.iload_n 1, 1) := by decide +kernel
theorem dX10_existing_25 : decode cX10_existing 25 = .ok (.invokevirtual 324, 3) := by decide +kernel
theorem dX10_existing_28 : decode cX10_existing 28 = .ok (.areturn, 1) := by decide +kernel
theorem dX10_needMember_0 : decode cX10_needMember 0 = .ok (.aload_n 0, 1) := by decide +kernel
theorem dX10_needMember_1 : decode cX10_needMember 1 = .ok (.iload_n 1, 1) := by decide +kernel
theorem dX10_needMember_2 : decode cX10_needMember 2 = .ok (.invokevirtual 327, 3) := by decide +kernel
theorem dX10_needMember_5 : decode cX10_needMember 5 = .ok (.ifCond .ne 13, 3) := by decide +kernel
theorem dX10_needMember_8 : decode cX10_needMember 8 = .ok (.new 108, 3) := by decide +kernel
theorem dX10_needMember_11 : decode cX10_needMember 11 = .ok (.dup, 1) := by decide +kernel
theorem dX10_needMember_12 : decode cX10_needMember 12 = .ok (.ldc 110, 2) := by decide +kernel
theorem dX10_needMember_14 : decode cX10_needMember 14 = .ok (.invokespecial 112, 3) := by decide +kernel
theorem dX10_needMember_17 : decode cX10_needMember 17 = .ok (.athrow, 1) := by decide +kernel
theorem dX10_needMember_18 : decode cX10_needMember 18 = .ok (.return_, 1) := by decide +kernel
theorem dX10_needMeasure_0 : decode cX10_needMeasure 0 = .ok (.aload_n 0, 1) := by decide +kernel
theorem dX10_needMeasure_1 : decode cX10_needMeasure 1 = .ok (.getfield 21, 3) := by decide +kernel
theorem dX10_needMeasure_4 : decode cX10_needMeasure 4 = .ok (.iload_n 1, 1) := by decide +kernel
theorem dX10_needMeasure_5 : decode cX10_needMeasure 5 = .ok (.invokevirtual 330, 3) := by decide +kernel
theorem dX10_needMeasure_8 : decode cX10_needMeasure 8 = .ok (.ifCond .ne 14, 3) := by decide +kernel
theorem dX10_needMeasure_11 : decode cX10_needMeasure 11 = .ok (.new 108, 3) := by decide +kernel
theorem dX10_needMeasure_14 : decode cX10_needMeasure 14 = .ok (.dup, 1) := by decide +kernel
theorem dX10_needMeasure_15 : decode cX10_needMeasure 15 = .ok (.ldc_w 331, 3) := by decide +kernel
theorem dX10_needMeasure_18 : decode cX10_needMeasure 18 = .ok (.invokespecial 112, 3) := by decide +kernel
theorem dX10_needMeasure_21 : decode cX10_needMeasure 21 = .ok (.athrow, 1) := by decide +kernel
theorem dX10_needMeasure_22 : decode cX10_needMeasure 22 = .ok (.return_, 1) := by decide +kernel
theorem dX10_needRange_0 : decode cX10_needRange 0 = .ok (.iload_n 0, 1) := by decide +kernel
theorem dX10_needRange_1 : decode cX10_needRange 1 = .ok (.iload_n 1, 1) := by decide +kernel
theorem dX10_needRange_2 : decode cX10_needRange 2 = .ok (.if_icmp .lt 8, 3) := by decide +kernel
theorem dX10_needRange_5 : decode cX10_needRange 5 = .ok (.iload_n 0, 1) := by decide +kernel
theorem dX10_needRange_6 : decode cX10_needRange 6 = .ok (.iload_n 2, 1) := by decide +kernel
theorem dX10_needRange_7 : decode cX10_needRange 7 = .ok (.if_icmp .le 14, 3) := by decide +kernel
theorem dX10_needRange_10 : decode cX10_needRange 10 = .ok (.new 270, 3) := by decide +kernel
theorem dX10_needRange_13 : decode cX10_needRange 13 = .ok (.dup, 1) := by decide +kernel
theorem dX10_needRange_14 : decode cX10_needRange 14 = .ok (.ldc_w 333, 3) := by decide +kernel
theorem dX10_needRange_17 : decode cX10_needRange 17 = .ok (.invokespecial 274, 3) := by decide +kernel
theorem dX10_needRange_20 : decode cX10_needRange 20 = .ok (.athrow, 1) := by decide +kernel
theorem dX10_needRange_21 : decode cX10_needRange 21 = .ok (.return_, 1) := by decide +kernel
theorem dX10_need_0 : decode cX10_need 0 = .ok (.iload_n 0, 1) := by decide +kernel
theorem dX10_need_1 : decode cX10_need 1 = .ok (.ifCond .ne 14, 3) := by decide +kernel
theorem dX10_need_4 : decode cX10_need 4 = .ok (.new 335, 3) := by decide +kernel
theorem dX10_need_7 : decode cX10_need 7 = .ok (.dup, 1) := by decide +kernel
theorem dX10_need_8 : decode cX10_need 8 = .ok (.ldc_w 337, 3) := by decide +kernel
theorem dX10_need_11 : decode cX10_need 11 = .ok (.invokespecial 339, 3) := by decide +kernel
theorem dX10_need_14 : decode cX10_need 14 = .ok (.athrow, 1) := by decide +kernel
theorem dX10_need_15 : decode cX10_need 15 = .ok (.return_, 1) := by decide +kernel
theorem dX10_existingCell_0 : decode cX10_existingCell 0 = .ok (.aload_n 0, 1) := by decide +kernel
theorem dX10_existingCell_1 : decode cX10_existingCell 1 = .ok (.getfield 12, 3) := by decide +kernel
theorem dX10_existingCell_4 : decode cX10_existingCell 4 = .ok (.getfield 127, 3) := by decide +kernel
theorem dX10_existingCell_7 : decode cX10_existingCell 7 = .ok (.iload_n 1, 1) := by decide +kernel
theorem dX10_existingCell_8 : decode cX10_existingCell 8 = .ok (.invokestatic 66, 3) := by decide +kernel
theorem dX10_existingCell_11 : decode cX10_existingCell 11 = .ok (.aload_n 0, 1) := by decide +kernel
theorem dX10_existingCell_12 : decode cX10_existingCell 12 = .ok (.getfield 12, 3) := by decide +kernel
theorem dX10_existingCell_15 : decode cX10_existingCell 15 = .ok (.getfield 340, 3) := by decide +kernel
theorem dX10_existingCell_18 : decode cX10_existingCell 18 = .ok (.iload_n 2, 1) := by decide +kernel
theorem dX10_existingCell_19 : decode cX10_existingCell 19 = .ok (.invokestatic 66, 3) := by decide +kernel
theorem dX10_existingCell_22 : decode cX10_existingCell 22 = .ok (.aload_n 0, 1) := by decide +kernel
theorem dX10_existingCell_23 : decode cX10_existingCell 23 = .ok (.getfield 12, 3) := by decide +kernel
theorem dX10_existingCell_26 : decode cX10_existingCell 26 = .ok (.getfield 343, 3) := by decide +kernel
theorem dX10_existingCell_29 : decode cX10_existingCell 29 = .ok (.iload_n 3, 1) := by decide +kernel
theorem dX10_existingCell_30 : decode cX10_existingCell 30 = .ok (.invokestatic 66, 3) := by decide +kernel
theorem dX10_existingCell_33 : decode cX10_existingCell 33 = .ok (.aload_n 0, 1) := by decide +kernel
theorem dX10_existingCell_34 : decode cX10_existingCell 34 = .ok (.iload 4, 2) := by decide +kernel
theorem dX10_existingCell_36 : decode cX10_existingCell 36 = .ok (.invokevirtual 193, 3) := by decide +kernel
theorem dX10_existingCell_39 : decode cX10_existingCell 39 = .ok (.iload_n 1, 1) := by decide +kernel
theorem dX10_existingCell_40 : decode cX10_existingCell 40 = .ok (.sipush 144, 3) := by decide +kernel
theorem dX10_existingCell_43 : decode cX10_existingCell 43 = .ok (.imul, 1) := by decide +kernel
theorem dX10_existingCell_44 : decode cX10_existingCell 44 = .ok (.iload_n 2, 1) := by decide +kernel
theorem dX10_existingCell_45 : decode cX10_existingCell 45 = .ok (.bipush 12, 2) := by decide +kernel
theorem dX10_existingCell_47 : decode cX10_existingCell 47 = .ok (.imul, 1) := by decide +kernel
theorem dX10_existingCell_48 : decode cX10_existingCell 48 = .ok (.iadd, 1) := by decide +kernel
theorem dX10_existingCell_49 : decode cX10_existingCell 49 = .ok (.iload_n 3, 1) := by decide +kernel
theorem dX10_existingCell_50 : decode cX10_existingCell 50 = .ok (.iadd, 1) := by decide +kernel
theorem dX10_existingCell_51 : decode cX10_existingCell 51 = .ok (.ireturn, 1) := by decide +kernel
theorem dX10_memberOf_0 : decode cX10_memberOf 0 = .ok (.iload_n 1, 1) := by decide +kernel
theorem dX10_memberOf_1 : decode cX10_memberOf 1 = .ok (.ifCond .ne 9, 3) := by decide +kernel
theorem dX10_memberOf_4 : decode cX10_memberOf 4 = .ok (.iload_n 0, 1) := by decide +kernel
theorem dX10_memberOf_5 : decode cX10_memberOf 5 = .ok (.sipush 144, 3) := by decide +kernel
theorem dX10_memberOf_8 : decode cX10_memberOf 8 = .ok (.idiv, 1) := by decide +kernel
theorem dX10_memberOf_9 : decode cX10_memberOf 9 = .ok (.ireturn, 1) := by decide +kernel
theorem dX10_memberOf_10 : decode cX10_memberOf 10 = .ok (.iload_n 1, 1) := by decide +kernel
theorem dX10_memberOf_11 : decode cX10_memberOf 11 = .ok (.iconst 1, 1) := by decide +kernel
theorem dX10_memberOf_12 : decode cX10_memberOf 12 = .ok (.if_icmp .ne 13, 3) := by decide +kernel
theorem dX10_memberOf_15 : decode cX10_memberOf 15 = .ok (.iload_n 0, 1) := by decide +kernel
theorem dX10_memberOf_16 : decode cX10_memberOf 16 = .ok (.bipush 12, 2) := by decide +kernel
theorem dX10_memberOf_18 : decode cX10_memberOf 18 = .ok (.idiv, 1) := by decide +kernel
theorem dX10_memberOf_19 : decode cX10_memberOf 19 = .ok (.bipush 12, 2) := by decide +kernel
theorem dX10_memberOf_21 : decode cX10_memberOf 21 = .ok (.irem, 1) := by decide +kernel
theorem dX10_memberOf_22 : decode cX10_memberOf 22 = .ok (.goto 7, 3) := by decide +kernel
theorem dX10_memberOf_25 : decode cX10_memberOf 25 = .ok (.iload_n 0, 1) := by decide +kernel
theorem dX10_memberOf_26 : decode cX10_memberOf 26 = .ok (.bipush 12, 2) := by decide +kernel
theorem dX10_memberOf_28 : decode cX10_memberOf 28 = .ok (.irem, 1) := by decide +kernel
theorem dX10_memberOf_29 : decode cX10_memberOf 29 = .ok (.ireturn, 1) := by decide +kernel
theorem dX10_withMember_0 : decode cX10_withMember 0 = .ok (.iload_n 1, 1) := by decide +kernel
theorem dX10_withMember_1 : decode cX10_withMember 1 = .ok (.ifCond .ne 9, 3) := by decide +kernel
theorem dX10_withMember_4 : decode cX10_withMember 4 = .ok (.sipush 144, 3) := by decide +kernel
theorem dX10_withMember_7 : decode cX10_withMember 7 = .ok (.goto 14, 3) := by decide +kernel
theorem dX10_withMember_10 : decode cX10_withMember 10 = .ok (.iload_n 1, 1) := by decide +kernel
theorem dX10_withMember_11 : decode cX10_withMember 11 = .ok (.iconst 1, 1) := by decide +kernel
theorem dX10_withMember_12 : decode cX10_withMember 12 = .ok (.if_icmp .ne 8, 3) := by decide +kernel
theorem dX10_withMember_15 : decode cX10_withMember 15 = .ok (.bipush 12, 2) := by decide +kernel
theorem dX10_withMember_17 : decode cX10_withMember 17 = .ok (.goto 4, 3) := by decide +kernel
theorem dX10_withMember_20 : decode cX10_withMember 20 = .ok (.iconst 1, 1) := by decide +kernel
theorem dX10_withMember_21 : decode cX10_withMember 21 = .ok (.istore_n 3, 1) := by decide +kernel
theorem dX10_withMember_22 : decode cX10_withMember 22 = .ok (.iload_n 0, 1) := by decide +kernel
theorem dX10_withMember_23 : decode cX10_withMember 23 = .ok (.iload_n 2, 1) := by decide +kernel
theorem dX10_withMember_24 : decode cX10_withMember 24 = .ok (.iload_n 0, 1) := by decide +kernel
theorem dX10_withMember_25 : decode cX10_withMember 25 = .ok (.iload_n 1, 1) := by decide +kernel
theorem dX10_withMember_26 : decode cX10_withMember 26 = .ok (.invokestatic 346, 3) := by decide +kernel
theorem dX10_withMember_29 : decode cX10_withMember 29 = .ok (.isub, 1) := by decide +kernel
theorem dX10_withMember_30 : decode cX10_withMember 30 = .ok (.iload_n 3, 1) := by decide +kernel
theorem dX10_withMember_31 : decode cX10_withMember 31 = .ok (.imul, 1) := by decide +kernel
theorem dX10_withMember_32 : decode cX10_withMember 32 = .ok (.iadd, 1) := by decide +kernel
theorem dX10_withMember_33 : decode cX10_withMember 33 = .ok (.ireturn, 1) := by decide +kernel
theorem dX10_bounded_0 : decode cX10_bounded 0 = .ok (.ldc2_w 349, 3) := by decide +kernel
theorem dX10_bounded_3 : decode cX10_bounded 3 = .ok (.ldc2_w 351, 3) := by decide +kernel
theorem dX10_bounded_6 : decode cX10_bounded 6 = .ok (.lload_n 0, 1) := by decide +kernel
theorem dX10_bounded_7 : decode cX10_bounded 7 = .ok (.invokestatic 353, 3) := by decide +kernel
theorem dX10_bounded_10 : decode cX10_bounded 10 = .ok (.invokestatic 359, 3) := by decide +kernel
theorem dX10_bounded_13 : decode cX10_bounded 13 = .ok (.lreturn, 1) := by decide +kernel
theorem dX10_setNumber_0 : decode cX10_setNumber 0 = .ok (.aload_n 0, 1) := by decide +kernel
theorem dX10_setNumber_1 : decode cX10_setNumber 1 = .ok (.getfield 28, 3) := by decide +kernel
theorem dX10_setNumber_4 : decode cX10_setNumber 4 = .ok (.iload_n 1, 1) := by decide +kernel
theorem dX10_setNumber_5 : decode cX10_setNumber 5 = .ok (.invokevirtual 225, 3) := by decide +kernel
theorem dX10_setNumber_8 : decode cX10_setNumber 8 = .ok (.iload_n 2, 1) := by decide +kernel
theorem dX10_setNumber_9 : decode cX10_setNumber 9 = .ok (.if_icmp .ne 5, 3) := by decide +kernel
theorem dX10_setNumber_12 : decode cX10_setNumber 12 = .ok (.iconst 0, 1) := by decide +kernel
theorem dX10_setNumber_13 : decode cX10_setNumber 13 = .ok (.ireturn, 1) := by decide +kernel
theorem dX10_setNumber_14 : decode cX10_setNumber 14 = .ok (.aload_n 0, 1) := by decide +kernel
theorem dX10_setNumber_15 : decode cX10_setNumber 15 = .ok (.getfield 28, 3) := by decide +kernel
theorem dX10_setNumber_18 : decode cX10_setNumber 18 = .ok (.iload_n 1, 1) := by decide +kernel
theorem dX10_setNumber_19 : decode cX10_setNumber 19 = .ok (.iload_n 2, 1) := by decide +kernel
theorem dX10_setNumber_20 : decode cX10_setNumber 20 = .ok (.invokevirtual 362, 3) := by decide +kernel
theorem dX10_setNumber_23 : decode cX10_setNumber 23 = .ok (.aload_n 0, 1) := by decide +kernel
theorem dX10_setNumber_24 : decode cX10_setNumber 24 = .ok (.aload_n 0, 1) := by decide +kernel
theorem dX10_setNumber_25 : decode cX10_setNumber 25 = .ok (.getfield 28, 3) := by decide +kernel
theorem dX10_setNumber_28 : decode cX10_setNumber 28 = .ok (.iload_n 1, 1) := by decide +kernel
theorem dX10_setNumber_29 : decode cX10_setNumber 29 = .ok (.invokevirtual 364, 3) := by decide +kernel
theorem dX10_setNumber_32 : decode cX10_setNumber 32 = .ok (.aload_n 0, 1) := by decide +kernel
theorem dX10_setNumber_33 : decode cX10_setNumber 33 = .ok (.getfield 28, 3) := by decide +kernel
theorem dX10_setNumber_36 : decode cX10_setNumber 36 = .ok (.iload_n 1, 1) := by decide +kernel
theorem dX10_setNumber_37 : decode cX10_setNumber 37 = .ok (.invokevirtual 367, 3) := by decide +kernel
theorem dX10_setNumber_40 : decode cX10_setNumber 40 = .ok (.invokevirtual 217, 3) := by decide +kernel
theorem dX10_setNumber_43 : decode cX10_setNumber 43 = .ok (.iconst 1, 1) := by decide +kernel
theorem dX10_setNumber_44 : decode cX10_setNumber 44 = .ok (.ireturn, 1) := by decide +kernel
theorem dX10_writeShares_0 : decode cX10_writeShares 0 = .ok (.iconst 0, 1) := by decide +kernel
theorem dX10_writeShares_1 : decode cX10_writeShares 1 = .ok (.istore_n 1, 1) := by decide +kernel
theorem dX10_writeShares_2 : decode cX10_writeShares 2 = .ok (.iconst 0, 1) := by decide +kernel
theorem dX10_writeShares_3 : decode cX10_writeShares 3 = .ok (.istore_n 2, 1) := by decide +kernel
theorem dX10_writeShares_4 : decode cX10_writeShares 4 = .ok (.iload_n 2, 1) := by decide +kernel
theorem dX10_writeShares_5 : decode cX10_writeShares 5 = .ok (.aload_n 0, 1) := by decide +kernel
theorem dX10_writeShares_6 : decode cX10_writeShares 6 = .ok (.getfield 51, 3) := by decide +kernel
theorem dX10_writeShares_9 : decode cX10_writeShares 9 = .ok (.getfield 287, 3) := by decide +kernel
theorem dX10_writeShares_12 : decode cX10_writeShares 12 = .ok (.if_icmp .ge 36, 3) := by decide +kernel
theorem dX10_writeShares_15 : decode cX10_writeShares 15 = .ok (.aload_n 0, 1) := by decide +kernel
theorem dX10_writeShares_16 : decode cX10_writeShares 16 = .ok (.aload_n 0, 1) := by decide +kernel
theorem dX10_writeShares_17 : decode cX10_writeShares 17 = .ok (.getfield 51, 3) := by decide +kernel
theorem dX10_writeShares_20 : decode cX10_writeShares 20 = .ok (.iload_n 2, 1) := by decide +kernel
theorem dX10_writeShares_21 : decode cX10_writeShares 21 = .ok (.invokevirtual 298, 3) := by decide +kernel
theorem dX10_writeShares_24 : decode cX10_writeShares 24 = .ok (.aload_n 0, 1) := by decide +kernel
theorem dX10_writeShares_25 : decode cX10_writeShares 25 = .ok (.getfield 42, 3) := by decide +kernel
theorem dX10_writeShares_28 : decode cX10_writeShares 28 = .ok (.iload_n 2, 1) := by decide +kernel
theorem dX10_writeShares_29 : decode cX10_writeShares 29 = .ok (.invokevirtual 370, 3) := by decide +kernel
theorem dX10_writeShares_32 : decode cX10_writeShares 32 = .ok (.l2i, 1) := by decide +kernel
theorem dX10_writeShares_33 : decode cX10_writeShares 33 = .ok (.invokevirtual 221, 3) := by decide +kernel
theorem dX10_writeShares_36 : decode cX10_writeShares 36 = .ok (.ifCond .eq 6, 3) := by decide +kernel
theorem dX10_writeShares_39 : decode cX10_writeShares 39 = .ok (.iinc 1 1, 3) := by decide +kernel
theorem dX10_writeShares_42 : decode cX10_writeShares 42 = .ok (.iinc 2 1, 3) := by decide +kernel
theorem dX10_writeShares_45 : decode cX10_writeShares 45 = .ok (.goto (-41), 3) := by decide +kernel
theorem dX10_writeShares_48 : decode cX10_writeShares 48 = .ok (.iload_n 1, 1) := by decide +kernel
theorem dX10_writeShares_49 : decode cX10_writeShares 49 = .ok (.ireturn, 1) := by decide +kernel
theorem dX10_dropFor_0 : decode cX10_dropFor 0 = .ok (.iconst 0, 1) := by decide +kernel
theorem dX10_dropFor_1 : decode cX10_dropFor 1 = .ok (.istore_n 3, 1) := by decide +kernel
theorem dX10_dropFor_2 : decode cX10_dropFor 2 = .ok (.iconst 0, 1) := by decide +kernel
theorem dX10_dropFor_3 : decode cX10_dropFor 3 = .ok (.istore 4, 2) := by decide +kernel
theorem dX10_dropFor_5 : decode cX10_dropFor 5 = .ok (.iload 4, 2) := by decide +kernel
theorem dX10_dropFor_7 : decode cX10_dropFor 7 = .ok (.aload_n 0, 1) := by decide +kernel
theorem dX10_dropFor_8 : decode cX10_dropFor 8 = .ok (.getfield 35, 3) := by decide +kernel
theorem dX10_dropFor_11 : decode cX10_dropFor 11 = .ok (.getfield 252, 3) := by decide +kernel
theorem dX10_dropFor_14 : decode cX10_dropFor 14 = .ok (.if_icmp .ge 94, 3) := by decide +kernel
theorem dX10_dropFor_17 : decode cX10_dropFor 17 = .ok (.aload_n 0, 1) := by decide +kernel
theorem dX10_dropFor_18 : decode cX10_dropFor 18 = .ok (.getfield 35, 3) := by decide +kernel
theorem dX10_dropFor_21 : decode cX10_dropFor 21 = .ok (.iload 4, 2) := by decide +kernel
theorem dX10_dropFor_23 : decode cX10_dropFor 23 = .ok (.invokevirtual 373, 3) := by decide +kernel
theorem dX10_dropFor_26 : decode cX10_dropFor 26 = .ok (.istore 5, 2) := by decide +kernel
theorem dX10_dropFor_28 : decode cX10_dropFor 28 = .ok (.aload_n 0, 1) := by decide +kernel
theorem dX10_dropFor_29 : decode cX10_dropFor 29 = .ok (.getfield 21, 3) := by decide +kernel
theorem dX10_dropFor_32 : decode cX10_dropFor 32 = .ok (.aload_n 0, 1) := by decide +kernel
theorem dX10_dropFor_33 : decode cX10_dropFor 33 = .ok (.getfield 35, 3) := by decide +kernel
theorem dX10_dropFor_36 : decode cX10_dropFor 36 = .ok (.iload 4, 2) := by decide +kernel
theorem dX10_dropFor_38 : decode cX10_dropFor 38 = .ok (.invokevirtual 374, 3) := by decide +kernel
theorem dX10_dropFor_41 : decode cX10_dropFor 41 = .ok (.iload_n 2, 1) := by decide +kernel
theorem dX10_dropFor_42 : decode cX10_dropFor 42 = .ok (.invokevirtual 375, 3) := by decide +kernel
theorem dX10_dropFor_45 : decode cX10_dropFor 45 = .ok (.istore 6, 2) := by decide +kernel
theorem dX10_dropFor_47 : decode cX10_dropFor 47 = .ok (.aload_n 0, 1) := by decide +kernel
theorem dX10_dropFor_48 : decode cX10_dropFor 48 = .ok (.getfield 12, 3) := by decide +kernel
theorem dX10_dropFor_51 : decode cX10_dropFor 51 = .ok (.iload 5, 2) := by decide +kernel
theorem dX10_dropFor_53 : decode cX10_dropFor 53 = .ok (.invokevirtual 281, 3) := by decide +kernel
theorem dX10_dropFor_56 : decode cX10_dropFor 56 = .ok (.ifCond .ne 21, 3) := by decide +kernel
theorem dX10_dropFor_59 : decode cX10_dropFor 59 = .ok (.iload 6, 2) := by decide +kernel
theorem dX10_dropFor_61 : decode cX10_dropFor 61 = .ok (.ifCond .eq 20, 3) := by decide +kernel
theorem dX10_dropFor_64 : decode cX10_dropFor 64 = .ok (.aload_n 0, 1) := by decide +kernel
theorem dX10_dropFor_65 : decode cX10_dropFor 65 = .ok (.getfield 12, 3) := by decide +kernel
theorem dX10_dropFor_68 : decode cX10_dropFor 68 = .ok (.iload_n 1, 1) := by decide +kernel
theorem dX10_dropFor_69 : decode cX10_dropFor 69 = .ok (.iload 5, 2) := by decide +kernel
theorem dX10_dropFor_71 : decode cX10_dropFor 71 = .ok (.invokevirtual 378, 3) := by decide +kernel
theorem dX10_dropFor_74 : decode cX10_dropFor 74 = .ok (.ifCond .eq 7, 3) := by decide +kernel
theorem dX10_dropFor_77 : decode cX10_dropFor 77 = .ok (.iconst 1, 1) := by decide +kernel
theorem dX10_dropFor_78 : decode cX10_dropFor 78 = .ok (.goto 4, 3) := by decide +kernel
theorem dX10_dropFor_81 : decode cX10_dropFor 81 = .ok (.iconst 0, 1) := by decide +kernel
theorem dX10_dropFor_82 : decode cX10_dropFor 82 = .ok (.istore 7, 2) := by decide +kernel
theorem dX10_dropFor_84 : decode cX10_dropFor 84 = .ok (.iload 7, 2) := by decide +kernel
theorem dX10_dropFor_86 : decode cX10_dropFor 86 = .ok (.ifCond .ne 16, 3) := by decide +kernel
theorem dX10_dropFor_89 : decode cX10_dropFor 89 = .ok (.aload_n 0, 1) := by decide +kernel
theorem dX10_dropFor_90 : decode cX10_dropFor 90 = .ok (.getfield 35, 3) := by decide +kernel
theorem dX10_dropFor_93 : decode cX10_dropFor 93 = .ok (.iload 4, 2) := by decide +kernel
theorem dX10_dropFor_95 : decode cX10_dropFor 95 = .ok (.iload_n 3, 1) := by decide +kernel
theorem dX10_dropFor_96 : decode cX10_dropFor 96 = .ok (.invokevirtual 381, 3) := by decide +kernel
theorem dX10_dropFor_99 : decode cX10_dropFor 99 = .ok (.iinc 3 1, 3) := by decide +kernel
theorem dX10_dropFor_102 : decode cX10_dropFor 102 = .ok (.iinc 4 1, 3) := by decide +kernel
theorem dX10_dropFor_105 : decode cX10_dropFor 105 = .ok (.goto (-100), 3) := by decide +kernel
theorem dX10_dropFor_108 : decode cX10_dropFor 108 = .ok (.aload_n 0, 1) := by decide +kernel
theorem dX10_dropFor_109 : decode cX10_dropFor 109 = .ok (.getfield 35, 3) := by decide +kernel
theorem dX10_dropFor_112 : decode cX10_dropFor 112 = .ok (.iload_n 3, 1) := by decide +kernel
theorem dX10_dropFor_113 : decode cX10_dropFor 113 = .ok (.putfield 252, 3) := by decide +kernel
theorem dX10_dropFor_116 : decode cX10_dropFor 116 = .ok (.return_, 1) := by decide +kernel
theorem dX11_init_0 : decode cX11_init 0 = .ok (.aload_n 0, 1) := by decide +kernel
theorem dX11_init_1 : decode cX11_init 1 = .ok (.invokespecial 3, 3) := by decide +kernel
theorem dX11_init_4 : decode cX11_init 4 = .ok (.aload_n 0, 1) := by decide +kernel
theorem dX11_init_5 : decode cX11_init 5 = .ok (.iconst 3, 1) := by decide +kernel
theorem dX11_init_6 : decode cX11_init 6 = .ok (.newarray .int, 2) := by decide +kernel
theorem dX11_init_8 : decode cX11_init 8 = .ok (.putfield 9, 3) := by decide +kernel
theorem dX11_init_11 : decode cX11_init 11 = .ok (.aload_n 0, 1) := by decide +kernel
theorem dX11_init_12 : decode cX11_init 12 = .ok (.bipush 36, 2) := by decide +kernel
theorem dX11_init_14 : decode cX11_init 14 = .ok (.newarray .int, 2) := by decide +kernel
theorem dX11_init_16 : decode cX11_init 16 = .ok (.putfield 15, 3) := by decide +kernel
theorem dX11_init_19 : decode cX11_init 19 = .ok (.aload_n 0, 1) := by decide +kernel
theorem dX11_init_20 : decode cX11_init 20 = .ok (.bipush 36, 2) := by decide +kernel
theorem dX11_init_22 : decode cX11_init 22 = .ok (.newarray .int, 2) := by decide +kernel
theorem dX11_init_24 : decode cX11_init 24 = .ok (.putfield 18, 3) := by decide +kernel
theorem dX11_init_27 : decode cX11_init 27 = .ok (.aload_n 0, 1) := by decide +kernel
theorem dX11_init_28 : decode cX11_init 28 = .ok (.bipush 36, 2) := by decide +kernel
theorem dX11_init_30 : decode cX11_init 30 = .ok (.newarray .int, 2) := by decide +kernel
theorem dX11_init_32 : decode cX11_init 32 = .ok (.putfield 21, 3) := by decide +kernel
theorem dX11_init_35 : decode cX11_init 35 = .ok (.aload_n 0, 1) := by decide +kernel
theorem dX11_init_36 : decode cX11_init 36 = .ok (.bipush 36, 2) := by decide +kernel
theorem dX11_init_38 : decode cX11_init 38 = .ok (.newarray .int, 2) := by decide +kernel
theorem dX11_init_40 : decode cX11_init 40 = .ok (.putfield 24, 3) := by decide +kernel
theorem dX11_init_43 : decode cX11_init 43 = .ok (.aload_n 0, 1) := by decide +kernel
theorem dX11_init_44 : decode cX11_init 44 = .ok (.bipush 36, 2) := by decide +kernel
theorem dX11_init_46 : decode cX11_init 46 = .ok (.newarray .int, 2) := by decide +kernel
theorem dX11_init_48 : decode cX11_init 48 = .ok (.putfield 27, 3) := by decide +kernel
theorem dX11_init_51 : decode cX11_init 51 = .ok (.aload_n 0, 1) := by decide +kernel
theorem dX11_init_52 : decode cX11_init 52 = .ok (.bipush 36, 2) := by decide +kernel
theorem dX11_init_54 : decode cX11_init 54 = .ok (.newarray .int, 2) := by decide +kernel
theorem dX11_init_56 : decode cX11_init 56 = .ok (.putfield 30, 3) := by decide +kernel
theorem dX11_init_59 : decode cX11_init 59 = .ok (.aload_n 0, 1) := by decide +kernel
theorem dX11_init_60 : decode cX11_init 60 = .ok (.sipush 370, 3) := by decide +kernel
theorem dX11_init_63 : decode cX11_init 63 = .ok (.newarray .int, 2) := by decide +kernel
theorem dX11_init_65 : decode cX11_init 65 = .ok (.putfield 33, 3) := by decide +kernel
theorem dX11_init_68 : decode cX11_init 68 = .ok (.aload_n 0, 1) := by decide +kernel
theorem dX11_init_69 : decode cX11_init 69 = .ok (.sipush 370, 3) := by decide +kernel
theorem dX11_init_72 : decode cX11_init 72 = .ok (.newarray .int, 2) := by decide +kernel
theorem dX11_init_74 : decode cX11_init 74 = .ok (.putfield 36, 3) := by decide +kernel
theorem dX11_init_77 : decode cX11_init 77 = .ok (.aload_n 0, 1) := by decide +kernel
theorem dX11_init_78 : decode cX11_init 78 = .ok (.sipush 370, 3) := by decide +kernel
theorem dX11_init_81 : decode cX11_init 81 = .ok (.newarray .int, 2) := by decide +kernel
theorem dX11_init_83 : decode cX11_init 83 = .ok (.putfield 39, 3) := by decide +kernel
theorem dX11_init_86 : decode cX11_init 86 = .ok (.aload_n 0, 1) := by decide +kernel
theorem dX11_init_87 : decode cX11_init 87 = .ok (.bipush 37, 2) := by decide +kernel
theorem dX11_init_89 : decode cX11_init 89 = .ok (.newarray .int, 2) := by decide +kernel
theorem dX11_init_91 : decode cX11_init 91 = .ok (.putfield 42, 3) := by decide +kernel
theorem dX11_init_94 : decode cX11_init 94 = .ok (.aload_n 0, 1) := by decide +kernel
theorem dX11_init_95 : decode cX11_init 95 = .ok (.bipush 10, 2) := by decide +kernel
theorem dX11_init_97 : decode cX11_init 97 = .ok (.newarray .int, 2) := by decide +kernel
theorem dX11_init_99 : decode cX11_init 99 = .ok (.putfield 45, 3) := by decide +kernel
theorem dX11_init_102 : decode cX11_init 102 = .ok (.aload_n 0, 1) := by decide +kernel
theorem dX11_init_103 : decode cX11_init 103 = .ok (.bipush 10, 2) := by decide +kernel
theorem dX11_init_105 : decode cX11_init 105 = .ok (.newarray .int, 2) := by decide +kernel
theorem dX11_init_107 : decode cX11_init 107 = .ok (.putfield 48, 3) := by decide +kernel
theorem dX11_init_110 : decode cX11_init 110 = .ok (.aload_n 0, 1) := by decide +kernel
theorem dX11_init_111 : decode cX11_init 111 = .ok (.bipush 10, 2) := by decide +kernel
theorem dX11_init_113 : decode cX11_init 113 = .ok (.newarray .int, 2) := by decide +kernel
theorem dX11_init_115 : decode cX11_init 115 = .ok (.putfield 51, 3) := by decide +kernel
theorem dX11_init_118 : decode cX11_init 118 = .ok (.aload_n 0, 1) := by decide +kernel
theorem dX11_init_119 : decode cX11_init 119 = .ok (.bipush 10, 2) := by decide +kernel
theorem dX11_init_121 : decode cX11_init 121 = .ok (.newarray .int, 2) := by decide +kernel
theorem dX11_init_123 : decode cX11_init 123 = .ok (.putfield 54, 3) := by decide +kernel
theorem dX11_init_126 : decode cX11_init 126 = .ok (.aload_n 0, 1) := by decide +kernel
theorem dX11_init_127 : decode cX11_init 127 = .ok (.bipush 12, 2) := by decide +kernel
theorem dX11_init_129 : decode cX11_init 129 = .ok (.newarray .int, 2) := by decide +kernel
theorem dX11_init_131 : decode cX11_init 131 = .ok (.putfield 57, 3) := by decide +kernel
theorem dX11_init_134 : decode cX11_init 134 = .ok (.aload_n 0, 1) := by decide +kernel
theorem dX11_init_135 : decode cX11_init 135 = .ok (.iconst 4, 1) := by decide +kernel
theorem dX11_init_136 : decode cX11_init 136 = .ok (.newarray .int, 2) := by decide +kernel
theorem dX11_init_138 : decode cX11_init 138 = .ok (.putfield 60, 3) := by decide +kernel
theorem dX11_init_141 : decode cX11_init 141 = .ok (.aload_n 0, 1) := by decide +kernel
theorem dX11_init_142 : decode cX11_init 142 = .ok (.iconst 4, 1) := by decide +kernel
theorem dX11_init_143 : decode cX11_init 143 = .ok (.newarray .int, 2) := by decide +kernel
theorem dX11_init_145 : decode cX11_init 145 = .ok (.putfield 63, 3) := by decide +kernel
theorem dX11_init_148 : decode cX11_init 148 = .ok (.aload_n 0, 1) := by decide +kernel
theorem dX11_init_149 : decode cX11_init 149 = .ok (.iconst 4, 1) := by decide +kernel
theorem dX11_init_150 : decode cX11_init 150 = .ok (.newarray .int, 2) := by decide +kernel
theorem dX11_init_152 : decode cX11_init 152 = .ok (.putfield 66, 3) := by decide +kernel
theorem dX11_init_155 : decode cX11_init 155 = .ok (.aload_n 0, 1) := by decide +kernel
theorem dX11_init_156 : decode cX11_init 156 = .ok (.bipush 12, 2) := by decide +kernel
theorem dX11_init_158 : decode cX11_init 158 = .ok (.newarray .int, 2) := by decide +kernel
theorem dX11_init_160 : decode cX11_init 160 = .ok (.putfield 69, 3) := by decide +kernel
theorem dX11_init_163 : decode cX11_init 163 = .ok (.aload_n 0, 1) := by decide +kernel
theorem dX11_init_164 : decode cX11_init 164 = .ok (.bipush 51, 2) := by decide +kernel
theorem dX11_init_166 : decode cX11_init 166 = .ok (.newarray .int, 2) := by decide +kernel
theorem dX11_init_168 : decode cX11_init 168 = .ok (.putfield 72, 3) := by decide +kernel
theorem dX11_init_171 : decode cX11_init 171 = .ok (.aload_n 0, 1) := by decide +kernel
theorem dX11_init_172 : decode cX11_init 172 = .ok (.bipush 51, 2) := by decide +kernel
theorem dX11_init_174 : decode cX11_init 174 = .ok (.newarray .int, 2) := by decide +kernel
theorem dX11_init_176 : decode cX11_init 176 = .ok (.putfield 75, 3) := by decide +kernel
theorem dX11_init_179 : decode cX11_init 179 = .ok (.aload_n 0, 1) := by decide +kernel
theorem dX11_init_180 : decode cX11_init 180 = .ok (.bipush 51, 2) := by decide +kernel
theorem dX11_init_182 : decode cX11_init 182 = .ok (.newarray .int, 2) := by decide +kernel
theorem dX11_init_184 : decode cX11_init 184 = .ok (.putfield 78, 3) := by decide +kernel
theorem dX11_init_187 : decode cX11_init 187 = .ok (.aload_n 0, 1) := by decide +kernel
theorem dX11_init_188 : decode cX11_init 188 = .ok (.bipush 51, 2) := by decide +kernel
theorem dX11_init_190 : decode cX11_init 190 = .ok (.newarray .int, 2) := by decide +kernel
theorem dX11_init_192 : decode cX11_init 192 = .ok (.putfield 81, 3) := by decide +kernel
theorem dX11_init_195 : decode cX11_init 195 = .ok (.aload_n 0, 1) := by decide +kernel
theorem dX11_init_196 : decode cX11_init 196 = .ok (.bipush 51, 2) := by decide +kernel
theorem dX11_init_198 : decode cX11_init 198 = .ok (.newarray .int, 2) := by decide +kernel
theorem dX11_init_200 : decode cX11_init 200 = .ok (.putfield 84, 3) := by decide +kernel
theorem dX11_init_203 : decode cX11_init 203 = .ok (.aload_n 0, 1) := by decide +kernel
theorem dX11_init_204 : decode cX11_init 204 = .ok (.bipush 51, 2) := by decide +kernel
theorem dX11_init_206 : decode cX11_init 206 = .ok (.newarray .int, 2) := by decide +kernel
theorem dX11_init_208 : decode cX11_init 208 = .ok (.putfield 87, 3) := by decide +kernel
theorem dX11_init_211 : decode cX11_init 211 = .ok (.aload_n 0, 1) := by decide +kernel
theorem dX11_init_212 : decode cX11_init 212 = .ok (.bipush 51, 2) := by decide +kernel
theorem dX11_init_214 : decode cX11_init 214 = .ok (.newarray .int, 2) := by decide +kernel
theorem dX11_init_216 : decode cX11_init 216 = .ok (.putfield 90, 3) := by decide +kernel
theorem dX11_init_219 : decode cX11_init 219 = .ok (.aload_n 0, 1) := by decide +kernel
theorem dX11_init_220 : decode cX11_init 220 = .ok (.bipush 51, 2) := by decide +kernel
theorem dX11_init_222 : decode cX11_init 222 = .ok (.newarray .int, 2) := by decide +kernel
theorem dX11_init_224 : decode cX11_init 224 = .ok (.putfield 93, 3) := by decide +kernel
theorem dX11_init_227 : decode cX11_init 227 = .ok (.aload_n 0, 1) := by decide +kernel
theorem dX11_init_228 : decode cX11_init 228 = .ok (.bipush 51, 2) := by decide +kernel
theorem dX11_init_230 : decode cX11_init 230 = .ok (.newarray .int, 2) := by decide +kernel
theorem dX11_init_232 : decode cX11_init 232 = .ok (.putfield 96, 3) := by decide +kernel
theorem dX11_init_235 : decode cX11_init 235 = .ok (.aload_n 0, 1) := by decide +kernel
theorem dX11_init_236 : decode cX11_init 236 = .ok (.bipush 51, 2) := by decide +kernel
theorem dX11_init_238 : decode cX11_init 238 = .ok (.newarray .int, 2) := by decide +kernel
theorem dX11_init_240 : decode cX11_init 240 = .ok (.putfield 99, 3) := by decide +kernel
theorem dX11_init_243 : decode cX11_init 243 = .ok (.aload_n 0, 1) := by decide +kernel
theorem dX11_init_244 : decode cX11_init 244 = .ok (.iconst (-1), 1) := by decide +kernel
theorem dX11_init_245 : decode cX11_init 245 = .ok (.putfield 102, 3) := by decide +kernel
theorem dX11_init_248 : decode cX11_init 248 = .ok (.aload_n 0, 1) := by decide +kernel
theorem dX11_init_249 : decode cX11_init 249 = .ok (.sipush 13824, 3) := by decide +kernel
theorem dX11_init_252 : decode cX11_init 252 = .ok (.newarray .long, 2) := by decide +kernel
theorem dX11_init_254 : decode cX11_init 254 = .ok (.putfield 106, 3) := by decide +kernel
theorem dX11_init_257 : decode cX11_init 257 = .ok (.aload_n 0, 1) := by decide +kernel
theorem dX11_init_258 : decode cX11_init 258 = .ok (.sipush 13824, 3) := by decide +kernel
theorem dX11_init_261 : decode cX11_init 261 = .ok (.newarray .int, 2) := by decide +kernel
theorem dX11_init_263 : decode cX11_init 263 = .ok (.putfield 110, 3) := by decide +kernel
theorem dX11_init_266 : decode cX11_init 266 = .ok (.aload_n 0, 1) := by decide +kernel
theorem dX11_init_267 : decode cX11_init 267 = .ok (.iconst 1, 1) := by decide +kernel
theorem dX11_init_268 : decode cX11_init 268 = .ok (.putfield 113, 3) := by decide +kernel
theorem dX11_init_271 : decode cX11_init 271 = .ok (.aload_n 0, 1) := by decide +kernel
theorem dX11_init_272 : decode cX11_init 272 = .ok (.bipush 21, 2) := by decide +kernel
theorem dX11_init_274 : decode cX11_init 274 = .ok (.newarray .int, 2) := by decide +kernel
theorem dX11_init_276 : decode cX11_init 276 = .ok (.putfield 116, 3) := by decide +kernel
theorem dX11_init_279 : decode cX11_init 279 = .ok (.aload_n 0, 1) := by decide +kernel
theorem dX11_init_280 : decode cX11_init 280 = .ok (.iconst 3, 1) := by decide +kernel
theorem dX11_init_281 : decode cX11_init 281 = .ok (.newarray .int, 2) := by decide +kernel
theorem dX11_init_283 : decode cX11_init 283 = .ok (.putfield 119, 3) := by decide +kernel
theorem dX11_init_286 : decode cX11_init 286 = .ok (.aload_n 0, 1) := by decide +kernel
theorem dX11_init_287 : decode cX11_init 287 = .ok (.bipush 36, 2) := by decide +kernel
theorem dX11_init_289 : decode cX11_init 289 = .ok (.newarray .int, 2) := by decide +kernel
theorem dX11_init_291 : decode cX11_init 291 = .ok (.putfield 122, 3) := by decide +kernel
theorem dX11_init_294 : decode cX11_init 294 = .ok (.aload_n 0, 1) := by decide +kernel
theorem dX11_init_295 : decode cX11_init 295 = .ok (.iconst 3, 1) := by decide +kernel
theorem dX11_init_296 : decode cX11_init 296 = .ok (.newarray .int, 2) := by decide +kernel
theorem dX11_init_298 : decode cX11_init 298 = .ok (.putfield 125, 3) := by decide +kernel
theorem dX11_init_301 : decode cX11_init 301 = .ok (.aload_n 0, 1) := by decide +kernel
theorem dX11_init_302 : decode cX11_init 302 = .ok (.sipush 3700, 3) := by decide +kernel
theorem dX11_init_305 : decode cX11_init 305 = .ok (.newarray .long, 2) := by decide +kernel
theorem dX11_init_307 : decode cX11_init 307 = .ok (.putfield 128, 3) := by decide +kernel
theorem dX11_init_310 : decode cX11_init 310 = .ok (.aload_n 0, 1) := by decide +kernel
theorem dX11_init_311 : decode cX11_init 311 = .ok (.bipush 51, 2) := by decide +kernel
theorem dX11_init_313 : decode cX11_init 313 = .ok (.newarray .int, 2) := by decide +kernel
theorem dX11_init_315 : decode cX11_init 315 = .ok (.putfield 131, 3) := by decide +kernel
theorem dX11_init_318 : decode cX11_init 318 = .ok (.aload_n 0, 1) := by decide +kernel
theorem dX11_init_319 : decode cX11_init 319 = .ok (.bipush 51, 2) := by decide +kernel
theorem dX11_init_321 : decode cX11_init 321 = .ok (.newarray .long, 2) := by decide +kernel
theorem dX11_init_323 : decode cX11_init 323 = .ok (.putfield 134, 3) := by decide +kernel
theorem dX11_init_326 : decode cX11_init 326 = .ok (.aload_n 0, 1) := by decide +kernel
theorem dX11_init_327 : decode cX11_init 327 = .ok (.bipush 51, 2) := by decide +kernel
theorem dX11_init_329 : decode cX11_init 329 = .ok (.newarray .long, 2) := by decide +kernel
theorem dX11_init_331 : decode cX11_init 331 = .ok (.putfield 137, 3) := by decide +kernel
theorem dX11_init_334 : decode cX11_init 334 = .ok (.iconst 0, 1) := by decide +kernel
theorem dX11_init_335 : decode cX11_init 335 = .ok (.istore_n 1, 1) := by decide +kernel
theorem dX11_init_336 : decode cX11_init 336 = .ok (.iload_n 1, 1) := by decide +kernel
theorem dX11_init_337 : decode cX11_init 337 = .ok (.iconst 3, 1) := by decide +kernel
theorem dX11_init_338 : decode cX11_init 338 = .ok (.if_icmp .ge 36, 3) := by decide +kernel
theorem dX11_init_341 : decode cX11_init 341 = .ok (.aload_n 0, 1) := by decide +kernel
theorem dX11_init_342 : decode cX11_init 342 = .ok (.getfield 9, 3) := by decide +kernel
theorem dX11_init_345 : decode cX11_init 345 = .ok (.iload_n 1, 1) := by decide +kernel
theorem dX11_init_346 : decode cX11_init 346 = .ok (.iconst 1, 1) := by decide +kernel
theorem dX11_init_347 : decode cX11_init 347 = .ok (.iastore, 1) := by decide +kernel
theorem dX11_init_348 : decode cX11_init 348 = .ok (.aload_n 0, 1) := by decide +kernel
theorem dX11_init_349 : decode cX11_init 349 = .ok (.getfield 18, 3) := by decide +kernel
theorem dX11_init_352 : decode cX11_init 352 = .ok (.bipush 12, 2) := by decide +kernel
theorem dX11_init_354 : decode cX11_init 354 = .ok (.iload_n 1, 1) := by decide +kernel
theorem dX11_init_355 : decode cX11_init 355 = .ok (.imul, 1) := by decide +kernel
theorem dX11_init_356 : decode cX11_init 356 = .ok (.iconst (-1), 1) := by decide +kernel
theorem dX11_init_357 : decode cX11_init 357 = .ok (.iastore, 1) := by decide +kernel
theorem dX11_init_358 : decode cX11_init 358 = .ok (.aload_n 0, 1) := by decide +kernel
theorem dX11_init_359 : decode cX11_init 359 = .ok (.getfield 21, 3) := by decide +kernel
theorem dX11_init_362 : decode cX11_init 362 = .ok (.bipush 12, 2) := by decide +kernel
theorem dX11_init_364 : decode cX11_init 364 = .ok (.iload_n 1, 1) := by decide +kernel
theorem dX11_init_365 : decode cX11_init 365 = .ok (.imul, 1) := by decide +kernel
theorem dX11_init_366 : decode cX11_init 366 = .ok (.iconst 1, 1) := by decide +kernel
theorem dX11_init_367 : decode cX11_init 367 = .ok (.iastore, 1) := by decide +kernel
theorem dX11_init_368 : decode cX11_init 368 = .ok (.iinc 1 1, 3) := by decide +kernel
theorem dX11_init_371 : decode cX11_init 371 = .ok (.goto (-35), 3) := by decide +kernel
theorem dX11_init_374 : decode cX11_init 374 = .ok (.return_, 1) := by decide +kernel
theorem dX11_thrown_0 : decode cX11_thrown 0 = .ok (.aload_n 0, 1) := by decide +kernel
theorem dX11_thrown_1 : decode cX11_thrown 1 = .ok (.getfield 140, 3) := by decide +kernel
theorem dX11_thrown_4 : decode cX11_thrown 4 = .ok (.ireturn, 1) := by decide +kernel
theorem dX11_holds_0 : decode cX11_holds 0 = .ok (.aload_n 0, 1) := by decide +kernel
theorem dX11_holds_1 : decode cX11_holds 1 = .ok (.iload_n 1, 1) := by decide +kernel
theorem dX11_holds_2 : decode cX11_holds 2 = .ok (.putfield 140, 3) := by decide +kernel
theorem dX11_holds_5 : decode cX11_holds 5 = .ok (.iload_n 1, 1) := by decide +kernel
theorem dX11_holds_6 : decode cX11_holds 6 = .ok (.ifCond .le 7, 3) := by decide +kernel
theorem dX11_holds_9 : decode cX11_holds 9 = .ok (.iconst 1, 1) := by decide +kernel
theorem dX11_holds_10 : decode cX11_holds 10 = .ok (.goto 4, 3) := by decide +kernel
theorem dX11_holds_13 : decode cX11_holds 13 = .ok (.iconst 0, 1) := by decide +kernel
theorem dX11_holds_14 : decode cX11_holds 14 = .ok (.ireturn, 1) := by decide +kernel
theorem dX11_in_0 : decode cX11_in 0 = .ok (.lload_n 1, 1) := by decide +kernel
theorem dX11_in_1 : decode cX11_in 1 = .ok (.lload_n 3, 1) := by decide +kernel
theorem dX11_in_2 : decode cX11_in 2 = .ok (.lcmp, 1) := by decide +kernel
theorem dX11_in_3 : decode cX11_in 3 = .ok (.ifCond .lt 14, 3) := by decide +kernel
theorem dX11_in_6 : decode cX11_in 6 = .ok (.lload_n 1, 1) := by decide +kernel
theorem dX11_in_7 : decode cX11_in 7 = .ok (.lload 5, 2) := by decide +kernel
theorem dX11_in_9 : decode cX11_in 9 = .ok (.lcmp, 1) := by decide +kernel
theorem dX11_in_10 : decode cX11_in 10 = .ok (.ifCond .gt 7, 3) := by decide +kernel
theorem dX11_in_13 : decode cX11_in 13 = .ok (.iconst 1, 1) := by decide +kernel
theorem dX11_in_14 : decode cX11_in 14 = .ok (.goto 4, 3) := by decide +kernel
theorem dX11_in_17 : decode cX11_in 17 = .ok (.iconst 0, 1) := by decide +kernel
theorem dX11_in_18 : decode cX11_in 18 = .ok (.ireturn, 1) := by decide +kernel
theorem dX11_isDim_0 : decode cX11_isDim 0 = .ok (.aload_n 0, 1) := by decide +kernel
theorem dX11_isDim_1 : decode cX11_isDim 1 = .ok (.iload_n 1, 1) := by decide +kernel
theorem dX11_isDim_2 : decode cX11_isDim 2 = .ok (.i2l, 1) := by decide +kernel
theorem dX11_isDim_3 : decode cX11_isDim 3 = .ok (.lconst 0, 1) := by decide +kernel
theorem dX11_isDim_4 : decode cX11_isDim 4 = .ok (.ldc2_w 143, 3) := by decide +kernel
theorem dX11_isDim_7 : decode cX11_isDim 7 = .ok (.invokevirtual 145, 3) := by decide +kernel
theorem dX11_isDim_10 : decode cX11_isDim 10 = .ok (.ireturn, 1) := by decide +kernel
theorem dX11_is_0 : decode cX11_is 0 = .ok (.aload_n 0, 1) := by decide +kernel
theorem dX11_is_1 : decode cX11_is 1 = .ok (.iload_n 1, 1) := by decide +kernel
theorem dX11_is_2 : decode cX11_is 2 = .ok (.invokevirtual 149, 3) := by decide +kernel
theorem dX11_is_5 : decode cX11_is 5 = .ok (.ifCond .eq 26, 3) := by decide +kernel
theorem dX11_is_8 : decode cX11_is 8 = .ok (.aload_n 0, 1) := by decide +kernel
theorem dX11_is_9 : decode cX11_is 9 = .ok (.iload_n 2, 1) := by decide +kernel
theorem dX11_is_10 : decode cX11_is 10 = .ok (.i2l, 1) := by decide +kernel
theorem dX11_is_11 : decode cX11_is 11 = .ok (.lconst 0, 1) := by decide +kernel
theorem dX11_is_12 : decode cX11_is 12 = .ok (.aload_n 0, 1) := by decide +kernel
theorem dX11_is_13 : decode cX11_is 13 = .ok (.getfield 9, 3) := by decide +kernel
theorem dX11_is_16 : decode cX11_is 16 = .ok (.iload_n 1, 1) := by decide +kernel
theorem dX11_is_17 : decode cX11_is 17 = .ok (.iaload, 1) := by decide +kernel
theorem dX11_is_18 : decode cX11_is 18 = .ok (.iconst 1, 1) := by decide +kernel
theorem dX11_is_19 : decode cX11_is 19 = .ok (.isub, 1) := by decide +kernel
theorem dX11_is_20 : decode cX11_is 20 = .ok (.i2l, 1) := by decide +kernel
theorem dX11_is_21 : decode cX11_is 21 = .ok (.invokevirtual 145, 3) := by decide +kernel
theorem dX11_is_24 : decode cX11_is 24 = .ok (.ifCond .eq 7, 3) := by decide +kernel
theorem dX11_is_27 : decode cX11_is 27 = .ok (.iconst 1, 1) := by decide +kernel
theorem dX11_is_28 : decode cX11_is 28 = .ok (.goto 4, 3) := by decide +kernel
theorem dX11_is_31 : decode cX11_is 31 = .ok (.iconst 0, 1) := by decide +kernel
theorem dX11_is_32 : decode cX11_is 32 = .ok (.ireturn, 1) := by decide +kernel
theorem dX11_isPlain_0 : decode cX11_isPlain 0 = .ok (.aload_n 0, 1) := by decide +kernel
theorem dX11_isPlain_1 : decode cX11_isPlain 1 = .ok (.getfield 15, 3) := by decide +kernel
theorem dX11_isPlain_4 : decode cX11_isPlain 4 = .ok (.bipush 12, 2) := by decide +kernel
theorem dX11_isPlain_6 : decode cX11_isPlain 6 = .ok (.iload_n 1, 1) := by decide +kernel
theorem dX11_isPlain_7 : decode cX11_isPlain 7 = .ok (.imul, 1) := by decide +kernel
theorem dX11_isPlain_8 : decode cX11_isPlain 8 = .ok (.iload_n 2, 1) := by decide +kernel
theorem dX11_isPlain_9 : decode cX11_isPlain 9 = .ok (.iadd, 1) := by decide +kernel
theorem dX11_isPlain_10 : decode cX11_isPlain 10 = .ok (.iaload, 1) := by decide +kernel
theorem dX11_isPlain_11 : decode cX11_isPlain 11 = .ok (.ifCond .ne 7, 3) := by decide +kernel
theorem dX11_isPlain_14 : decode cX11_isPlain 14 = .ok (.iconst 1, 1) := by decide +kernel
theorem dX11_isPlain_15 : decode cX11_isPlain 15 = .ok (.goto 4, 3) := by decide +kernel
theorem dX11_isPlain_18 : decode cX11_isPlain 18 = .ok (.iconst 0, 1) := by decide +kernel
theorem dX11_isPlain_19 : decode cX11_isPlain 19 = .ok (.ireturn, 1) := by decide +kernel
theorem dX11_isMeasure_0 : decode cX11_isMeasure 0 = .ok (.aload_n 0, 1) := by decide +kernel
theorem dX11_isMeasure_1 : decode cX11_isMeasure 1 = .ok (.iload_n 1, 1) := by decide +kernel
theorem dX11_isMeasure_2 : decode cX11_isMeasure 2 = .ok (.i2l, 1) := by decide +kernel
theorem dX11_isMeasure_3 : decode cX11_isMeasure 3 = .ok (.lconst 0, 1) := by decide +kernel
theorem dX11_isMeasure_4 : decode cX11_isMeasure 4 = .ok (.aload_n 0, 1) := by decide +kernel
theorem dX11_isMeasure_5 : decode cX11_isMeasure 5 = .ok (.getfield 153, 3) := by decide +kernel
theorem dX11_isMeasure_8 : decode cX11_isMeasure 8 = .ok (.iconst 1, 1) := by decide +kernel
theorem dX11_isMeasure_9 : decode cX11_isMeasure 9 = .ok (.isub, 1) := by decide +kernel
theorem dX11_isMeasure_10 : decode cX11_isMeasure 10 = .ok (.i2l, 1) := by decide +kernel
theorem dX11_isMeasure_11 : decode cX11_isMeasure 11 = .ok (.invokevirtual 145, 3) := by decide +kernel
theorem dX11_isMeasure_14 : decode cX11_isMeasure 14 = .ok (.ireturn, 1) := by decide +kernel
theorem dX11_areThere_0 : decode cX11_areThere 0 = .ok (.aload_n 0, 1) := by decide +kernel
theorem dX11_areThere_1 : decode cX11_areThere 1 = .ok (.iconst 0, 1) := by decide +kernel
theorem dX11_areThere_2 : decode cX11_areThere 2 = .ok (.iload_n 1, 1) := by decide +kernel
theorem dX11_areThere_3 : decode cX11_areThere 3 = .ok (.invokevirtual 156, 3) := by decide +kernel
theorem dX11_areThere_6 : decode cX11_areThere 6 = .ok (.ifCond .eq 34, 3) := by decide +kernel
theorem dX11_areThere_9 : decode cX11_areThere 9 = .ok (.aload_n 0, 1) := by decide +kernel
theorem dX11_areThere_10 : decode cX11_areThere 10 = .ok (.iconst 1, 1) := by decide +kernel
theorem dX11_areThere_11 : decode cX11_areThere 11 = .ok (.iload_n 2, 1) := by decide +kernel
theorem dX11_areThere_12 : decode cX11_areThere 12 = .ok (.invokevirtual 156, 3) := by decide +kernel
theorem dX11_areThere_15 : decode cX11_areThere 15 = .ok (.ifCond .eq 25, 3) := by decide +kernel
theorem dX11_areThere_18 : decode cX11_areThere 18 = .ok (.aload_n 0, 1) := by decide +kernel
theorem dX11_areThere_19 : decode cX11_areThere 19 = .ok (.iconst 2, 1) := by decide +kernel
theorem dX11_areThere_20 : decode cX11_areThere 20 = .ok (.iload_n 3, 1) := by decide +kernel
theorem dX11_areThere_21 : decode cX11_areThere 21 = .ok (.invokevirtual 156, 3) := by decide +kernel
theorem dX11_areThere_24 : decode cX11_areThere 24 = .ok (.ifCond .eq 16, 3) := by decide +kernel
theorem dX11_areThere_27 : decode cX11_areThere 27 = .ok (.aload_n 0, 1) := by decide +kernel
theorem dX11_areThere_28 : decode cX11_areThere 28 = .ok (.iload 4, 2) := by decide +kernel
theorem dX11_areThere_30 : decode cX11_areThere 30 = .ok (.invokevirtual 160, 3) := by decide +kernel
theorem dX11_areThere_33 : decode cX11_areThere 33 = .ok (.ifCond .eq 7, 3) := by decide +kernel
theorem dX11_areThere_36 : decode cX11_areThere 36 = .ok (.iconst 1, 1) := by decide +kernel
theorem dX11_areThere_37 : decode cX11_areThere 37 = .ok (.goto 4, 3) := by decide +kernel
theorem dX11_areThere_40 : decode cX11_areThere 40 = .ok (.iconst 0, 1) := by decide +kernel
theorem dX11_areThere_41 : decode cX11_areThere 41 = .ok (.ireturn, 1) := by decide +kernel
theorem dX11_fresh_0 : decode cX11_fresh 0 = .ok (.aload_n 0, 1) := by decide +kernel
theorem dX11_fresh_1 : decode cX11_fresh 1 = .ok (.iconst 0, 1) := by decide +kernel
theorem dX11_fresh_2 : decode cX11_fresh 2 = .ok (.putfield 163, 3) := by decide +kernel
theorem dX11_fresh_5 : decode cX11_fresh 5 = .ok (.aload_n 0, 1) := by decide +kernel
theorem dX11_fresh_6 : decode cX11_fresh 6 = .ok (.dup, 1) := by decide +kernel
theorem dX11_fresh_7 : decode cX11_fresh 7 = .ok (.getfield 113, 3) := by decide +kernel
theorem dX11_fresh_10 : decode cX11_fresh 10 = .ok (.iconst 1, 1) := by decide +kernel
theorem dX11_fresh_11 : decode cX11_fresh 11 = .ok (.iadd, 1) := by decide +kernel
theorem dX11_fresh_12 : decode cX11_fresh 12 = .ok (.putfield 113, 3) := by decide +kernel
theorem dX11_fresh_15 : decode cX11_fresh 15 = .ok (.return_, 1) := by decide +kernel
theorem dX11_parent_0 : decode cX11_parent 0 = .ok (.iconst (-1), 1) := by decide +kernel
theorem dX11_parent_1 : decode cX11_parent 1 = .ok (.istore 4, 2) := by decide +kernel
theorem dX11_parent_3 : decode cX11_parent 3 = .ok (.iconst 0, 1) := by decide +kernel
theorem dX11_parent_4 : decode cX11_parent 4 = .ok (.istore 5, 2) := by decide +kernel
theorem dX11_parent_6 : decode cX11_parent 6 = .ok (.iload 5, 2) := by decide +kernel
theorem dX11_parent_8 : decode cX11_parent 8 = .ok (.aload_n 0, 1) := by decide +kernel
theorem dX11_parent_9 : decode cX11_parent 9 = .ok (.getfield 166, 3) := by decide +kernel
theorem dX11_parent_12 : decode cX11_parent 12 = .ok (.if_icmp .ge 100, 3) := by decide +kernel
theorem dX11_parent_15 : decode cX11_parent 15 = .ok (.aload_n 0, 1) := by decide +kernel
theorem dX11_parent_16 : decode cX11_parent 16 = .ok (.getfield 45, 3) := by decide +kernel
theorem dX11_parent_19 : decode cX11_parent 19 = .ok (.iload 5, 2) := by decide +kernel
theorem dX11_parent_21 : decode cX11_parent 21 = .ok (.iaload, 1) := by decide +kernel
theorem dX11_parent_22 : decode cX11_parent 22 = .ok (.iload_n 1, 1) := by decide +kernel
theorem dX11_parent_23 : decode cX11_parent 23 = .ok (.if_icmp .ne 66, 3) := by decide +kernel
theorem dX11_parent_26 : decode cX11_parent 26 = .ok (.aload_n 0, 1) := by decide +kernel
theorem dX11_parent_27 : decode cX11_parent 27 = .ok (.getfield 48, 3) := by decide +kernel
theorem dX11_parent_30 : decode cX11_parent 30 = .ok (.iload 5, 2) := by decide +kernel
theorem dX11_parent_32 : decode cX11_parent 32 = .ok (.iaload, 1) := by decide +kernel
theorem dX11_parent_33 : decode cX11_parent 33 = .ok (.iload_n 2, 1) := by decide +kernel
theorem dX11_parent_34 : decode cX11_parent 34 = .ok (.if_icmp .ne 55, 3) := by decide +kernel
theorem dX11_parent_37 : decode cX11_parent 37 = .ok (.aload_n 0, 1) := by decide +kernel
theorem dX11_parent_38 : decode cX11_parent 38 = .ok (.getfield 57, 3) := by decide +kernel
theorem dX11_parent_41 : decode cX11_parent 41 = .ok (.aload_n 0, 1) := by decide +kernel
theorem dX11_parent_42 : decode cX11_parent 42 = .ok (.getfield 54, 3) := by decide +kernel
theorem dX11_parent_45 : decode cX11_parent 45 = .ok (.iload 5, 2) := by decide +kernel
theorem dX11_parent_47 : decode cX11_parent 47 = .ok (.iaload, 1) := by decide +kernel
theorem dX11_parent_48 : decode cX11_parent 48 = .ok (.iaload, 1) := by decide +kernel
theorem dX11_parent_49 : decode cX11_parent 49 = .ok (.iload_n 3, 1) := by decide +kernel
theorem dX11_parent_50 : decode cX11_parent 50 = .ok (.if_icmp .gt 39, 3) := by decide +kernel
theorem dX11_parent_53 : decode cX11_parent 53 = .ok (.iload 4, 2) := by decide +kernel
theorem dX11_parent_55 : decode cX11_parent 55 = .ok (.ifCond .lt 30, 3) := by decide +kernel
theorem dX11_parent_58 : decode cX11_parent 58 = .ok (.aload_n 0, 1) := by decide +kernel
theorem dX11_parent_59 : decode cX11_parent 59 = .ok (.getfield 57, 3) := by decide +kernel
theorem dX11_parent_62 : decode cX11_parent 62 = .ok (.aload_n 0, 1) := by decide +kernel
theorem dX11_parent_63 : decode cX11_parent 63 = .ok (.getfield 54, 3) := by decide +kernel
theorem dX11_parent_66 : decode cX11_parent 66 = .ok (.iload 5, 2) := by decide +kernel
theorem dX11_parent_68 : decode cX11_parent 68 = .ok (.iaload, 1) := by decide +kernel
theorem dX11_parent_69 : decode cX11_parent 69 = .ok (.iaload, 1) := by decide +kernel
theorem dX11_parent_70 : decode cX11_parent 70 = .ok (.aload_n 0, 1) := by decide +kernel
theorem dX11_parent_71 : decode cX11_parent 71 = .ok (.getfield 57, 3) := by decide +kernel
theorem dX11_parent_74 : decode cX11_parent 74 = .ok (.aload_n 0, 1) := by decide +kernel
theorem dX11_parent_75 : decode cX11_parent 75 = .ok (.getfield 54, 3) := by decide +kernel
theorem dX11_parent_78 : decode cX11_parent 78 = .ok (.iload 4, 2) := by decide +kernel
theorem dX11_parent_80 : decode cX11_parent 80 = .ok (.iaload, 1) := by decide +kernel
theorem dX11_parent_81 : decode cX11_parent 81 = .ok (.iaload, 1) := by decide +kernel
theorem dX11_parent_82 : decode cX11_parent 82 = .ok (.if_icmp .lt 7, 3) := by decide +kernel
theorem dX11_parent_85 : decode cX11_parent 85 = .ok (.iconst 1, 1) := by decide +kernel
theorem dX11_parent_86 : decode cX11_parent 86 = .ok (.goto 4, 3) := by decide +kernel
theorem dX11_parent_89 : decode cX11_parent 89 = .ok (.iconst 0, 1) := by decide +kernel
theorem dX11_parent_90 : decode cX11_parent 90 = .ok (.istore 6, 2) := by decide +kernel
theorem dX11_parent_92 : decode cX11_parent 92 = .ok (.iload 6, 2) := by decide +kernel
theorem dX11_parent_94 : decode cX11_parent 94 = .ok (.ifCond .eq 8, 3) := by decide +kernel
theorem dX11_parent_97 : decode cX11_parent 97 = .ok (.iload 5, 2) := by decide +kernel
theorem dX11_parent_99 : decode cX11_parent 99 = .ok (.goto 5, 3) := by decide +kernel
theorem dX11_parent_102 : decode cX11_parent 102 = .ok (.iload 4, 2) := by decide +kernel
theorem dX11_parent_104 : decode cX11_parent 104 = .ok (.istore 4, 2) := by decide +kernel
theorem dX11_parent_106 : decode cX11_parent 106 = .ok (.iinc 5 1, 3) := by decide +kernel
theorem dX11_parent_109 : decode cX11_parent 109 = .ok (.goto (-103), 3) := by decide +kernel
theorem dX11_parent_112 : decode cX11_parent 112 = .ok (.iload 4, 2) := by decide +kernel
theorem dX11_parent_114 : decode cX11_parent 114 = .ok (.ifCond .ge 17, 3) := by decide +kernel
theorem dX11_parent_117 : decode cX11_parent 117 = .ok (.aload_n 0, 1) := by decide +kernel
theorem dX11_parent_118 : decode cX11_parent 118 = .ok (.getfield 18, 3) := by decide +kernel
theorem dX11_parent_121 : decode cX11_parent 121 = .ok (.bipush 12, 2) := by decide +kernel
theorem dX11_parent_123 : decode cX11_parent 123 = .ok (.iload_n 1, 1) := by decide +kernel
theorem dX11_parent_124 : decode cX11_parent 124 = .ok (.imul, 1) := by decide +kernel
theorem dX11_parent_125 : decode cX11_parent 125 = .ok (.iload_n 2, 1) := by decide +kernel
theorem dX11_parent_126 : decode cX11_parent 126 = .ok (.iadd, 1) := by decide +kernel
theorem dX11_parent_127 : decode cX11_parent 127 = .ok (.iaload, 1) := by decide +kernel
theorem dX11_parent_128 : decode cX11_parent 128 = .ok (.goto 10, 3) := by decide +kernel
theorem dX11_parent_131 : decode cX11_parent 131 = .ok (.aload_n 0, 1) := by decide +kernel
theorem dX11_parent_132 : decode cX11_parent 132 = .ok (.getfield 51, 3) := by decide +kernel
theorem dX11_parent_135 : decode cX11_parent 135 = .ok (.iload 4, 2) := by decide +kernel
theorem dX11_parent_137 : decode cX11_parent 137 = .ok (.iaload, 1) := by decide +kernel
theorem dX11_parent_138 : decode cX11_parent 138 = .ok (.ireturn, 1) := by decide +kernel
theorem dX11_now_0 : decode cX11_now 0 = .ok (.aload_n 0, 1) := by decide +kernel
theorem dX11_now_1 : decode cX11_now 1 = .ok (.iload_n 1, 1) := by decide +kernel
theorem dX11_now_2 : decode cX11_now 2 = .ok (.iload_n 2, 1) := by decide +kernel
theorem dX11_now_3 : decode cX11_now 3 = .ok (.bipush 99, 2) := by decide +kernel
theorem dX11_now_5 : decode cX11_now 5 = .ok (.invokevirtual 169, 3) := by decide +kernel
theorem dX11_now_8 : decode cX11_now 8 = .ok (.ireturn, 1) := by decide +kernel
theorem dX11_depth_0 : decode cX11_depth 0 = .ok (.iconst 0, 1) := by decide +kernel
theorem dX11_depth_1 : decode cX11_depth 1 = .ok (.istore_n 3, 1) := by decide +kernel
theorem dX11_depth_2 : decode cX11_depth 2 = .ok (.iload_n 2, 1) := by decide +kernel
theorem dX11_depth_3 : decode cX11_depth 3 = .ok (.istore 4, 2) := by decide +kernel
theorem dX11_depth_5 : decode cX11_depth 5 = .ok (.iload 4, 2) := by decide +kernel
theorem dX11_depth_7 : decode cX11_depth 7 = .ok (.ifCond .le 18, 3) := by decide +kernel
theorem dX11_depth_10 : decode cX11_depth 10 = .ok (.iinc 3 1, 3) := by decide +kernel
theorem dX11_depth_13 : decode cX11_depth 13 = .ok (.aload_n 0, 1) := by decide +kernel
theorem dX11_depth_14 : decode cX11_depth 14 = .ok (.iload_n 1, 1) := by decide +kernel
theorem dX11_depth_15 : decode cX11_depth 15 = .ok (.iload 4, 2) := by decide +kernel
theorem dX11_depth_17 : decode cX11_depth 17 = .ok (.invokevirtual 173, 3) := by decide +kernel
theorem dX11_depth_20 : decode cX11_depth 20 = .ok (.istore 4, 2) := by decide +kernel
theorem dX11_depth_22 : decode cX11_depth 22 = .ok (.goto (-17), 3) := by decide +kernel
theorem dX11_depth_25 : decode cX11_depth 25 = .ok (.iload_n 3, 1) := by decide +kernel
theorem dX11_depth_26 : decode cX11_depth 26 = .ok (.ireturn, 1) := by decide +kernel
theorem dX11_stand_0 : decode cX11_stand 0 = .ok (.iconst 0, 1) := by decide +kernel
theorem dX11_stand_1 : decode cX11_stand 1 = .ok (.istore_n 1, 1) := by decide +kernel
theorem dX11_stand_2 : decode cX11_stand 2 = .ok (.iconst 0, 1) := by decide +kernel
theorem dX11_stand_3 : decode cX11_stand 3 = .ok (.istore_n 2, 1) := by decide +kernel
theorem dX11_stand_4 : decode cX11_stand 4 = .ok (.iload_n 1, 1) := by decide +kernel
theorem dX11_stand_5 : decode cX11_stand 5 = .ok (.ifCond .lt 57, 3) := by decide +kernel
theorem dX11_stand_8 : decode cX11_stand 8 = .ok (.aload_n 0, 1) := by decide +kernel
theorem dX11_stand_9 : decode cX11_stand 9 = .ok (.getfield 57, 3) := by decide +kernel
theorem dX11_stand_12 : decode cX11_stand 12 = .ok (.iload_n 1, 1) := by decide +kernel
theorem dX11_stand_13 : decode cX11_stand 13 = .ok (.iload_n 2, 1) := by decide +kernel
theorem dX11_stand_14 : decode cX11_stand 14 = .ok (.iastore, 1) := by decide +kernel
theorem dX11_stand_15 : decode cX11_stand 15 = .ok (.iinc 2 1, 3) := by decide +kernel
theorem dX11_stand_18 : decode cX11_stand 18 = .ok (.aload_n 0, 1) := by decide +kernel
theorem dX11_stand_19 : decode cX11_stand 19 = .ok (.iload_n 1, 1) := by decide +kernel
theorem dX11_stand_20 : decode cX11_stand 20 = .ok (.iconst 0, 1) := by decide +kernel
theorem dX11_stand_21 : decode cX11_stand 21 = .ok (.invokevirtual 177, 3) := by decide +kernel
theorem dX11_stand_24 : decode cX11_stand 24 = .ok (.istore_n 3, 1) := by decide +kernel
theorem dX11_stand_25 : decode cX11_stand 25 = .ok (.iload_n 3, 1) := by decide +kernel
theorem dX11_stand_26 : decode cX11_stand 26 = .ok (.ifCond .ge 31, 3) := by decide +kernel
theorem dX11_stand_29 : decode cX11_stand 29 = .ok (.iload_n 1, 1) := by decide +kernel
theorem dX11_stand_30 : decode cX11_stand 30 = .ok (.ifCond .le 27, 3) := by decide +kernel
theorem dX11_stand_33 : decode cX11_stand 33 = .ok (.aload_n 0, 1) := by decide +kernel
theorem dX11_stand_34 : decode cX11_stand 34 = .ok (.aload_n 0, 1) := by decide +kernel
theorem dX11_stand_35 : decode cX11_stand 35 = .ok (.getfield 18, 3) := by decide +kernel
theorem dX11_stand_38 : decode cX11_stand 38 = .ok (.iload_n 1, 1) := by decide +kernel
theorem dX11_stand_39 : decode cX11_stand 39 = .ok (.iaload, 1) := by decide +kernel
theorem dX11_stand_40 : decode cX11_stand 40 = .ok (.iload_n 1, 1) := by decide +kernel
theorem dX11_stand_41 : decode cX11_stand 41 = .ok (.iconst 1, 1) := by decide +kernel
theorem dX11_stand_42 : decode cX11_stand 42 = .ok (.iadd, 1) := by decide +kernel
theorem dX11_stand_43 : decode cX11_stand 43 = .ok (.invokevirtual 177, 3) := by decide +kernel
theorem dX11_stand_46 : decode cX11_stand 46 = .ok (.istore_n 3, 1) := by decide +kernel
theorem dX11_stand_47 : decode cX11_stand 47 = .ok (.aload_n 0, 1) := by decide +kernel
theorem dX11_stand_48 : decode cX11_stand 48 = .ok (.getfield 18, 3) := by decide +kernel
theorem dX11_stand_51 : decode cX11_stand 51 = .ok (.iload_n 1, 1) := by decide +kernel
theorem dX11_stand_52 : decode cX11_stand 52 = .ok (.iaload, 1) := by decide +kernel
theorem dX11_stand_53 : decode cX11_stand 53 = .ok (.istore_n 1, 1) := by decide +kernel
theorem dX11_stand_54 : decode cX11_stand 54 = .ok (.goto (-29), 3) := by decide +kernel
theorem dX11_stand_57 : decode cX11_stand 57 = .ok (.iload_n 3, 1) := by decide +kernel
theorem dX11_stand_58 : decode cX11_stand 58 = .ok (.istore_n 1, 1) := by decide +kernel
theorem dX11_stand_59 : decode cX11_stand 59 = .ok (.goto (-55), 3) := by decide +kernel
theorem dX11_stand_62 : decode cX11_stand 62 = .ok (.return_, 1) := by decide +kernel
theorem dX11_after_0 : decode cX11_after 0 = .ok (.iconst (-1), 1) := by decide +kernel
theorem dX11_after_1 : decode cX11_after 1 = .ok (.istore_n 3, 1) := by decide +kernel
theorem dX11_after_2 : decode cX11_after 2 = .ok (.aload_n 0, 1) := by decide +kernel
theorem dX11_after_3 : decode cX11_after 3 = .ok (.getfield 9, 3) := by decide +kernel
theorem dX11_after_6 : decode cX11_after 6 = .ok (.iconst 0, 1) := by decide +kernel
theorem dX11_after_7 : decode cX11_after 7 = .ok (.iaload, 1) := by decide +kernel
theorem dX11_after_8 : decode cX11_after 8 = .ok (.iconst 1, 1) := by decide +kernel
theorem dX11_after_9 : decode cX11_after 9 = .ok (.isub, 1) := by decide +kernel
theorem dX11_after_10 : decode cX11_after 10 = .ok (.istore 4, 2) := by decide +kernel
theorem dX11_after_12 : decode cX11_after 12 = .ok (.iload 4, 2) := by decide +kernel
theorem dX11_after_14 : decode cX11_after 14 = .ok (.iload_n 2, 1) := by decide +kernel
theorem dX11_after_15 : decode cX11_after 15 = .ok (.if_icmp .lt 42, 3) := by decide +kernel
theorem dX11_after_18 : decode cX11_after 18 = .ok (.iload 4, 2) := by decide +kernel
theorem dX11_after_20 : decode cX11_after 20 = .ok (.ifCond .le 29, 3) := by decide +kernel
theorem dX11_after_23 : decode cX11_after 23 = .ok (.aload_n 0, 1) := by decide +kernel
theorem dX11_after_24 : decode cX11_after 24 = .ok (.getfield 15, 3) := by decide +kernel
theorem dX11_after_27 : decode cX11_after 27 = .ok (.iload 4, 2) := by decide +kernel
theorem dX11_after_29 : decode cX11_after 29 = .ok (.iaload, 1) := by decide +kernel
theorem dX11_after_30 : decode cX11_after 30 = .ok (.ifCond .ne 19, 3) := by decide +kernel
theorem dX11_after_33 : decode cX11_after 33 = .ok (.aload_n 0, 1) := by decide +kernel
theorem dX11_after_34 : decode cX11_after 34 = .ok (.getfield 18, 3) := by decide +kernel
theorem dX11_after_37 : decode cX11_after 37 = .ok (.iload 4, 2) := by decide +kernel
theorem dX11_after_39 : decode cX11_after 39 = .ok (.iaload, 1) := by decide +kernel
theorem dX11_after_40 : decode cX11_after 40 = .ok (.iload_n 1, 1) := by decide +kernel
theorem dX11_after_41 : decode cX11_after 41 = .ok (.if_icmp .ne 8, 3) := by decide +kernel
theorem dX11_after_44 : decode cX11_after 44 = .ok (.iload 4, 2) := by decide +kernel
theorem dX11_after_46 : decode cX11_after 46 = .ok (.goto 4, 3) := by decide +kernel
theorem dX11_after_49 : decode cX11_after 49 = .ok (.iload_n 3, 1) := by decide +kernel
theorem dX11_after_50 : decode cX11_after 50 = .ok (.istore_n 3, 1) := by decide +kernel
theorem dX11_after_51 : decode cX11_after 51 = .ok (.iinc 4 (-1), 3) := by decide +kernel
theorem dX11_after_54 : decode cX11_after 54 = .ok (.goto (-42), 3) := by decide +kernel
theorem dX11_after_57 : decode cX11_after 57 = .ok (.iload_n 3, 1) := by decide +kernel
theorem dX11_after_58 : decode cX11_after 58 = .ok (.ireturn, 1) := by decide +kernel
theorem dX11_make_0 : decode cX11_make 0 = .ok (.aload_n 0, 1) := by decide +kernel
theorem dX11_make_1 : decode cX11_make 1 = .ok (.getfield 9, 3) := by decide +kernel
theorem dX11_make_4 : decode cX11_make 4 = .ok (.iload_n 1, 1) := by decide +kernel
theorem dX11_make_5 : decode cX11_make 5 = .ok (.iaload, 1) := by decide +kernel
theorem dX11_make_6 : decode cX11_make 6 = .ok (.istore_n 3, 1) := by decide +kernel
theorem dX11_make_7 : decode cX11_make 7 = .ok (.aload_n 0, 1) := by decide +kernel
theorem dX11_make_8 : decode cX11_make 8 = .ok (.getfield 9, 3) := by decide +kernel
theorem dX11_make_11 : decode cX11_make 11 = .ok (.iload_n 1, 1) := by decide +kernel
theorem dX11_make_12 : decode cX11_make 12 = .ok (.dup2, 1) := by decide +kernel
theorem dX11_make_13 : decode cX11_make 13 = .ok (.iaload, 1) := by decide +kernel
theorem dX11_make_14 : decode cX11_make 14 = .ok (.iconst 1, 1) := by decide +kernel
theorem dX11_make_15 : decode cX11_make 15 = .ok (.iadd, 1) := by decide +kernel
theorem dX11_make_16 : decode cX11_make 16 = .ok (.iastore, 1) := by decide +kernel
theorem dX11_make_17 : decode cX11_make 17 = .ok (.aload_n 0, 1) := by decide +kernel
theorem dX11_make_18 : decode cX11_make 18 = .ok (.getfield 15, 3) := by decide +kernel
theorem dX11_make_21 : decode cX11_make 21 = .ok (.bipush 12, 2) := by decide +kernel
theorem dX11_make_23 : decode cX11_make 23 = .ok (.iload_n 1, 1) := by decide +kernel
theorem dX11_make_24 : decode cX11_make 24 = .ok (.imul, 1) := by decide +kernel
theorem dX11_make_25 : decode cX11_make 25 = .ok (.iload_n 3, 1) := by decide +kernel
theorem dX11_make_26 : decode cX11_make 26 = .ok (.iadd, 1) := by decide +kernel
theorem dX11_make_27 : decode cX11_make 27 = .ok (.iload_n 2, 1) := by decide +kernel
theorem dX11_make_28 : decode cX11_make 28 = .ok (.iastore, 1) := by decide +kernel
theorem dX11_make_29 : decode cX11_make 29 = .ok (.iload_n 3, 1) := by decide +kernel
theorem dX11_make_30 : decode cX11_make 30 = .ok (.ireturn, 1) := by decide +kernel
theorem dX11_member_0 : decode cX11_member 0 = .ok (.aload_n 0, 1) := by decide +kernel
theorem dX11_member_1 : decode cX11_member 1 = .ok (.iload_n 1, 1) := by decide +kernel
theorem dX11_member_2 : decode cX11_member 2 = .ok (.iload_n 2, 1) := by decide +kernel
theorem dX11_member_3 : decode cX11_member 3 = .ok (.invokevirtual 156, 3) := by decide +kernel
theorem dX11_member_6 : decode cX11_member 6 = .ok (.istore 4, 2) := by decide +kernel
theorem dX11_member_8 : decode cX11_member 8 = .ok (.iload 4, 2) := by decide +kernel
theorem dX11_member_10 : decode cX11_member 10 = .ok (.ifCond .eq 27, 3) := by decide +kernel
theorem dX11_member_13 : decode cX11_member 13 = .ok (.aload_n 0, 1) := by decide +kernel
theorem dX11_member_14 : decode cX11_member 14 = .ok (.iload_n 1, 1) := by decide +kernel
theorem dX11_member_15 : decode cX11_member 15 = .ok (.iload_n 2, 1) := by decide +kernel
theorem dX11_member_16 : decode cX11_member 16 = .ok (.invokevirtual 180, 3) := by decide +kernel
theorem dX11_member_19 : decode cX11_member 19 = .ok (.ifCond .eq 14, 3) := by decide +kernel
theorem dX11_member_22 : decode cX11_member 22 = .ok (.aload_n 0, 1) := by decide +kernel
theorem dX11_member_23 : decode cX11_member 23 = .ok (.getfield 9, 3) := by decide +kernel
theorem dX11_member_26 : decode cX11_member 26 = .ok (.iload_n 1, 1) := by decide +kernel
theorem dX11_member_27 : decode cX11_member 27 = .ok (.iaload, 1) := by decide +kernel
theorem dX11_member_28 : decode cX11_member 28 = .ok (.bipush 12, 2) := by decide +kernel
theorem dX11_member_30 : decode cX11_member 30 = .ok (.if_icmp .ne 7, 3) := by decide +kernel
theorem dX11_member_33 : decode cX11_member 33 = .ok (.iconst 1, 1) := by decide +kernel
theorem dX11_member_34 : decode cX11_member 34 = .ok (.goto 4, 3) := by decide +kernel
theorem dX11_member_37 : decode cX11_member 37 = .ok (.iconst 0, 1) := by decide +kernel
theorem dX11_member_38 : decode cX11_member 38 = .ok (.istore 5, 2) := by decide +kernel
theorem dX11_member_40 : decode cX11_member 40 = .ok (.aload_n 0, 1) := by decide +kernel
theorem dX11_member_41 : decode cX11_member 41 = .ok (.iload 4, 2) := by decide +kernel
theorem dX11_member_43 : decode cX11_member 43 = .ok (.ifCond .ne 7, 3) := by decide +kernel
theorem dX11_member_46 : decode cX11_member 46 = .ok (.iconst 1, 1) := by decide +kernel
theorem dX11_member_47 : decode cX11_member 47 = .ok (.goto 30, 3) := by decide +kernel
theorem dX11_member_50 : decode cX11_member 50 = .ok (.aload_n 0, 1) := by decide +kernel
theorem dX11_member_51 : decode cX11_member 51 = .ok (.iload_n 3, 1) := by decide +kernel
theorem dX11_member_52 : decode cX11_member 52 = .ok (.i2l, 1) := by decide +kernel
theorem dX11_member_53 : decode cX11_member 53 = .ok (.ldc2_w 183, 3) := by decide +kernel
theorem dX11_member_56 : decode cX11_member 56 = .ok (.lconst 1, 1) := by decide +kernel
theorem dX11_member_57 : decode cX11_member 57 = .ok (.invokevirtual 145, 3) := by decide +kernel
theorem dX11_member_60 : decode cX11_member 60 = .ok (.ifCond .ne 7, 3) := by decide +kernel
theorem dX11_member_63 : decode cX11_member 63 = .ok (.iconst 2, 1) := by decide +kernel
theorem dX11_member_64 : decode cX11_member 64 = .ok (.goto 13, 3) := by decide +kernel
theorem dX11_member_67 : decode cX11_member 67 = .ok (.iload 5, 2) := by decide +kernel
theorem dX11_member_69 : decode cX11_member 69 = .ok (.ifCond .eq 7, 3) := by decide +kernel
theorem dX11_member_72 : decode cX11_member 72 = .ok (.iconst 3, 1) := by decide +kernel
theorem dX11_member_73 : decode cX11_member 73 = .ok (.goto 4, 3) := by decide +kernel
theorem dX11_member_76 : decode cX11_member 76 = .ok (.iconst 0, 1) := by decide +kernel
theorem dX11_member_77 : decode cX11_member 77 = .ok (.invokevirtual 185, 3) := by decide +kernel
theorem dX11_member_80 : decode cX11_member 80 = .ok (.ifCond .eq 5, 3) := by decide +kernel
theorem dX11_member_83 : decode cX11_member 83 = .ok (.iconst (-1), 1) := by decide +kernel
theorem dX11_member_84 : decode cX11_member 84 = .ok (.ireturn, 1) := by decide +kernel
theorem dX11_member_85 : decode cX11_member 85 = .ok (.aload_n 0, 1) := by decide +kernel
theorem dX11_member_86 : decode cX11_member 86 = .ok (.iload_n 1, 1) := by decide +kernel
theorem dX11_member_87 : decode cX11_member 87 = .ok (.iconst 0, 1) := by decide +kernel
theorem dX11_member_88 : decode cX11_member 88 = .ok (.invokevirtual 188, 3) := by decide +kernel
theorem dX11_member_91 : decode cX11_member 91 = .ok (.istore 6, 2) := by decide +kernel
theorem dX11_member_93 : decode cX11_member 93 = .ok (.aload_n 0, 1) := by decide +kernel
theorem dX11_member_94 : decode cX11_member 94 = .ok (.getfield 18, 3) := by decide +kernel
theorem dX11_member_97 : decode cX11_member 97 = .ok (.bipush 12, 2) := by decide +kernel
theorem dX11_member_99 : decode cX11_member 99 = .ok (.iload_n 1, 1) := by decide +kernel
theorem dX11_member_100 : decode cX11_member 100 = .ok (.imul, 1) := by decide +kernel
theorem dX11_member_101 : decode cX11_member 101 = .ok (.iload 6, 2) := by decide +kernel
theorem dX11_member_103 : decode cX11_member 103 = .ok (.iadd, 1) := by decide +kernel
theorem dX11_member_104 : decode cX11_member 104 = .ok (.iload_n 2, 1) := by decide +kernel
theorem dX11_member_105 : decode cX11_member 105 = .ok (.iastore, 1) := by decide +kernel
theorem dX11_member_106 : decode cX11_member 106 = .ok (.aload_n 0, 1) := by decide +kernel
theorem dX11_member_107 : decode cX11_member 107 = .ok (.getfield 21, 3) := by decide +kernel
theorem dX11_member_110 : decode cX11_member 110 = .ok (.bipush 12, 2) := by decide +kernel
theorem dX11_member_112 : decode cX11_member 112 = .ok (.iload_n 1, 1) := by decide +kernel
theorem dX11_member_113 : decode cX11_member 113 = .ok (.imul, 1) := by decide +kernel
theorem dX11_member_114 : decode cX11_member 114 = .ok (.iload 6, 2) := by decide +kernel
theorem dX11_member_116 : decode cX11_member 116 = .ok (.iadd, 1) := by decide +kernel
theorem dX11_member_117 : decode cX11_member 117 = .ok (.iload_n 3, 1) := by decide +kernel
theorem dX11_member_118 : decode cX11_member 118 = .ok (.iastore, 1) := by decide +kernel
theorem dX11_member_119 : decode cX11_member 119 = .ok (.aload_n 0, 1) := by decide +kernel
theorem dX11_member_120 : decode cX11_member 120 = .ok (.invokevirtual 191, 3) := by decide +kernel
theorem dX11_member_123 : decode cX11_member 123 = .ok (.aload_n 0, 1) := by decide +kernel
theorem dX11_member_124 : decode cX11_member 124 = .ok (.invokevirtual 194, 3) := by decide +kernel
theorem dX11_member_127 : decode cX11_member 127 = .ok (.iload 6, 2) := by decide +kernel
theorem dX11_member_129 : decode cX11_member 129 = .ok (.ireturn, 1) := by decide +kernel
theorem dX11_bridge_0 : decode cX11_bridge 0 = .ok (.aload_n 0, 1) := by decide +kernel
theorem dX11_bridge_1 : decode cX11_bridge 1 = .ok (.iload_n 2, 1) := by decide +kernel
theorem dX11_bridge_2 : decode cX11_bridge 2 = .ok (.i2l, 1) := by decide +kernel
theorem dX11_bridge_3 : decode cX11_bridge 3 = .ok (.lconst 1, 1) := by decide +kernel
theorem dX11_bridge_4 : decode cX11_bridge 4 = .ok (.ldc2_w 197, 3) := by decide +kernel
theorem dX11_bridge_7 : decode cX11_bridge 7 = .ok (.invokevirtual 145, 3) := by decide +kernel
theorem dX11_bridge_10 : decode cX11_bridge 10 = .ok (.istore_n 3, 1) := by decide +kernel
theorem dX11_bridge_11 : decode cX11_bridge 11 = .ok (.aload_n 0, 1) := by decide +kernel
theorem dX11_bridge_12 : decode cX11_bridge 12 = .ok (.iload_n 1, 1) := by decide +kernel
theorem dX11_bridge_13 : decode cX11_bridge 13 = .ok (.invokevirtual 149, 3) := by decide +kernel
theorem dX11_bridge_16 : decode cX11_bridge 16 = .ok (.ifCond .eq 22, 3) := by decide +kernel
theorem dX11_bridge_19 : decode cX11_bridge 19 = .ok (.iload_n 3, 1) := by decide +kernel
theorem dX11_bridge_20 : decode cX11_bridge 20 = .ok (.ifCond .eq 14, 3) := by decide +kernel
theorem dX11_bridge_23 : decode cX11_bridge 23 = .ok (.iload_n 2, 1) := by decide +kernel
theorem dX11_bridge_24 : decode cX11_bridge 24 = .ok (.aload_n 0, 1) := by decide +kernel
theorem dX11_bridge_25 : decode cX11_bridge 25 = .ok (.getfield 9, 3) := by decide +kernel
theorem dX11_bridge_28 : decode cX11_bridge 28 = .ok (.iload_n 1, 1) := by decide +kernel
theorem dX11_bridge_29 : decode cX11_bridge 29 = .ok (.iaload, 1) := by decide +kernel
theorem dX11_bridge_30 : decode cX11_bridge 30 = .ok (.ishr, 1) := by decide +kernel
theorem dX11_bridge_31 : decode cX11_bridge 31 = .ok (.ifCond .ne 7, 3) := by decide +kernel
theorem dX11_bridge_34 : decode cX11_bridge 34 = .ok (.iconst 1, 1) := by decide +kernel
theorem dX11_bridge_35 : decode cX11_bridge 35 = .ok (.goto 4, 3) := by decide +kernel
theorem dX11_bridge_38 : decode cX11_bridge 38 = .ok (.iconst 0, 1) := by decide +kernel
theorem dX11_bridge_39 : decode cX11_bridge 39 = .ok (.istore 4, 2) := by decide +kernel
theorem dX11_bridge_41 : decode cX11_bridge 41 = .ok (.iconst 0, 1) := by decide +kernel
theorem dX11_bridge_42 : decode cX11_bridge 42 = .ok (.istore 5, 2) := by decide +kernel
theorem dX11_bridge_44 : decode cX11_bridge 44 = .ok (.iconst 1, 1) := by decide +kernel
theorem dX11_bridge_45 : decode cX11_bridge 45 = .ok (.istore 6, 2) := by decide +kernel
theorem dX11_bridge_47 : decode cX11_bridge 47 = .ok (.iconst 0, 1) := by decide +kernel
theorem dX11_bridge_48 : decode cX11_bridge 48 = .ok (.istore 7, 2) := by decide +kernel
theorem dX11_bridge_50 : decode cX11_bridge 50 = .ok (.iload 7, 2) := by decide +kernel
theorem dX11_bridge_52 : decode cX11_bridge 52 = .ok (.bipush 12, 2) := by decide +kernel
theorem dX11_bridge_54 : decode cX11_bridge 54 = .ok (.if_icmp .ge 58, 3) := by decide +kernel
theorem dX11_bridge_57 : decode cX11_bridge 57 = .ok (.iload 4, 2) := by decide +kernel
theorem dX11_bridge_59 : decode cX11_bridge 59 = .ok (.ifCond .eq 53, 3) := by decide +kernel
theorem dX11_bridge_62 : decode cX11_bridge 62 = .ok (.iload_n 3, 1) := by decide +kernel
theorem dX11_bridge_63 : decode cX11_bridge 63 = .ok (.ifCond .eq 49, 3) := by decide +kernel
theorem dX11_bridge_66 : decode cX11_bridge 66 = .ok (.iload 5, 2) := by decide +kernel
theorem dX11_bridge_68 : decode cX11_bridge 68 = .ok (.iload_n 2, 1) := by decide +kernel
theorem dX11_bridge_69 : decode cX11_bridge 69 = .ok (.iload 7, 2) := by decide +kernel
theorem dX11_bridge_71 : decode cX11_bridge 71 = .ok (.ishr, 1) := by decide +kernel
theorem dX11_bridge_72 : decode cX11_bridge 72 = .ok (.iconst 1, 1) := by decide +kernel
theorem dX11_bridge_73 : decode cX11_bridge 73 = .ok (.iand, 1) := by decide +kernel
theorem dX11_bridge_74 : decode cX11_bridge 74 = .ok (.iadd, 1) := by decide +kernel
theorem dX11_bridge_75 : decode cX11_bridge 75 = .ok (.istore 5, 2) := by decide +kernel
theorem dX11_bridge_77 : decode cX11_bridge 77 = .ok (.iload 6, 2) := by decide +kernel
theorem dX11_bridge_79 : decode cX11_bridge 79 = .ok (.iload_n 2, 1) := by decide +kernel
theorem dX11_bridge_80 : decode cX11_bridge 80 = .ok (.iload 7, 2) := by decide +kernel
theorem dX11_bridge_82 : decode cX11_bridge 82 = .ok (.ishr, 1) := by decide +kernel
theorem dX11_bridge_83 : decode cX11_bridge 83 = .ok (.iconst 1, 1) := by decide +kernel
theorem dX11_bridge_84 : decode cX11_bridge 84 = .ok (.iand, 1) := by decide +kernel
theorem dX11_bridge_85 : decode cX11_bridge 85 = .ok (.ifCond .eq 13, 3) := by decide +kernel
theorem dX11_bridge_88 : decode cX11_bridge 88 = .ok (.aload_n 0, 1) := by decide +kernel
theorem dX11_bridge_89 : decode cX11_bridge 89 = .ok (.iload_n 1, 1) := by decide +kernel
theorem dX11_bridge_90 : decode cX11_bridge 90 = .ok (.iload 7, 2) := by decide +kernel
theorem dX11_bridge_92 : decode cX11_bridge 92 = .ok (.invokevirtual 180, 3) := by decide +kernel
theorem dX11_bridge_95 : decode cX11_bridge 95 = .ok (.ifCond .eq 7, 3) := by decide +kernel
theorem dX11_bridge_98 : decode cX11_bridge 98 = .ok (.iconst 1, 1) := by decide +kernel
theorem dX11_bridge_99 : decode cX11_bridge 99 = .ok (.goto 4, 3) := by decide +kernel
theorem dX11_bridge_102 : decode cX11_bridge 102 = .ok (.iconst 0, 1) := by decide +kernel
theorem dX11_bridge_103 : decode cX11_bridge 103 = .ok (.iand, 1) := by decide +kernel
theorem dX11_bridge_104 : decode cX11_bridge 104 = .ok (.istore 6, 2) := by decide +kernel
theorem dX11_bridge_106 : decode cX11_bridge 106 = .ok (.iinc 7 1, 3) := by decide +kernel
theorem dX11_bridge_109 : decode cX11_bridge 109 = .ok (.goto (-59), 3) := by decide +kernel
theorem dX11_bridge_112 : decode cX11_bridge 112 = .ok (.aload_n 0, 1) := by decide +kernel
theorem dX11_bridge_113 : decode cX11_bridge 113 = .ok (.iload 4, 2) := by decide +kernel
theorem dX11_bridge_115 : decode cX11_bridge 115 = .ok (.ifCond .ne 7, 3) := by decide +kernel
theorem dX11_bridge_118 : decode cX11_bridge 118 = .ok (.iconst 1, 1) := by decide +kernel
theorem dX11_bridge_119 : decode cX11_bridge 119 = .ok (.goto 38, 3) := by decide +kernel
theorem dX11_bridge_122 : decode cX11_bridge 122 = .ok (.iload_n 3, 1) := by decide +kernel
theorem dX11_bridge_123 : decode cX11_bridge 123 = .ok (.ifCond .ne 7, 3) := by decide +kernel
theorem dX11_bridge_126 : decode cX11_bridge 126 = .ok (.iconst 2, 1) := by decide +kernel
theorem dX11_bridge_127 : decode cX11_bridge 127 = .ok (.goto 30, 3) := by decide +kernel
theorem dX11_bridge_130 : decode cX11_bridge 130 = .ok (.iload 6, 2) := by decide +kernel
theorem dX11_bridge_132 : decode cX11_bridge 132 = .ok (.ifCond .eq 20, 3) := by decide +kernel
theorem dX11_bridge_135 : decode cX11_bridge 135 = .ok (.iload 5, 2) := by decide +kernel
theorem dX11_bridge_137 : decode cX11_bridge 137 = .ok (.iconst 5, 1) := by decide +kernel
theorem dX11_bridge_138 : decode cX11_bridge 138 = .ok (.if_icmp .gt 14, 3) := by decide +kernel
theorem dX11_bridge_141 : decode cX11_bridge 141 = .ok (.aload_n 0, 1) := by decide +kernel
theorem dX11_bridge_142 : decode cX11_bridge 142 = .ok (.getfield 9, 3) := by decide +kernel
theorem dX11_bridge_145 : decode cX11_bridge 145 = .ok (.iload_n 1, 1) := by decide +kernel
theorem dX11_bridge_146 : decode cX11_bridge 146 = .ok (.iaload, 1) := by decide +kernel
theorem dX11_bridge_147 : decode cX11_bridge 147 = .ok (.bipush 12, 2) := by decide +kernel
theorem dX11_bridge_149 : decode cX11_bridge 149 = .ok (.if_icmp .ne 7, 3) := by decide +kernel
theorem dX11_bridge_152 : decode cX11_bridge 152 = .ok (.iconst 3, 1) := by decide +kernel
theorem dX11_bridge_153 : decode cX11_bridge 153 = .ok (.goto 4, 3) := by decide +kernel
theorem dX11_bridge_156 : decode cX11_bridge 156 = .ok (.iconst 0, 1) := by decide +kernel
theorem dX11_bridge_157 : decode cX11_bridge 157 = .ok (.invokevirtual 185, 3) := by decide +kernel
theorem dX11_bridge_160 : decode cX11_bridge 160 = .ok (.ifCond .eq 5, 3) := by decide +kernel
theorem dX11_bridge_163 : decode cX11_bridge 163 = .ok (.iconst (-1), 1) := by decide +kernel
theorem dX11_bridge_164 : decode cX11_bridge 164 = .ok (.ireturn, 1) := by decide +kernel
theorem dX11_bridge_165 : decode cX11_bridge 165 = .ok (.aload_n 0, 1) := by decide +kernel
theorem dX11_bridge_166 : decode cX11_bridge 166 = .ok (.iload_n 1, 1) := by decide +kernel
theorem dX11_bridge_167 : decode cX11_bridge 167 = .ok (.iconst 1, 1) := by decide +kernel
theorem dX11_bridge_168 : decode cX11_bridge 168 = .ok (.invokevirtual 188, 3) := by decide +kernel
theorem dX11_bridge_171 : decode cX11_bridge 171 = .ok (.istore 7, 2) := by decide +kernel
theorem dX11_bridge_173 : decode cX11_bridge 173 = .ok (.aload_n 0, 1) := by decide +kernel
theorem dX11_bridge_174 : decode cX11_bridge 174 = .ok (.getfield 24, 3) := by decide +kernel
theorem dX11_bridge_177 : decode cX11_bridge 177 = .ok (.bipush 12, 2) := by decide +kernel
theorem dX11_bridge_179 : decode cX11_bridge 179 = .ok (.iload_n 1, 1) := by decide +kernel
theorem dX11_bridge_180 : decode cX11_bridge 180 = .ok (.imul, 1) := by decide +kernel
theorem dX11_bridge_181 : decode cX11_bridge 181 = .ok (.iload 7, 2) := by decide +kernel
theorem dX11_bridge_183 : decode cX11_bridge 183 = .ok (.iadd, 1) := by decide +kernel
theorem dX11_bridge_184 : decode cX11_bridge 184 = .ok (.iload_n 2, 1) := by decide +kernel
theorem dX11_bridge_185 : decode cX11_bridge 185 = .ok (.iastore, 1) := by decide +kernel
theorem dX11_bridge_186 : decode cX11_bridge 186 = .ok (.aload_n 0, 1) := by decide +kernel
theorem dX11_bridge_187 : decode cX11_bridge 187 = .ok (.invokevirtual 194, 3) := by decide +kernel
theorem dX11_bridge_190 : decode cX11_bridge 190 = .ok (.iload 7, 2) := by decide +kernel
theorem dX11_bridge_192 : decode cX11_bridge 192 = .ok (.ireturn, 1) := by decide +kernel
theorem dX11_move_0 : decode cX11_move 0 = .ok (.aload_n 0, 1) := by decide +kernel
theorem dX11_move_1 : decode cX11_move 1 = .ok (.iload_n 1, 1) := by decide +kernel
theorem dX11_move_2 : decode cX11_move 2 = .ok (.i2l, 1) := by decide +kernel
theorem dX11_move_3 : decode cX11_move 3 = .ok (.lconst 1, 1) := by decide +kernel
theorem dX11_move_4 : decode cX11_move 4 = .ok (.ldc2_w 143, 3) := by decide +kernel
theorem dX11_move_7 : decode cX11_move 7 = .ok (.invokevirtual 145, 3) := by decide +kernel
theorem dX11_move_10 : decode cX11_move 10 = .ok (.ifCond .eq 39, 3) := by decide +kernel
theorem dX11_move_13 : decode cX11_move 13 = .ok (.aload_n 0, 1) := by decide +kernel
theorem dX11_move_14 : decode cX11_move 14 = .ok (.iload_n 1, 1) := by decide +kernel
theorem dX11_move_15 : decode cX11_move 15 = .ok (.iload_n 2, 1) := by decide +kernel
theorem dX11_move_16 : decode cX11_move 16 = .ok (.invokevirtual 156, 3) := by decide +kernel
theorem dX11_move_19 : decode cX11_move 19 = .ok (.ifCond .eq 30, 3) := by decide +kernel
theorem dX11_move_22 : decode cX11_move 22 = .ok (.iload_n 2, 1) := by decide +kernel
theorem dX11_move_23 : decode cX11_move 23 = .ok (.ifCond .le 26, 3) := by decide +kernel
theorem dX11_move_26 : decode cX11_move 26 = .ok (.aload_n 0, 1) := by decide +kernel
theorem dX11_move_27 : decode cX11_move 27 = .ok (.iload_n 1, 1) := by decide +kernel
theorem dX11_move_28 : decode cX11_move 28 = .ok (.iload_n 3, 1) := by decide +kernel
theorem dX11_move_29 : decode cX11_move 29 = .ok (.invokevirtual 156, 3) := by decide +kernel
theorem dX11_move_32 : decode cX11_move 32 = .ok (.ifCond .eq 17, 3) := by decide +kernel
theorem dX11_move_35 : decode cX11_move 35 = .ok (.aload_n 0, 1) := by decide +kernel
theorem dX11_move_36 : decode cX11_move 36 = .ok (.iconst 0, 1) := by decide +kernel
theorem dX11_move_37 : decode cX11_move 37 = .ok (.iload 4, 2) := by decide +kernel
theorem dX11_move_39 : decode cX11_move 39 = .ok (.invokevirtual 156, 3) := by decide +kernel
theorem dX11_move_42 : decode cX11_move 42 = .ok (.ifCond .eq 7, 3) := by decide +kernel
theorem dX11_move_45 : decode cX11_move 45 = .ok (.iconst 1, 1) := by decide +kernel
theorem dX11_move_46 : decode cX11_move 46 = .ok (.goto 4, 3) := by decide +kernel
theorem dX11_move_49 : decode cX11_move 49 = .ok (.iconst 0, 1) := by decide +kernel
theorem dX11_move_50 : decode cX11_move 50 = .ok (.istore 5, 2) := by decide +kernel
theorem dX11_move_52 : decode cX11_move 52 = .ok (.iload 5, 2) := by decide +kernel
theorem dX11_move_54 : decode cX11_move 54 = .ok (.ifCond .eq 49, 3) := by decide +kernel
theorem dX11_move_57 : decode cX11_move 57 = .ok (.aload_n 0, 1) := by decide +kernel
theorem dX11_move_58 : decode cX11_move 58 = .ok (.iload_n 1, 1) := by decide +kernel
theorem dX11_move_59 : decode cX11_move 59 = .ok (.iload_n 2, 1) := by decide +kernel
theorem dX11_move_60 : decode cX11_move 60 = .ok (.invokevirtual 180, 3) := by decide +kernel
theorem dX11_move_63 : decode cX11_move 63 = .ok (.ifCond .eq 36, 3) := by decide +kernel
theorem dX11_move_66 : decode cX11_move 66 = .ok (.aload_n 0, 1) := by decide +kernel
theorem dX11_move_67 : decode cX11_move 67 = .ok (.iload_n 1, 1) := by decide +kernel
theorem dX11_move_68 : decode cX11_move 68 = .ok (.iload_n 3, 1) := by decide +kernel
theorem dX11_move_69 : decode cX11_move 69 = .ok (.invokevirtual 180, 3) := by decide +kernel
theorem dX11_move_72 : decode cX11_move 72 = .ok (.ifCond .eq 27, 3) := by decide +kernel
theorem dX11_move_75 : decode cX11_move 75 = .ok (.aload_n 0, 1) := by decide +kernel
theorem dX11_move_76 : decode cX11_move 76 = .ok (.iconst 0, 1) := by decide +kernel
theorem dX11_move_77 : decode cX11_move 77 = .ok (.iload 4, 2) := by decide +kernel
theorem dX11_move_79 : decode cX11_move 79 = .ok (.invokevirtual 180, 3) := by decide +kernel
theorem dX11_move_82 : decode cX11_move 82 = .ok (.ifCond .eq 17, 3) := by decide +kernel
theorem dX11_move_85 : decode cX11_move 85 = .ok (.iload_n 3, 1) := by decide +kernel
theorem dX11_move_86 : decode cX11_move 86 = .ok (.iload_n 2, 1) := by decide +kernel
theorem dX11_move_87 : decode cX11_move 87 = .ok (.if_icmp .ge 12, 3) := by decide +kernel
theorem dX11_move_90 : decode cX11_move 90 = .ok (.aload_n 0, 1) := by decide +kernel
theorem dX11_move_91 : decode cX11_move 91 = .ok (.getfield 166, 3) := by decide +kernel
theorem dX11_move_94 : decode cX11_move 94 = .ok (.bipush 10, 2) := by decide +kernel
theorem dX11_move_96 : decode cX11_move 96 = .ok (.if_icmp .ne 7, 3) := by decide +kernel
theorem dX11_move_99 : decode cX11_move 99 = .ok (.iconst 1, 1) := by decide +kernel
theorem dX11_move_100 : decode cX11_move 100 = .ok (.goto 4, 3) := by decide +kernel
theorem dX11_move_103 : decode cX11_move 103 = .ok (.iconst 0, 1) := by decide +kernel
theorem dX11_move_104 : decode cX11_move 104 = .ok (.istore 6, 2) := by decide +kernel
theorem dX11_move_106 : decode cX11_move 106 = .ok (.aload_n 0, 1) := by decide +kernel
theorem dX11_move_107 : decode cX11_move 107 = .ok (.iload 5, 2) := by decide +kernel
theorem dX11_move_109 : decode cX11_move 109 = .ok (.ifCond .ne 7, 3) := by decide +kernel
theorem dX11_move_112 : decode cX11_move 112 = .ok (.iconst 1, 1) := by decide +kernel
theorem dX11_move_113 : decode cX11_move 113 = .ok (.goto 13, 3) := by decide +kernel
theorem dX11_move_116 : decode cX11_move 116 = .ok (.iload 6, 2) := by decide +kernel
theorem dX11_move_118 : decode cX11_move 118 = .ok (.ifCond .eq 7, 3) := by decide +kernel
theorem dX11_move_121 : decode cX11_move 121 = .ok (.iconst 2, 1) := by decide +kernel
theorem dX11_move_122 : decode cX11_move 122 = .ok (.goto 4, 3) := by decide +kernel
theorem dX11_move_125 : decode cX11_move 125 = .ok (.iconst 0, 1) := by decide +kernel
theorem dX11_move_126 : decode cX11_move 126 = .ok (.invokevirtual 185, 3) := by decide +kernel
theorem dX11_move_129 : decode cX11_move 129 = .ok (.ifCond .eq 5, 3) := by decide +kernel
theorem dX11_move_132 : decode cX11_move 132 = .ok (.iconst (-1), 1) := by decide +kernel
theorem dX11_move_133 : decode cX11_move 133 = .ok (.ireturn, 1) := by decide +kernel
theorem dX11_move_134 : decode cX11_move 134 = .ok (.aload_n 0, 1) := by decide +kernel
theorem dX11_move_135 : decode cX11_move 135 = .ok (.iload_n 1, 1) := by decide +kernel
theorem dX11_move_136 : decode cX11_move 136 = .ok (.iload_n 2, 1) := by decide +kernel
theorem dX11_move_137 : decode cX11_move 137 = .ok (.invokevirtual 173, 3) := by decide +kernel
theorem dX11_move_140 : decode cX11_move 140 = .ok (.istore 7, 2) := by decide +kernel
theorem dX11_move_142 : decode cX11_move 142 = .ok (.aload_n 0, 1) := by decide +kernel
theorem dX11_move_143 : decode cX11_move 143 = .ok (.getfield 45, 3) := by decide +kernel
theorem dX11_move_146 : decode cX11_move 146 = .ok (.aload_n 0, 1) := by decide +kernel
theorem dX11_move_147 : decode cX11_move 147 = .ok (.getfield 166, 3) := by decide +kernel
theorem dX11_move_150 : decode cX11_move 150 = .ok (.iload_n 1, 1) := by decide +kernel
theorem dX11_move_151 : decode cX11_move 151 = .ok (.iastore, 1) := by decide +kernel
theorem dX11_move_152 : decode cX11_move 152 = .ok (.aload_n 0, 1) := by decide +kernel
theorem dX11_move_153 : decode cX11_move 153 = .ok (.getfield 48, 3) := by decide +kernel
theorem dX11_move_156 : decode cX11_move 156 = .ok (.aload_n 0, 1) := by decide +kernel
theorem dX11_move_157 : decode cX11_move 157 = .ok (.getfield 166, 3) := by decide +kernel
theorem dX11_move_160 : decode cX11_move 160 = .ok (.iload_n 2, 1) := by decide +kernel
theorem dX11_move_161 : decode cX11_move 161 = .ok (.iastore, 1) := by decide +kernel
theorem dX11_move_162 : decode cX11_move 162 = .ok (.aload_n 0, 1) := by decide +kernel
theorem dX11_move_163 : decode cX11_move 163 = .ok (.getfield 51, 3) := by decide +kernel
theorem dX11_move_166 : decode cX11_move 166 = .ok (.aload_n 0, 1) := by decide +kernel
theorem dX11_move_167 : decode cX11_move 167 = .ok (.getfield 166, 3) := by decide +kernel
theorem dX11_move_170 : decode cX11_move 170 = .ok (.iload_n 3, 1) := by decide +kernel
theorem dX11_move_171 : decode cX11_move 171 = .ok (.iastore, 1) := by decide +kernel
theorem dX11_move_172 : decode cX11_move 172 = .ok (.aload_n 0, 1) := by decide +kernel
theorem dX11_move_173 : decode cX11_move 173 = .ok (.getfield 54, 3) := by decide +kernel
theorem dX11_move_176 : decode cX11_move 176 = .ok (.aload_n 0, 1) := by decide +kernel
theorem dX11_move_177 : decode cX11_move 177 = .ok (.getfield 166, 3) := by decide +kernel
theorem dX11_move_180 : decode cX11_move 180 = .ok (.iload 4, 2) := by decide +kernel
theorem dX11_move_182 : decode cX11_move 182 = .ok (.iastore, 1) := by decide +kernel
theorem dX11_move_183 : decode cX11_move 183 = .ok (.aload_n 0, 1) := by decide +kernel
theorem dX11_move_184 : decode cX11_move 184 = .ok (.dup, 1) := by decide +kernel
theorem dX11_move_185 : decode cX11_move 185 = .ok (.getfield 166, 3) := by decide +kernel
theorem dX11_move_188 : decode cX11_move 188 = .ok (.iconst 1, 1) := by decide +kernel
theorem dX11_move_189 : decode cX11_move 189 = .ok (.iadd, 1) := by decide +kernel
theorem dX11_move_190 : decode cX11_move 190 = .ok (.putfield 166, 3) := by decide +kernel
theorem dX11_move_193 : decode cX11_move 193 = .ok (.aload_n 0, 1) := by decide +kernel
theorem dX11_move_194 : decode cX11_move 194 = .ok (.invokevirtual 194, 3) := by decide +kernel
theorem dX11_move_197 : decode cX11_move 197 = .ok (.iload 7, 2) := by decide +kernel
theorem dX11_move_199 : decode cX11_move 199 = .ok (.ireturn, 1) := by decide +kernel
theorem dX11_asNow_0 : decode cX11_asNow 0 = .ok (.aload_n 0, 1) := by decide +kernel
theorem dX11_asNow_1 : decode cX11_asNow 1 = .ok (.iconst 0, 1) := by decide +kernel
theorem dX11_asNow_2 : decode cX11_asNow 2 = .ok (.invokevirtual 185, 3) := by decide +kernel
theorem dX11_asNow_5 : decode cX11_asNow 5 = .ok (.pop, 1) := by decide +kernel
theorem dX11_asNow_6 : decode cX11_asNow 6 = .ok (.aload_n 0, 1) := by decide +kernel
theorem dX11_asNow_7 : decode cX11_asNow 7 = .ok (.getfield 199, 3) := by decide +kernel
theorem dX11_asNow_10 : decode cX11_asNow 10 = .ok (.istore_n 2, 1) := by decide +kernel
theorem dX11_asNow_11 : decode cX11_asNow 11 = .ok (.aload_n 0, 1) := by decide +kernel
theorem dX11_asNow_12 : decode cX11_asNow 12 = .ok (.iload_n 1, 1) := by decide +kernel
theorem dX11_asNow_13 : decode cX11_asNow 13 = .ok (.putfield 199, 3) := by decide +kernel
theorem dX11_asNow_16 : decode cX11_asNow 16 = .ok (.aload_n 0, 1) := by decide +kernel
theorem dX11_asNow_17 : decode cX11_asNow 17 = .ok (.invokevirtual 194, 3) := by decide +kernel
theorem dX11_asNow_20 : decode cX11_asNow 20 = .ok (.iload_n 2, 1) := by decide +kernel
theorem dX11_asNow_21 : decode cX11_asNow 21 = .ok (.ireturn, 1) := by decide +kernel
theorem dX11_seen_0 : decode cX11_seen 0 = .ok (.aload_n 0, 1) := by decide +kernel
theorem dX11_seen_1 : decode cX11_seen 1 = .ok (.getfield 15, 3) := by decide +kernel
theorem dX11_seen_4 : decode cX11_seen 4 = .ok (.bipush 12, 2) := by decide +kernel
theorem dX11_seen_6 : decode cX11_seen 6 = .ok (.iload_n 1, 1) := by decide +kernel
theorem dX11_seen_7 : decode cX11_seen 7 = .ok (.imul, 1) := by decide +kernel
theorem dX11_seen_8 : decode cX11_seen 8 = .ok (.iload_n 2, 1) := by decide +kernel
theorem dX11_seen_9 : decode cX11_seen 9 = .ok (.iadd, 1) := by decide +kernel
theorem dX11_seen_10 : decode cX11_seen 10 = .ok (.iaload, 1) := by decide +kernel
theorem dX11_seen_11 : decode cX11_seen 11 = .ok (.iconst 2, 1) := by decide +kernel
theorem dX11_seen_12 : decode cX11_seen 12 = .ok (.if_icmp .ne 5, 3) := by decide +kernel
theorem dX11_seen_15 : decode cX11_seen 15 = .ok (.iconst 1, 1) := by decide +kernel
theorem dX11_seen_16 : decode cX11_seen 16 = .ok (.ireturn, 1) := by decide +kernel
theorem dX11_seen_17 : decode cX11_seen 17 = .ok (.iconst 1, 1) := by decide +kernel
theorem dX11_seen_18 : decode cX11_seen 18 = .ok (.istore_n 3, 1) := by decide +kernel
theorem dX11_seen_19 : decode cX11_seen 19 = .ok (.iconst 0, 1) := by decide +kernel
theorem dX11_seen_20 : decode cX11_seen 20 = .ok (.istore 4, 2) := by decide +kernel
theorem dX11_seen_22 : decode cX11_seen 22 = .ok (.iload 4, 2) := by decide +kernel
theorem dX11_seen_24 : decode cX11_seen 24 = .ok (.bipush 12, 2) := by decide +kernel
theorem dX11_seen_26 : decode cX11_seen 26 = .ok (.if_icmp .ge 118, 3) := by decide +kernel
theorem dX11_seen_29 : decode cX11_seen 29 = .ok (.aload_n 0, 1) := by decide +kernel
theorem dX11_seen_30 : decode cX11_seen 30 = .ok (.getfield 15, 3) := by decide +kernel
theorem dX11_seen_33 : decode cX11_seen 33 = .ok (.bipush 12, 2) := by decide +kernel
theorem dX11_seen_35 : decode cX11_seen 35 = .ok (.iload_n 1, 1) := by decide +kernel
theorem dX11_seen_36 : decode cX11_seen 36 = .ok (.imul, 1) := by decide +kernel
theorem dX11_seen_37 : decode cX11_seen 37 = .ok (.iload_n 2, 1) := by decide +kernel
theorem dX11_seen_38 : decode cX11_seen 38 = .ok (.iadd, 1) := by decide +kernel
theorem dX11_seen_39 : decode cX11_seen 39 = .ok (.iaload, 1) := by decide +kernel
theorem dX11_seen_40 : decode cX11_seen 40 = .ok (.iconst 1, 1) := by decide +kernel
theorem dX11_seen_41 : decode cX11_seen 41 = .ok (.if_icmp .ne 31, 3) := by decide +kernel
theorem dX11_seen_44 : decode cX11_seen 44 = .ok (.aload_n 0, 1) := by decide +kernel
theorem dX11_seen_45 : decode cX11_seen 45 = .ok (.getfield 24, 3) := by decide +kernel
theorem dX11_seen_48 : decode cX11_seen 48 = .ok (.bipush 12, 2) := by decide +kernel
theorem dX11_seen_50 : decode cX11_seen 50 = .ok (.iload_n 1, 1) := by decide +kernel
theorem dX11_seen_51 : decode cX11_seen 51 = .ok (.imul, 1) := by decide +kernel
theorem dX11_seen_52 : decode cX11_seen 52 = .ok (.iload_n 2, 1) := by decide +kernel
theorem dX11_seen_53 : decode cX11_seen 53 = .ok (.iadd, 1) := by decide +kernel
theorem dX11_seen_54 : decode cX11_seen 54 = .ok (.iaload, 1) := by decide +kernel
theorem dX11_seen_55 : decode cX11_seen 55 = .ok (.iload 4, 2) := by decide +kernel
theorem dX11_seen_57 : decode cX11_seen 57 = .ok (.ishr, 1) := by decide +kernel
theorem dX11_seen_58 : decode cX11_seen 58 = .ok (.iconst 1, 1) := by decide +kernel
theorem dX11_seen_59 : decode cX11_seen 59 = .ok (.iand, 1) := by decide +kernel
theorem dX11_seen_60 : decode cX11_seen 60 = .ok (.iconst 1, 1) := by decide +kernel
theorem dX11_seen_61 : decode cX11_seen 61 = .ok (.if_icmp .ne 7, 3) := by decide +kernel
theorem dX11_seen_64 : decode cX11_seen 64 = .ok (.iconst 1, 1) := by decide +kernel
theorem dX11_seen_65 : decode cX11_seen 65 = .ok (.goto 18, 3) := by decide +kernel
theorem dX11_seen_68 : decode cX11_seen 68 = .ok (.iconst 0, 1) := by decide +kernel
theorem dX11_seen_69 : decode cX11_seen 69 = .ok (.goto 14, 3) := by decide +kernel
theorem dX11_seen_72 : decode cX11_seen 72 = .ok (.iload 4, 2) := by decide +kernel
theorem dX11_seen_74 : decode cX11_seen 74 = .ok (.iload_n 2, 1) := by decide +kernel
theorem dX11_seen_75 : decode cX11_seen 75 = .ok (.if_icmp .ne 7, 3) := by decide +kernel
theorem dX11_seen_78 : decode cX11_seen 78 = .ok (.iconst 1, 1) := by decide +kernel
theorem dX11_seen_79 : decode cX11_seen 79 = .ok (.goto 4, 3) := by decide +kernel
theorem dX11_seen_82 : decode cX11_seen 82 = .ok (.iconst 0, 1) := by decide +kernel
theorem dX11_seen_83 : decode cX11_seen 83 = .ok (.istore 5, 2) := by decide +kernel
theorem dX11_seen_85 : decode cX11_seen 85 = .ok (.iload 5, 2) := by decide +kernel
theorem dX11_seen_87 : decode cX11_seen 87 = .ok (.ifCond .eq 8, 3) := by decide +kernel
theorem dX11_seen_90 : decode cX11_seen 90 = .ok (.iload 4, 2) := by decide +kernel
theorem dX11_seen_92 : decode cX11_seen 92 = .ok (.goto 4, 3) := by decide +kernel
theorem dX11_seen_95 : decode cX11_seen 95 = .ok (.iconst 0, 1) := by decide +kernel
theorem dX11_seen_96 : decode cX11_seen 96 = .ok (.istore 6, 2) := by decide +kernel
theorem dX11_seen_98 : decode cX11_seen 98 = .ok (.iload 6, 2) := by decide +kernel
theorem dX11_seen_100 : decode cX11_seen 100 = .ok (.ifCond .le 38, 3) := by decide +kernel
theorem dX11_seen_103 : decode cX11_seen 103 = .ok (.iload_n 3, 1) := by decide +kernel
theorem dX11_seen_104 : decode cX11_seen 104 = .ok (.aload_n 0, 1) := by decide +kernel
theorem dX11_seen_105 : decode cX11_seen 105 = .ok (.getfield 30, 3) := by decide +kernel
theorem dX11_seen_108 : decode cX11_seen 108 = .ok (.bipush 12, 2) := by decide +kernel
theorem dX11_seen_110 : decode cX11_seen 110 = .ok (.iload_n 1, 1) := by decide +kernel
theorem dX11_seen_111 : decode cX11_seen 111 = .ok (.imul, 1) := by decide +kernel
theorem dX11_seen_112 : decode cX11_seen 112 = .ok (.iload 6, 2) := by decide +kernel
theorem dX11_seen_114 : decode cX11_seen 114 = .ok (.iadd, 1) := by decide +kernel
theorem dX11_seen_115 : decode cX11_seen 115 = .ok (.iaload, 1) := by decide +kernel
theorem dX11_seen_116 : decode cX11_seen 116 = .ok (.ifCond .ne 7, 3) := by decide +kernel
theorem dX11_seen_119 : decode cX11_seen 119 = .ok (.iconst 1, 1) := by decide +kernel
theorem dX11_seen_120 : decode cX11_seen 120 = .ok (.goto 4, 3) := by decide +kernel
theorem dX11_seen_123 : decode cX11_seen 123 = .ok (.iconst 0, 1) := by decide +kernel
theorem dX11_seen_124 : decode cX11_seen 124 = .ok (.iand, 1) := by decide +kernel
theorem dX11_seen_125 : decode cX11_seen 125 = .ok (.istore_n 3, 1) := by decide +kernel
theorem dX11_seen_126 : decode cX11_seen 126 = .ok (.aload_n 0, 1) := by decide +kernel
theorem dX11_seen_127 : decode cX11_seen 127 = .ok (.iload_n 1, 1) := by decide +kernel
theorem dX11_seen_128 : decode cX11_seen 128 = .ok (.iload 6, 2) := by decide +kernel
theorem dX11_seen_130 : decode cX11_seen 130 = .ok (.invokevirtual 173, 3) := by decide +kernel
theorem dX11_seen_133 : decode cX11_seen 133 = .ok (.istore 6, 2) := by decide +kernel
theorem dX11_seen_135 : decode cX11_seen 135 = .ok (.goto (-37), 3) := by decide +kernel
theorem dX11_seen_138 : decode cX11_seen 138 = .ok (.iinc 4 1, 3) := by decide +kernel
theorem dX11_seen_141 : decode cX11_seen 141 = .ok (.goto (-119), 3) := by decide +kernel
theorem dX11_seen_144 : decode cX11_seen 144 = .ok (.iload_n 3, 1) := by decide +kernel
theorem dX11_seen_145 : decode cX11_seen 145 = .ok (.ireturn, 1) := by decide +kernel
theorem dX11_memberAt_0 : decode cX11_memberAt 0 = .ok (.aload_n 0, 1) := by decide +kernel
theorem dX11_memberAt_1 : decode cX11_memberAt 1 = .ok (.aload_n 0, 1) := by decide +kernel
theorem dX11_memberAt_2 : decode cX11_memberAt 2 = .ok (.iload_n 1, 1) := by decide +kernel
theorem dX11_memberAt_3 : decode cX11_memberAt 3 = .ok (.iload_n 2, 1) := by decide +kernel
theorem dX11_memberAt_4 : decode cX11_memberAt 4 = .ok (.invokevirtual 156, 3) := by decide +kernel
theorem dX11_memberAt_7 : decode cX11_memberAt 7 = .ok (.ifCond .ne 7, 3) := by decide +kernel
theorem dX11_memberAt_10 : decode cX11_memberAt 10 = .ok (.iconst 1, 1) := by decide +kernel
theorem dX11_memberAt_11 : decode cX11_memberAt 11 = .ok (.goto 21, 3) := by decide +kernel
theorem dX11_memberAt_14 : decode cX11_memberAt 14 = .ok (.aload_n 0, 1) := by decide +kernel
theorem dX11_memberAt_15 : decode cX11_memberAt 15 = .ok (.iload_n 3, 1) := by decide +kernel
theorem dX11_memberAt_16 : decode cX11_memberAt 16 = .ok (.i2l, 1) := by decide +kernel
theorem dX11_memberAt_17 : decode cX11_memberAt 17 = .ok (.lconst 0, 1) := by decide +kernel
theorem dX11_memberAt_18 : decode cX11_memberAt 18 = .ok (.ldc2_w 203, 3) := by decide +kernel
theorem dX11_memberAt_21 : decode cX11_memberAt 21 = .ok (.invokevirtual 145, 3) := by decide +kernel
theorem dX11_memberAt_24 : decode cX11_memberAt 24 = .ok (.ifCond .eq 7, 3) := by decide +kernel
theorem dX11_memberAt_27 : decode cX11_memberAt 27 = .ok (.iconst 0, 1) := by decide +kernel
theorem dX11_memberAt_28 : decode cX11_memberAt 28 = .ok (.goto 4, 3) := by decide +kernel
theorem dX11_memberAt_31 : decode cX11_memberAt 31 = .ok (.iconst 2, 1) := by decide +kernel
theorem dX11_memberAt_32 : decode cX11_memberAt 32 = .ok (.invokevirtual 185, 3) := by decide +kernel
