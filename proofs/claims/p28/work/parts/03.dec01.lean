theorem dX7_weight_15 : decode cX7_weight 15 = .ok (.iconst 0, 1) := by decide +kernel
theorem dX7_weight_16 : decode cX7_weight 16 = .ok (.ireturn, 1) := by decide +kernel
theorem dX7_weight_17 : decode cX7_weight 17 = .ok (.iload_n 1, 1) := by decide +kernel
theorem dX7_weight_18 : decode cX7_weight 18 = .ok (.iconst 0, 1) := by decide +kernel
theorem dX7_weight_19 : decode cX7_weight 19 = .ok (.invokestatic 45, 3) := by decide +kernel
theorem dX7_weight_22 : decode cX7_weight 22 = .ok (.istore_n 3, 1) := by decide +kernel
theorem dX7_weight_23 : decode cX7_weight 23 = .ok (.aload_n 0, 1) := by decide +kernel
theorem dX7_weight_24 : decode cX7_weight 24 = .ok (.getfield 75, 3) := by decide +kernel
theorem dX7_weight_27 : decode cX7_weight 27 = .ok (.ifCond .eq 8, 3) := by decide +kernel
theorem dX7_weight_30 : decode cX7_weight 30 = .ok (.bipush 12, 2) := by decide +kernel
theorem dX7_weight_32 : decode cX7_weight 32 = .ok (.goto 4, 3) := by decide +kernel
theorem dX7_weight_35 : decode cX7_weight 35 = .ok (.iload_n 3, 1) := by decide +kernel
theorem dX7_weight_36 : decode cX7_weight 36 = .ok (.istore 4, 2) := by decide +kernel
theorem dX7_weight_38 : decode cX7_weight 38 = .ok (.aload_n 0, 1) := by decide +kernel
theorem dX7_weight_39 : decode cX7_weight 39 = .ok (.getfield 12, 3) := by decide +kernel
theorem dX7_weight_42 : decode cX7_weight 42 = .ok (.iload 4, 2) := by decide +kernel
theorem dX7_weight_44 : decode cX7_weight 44 = .ok (.iload_n 3, 1) := by decide +kernel
theorem dX7_weight_45 : decode cX7_weight 45 = .ok (.iload_n 2, 1) := by decide +kernel
theorem dX7_weight_46 : decode cX7_weight 46 = .ok (.iconst 0, 1) := by decide +kernel
theorem dX7_weight_47 : decode cX7_weight 47 = .ok (.invokestatic 45, 3) := by decide +kernel
theorem dX7_weight_50 : decode cX7_weight 50 = .ok (.invokevirtual 78, 3) := by decide +kernel
theorem dX7_weight_53 : decode cX7_weight 53 = .ok (.istore 5, 2) := by decide +kernel
theorem dX7_weight_55 : decode cX7_weight 55 = .ok (.iload 5, 2) := by decide +kernel
theorem dX7_weight_57 : decode cX7_weight 57 = .ok (.ifCond .eq 27, 3) := by decide +kernel
theorem dX7_weight_60 : decode cX7_weight 60 = .ok (.iload 5, 2) := by decide +kernel
theorem dX7_weight_62 : decode cX7_weight 62 = .ok (.aload_n 0, 1) := by decide +kernel
theorem dX7_weight_63 : decode cX7_weight 63 = .ok (.getfield 18, 3) := by decide +kernel
theorem dX7_weight_66 : decode cX7_weight 66 = .ok (.iload 4, 2) := by decide +kernel
theorem dX7_weight_68 : decode cX7_weight 68 = .ok (.iload_n 1, 1) := by decide +kernel
theorem dX7_weight_69 : decode cX7_weight 69 = .ok (.iconst 1, 1) := by decide +kernel
theorem dX7_weight_70 : decode cX7_weight 70 = .ok (.invokestatic 45, 3) := by decide +kernel
theorem dX7_weight_73 : decode cX7_weight 73 = .ok (.iload_n 2, 1) := by decide +kernel
theorem dX7_weight_74 : decode cX7_weight 74 = .ok (.iconst 1, 1) := by decide +kernel
theorem dX7_weight_75 : decode cX7_weight 75 = .ok (.invokestatic 45, 3) := by decide +kernel
theorem dX7_weight_78 : decode cX7_weight 78 = .ok (.invokevirtual 78, 3) := by decide +kernel
theorem dX7_weight_81 : decode cX7_weight 81 = .ok (.imul, 1) := by decide +kernel
theorem dX7_weight_82 : decode cX7_weight 82 = .ok (.istore 5, 2) := by decide +kernel
theorem dX7_weight_84 : decode cX7_weight 84 = .ok (.iload 5, 2) := by decide +kernel
theorem dX7_weight_86 : decode cX7_weight 86 = .ok (.ifCond .eq 27, 3) := by decide +kernel
theorem dX7_weight_89 : decode cX7_weight 89 = .ok (.iload 5, 2) := by decide +kernel
theorem dX7_weight_91 : decode cX7_weight 91 = .ok (.aload_n 0, 1) := by decide +kernel
theorem dX7_weight_92 : decode cX7_weight 92 = .ok (.getfield 21, 3) := by decide +kernel
theorem dX7_weight_95 : decode cX7_weight 95 = .ok (.iload 4, 2) := by decide +kernel
theorem dX7_weight_97 : decode cX7_weight 97 = .ok (.iload_n 1, 1) := by decide +kernel
theorem dX7_weight_98 : decode cX7_weight 98 = .ok (.iconst 2, 1) := by decide +kernel
theorem dX7_weight_99 : decode cX7_weight 99 = .ok (.invokestatic 45, 3) := by decide +kernel
theorem dX7_weight_102 : decode cX7_weight 102 = .ok (.iload_n 2, 1) := by decide +kernel
theorem dX7_weight_103 : decode cX7_weight 103 = .ok (.iconst 2, 1) := by decide +kernel
theorem dX7_weight_104 : decode cX7_weight 104 = .ok (.invokestatic 45, 3) := by decide +kernel
theorem dX7_weight_107 : decode cX7_weight 107 = .ok (.invokevirtual 78, 3) := by decide +kernel
theorem dX7_weight_110 : decode cX7_weight 110 = .ok (.imul, 1) := by decide +kernel
theorem dX7_weight_111 : decode cX7_weight 111 = .ok (.istore 5, 2) := by decide +kernel
theorem dX7_weight_113 : decode cX7_weight 113 = .ok (.iload 5, 2) := by decide +kernel
theorem dX7_weight_115 : decode cX7_weight 115 = .ok (.ireturn, 1) := by decide +kernel
theorem dX8_init_0 : decode cX8_init 0 = .ok (.aload_n 0, 1) := by decide +kernel
theorem dX8_init_1 : decode cX8_init 1 = .ok (.invokespecial 3, 3) := by decide +kernel
theorem dX8_init_4 : decode cX8_init 4 = .ok (.aload_n 0, 1) := by decide +kernel
theorem dX8_init_5 : decode cX8_init 5 = .ok (.bipush 50, 2) := by decide +kernel
theorem dX8_init_7 : decode cX8_init 7 = .ok (.newarray .long, 2) := by decide +kernel
theorem dX8_init_9 : decode cX8_init 9 = .ok (.putfield 9, 3) := by decide +kernel
theorem dX8_init_12 : decode cX8_init 12 = .ok (.aload_n 0, 1) := by decide +kernel
theorem dX8_init_13 : decode cX8_init 13 = .ok (.bipush 50, 2) := by decide +kernel
theorem dX8_init_15 : decode cX8_init 15 = .ok (.newarray .long, 2) := by decide +kernel
theorem dX8_init_17 : decode cX8_init 17 = .ok (.putfield 15, 3) := by decide +kernel
theorem dX8_init_20 : decode cX8_init 20 = .ok (.aload_n 0, 1) := by decide +kernel
theorem dX8_init_21 : decode cX8_init 21 = .ok (.bipush 50, 2) := by decide +kernel
theorem dX8_init_23 : decode cX8_init 23 = .ok (.newarray .long, 2) := by decide +kernel
theorem dX8_init_25 : decode cX8_init 25 = .ok (.putfield 18, 3) := by decide +kernel
theorem dX8_init_28 : decode cX8_init 28 = .ok (.return_, 1) := by decide +kernel
theorem dX8_start_0 : decode cX8_start 0 = .ok (.aload_n 0, 1) := by decide +kernel
theorem dX8_start_1 : decode cX8_start 1 = .ok (.iload_n 1, 1) := by decide +kernel
theorem dX8_start_2 : decode cX8_start 2 = .ok (.bipush 50, 2) := by decide +kernel
theorem dX8_start_4 : decode cX8_start 4 = .ok (.invokestatic 21, 3) := by decide +kernel
theorem dX8_start_7 : decode cX8_start 7 = .ok (.putfield 27, 3) := by decide +kernel
theorem dX8_start_10 : decode cX8_start 10 = .ok (.aload_n 0, 1) := by decide +kernel
theorem dX8_start_11 : decode cX8_start 11 = .ok (.lload_n 2, 1) := by decide +kernel
theorem dX8_start_12 : decode cX8_start 12 = .ok (.putfield 31, 3) := by decide +kernel
theorem dX8_start_15 : decode cX8_start 15 = .ok (.return_, 1) := by decide +kernel
theorem dX8_own_0 : decode cX8_own 0 = .ok (.iload_n 1, 1) := by decide +kernel
theorem dX8_own_1 : decode cX8_own 1 = .ok (.ifCond .lt 18, 3) := by decide +kernel
theorem dX8_own_4 : decode cX8_own 4 = .ok (.iload_n 1, 1) := by decide +kernel
theorem dX8_own_5 : decode cX8_own 5 = .ok (.aload_n 0, 1) := by decide +kernel
theorem dX8_own_6 : decode cX8_own 6 = .ok (.getfield 27, 3) := by decide +kernel
theorem dX8_own_9 : decode cX8_own 9 = .ok (.if_icmp .ge 10, 3) := by decide +kernel
theorem dX8_own_12 : decode cX8_own 12 = .ok (.aload_n 0, 1) := by decide +kernel
theorem dX8_own_13 : decode cX8_own 13 = .ok (.getfield 9, 3) := by decide +kernel
theorem dX8_own_16 : decode cX8_own 16 = .ok (.iload_n 1, 1) := by decide +kernel
theorem dX8_own_17 : decode cX8_own 17 = .ok (.lload_n 2, 1) := by decide +kernel
theorem dX8_own_18 : decode cX8_own 18 = .ok (.lastore, 1) := by decide +kernel
theorem dX8_own_19 : decode cX8_own 19 = .ok (.return_, 1) := by decide +kernel
theorem dX8_shareAt_0 : decode cX8_shareAt 0 = .ok (.iload_n 1, 1) := by decide +kernel
theorem dX8_shareAt_1 : decode cX8_shareAt 1 = .ok (.ifCond .lt 20, 3) := by decide +kernel
theorem dX8_shareAt_4 : decode cX8_shareAt 4 = .ok (.iload_n 1, 1) := by decide +kernel
theorem dX8_shareAt_5 : decode cX8_shareAt 5 = .ok (.aload_n 0, 1) := by decide +kernel
theorem dX8_shareAt_6 : decode cX8_shareAt 6 = .ok (.getfield 27, 3) := by decide +kernel
theorem dX8_shareAt_9 : decode cX8_shareAt 9 = .ok (.if_icmp .ge 12, 3) := by decide +kernel
theorem dX8_shareAt_12 : decode cX8_shareAt 12 = .ok (.aload_n 0, 1) := by decide +kernel
theorem dX8_shareAt_13 : decode cX8_shareAt 13 = .ok (.getfield 15, 3) := by decide +kernel
theorem dX8_shareAt_16 : decode cX8_shareAt 16 = .ok (.iload_n 1, 1) := by decide +kernel
theorem dX8_shareAt_17 : decode cX8_shareAt 17 = .ok (.laload, 1) := by decide +kernel
theorem dX8_shareAt_18 : decode cX8_shareAt 18 = .ok (.goto 4, 3) := by decide +kernel
theorem dX8_shareAt_21 : decode cX8_shareAt 21 = .ok (.lconst 0, 1) := by decide +kernel
theorem dX8_shareAt_22 : decode cX8_shareAt 22 = .ok (.lreturn, 1) := by decide +kernel
theorem dX8_share_0 : decode cX8_share 0 = .ok (.lconst 0, 1) := by decide +kernel
theorem dX8_share_1 : decode cX8_share 1 = .ok (.lstore_n 2, 1) := by decide +kernel
theorem dX8_share_2 : decode cX8_share 2 = .ok (.iload_n 1, 1) := by decide +kernel
theorem dX8_share_3 : decode cX8_share 3 = .ok (.iconst 1, 1) := by decide +kernel
theorem dX8_share_4 : decode cX8_share 4 = .ok (.if_icmp .ne 7, 3) := by decide +kernel
theorem dX8_share_7 : decode cX8_share 7 = .ok (.iconst 1, 1) := by decide +kernel
theorem dX8_share_8 : decode cX8_share 8 = .ok (.goto 4, 3) := by decide +kernel
theorem dX8_share_11 : decode cX8_share 11 = .ok (.iconst 0, 1) := by decide +kernel
theorem dX8_share_12 : decode cX8_share 12 = .ok (.istore 4, 2) := by decide +kernel
theorem dX8_share_14 : decode cX8_share 14 = .ok (.iconst 0, 1) := by decide +kernel
theorem dX8_share_15 : decode cX8_share 15 = .ok (.istore 5, 2) := by decide +kernel
theorem dX8_share_17 : decode cX8_share 17 = .ok (.iload 5, 2) := by decide +kernel
theorem dX8_share_19 : decode cX8_share 19 = .ok (.aload_n 0, 1) := by decide +kernel
theorem dX8_share_20 : decode cX8_share 20 = .ok (.getfield 27, 3) := by decide +kernel
theorem dX8_share_23 : decode cX8_share 23 = .ok (.if_icmp .ge 43, 3) := by decide +kernel
theorem dX8_share_26 : decode cX8_share 26 = .ok (.lload_n 2, 1) := by decide +kernel
theorem dX8_share_27 : decode cX8_share 27 = .ok (.aload_n 0, 1) := by decide +kernel
theorem dX8_share_28 : decode cX8_share 28 = .ok (.getfield 9, 3) := by decide +kernel
theorem dX8_share_31 : decode cX8_share 31 = .ok (.iload 5, 2) := by decide +kernel
theorem dX8_share_33 : decode cX8_share 33 = .ok (.laload, 1) := by decide +kernel
theorem dX8_share_34 : decode cX8_share 34 = .ok (.ladd, 1) := by decide +kernel
theorem dX8_share_35 : decode cX8_share 35 = .ok (.lstore_n 2, 1) := by decide +kernel
theorem dX8_share_36 : decode cX8_share 36 = .ok (.iload 4, 2) := by decide +kernel
theorem dX8_share_38 : decode cX8_share 38 = .ok (.ifCond .eq 19, 3) := by decide +kernel
theorem dX8_share_41 : decode cX8_share 41 = .ok (.aload_n 0, 1) := by decide +kernel
theorem dX8_share_42 : decode cX8_share 42 = .ok (.getfield 9, 3) := by decide +kernel
theorem dX8_share_45 : decode cX8_share 45 = .ok (.iload 5, 2) := by decide +kernel
theorem dX8_share_47 : decode cX8_share 47 = .ok (.laload, 1) := by decide +kernel
theorem dX8_share_48 : decode cX8_share 48 = .ok (.lconst 0, 1) := by decide +kernel
theorem dX8_share_49 : decode cX8_share 49 = .ok (.lcmp, 1) := by decide +kernel
theorem dX8_share_50 : decode cX8_share 50 = .ok (.ifCond .lt 7, 3) := by decide +kernel
theorem dX8_share_53 : decode cX8_share 53 = .ok (.iconst 1, 1) := by decide +kernel
theorem dX8_share_54 : decode cX8_share 54 = .ok (.goto 4, 3) := by decide +kernel
theorem dX8_share_57 : decode cX8_share 57 = .ok (.iconst 0, 1) := by decide +kernel
theorem dX8_share_58 : decode cX8_share 58 = .ok (.istore 4, 2) := by decide +kernel
theorem dX8_share_60 : decode cX8_share 60 = .ok (.iinc 5 1, 3) := by decide +kernel
theorem dX8_share_63 : decode cX8_share 63 = .ok (.goto (-46), 3) := by decide +kernel
theorem dX8_share_66 : decode cX8_share 66 = .ok (.iload_n 1, 1) := by decide +kernel
theorem dX8_share_67 : decode cX8_share 67 = .ok (.iconst 2, 1) := by decide +kernel
theorem dX8_share_68 : decode cX8_share 68 = .ok (.if_icmp .ne 11, 3) := by decide +kernel
theorem dX8_share_71 : decode cX8_share 71 = .ok (.aload_n 0, 1) := by decide +kernel
theorem dX8_share_72 : decode cX8_share 72 = .ok (.lload_n 2, 1) := by decide +kernel
theorem dX8_share_73 : decode cX8_share 73 = .ok (.invokevirtual 35, 3) := by decide +kernel
theorem dX8_share_76 : decode cX8_share 76 = .ok (.goto 26, 3) := by decide +kernel
theorem dX8_share_79 : decode cX8_share 79 = .ok (.iload 4, 2) := by decide +kernel
theorem dX8_share_81 : decode cX8_share 81 = .ok (.ifCond .eq 17, 3) := by decide +kernel
theorem dX8_share_84 : decode cX8_share 84 = .ok (.lload_n 2, 1) := by decide +kernel
theorem dX8_share_85 : decode cX8_share 85 = .ok (.lconst 0, 1) := by decide +kernel
theorem dX8_share_86 : decode cX8_share 86 = .ok (.lcmp, 1) := by decide +kernel
theorem dX8_share_87 : decode cX8_share 87 = .ok (.ifCond .le 11, 3) := by decide +kernel
theorem dX8_share_90 : decode cX8_share 90 = .ok (.aload_n 0, 1) := by decide +kernel
theorem dX8_share_91 : decode cX8_share 91 = .ok (.lload_n 2, 1) := by decide +kernel
theorem dX8_share_92 : decode cX8_share 92 = .ok (.invokevirtual 39, 3) := by decide +kernel
theorem dX8_share_95 : decode cX8_share 95 = .ok (.goto 7, 3) := by decide +kernel
theorem dX8_share_98 : decode cX8_share 98 = .ok (.aload_n 0, 1) := by decide +kernel
theorem dX8_share_99 : decode cX8_share 99 = .ok (.invokevirtual 42, 3) := by decide +kernel
theorem dX8_share_102 : decode cX8_share 102 = .ok (.return_, 1) := by decide +kernel
theorem dX8_equally_0 : decode cX8_equally 0 = .ok (.aload_n 0, 1) := by decide +kernel
theorem dX8_equally_1 : decode cX8_equally 1 = .ok (.getfield 27, 3) := by decide +kernel
theorem dX8_equally_4 : decode cX8_equally 4 = .ok (.ifCond .gt 4, 3) := by decide +kernel
theorem dX8_equally_7 : decode cX8_equally 7 = .ok (.return_, 1) := by decide +kernel
theorem dX8_equally_8 : decode cX8_equally 8 = .ok (.iconst 0, 1) := by decide +kernel
theorem dX8_equally_9 : decode cX8_equally 9 = .ok (.istore_n 1, 1) := by decide +kernel
theorem dX8_equally_10 : decode cX8_equally 10 = .ok (.iload_n 1, 1) := by decide +kernel
theorem dX8_equally_11 : decode cX8_equally 11 = .ok (.aload_n 0, 1) := by decide +kernel
theorem dX8_equally_12 : decode cX8_equally 12 = .ok (.getfield 27, 3) := by decide +kernel
theorem dX8_equally_15 : decode cX8_equally 15 = .ok (.if_icmp .ge 48, 3) := by decide +kernel
theorem dX8_equally_18 : decode cX8_equally 18 = .ok (.aload_n 0, 1) := by decide +kernel
theorem dX8_equally_19 : decode cX8_equally 19 = .ok (.getfield 15, 3) := by decide +kernel
theorem dX8_equally_22 : decode cX8_equally 22 = .ok (.iload_n 1, 1) := by decide +kernel
theorem dX8_equally_23 : decode cX8_equally 23 = .ok (.aload_n 0, 1) := by decide +kernel
theorem dX8_equally_24 : decode cX8_equally 24 = .ok (.getfield 31, 3) := by decide +kernel
theorem dX8_equally_27 : decode cX8_equally 27 = .ok (.aload_n 0, 1) := by decide +kernel
theorem dX8_equally_28 : decode cX8_equally 28 = .ok (.getfield 27, 3) := by decide +kernel
theorem dX8_equally_31 : decode cX8_equally 31 = .ok (.i2l, 1) := by decide +kernel
theorem dX8_equally_32 : decode cX8_equally 32 = .ok (.ldiv, 1) := by decide +kernel
theorem dX8_equally_33 : decode cX8_equally 33 = .ok (.iload_n 1, 1) := by decide +kernel
theorem dX8_equally_34 : decode cX8_equally 34 = .ok (.i2l, 1) := by decide +kernel
theorem dX8_equally_35 : decode cX8_equally 35 = .ok (.aload_n 0, 1) := by decide +kernel
theorem dX8_equally_36 : decode cX8_equally 36 = .ok (.getfield 31, 3) := by decide +kernel
theorem dX8_equally_39 : decode cX8_equally 39 = .ok (.aload_n 0, 1) := by decide +kernel
theorem dX8_equally_40 : decode cX8_equally 40 = .ok (.getfield 27, 3) := by decide +kernel
theorem dX8_equally_43 : decode cX8_equally 43 = .ok (.i2l, 1) := by decide +kernel
theorem dX8_equally_44 : decode cX8_equally 44 = .ok (.lrem, 1) := by decide +kernel
theorem dX8_equally_45 : decode cX8_equally 45 = .ok (.lcmp, 1) := by decide +kernel
theorem dX8_equally_46 : decode cX8_equally 46 = .ok (.ifCond .ge 7, 3) := by decide +kernel
theorem dX8_equally_49 : decode cX8_equally 49 = .ok (.iconst 1, 1) := by decide +kernel
theorem dX8_equally_50 : decode cX8_equally 50 = .ok (.goto 4, 3) := by decide +kernel
theorem dX8_equally_53 : decode cX8_equally 53 = .ok (.iconst 0, 1) := by decide +kernel
theorem dX8_equally_54 : decode cX8_equally 54 = .ok (.i2l, 1) := by decide +kernel
theorem dX8_equally_55 : decode cX8_equally 55 = .ok (.ladd, 1) := by decide +kernel
theorem dX8_equally_56 : decode cX8_equally 56 = .ok (.lastore, 1) := by decide +kernel
theorem dX8_equally_57 : decode cX8_equally 57 = .ok (.iinc 1 1, 3) := by decide +kernel
theorem dX8_equally_60 : decode cX8_equally 60 = .ok (.goto (-50), 3) := by decide +kernel
theorem dX8_equally_63 : decode cX8_equally 63 = .ok (.return_, 1) := by decide +kernel
theorem dX8_leaveRest_0 : decode cX8_leaveRest 0 = .ok (.iconst 0, 1) := by decide +kernel
theorem dX8_leaveRest_1 : decode cX8_leaveRest 1 = .ok (.istore_n 3, 1) := by decide +kernel
theorem dX8_leaveRest_2 : decode cX8_leaveRest 2 = .ok (.iload_n 3, 1) := by decide +kernel
theorem dX8_leaveRest_3 : decode cX8_leaveRest 3 = .ok (.aload_n 0, 1) := by decide +kernel
theorem dX8_leaveRest_4 : decode cX8_leaveRest 4 = .ok (.getfield 27, 3) := by decide +kernel
theorem dX8_leaveRest_7 : decode cX8_leaveRest 7 = .ok (.if_icmp .ge 41, 3) := by decide +kernel
theorem dX8_leaveRest_10 : decode cX8_leaveRest 10 = .ok (.aload_n 0, 1) := by decide +kernel
theorem dX8_leaveRest_11 : decode cX8_leaveRest 11 = .ok (.getfield 15, 3) := by decide +kernel
theorem dX8_leaveRest_14 : decode cX8_leaveRest 14 = .ok (.iload_n 3, 1) := by decide +kernel
theorem dX8_leaveRest_15 : decode cX8_leaveRest 15 = .ok (.iload_n 3, 1) := by decide +kernel
theorem dX8_leaveRest_16 : decode cX8_leaveRest 16 = .ok (.ifCond .ne 19, 3) := by decide +kernel
theorem dX8_leaveRest_19 : decode cX8_leaveRest 19 = .ok (.aload_n 0, 1) := by decide +kernel
theorem dX8_leaveRest_20 : decode cX8_leaveRest 20 = .ok (.getfield 31, 3) := by decide +kernel
theorem dX8_leaveRest_23 : decode cX8_leaveRest 23 = .ok (.lload_n 1, 1) := by decide +kernel
theorem dX8_leaveRest_24 : decode cX8_leaveRest 24 = .ok (.aload_n 0, 1) := by decide +kernel
theorem dX8_leaveRest_25 : decode cX8_leaveRest 25 = .ok (.getfield 9, 3) := by decide +kernel
theorem dX8_leaveRest_28 : decode cX8_leaveRest 28 = .ok (.iconst 0, 1) := by decide +kernel
theorem dX8_leaveRest_29 : decode cX8_leaveRest 29 = .ok (.laload, 1) := by decide +kernel
theorem dX8_leaveRest_30 : decode cX8_leaveRest 30 = .ok (.lsub, 1) := by decide +kernel
theorem dX8_leaveRest_31 : decode cX8_leaveRest 31 = .ok (.lsub, 1) := by decide +kernel
theorem dX8_leaveRest_32 : decode cX8_leaveRest 32 = .ok (.goto 9, 3) := by decide +kernel
theorem dX8_leaveRest_35 : decode cX8_leaveRest 35 = .ok (.aload_n 0, 1) := by decide +kernel
theorem dX8_leaveRest_36 : decode cX8_leaveRest 36 = .ok (.getfield 9, 3) := by decide +kernel
theorem dX8_leaveRest_39 : decode cX8_leaveRest 39 = .ok (.iload_n 3, 1) := by decide +kernel
theorem dX8_leaveRest_40 : decode cX8_leaveRest 40 = .ok (.laload, 1) := by decide +kernel
theorem dX8_leaveRest_41 : decode cX8_leaveRest 41 = .ok (.lastore, 1) := by decide +kernel
theorem dX8_leaveRest_42 : decode cX8_leaveRest 42 = .ok (.iinc 3 1, 3) := by decide +kernel
theorem dX8_leaveRest_45 : decode cX8_leaveRest 45 = .ok (.goto (-43), 3) := by decide +kernel
theorem dX8_leaveRest_48 : decode cX8_leaveRest 48 = .ok (.return_, 1) := by decide +kernel
theorem dX8_byWeights_0 : decode cX8_byWeights 0 = .ok (.lload_n 1, 1) := by decide +kernel
theorem dX8_byWeights_1 : decode cX8_byWeights 1 = .ok (.lconst 0, 1) := by decide +kernel
theorem dX8_byWeights_2 : decode cX8_byWeights 2 = .ok (.lcmp, 1) := by decide +kernel
theorem dX8_byWeights_3 : decode cX8_byWeights 3 = .ok (.ifCond .gt 4, 3) := by decide +kernel
theorem dX8_byWeights_6 : decode cX8_byWeights 6 = .ok (.return_, 1) := by decide +kernel
theorem dX8_byWeights_7 : decode cX8_byWeights 7 = .ok (.aload_n 0, 1) := by decide +kernel
theorem dX8_byWeights_8 : decode cX8_byWeights 8 = .ok (.getfield 31, 3) := by decide +kernel
theorem dX8_byWeights_11 : decode cX8_byWeights 11 = .ok (.lstore_n 3, 1) := by decide +kernel
theorem dX8_byWeights_12 : decode cX8_byWeights 12 = .ok (.iconst 0, 1) := by decide +kernel
theorem dX8_byWeights_13 : decode cX8_byWeights 13 = .ok (.istore 5, 2) := by decide +kernel
theorem dX8_byWeights_15 : decode cX8_byWeights 15 = .ok (.iload 5, 2) := by decide +kernel
theorem dX8_byWeights_17 : decode cX8_byWeights 17 = .ok (.aload_n 0, 1) := by decide +kernel
theorem dX8_byWeights_18 : decode cX8_byWeights 18 = .ok (.getfield 27, 3) := by decide +kernel
theorem dX8_byWeights_21 : decode cX8_byWeights 21 = .ok (.if_icmp .ge 61, 3) := by decide +kernel
theorem dX8_byWeights_24 : decode cX8_byWeights 24 = .ok (.aload_n 0, 1) := by decide +kernel
theorem dX8_byWeights_25 : decode cX8_byWeights 25 = .ok (.getfield 15, 3) := by decide +kernel
theorem dX8_byWeights_28 : decode cX8_byWeights 28 = .ok (.iload 5, 2) := by decide +kernel
theorem dX8_byWeights_30 : decode cX8_byWeights 30 = .ok (.aload_n 0, 1) := by decide +kernel
theorem dX8_byWeights_31 : decode cX8_byWeights 31 = .ok (.getfield 31, 3) := by decide +kernel
theorem dX8_byWeights_34 : decode cX8_byWeights 34 = .ok (.aload_n 0, 1) := by decide +kernel
theorem dX8_byWeights_35 : decode cX8_byWeights 35 = .ok (.getfield 9, 3) := by decide +kernel
theorem dX8_byWeights_38 : decode cX8_byWeights 38 = .ok (.iload 5, 2) := by decide +kernel
theorem dX8_byWeights_40 : decode cX8_byWeights 40 = .ok (.laload, 1) := by decide +kernel
theorem dX8_byWeights_41 : decode cX8_byWeights 41 = .ok (.lmul, 1) := by decide +kernel
theorem dX8_byWeights_42 : decode cX8_byWeights 42 = .ok (.lload_n 1, 1) := by decide +kernel
theorem dX8_byWeights_43 : decode cX8_byWeights 43 = .ok (.ldiv, 1) := by decide +kernel
theorem dX8_byWeights_44 : decode cX8_byWeights 44 = .ok (.lastore, 1) := by decide +kernel
theorem dX8_byWeights_45 : decode cX8_byWeights 45 = .ok (.aload_n 0, 1) := by decide +kernel
theorem dX8_byWeights_46 : decode cX8_byWeights 46 = .ok (.getfield 18, 3) := by decide +kernel
theorem dX8_byWeights_49 : decode cX8_byWeights 49 = .ok (.iload 5, 2) := by decide +kernel
theorem dX8_byWeights_51 : decode cX8_byWeights 51 = .ok (.aload_n 0, 1) := by decide +kernel
theorem dX8_byWeights_52 : decode cX8_byWeights 52 = .ok (.getfield 31, 3) := by decide +kernel
theorem dX8_byWeights_55 : decode cX8_byWeights 55 = .ok (.aload_n 0, 1) := by decide +kernel
theorem dX8_byWeights_56 : decode cX8_byWeights 56 = .ok (.getfield 9, 3) := by decide +kernel
theorem dX8_byWeights_59 : decode cX8_byWeights 59 = .ok (.iload 5, 2) := by decide +kernel
theorem dX8_byWeights_61 : decode cX8_byWeights 61 = .ok (.laload, 1) := by decide +kernel
theorem dX8_byWeights_62 : decode cX8_byWeights 62 = .ok (.lmul, 1) := by decide +kernel
theorem dX8_byWeights_63 : decode cX8_byWeights 63 = .ok (.lload_n 1, 1) := by decide +kernel
theorem dX8_byWeights_64 : decode cX8_byWeights 64 = .ok (.lrem, 1) := by decide +kernel
theorem dX8_byWeights_65 : decode cX8_byWeights 65 = .ok (.lastore, 1) := by decide +kernel
theorem dX8_byWeights_66 : decode cX8_byWeights 66 = .ok (.lload_n 3, 1) := by decide +kernel
theorem dX8_byWeights_67 : decode cX8_byWeights 67 = .ok (.aload_n 0, 1) := by decide +kernel
theorem dX8_byWeights_68 : decode cX8_byWeights 68 = .ok (.getfield 15, 3) := by decide +kernel
theorem dX8_byWeights_71 : decode cX8_byWeights 71 = .ok (.iload 5, 2) := by decide +kernel
theorem dX8_byWeights_73 : decode cX8_byWeights 73 = .ok (.laload, 1) := by decide +kernel
theorem dX8_byWeights_74 : decode cX8_byWeights 74 = .ok (.lsub, 1) := by decide +kernel
theorem dX8_byWeights_75 : decode cX8_byWeights 75 = .ok (.lstore_n 3, 1) := by decide +kernel
theorem dX8_byWeights_76 : decode cX8_byWeights 76 = .ok (.iinc 5 1, 3) := by decide +kernel
theorem dX8_byWeights_79 : decode cX8_byWeights 79 = .ok (.goto (-64), 3) := by decide +kernel
theorem dX8_byWeights_82 : decode cX8_byWeights 82 = .ok (.iconst 0, 1) := by decide +kernel
theorem dX8_byWeights_83 : decode cX8_byWeights 83 = .ok (.istore 5, 2) := by decide +kernel
theorem dX8_byWeights_85 : decode cX8_byWeights 85 = .ok (.iload 5, 2) := by decide +kernel
theorem dX8_byWeights_87 : decode cX8_byWeights 87 = .ok (.i2l, 1) := by decide +kernel
theorem dX8_byWeights_88 : decode cX8_byWeights 88 = .ok (.lload_n 3, 1) := by decide +kernel
theorem dX8_byWeights_89 : decode cX8_byWeights 89 = .ok (.lcmp, 1) := by decide +kernel
theorem dX8_byWeights_90 : decode cX8_byWeights 90 = .ok (.ifCond .ge 45, 3) := by decide +kernel
theorem dX8_byWeights_93 : decode cX8_byWeights 93 = .ok (.iload 5, 2) := by decide +kernel
theorem dX8_byWeights_95 : decode cX8_byWeights 95 = .ok (.aload_n 0, 1) := by decide +kernel
theorem dX8_byWeights_96 : decode cX8_byWeights 96 = .ok (.getfield 27, 3) := by decide +kernel
theorem dX8_byWeights_99 : decode cX8_byWeights 99 = .ok (.if_icmp .ge 36, 3) := by decide +kernel
theorem dX8_byWeights_102 : decode cX8_byWeights 102 = .ok (.aload_n 0, 1) := by decide +kernel
theorem dX8_byWeights_103 : decode cX8_byWeights 103 = .ok (.invokevirtual 45, 3) := by decide +kernel
theorem dX8_byWeights_106 : decode cX8_byWeights 106 = .ok (.istore 6, 2) := by decide +kernel
theorem dX8_byWeights_108 : decode cX8_byWeights 108 = .ok (.aload_n 0, 1) := by decide +kernel
theorem dX8_byWeights_109 : decode cX8_byWeights 109 = .ok (.getfield 15, 3) := by decide +kernel
theorem dX8_byWeights_112 : decode cX8_byWeights 112 = .ok (.iload 6, 2) := by decide +kernel
theorem dX8_byWeights_114 : decode cX8_byWeights 114 = .ok (.dup2, 1) := by decide +kernel
theorem dX8_byWeights_115 : decode cX8_byWeights 115 = .ok (.laload, 1) := by decide +kernel
theorem dX8_byWeights_116 : decode cX8_byWeights 116 = .ok (.lconst 1, 1) := by decide +kernel
theorem dX8_byWeights_117 : decode cX8_byWeights 117 = .ok (.ladd, 1) := by decide +kernel
theorem dX8_byWeights_118 : decode cX8_byWeights 118 = .ok (.lastore, 1) := by decide +kernel
theorem dX8_byWeights_119 : decode cX8_byWeights 119 = .ok (.aload_n 0, 1) := by decide +kernel
theorem dX8_byWeights_120 : decode cX8_byWeights 120 = .ok (.getfield 18, 3) := by decide +kernel
theorem dX8_byWeights_123 : decode cX8_byWeights 123 = .ok (.iload 6, 2) := by decide +kernel
theorem dX8_byWeights_125 : decode cX8_byWeights 125 = .ok (.ldc2_w 49, 3) := by decide +kernel
theorem dX8_byWeights_128 : decode cX8_byWeights 128 = .ok (.lastore, 1) := by decide +kernel
theorem dX8_byWeights_129 : decode cX8_byWeights 129 = .ok (.iinc 5 1, 3) := by decide +kernel
theorem dX8_byWeights_132 : decode cX8_byWeights 132 = .ok (.goto (-47), 3) := by decide +kernel
theorem dX8_byWeights_135 : decode cX8_byWeights 135 = .ok (.return_, 1) := by decide +kernel
theorem dX8_greatestRemainder_0 : decode cX8_greatestRemainder 0 = .ok (.iconst 0, 1) := by decide +kernel
theorem dX8_greatestRemainder_1 : decode cX8_greatestRemainder 1 = .ok (.istore_n 1, 1) := by decide +kernel
theorem dX8_greatestRemainder_2 : decode cX8_greatestRemainder 2 = .ok (.iconst 1, 1) := by decide +kernel
theorem dX8_greatestRemainder_3 : decode cX8_greatestRemainder 3 = .ok (.istore_n 2, 1) := by decide +kernel
theorem dX8_greatestRemainder_4 : decode cX8_greatestRemainder 4 = .ok (.iload_n 2, 1) := by decide +kernel
theorem dX8_greatestRemainder_5 : decode cX8_greatestRemainder 5 = .ok (.aload_n 0, 1) := by decide +kernel
theorem dX8_greatestRemainder_6 : decode cX8_greatestRemainder 6 = .ok (.getfield 27, 3) := by decide +kernel
theorem dX8_greatestRemainder_9 : decode cX8_greatestRemainder 9 = .ok (.if_icmp .ge 27, 3) := by decide +kernel
theorem dX8_greatestRemainder_12 : decode cX8_greatestRemainder 12 = .ok (.aload_n 0, 1) := by decide +kernel
theorem dX8_greatestRemainder_13 : decode cX8_greatestRemainder 13 = .ok (.getfield 18, 3) := by decide +kernel
theorem dX8_greatestRemainder_16 : decode cX8_greatestRemainder 16 = .ok (.iload_n 2, 1) := by decide +kernel
theorem dX8_greatestRemainder_17 : decode cX8_greatestRemainder 17 = .ok (.laload, 1) := by decide +kernel
theorem dX8_greatestRemainder_18 : decode cX8_greatestRemainder 18 = .ok (.aload_n 0, 1) := by decide +kernel
theorem dX8_greatestRemainder_19 : decode cX8_greatestRemainder 19 = .ok (.getfield 18, 3) := by decide +kernel
theorem dX8_greatestRemainder_22 : decode cX8_greatestRemainder 22 = .ok (.iload_n 1, 1) := by decide +kernel
theorem dX8_greatestRemainder_23 : decode cX8_greatestRemainder 23 = .ok (.laload, 1) := by decide +kernel
theorem dX8_greatestRemainder_24 : decode cX8_greatestRemainder 24 = .ok (.lcmp, 1) := by decide +kernel
theorem dX8_greatestRemainder_25 : decode cX8_greatestRemainder 25 = .ok (.ifCond .le 5, 3) := by decide +kernel
theorem dX8_greatestRemainder_28 : decode cX8_greatestRemainder 28 = .ok (.iload_n 2, 1) := by decide +kernel
theorem dX8_greatestRemainder_29 : decode cX8_greatestRemainder 29 = .ok (.istore_n 1, 1) := by decide +kernel
theorem dX8_greatestRemainder_30 : decode cX8_greatestRemainder 30 = .ok (.iinc 2 1, 3) := by decide +kernel
theorem dX8_greatestRemainder_33 : decode cX8_greatestRemainder 33 = .ok (.goto (-29), 3) := by decide +kernel
theorem dX8_greatestRemainder_36 : decode cX8_greatestRemainder 36 = .ok (.iload_n 1, 1) := by decide +kernel
theorem dX8_greatestRemainder_37 : decode cX8_greatestRemainder 37 = .ok (.ireturn, 1) := by decide +kernel
theorem dX8_inRange_0 : decode cX8_inRange 0 = .ok (.iconst 0, 1) := by decide +kernel
theorem dX8_inRange_1 : decode cX8_inRange 1 = .ok (.istore_n 1, 1) := by decide +kernel
theorem dX8_inRange_2 : decode cX8_inRange 2 = .ok (.iload_n 1, 1) := by decide +kernel
theorem dX8_inRange_3 : decode cX8_inRange 3 = .ok (.aload_n 0, 1) := by decide +kernel
theorem dX8_inRange_4 : decode cX8_inRange 4 = .ok (.getfield 27, 3) := by decide +kernel
theorem dX8_inRange_7 : decode cX8_inRange 7 = .ok (.if_icmp .ge 37, 3) := by decide +kernel
theorem dX8_inRange_10 : decode cX8_inRange 10 = .ok (.aload_n 0, 1) := by decide +kernel
theorem dX8_inRange_11 : decode cX8_inRange 11 = .ok (.getfield 15, 3) := by decide +kernel
theorem dX8_inRange_14 : decode cX8_inRange 14 = .ok (.iload_n 1, 1) := by decide +kernel
theorem dX8_inRange_15 : decode cX8_inRange 15 = .ok (.laload, 1) := by decide +kernel
theorem dX8_inRange_16 : decode cX8_inRange 16 = .ok (.ldc2_w 51, 3) := by decide +kernel
theorem dX8_inRange_19 : decode cX8_inRange 19 = .ok (.lcmp, 1) := by decide +kernel
theorem dX8_inRange_20 : decode cX8_inRange 20 = .ok (.ifCond .lt 16, 3) := by decide +kernel
theorem dX8_inRange_23 : decode cX8_inRange 23 = .ok (.aload_n 0, 1) := by decide +kernel
theorem dX8_inRange_24 : decode cX8_inRange 24 = .ok (.getfield 15, 3) := by decide +kernel
theorem dX8_inRange_27 : decode cX8_inRange 27 = .ok (.iload_n 1, 1) := by decide +kernel
theorem dX8_inRange_28 : decode cX8_inRange 28 = .ok (.laload, 1) := by decide +kernel
theorem dX8_inRange_29 : decode cX8_inRange 29 = .ok (.ldc2_w 53, 3) := by decide +kernel
theorem dX8_inRange_32 : decode cX8_inRange 32 = .ok (.lcmp, 1) := by decide +kernel
theorem dX8_inRange_33 : decode cX8_inRange 33 = .ok (.ifCond .le 5, 3) := by decide +kernel
theorem dX8_inRange_36 : decode cX8_inRange 36 = .ok (.iconst 0, 1) := by decide +kernel
theorem dX8_inRange_37 : decode cX8_inRange 37 = .ok (.ireturn, 1) := by decide +kernel
theorem dX8_inRange_38 : decode cX8_inRange 38 = .ok (.iinc 1 1, 3) := by decide +kernel
theorem dX8_inRange_41 : decode cX8_inRange 41 = .ok (.goto (-39), 3) := by decide +kernel
theorem dX8_inRange_44 : decode cX8_inRange 44 = .ok (.iconst 1, 1) := by decide +kernel
theorem dX8_inRange_45 : decode cX8_inRange 45 = .ok (.ireturn, 1) := by decide +kernel
theorem dX9_init_0 : decode cX9_init 0 = .ok (.aload_n 0, 1) := by decide +kernel
theorem dX9_init_1 : decode cX9_init 1 = .ok (.invokespecial 3, 3) := by decide +kernel
theorem dX9_init_4 : decode cX9_init 4 = .ok (.aload_n 0, 1) := by decide +kernel
theorem dX9_init_5 : decode cX9_init 5 = .ok (.iconst 1, 1) := by decide +kernel
theorem dX9_init_6 : decode cX9_init 6 = .ok (.putfield 9, 3) := by decide +kernel
theorem dX9_init_9 : decode cX9_init 9 = .ok (.aload_n 0, 1) := by decide +kernel
theorem dX9_init_10 : decode cX9_init 10 = .ok (.bipush 12, 2) := by decide +kernel
theorem dX9_init_12 : decode cX9_init 12 = .ok (.newarray .int, 2) := by decide +kernel
theorem dX9_init_14 : decode cX9_init 14 = .ok (.putfield 15, 3) := by decide +kernel
theorem dX9_init_17 : decode cX9_init 17 = .ok (.aload_n 0, 1) := by decide +kernel
theorem dX9_init_18 : decode cX9_init 18 = .ok (.bipush 12, 2) := by decide +kernel
theorem dX9_init_20 : decode cX9_init 20 = .ok (.newarray .int, 2) := by decide +kernel
theorem dX9_init_22 : decode cX9_init 22 = .ok (.putfield 19, 3) := by decide +kernel
theorem dX9_init_25 : decode cX9_init 25 = .ok (.aload_n 0, 1) := by decide +kernel
theorem dX9_init_26 : decode cX9_init 26 = .ok (.getfield 19, 3) := by decide +kernel
theorem dX9_init_29 : decode cX9_init 29 = .ok (.iconst (-1), 1) := by decide +kernel
theorem dX9_init_30 : decode cX9_init 30 = .ok (.invokestatic 22, 3) := by decide +kernel
theorem dX9_init_33 : decode cX9_init 33 = .ok (.aload_n 0, 1) := by decide +kernel
theorem dX9_init_34 : decode cX9_init 34 = .ok (.getfield 19, 3) := by decide +kernel
theorem dX9_init_37 : decode cX9_init 37 = .ok (.iconst 0, 1) := by decide +kernel
theorem dX9_init_38 : decode cX9_init 38 = .ok (.iconst 0, 1) := by decide +kernel
theorem dX9_init_39 : decode cX9_init 39 = .ok (.iastore, 1) := by decide +kernel
theorem dX9_init_40 : decode cX9_init 40 = .ok (.return_, 1) := by decide +kernel
theorem dX9_placeOf_0 : decode cX9_placeOf 0 = .ok (.iload_n 1, 1) := by decide +kernel
theorem dX9_placeOf_1 : decode cX9_placeOf 1 = .ok (.ifCond .lt 18, 3) := by decide +kernel
theorem dX9_placeOf_4 : decode cX9_placeOf 4 = .ok (.iload_n 1, 1) := by decide +kernel
theorem dX9_placeOf_5 : decode cX9_placeOf 5 = .ok (.bipush 12, 2) := by decide +kernel
theorem dX9_placeOf_7 : decode cX9_placeOf 7 = .ok (.if_icmp .ge 12, 3) := by decide +kernel
theorem dX9_placeOf_10 : decode cX9_placeOf 10 = .ok (.aload_n 0, 1) := by decide +kernel
theorem dX9_placeOf_11 : decode cX9_placeOf 11 = .ok (.getfield 19, 3) := by decide +kernel
theorem dX9_placeOf_14 : decode cX9_placeOf 14 = .ok (.iload_n 1, 1) := by decide +kernel
theorem dX9_placeOf_15 : decode cX9_placeOf 15 = .ok (.iaload, 1) := by decide +kernel
theorem dX9_placeOf_16 : decode cX9_placeOf 16 = .ok (.goto 4, 3) := by decide +kernel
theorem dX9_placeOf_19 : decode cX9_placeOf 19 = .ok (.iconst (-1), 1) := by decide +kernel
theorem dX9_placeOf_20 : decode cX9_placeOf 20 = .ok (.ireturn, 1) := by decide +kernel
theorem dX9_insert_0 : decode cX9_insert 0 = .ok (.aload_n 0, 1) := by decide +kernel
theorem dX9_insert_1 : decode cX9_insert 1 = .ok (.getfield 9, 3) := by decide +kernel
theorem dX9_insert_4 : decode cX9_insert 4 = .ok (.bipush 12, 2) := by decide +kernel
theorem dX9_insert_6 : decode cX9_insert 6 = .ok (.if_icmp .ge 13, 3) := by decide +kernel
theorem dX9_insert_9 : decode cX9_insert 9 = .ok (.iload_n 1, 1) := by decide +kernel
theorem dX9_insert_10 : decode cX9_insert 10 = .ok (.ifCond .lt 9, 3) := by decide +kernel
theorem dX9_insert_13 : decode cX9_insert 13 = .ok (.iload_n 1, 1) := by decide +kernel
theorem dX9_insert_14 : decode cX9_insert 14 = .ok (.bipush 12, 2) := by decide +kernel
theorem dX9_insert_16 : decode cX9_insert 16 = .ok (.if_icmp .lt 4, 3) := by decide +kernel
theorem dX9_insert_19 : decode cX9_insert 19 = .ok (.return_, 1) := by decide +kernel
theorem dX9_insert_20 : decode cX9_insert 20 = .ok (.aload_n 0, 1) := by decide +kernel
theorem dX9_insert_21 : decode cX9_insert 21 = .ok (.iload_n 2, 1) := by decide +kernel
theorem dX9_insert_22 : decode cX9_insert 22 = .ok (.invokevirtual 28, 3) := by decide +kernel
theorem dX9_insert_25 : decode cX9_insert 25 = .ok (.iconst 1, 1) := by decide +kernel
theorem dX9_insert_26 : decode cX9_insert 26 = .ok (.iadd, 1) := by decide +kernel
theorem dX9_insert_27 : decode cX9_insert 27 = .ok (.istore 4, 2) := by decide +kernel
theorem dX9_insert_29 : decode cX9_insert 29 = .ok (.iload 4, 2) := by decide +kernel
theorem dX9_insert_31 : decode cX9_insert 31 = .ok (.aload_n 0, 1) := by decide +kernel
theorem dX9_insert_32 : decode cX9_insert 32 = .ok (.getfield 9, 3) := by decide +kernel
theorem dX9_insert_35 : decode cX9_insert 35 = .ok (.if_icmp .ge 28, 3) := by decide +kernel
theorem dX9_insert_38 : decode cX9_insert 38 = .ok (.aload_n 3, 1) := by decide +kernel
theorem dX9_insert_39 : decode cX9_insert 39 = .ok (.aload_n 0, 1) := by decide +kernel
theorem dX9_insert_40 : decode cX9_insert 40 = .ok (.getfield 15, 3) := by decide +kernel
theorem dX9_insert_43 : decode cX9_insert 43 = .ok (.iload 4, 2) := by decide +kernel
theorem dX9_insert_45 : decode cX9_insert 45 = .ok (.iaload, 1) := by decide +kernel
theorem dX9_insert_46 : decode cX9_insert 46 = .ok (.invokevirtual 32, 3) := by decide +kernel
theorem dX9_insert_49 : decode cX9_insert 49 = .ok (.aload_n 3, 1) := by decide +kernel
theorem dX9_insert_50 : decode cX9_insert 50 = .ok (.iload_n 2, 1) := by decide +kernel
theorem dX9_insert_51 : decode cX9_insert 51 = .ok (.invokevirtual 32, 3) := by decide +kernel
theorem dX9_insert_54 : decode cX9_insert 54 = .ok (.if_icmp .le 9, 3) := by decide +kernel
theorem dX9_insert_57 : decode cX9_insert 57 = .ok (.iinc 4 1, 3) := by decide +kernel
theorem dX9_insert_60 : decode cX9_insert 60 = .ok (.goto (-31), 3) := by decide +kernel
theorem dX9_insert_63 : decode cX9_insert 63 = .ok (.aload_n 0, 1) := by decide +kernel
theorem dX9_insert_64 : decode cX9_insert 64 = .ok (.getfield 9, 3) := by decide +kernel
theorem dX9_insert_67 : decode cX9_insert 67 = .ok (.istore 5, 2) := by decide +kernel
theorem dX9_insert_69 : decode cX9_insert 69 = .ok (.iload 5, 2) := by decide +kernel
theorem dX9_insert_71 : decode cX9_insert 71 = .ok (.iload 4, 2) := by decide +kernel
theorem dX9_insert_73 : decode cX9_insert 73 = .ok (.if_icmp .le 39, 3) := by decide +kernel
theorem dX9_insert_76 : decode cX9_insert 76 = .ok (.aload_n 0, 1) := by decide +kernel
theorem dX9_insert_77 : decode cX9_insert 77 = .ok (.getfield 15, 3) := by decide +kernel
theorem dX9_insert_80 : decode cX9_insert 80 = .ok (.iload 5, 2) := by decide +kernel
theorem dX9_insert_82 : decode cX9_insert 82 = .ok (.aload_n 0, 1) := by decide +kernel
theorem dX9_insert_83 : decode cX9_insert 83 = .ok (.getfield 15, 3) := by decide +kernel
theorem dX9_insert_86 : decode cX9_insert 86 = .ok (.iload 5, 2) := by decide +kernel
theorem dX9_insert_88 : decode cX9_insert 88 = .ok (.iconst 1, 1) := by decide +kernel
theorem dX9_insert_89 : decode cX9_insert 89 = .ok (.isub, 1) := by decide +kernel
theorem dX9_insert_90 : decode cX9_insert 90 = .ok (.iaload, 1) := by decide +kernel
theorem dX9_insert_91 : decode cX9_insert 91 = .ok (.iastore, 1) := by decide +kernel
theorem dX9_insert_92 : decode cX9_insert 92 = .ok (.aload_n 0, 1) := by decide +kernel
theorem dX9_insert_93 : decode cX9_insert 93 = .ok (.getfield 19, 3) := by decide +kernel
theorem dX9_insert_96 : decode cX9_insert 96 = .ok (.aload_n 0, 1) := by decide +kernel
theorem dX9_insert_97 : decode cX9_insert 97 = .ok (.getfield 15, 3) := by decide +kernel
theorem dX9_insert_100 : decode cX9_insert 100 = .ok (.iload 5, 2) := by decide +kernel
theorem dX9_insert_102 : decode cX9_insert 102 = .ok (.iaload, 1) := by decide +kernel
theorem dX9_insert_103 : decode cX9_insert 103 = .ok (.iload 5, 2) := by decide +kernel
theorem dX9_insert_105 : decode cX9_insert 105 = .ok (.iastore, 1) := by decide +kernel
theorem dX9_insert_106 : decode cX9_insert 106 = .ok (.iinc 5 (-1), 3) := by decide +kernel
theorem dX9_insert_109 : decode cX9_insert 109 = .ok (.goto (-40), 3) := by decide +kernel
theorem dX9_insert_112 : decode cX9_insert 112 = .ok (.aload_n 0, 1) := by decide +kernel
theorem dX9_insert_113 : decode cX9_insert 113 = .ok (.getfield 15, 3) := by decide +kernel
theorem dX9_insert_116 : decode cX9_insert 116 = .ok (.iload 4, 2) := by decide +kernel
theorem dX9_insert_118 : decode cX9_insert 118 = .ok (.iload_n 1, 1) := by decide +kernel
theorem dX9_insert_119 : decode cX9_insert 119 = .ok (.iastore, 1) := by decide +kernel
theorem dX9_insert_120 : decode cX9_insert 120 = .ok (.aload_n 0, 1) := by decide +kernel
theorem dX9_insert_121 : decode cX9_insert 121 = .ok (.getfield 19, 3) := by decide +kernel
theorem dX9_insert_124 : decode cX9_insert 124 = .ok (.iload_n 1, 1) := by decide +kernel
theorem dX9_insert_125 : decode cX9_insert 125 = .ok (.iload 4, 2) := by decide +kernel
theorem dX9_insert_127 : decode cX9_insert 127 = .ok (.iastore, 1) := by decide +kernel
theorem dX9_insert_128 : decode cX9_insert 128 = .ok (.aload_n 0, 1) := by decide +kernel
theorem dX9_insert_129 : decode cX9_insert 129 = .ok (.dup, 1) := by decide +kernel
theorem dX9_insert_130 : decode cX9_insert 130 = .ok (.getfield 9, 3) := by decide +kernel
theorem dX9_insert_133 : decode cX9_insert 133 = .ok (.iconst 1, 1) := by decide +kernel
theorem dX9_insert_134 : decode cX9_insert 134 = .ok (.iadd, 1) := by decide +kernel
theorem dX9_insert_135 : decode cX9_insert 135 = .ok (.putfield 9, 3) := by decide +kernel
theorem dX9_insert_138 : decode cX9_insert 138 = .ok (.return_, 1) := by decide +kernel
theorem dX9_ahead_0 : decode cX9_ahead 0 = .ok (.iload_n 2, 1) := by decide +kernel
theorem dX9_ahead_1 : decode cX9_ahead 1 = .ok (.istore 4, 2) := by decide +kernel
theorem dX9_ahead_3 : decode cX9_ahead 3 = .ok (.aload_n 0, 1) := by decide +kernel
theorem dX9_ahead_4 : decode cX9_ahead 4 = .ok (.iload_n 1, 1) := by decide +kernel
theorem dX9_ahead_5 : decode cX9_ahead 5 = .ok (.invokevirtual 28, 3) := by decide +kernel
theorem dX9_ahead_8 : decode cX9_ahead 8 = .ok (.iconst 1, 1) := by decide +kernel
theorem dX9_ahead_9 : decode cX9_ahead 9 = .ok (.isub, 1) := by decide +kernel
theorem dX9_ahead_10 : decode cX9_ahead 10 = .ok (.istore 5, 2) := by decide +kernel
theorem dX9_ahead_12 : decode cX9_ahead 12 = .ok (.iload 5, 2) := by decide +kernel
theorem dX9_ahead_14 : decode cX9_ahead 14 = .ok (.ifCond .lt 53, 3) := by decide +kernel
theorem dX9_ahead_17 : decode cX9_ahead 17 = .ok (.iload 5, 2) := by decide +kernel
theorem dX9_ahead_19 : decode cX9_ahead 19 = .ok (.aload_n 0, 1) := by decide +kernel
theorem dX9_ahead_20 : decode cX9_ahead 20 = .ok (.getfield 9, 3) := by decide +kernel
theorem dX9_ahead_23 : decode cX9_ahead 23 = .ok (.if_icmp .ge 44, 3) := by decide +kernel
theorem dX9_ahead_26 : decode cX9_ahead 26 = .ok (.aload_n 3, 1) := by decide +kernel
theorem dX9_ahead_27 : decode cX9_ahead 27 = .ok (.aload_n 0, 1) := by decide +kernel
theorem dX9_ahead_28 : decode cX9_ahead 28 = .ok (.getfield 15, 3) := by decide +kernel
theorem dX9_ahead_31 : decode cX9_ahead 31 = .ok (.iload 5, 2) := by decide +kernel
theorem dX9_ahead_33 : decode cX9_ahead 33 = .ok (.iaload, 1) := by decide +kernel
theorem dX9_ahead_34 : decode cX9_ahead 34 = .ok (.invokevirtual 32, 3) := by decide +kernel
theorem dX9_ahead_37 : decode cX9_ahead 37 = .ok (.aload_n 3, 1) := by decide +kernel
theorem dX9_ahead_38 : decode cX9_ahead 38 = .ok (.iload_n 1, 1) := by decide +kernel
theorem dX9_ahead_39 : decode cX9_ahead 39 = .ok (.invokevirtual 32, 3) := by decide +kernel
theorem dX9_ahead_42 : decode cX9_ahead 42 = .ok (.if_icmp .ne 19, 3) := by decide +kernel
theorem dX9_ahead_45 : decode cX9_ahead 45 = .ok (.iinc 4 (-1), 3) := by decide +kernel
theorem dX9_ahead_48 : decode cX9_ahead 48 = .ok (.iload 4, 2) := by decide +kernel
theorem dX9_ahead_50 : decode cX9_ahead 50 = .ok (.ifCond .ne 11, 3) := by decide +kernel
theorem dX9_ahead_53 : decode cX9_ahead 53 = .ok (.aload_n 0, 1) := by decide +kernel
theorem dX9_ahead_54 : decode cX9_ahead 54 = .ok (.getfield 15, 3) := by decide +kernel
theorem dX9_ahead_57 : decode cX9_ahead 57 = .ok (.iload 5, 2) := by decide +kernel
theorem dX9_ahead_59 : decode cX9_ahead 59 = .ok (.iaload, 1) := by decide +kernel
theorem dX9_ahead_60 : decode cX9_ahead 60 = .ok (.ireturn, 1) := by decide +kernel
theorem dX9_ahead_61 : decode cX9_ahead 61 = .ok (.iinc 5 (-1), 3) := by decide +kernel
theorem dX9_ahead_64 : decode cX9_ahead 64 = .ok (.goto (-52), 3) := by decide +kernel
theorem dX9_ahead_67 : decode cX9_ahead 67 = .ok (.iconst (-1), 1) := by decide +kernel
theorem dX9_ahead_68 : decode cX9_ahead 68 = .ok (.ireturn, 1) := by decide +kernel
theorem dX10_init_0 : decode cX10_init 0 = .ok (.aload_n 0, 1) := by decide +kernel
theorem dX10_init_1 : decode cX10_init 1 = .ok (.invokespecial 3, 3) := by decide +kernel
theorem dX10_init_4 : decode cX10_init 4 = .ok (.aload_n 0, 1) := by decide +kernel
theorem dX10_init_5 : decode cX10_init 5 = .ok (.new 9, 3) := by decide +kernel
theorem dX10_init_8 : decode cX10_init 8 = .ok (.dup, 1) := by decide +kernel
theorem dX10_init_9 : decode cX10_init 9 = .ok (.invokespecial 11, 3) := by decide +kernel
theorem dX10_init_12 : decode cX10_init 12 = .ok (.putfield 12, 3) := by decide +kernel
theorem dX10_init_15 : decode cX10_init 15 = .ok (.aload_n 0, 1) := by decide +kernel
theorem dX10_init_16 : decode cX10_init 16 = .ok (.new 18, 3) := by decide +kernel
theorem dX10_init_19 : decode cX10_init 19 = .ok (.dup, 1) := by decide +kernel
theorem dX10_init_20 : decode cX10_init 20 = .ok (.invokespecial 20, 3) := by decide +kernel
theorem dX10_init_23 : decode cX10_init 23 = .ok (.putfield 21, 3) := by decide +kernel
theorem dX10_init_26 : decode cX10_init 26 = .ok (.aload_n 0, 1) := by decide +kernel
theorem dX10_init_27 : decode cX10_init 27 = .ok (.new 25, 3) := by decide +kernel
theorem dX10_init_30 : decode cX10_init 30 = .ok (.dup, 1) := by decide +kernel
theorem dX10_init_31 : decode cX10_init 31 = .ok (.invokespecial 27, 3) := by decide +kernel
theorem dX10_init_34 : decode cX10_init 34 = .ok (.putfield 28, 3) := by decide +kernel
theorem dX10_init_37 : decode cX10_init 37 = .ok (.aload_n 0, 1) := by decide +kernel
theorem dX10_init_38 : decode cX10_init 38 = .ok (.new 32, 3) := by decide +kernel
theorem dX10_init_41 : decode cX10_init 41 = .ok (.dup, 1) := by decide +kernel
theorem dX10_init_42 : decode cX10_init 42 = .ok (.invokespecial 34, 3) := by decide +kernel
theorem dX10_init_45 : decode cX10_init 45 = .ok (.putfield 35, 3) := by decide +kernel
theorem dX10_init_48 : decode cX10_init 48 = .ok (.aload_n 0, 1) := by decide +kernel
theorem dX10_init_49 : decode cX10_init 49 = .ok (.new 39, 3) := by decide +kernel
theorem dX10_init_52 : decode cX10_init 52 = .ok (.dup, 1) := by decide +kernel
theorem dX10_init_53 : decode cX10_init 53 = .ok (.invokespecial 41, 3) := by decide +kernel
theorem dX10_init_56 : decode cX10_init 56 = .ok (.putfield 42, 3) := by decide +kernel
theorem dX10_init_59 : decode cX10_init 59 = .ok (.aload_n 0, 1) := by decide +kernel
theorem dX10_init_60 : decode cX10_init 60 = .ok (.new 46, 3) := by decide +kernel
theorem dX10_init_63 : decode cX10_init 63 = .ok (.dup, 1) := by decide +kernel
theorem dX10_init_64 : decode cX10_init 64 = .ok (.aload_n 0, 1) := by decide +kernel
theorem dX10_init_65 : decode cX10_init 65 = .ok (.getfield 12, 3) := by decide +kernel
theorem dX10_init_68 : decode cX10_init 68 = .ok (.aload_n 0, 1) := by decide +kernel
theorem dX10_init_69 : decode cX10_init 69 = .ok (.getfield 21, 3) := by decide +kernel
theorem dX10_init_72 : decode cX10_init 72 = .ok (.aload_n 0, 1) := by decide +kernel
theorem dX10_init_73 : decode cX10_init 73 = .ok (.getfield 28, 3) := by decide +kernel
theorem dX10_init_76 : decode cX10_init 76 = .ok (.invokespecial 48, 3) := by decide +kernel
theorem dX10_init_79 : decode cX10_init 79 = .ok (.putfield 51, 3) := by decide +kernel
theorem dX10_init_82 : decode cX10_init 82 = .ok (.aload_n 0, 1) := by decide +kernel
theorem dX10_init_83 : decode cX10_init 83 = .ok (.new 55, 3) := by decide +kernel
theorem dX10_init_86 : decode cX10_init 86 = .ok (.dup, 1) := by decide +kernel
theorem dX10_init_87 : decode cX10_init 87 = .ok (.invokespecial 57, 3) := by decide +kernel
theorem dX10_init_90 : decode cX10_init 90 = .ok (.putfield 58, 3) := by decide +kernel
theorem dX10_init_93 : decode cX10_init 93 = .ok (.return_, 1) := by decide +kernel
theorem dX10_member_0 : decode cX10_member 0 = .ok (.aload_n 0, 1) := by decide +kernel
theorem dX10_member_1 : decode cX10_member 1 = .ok (.iload_n 1, 1) := by decide +kernel
theorem dX10_member_2 : decode cX10_member 2 = .ok (.invokevirtual 62, 3) := by decide +kernel
theorem dX10_member_5 : decode cX10_member 5 = .ok (.astore 4, 2) := by decide +kernel
theorem dX10_member_7 : decode cX10_member 7 = .ok (.aload 4, 2) := by decide +kernel
theorem dX10_member_9 : decode cX10_member 9 = .ok (.iload_n 2, 1) := by decide +kernel
theorem dX10_member_10 : decode cX10_member 10 = .ok (.invokestatic 66, 3) := by decide +kernel
theorem dX10_member_13 : decode cX10_member 13 = .ok (.iload_n 3, 1) := by decide +kernel
theorem dX10_member_14 : decode cX10_member 14 = .ok (.iconst (-1), 1) := by decide +kernel
theorem dX10_member_15 : decode cX10_member 15 = .ok (.iconst 1, 1) := by decide +kernel
theorem dX10_member_16 : decode cX10_member 16 = .ok (.invokestatic 70, 3) := by decide +kernel
theorem dX10_member_19 : decode cX10_member 19 = .ok (.aload 4, 2) := by decide +kernel
theorem dX10_member_21 : decode cX10_member 21 = .ok (.iload_n 2, 1) := by decide +kernel
theorem dX10_member_22 : decode cX10_member 22 = .ok (.invokevirtual 74, 3) := by decide +kernel
theorem dX10_member_25 : decode cX10_member 25 = .ok (.ifCond .eq 17, 3) := by decide +kernel
theorem dX10_member_28 : decode cX10_member 28 = .ok (.aload 4, 2) := by decide +kernel
theorem dX10_member_30 : decode cX10_member 30 = .ok (.getfield 80, 3) := by decide +kernel
theorem dX10_member_33 : decode cX10_member 33 = .ok (.bipush 12, 2) := by decide +kernel
theorem dX10_member_35 : decode cX10_member 35 = .ok (.if_icmp .ge 7, 3) := by decide +kernel
theorem dX10_member_38 : decode cX10_member 38 = .ok (.iconst 1, 1) := by decide +kernel
theorem dX10_member_39 : decode cX10_member 39 = .ok (.goto 4, 3) := by decide +kernel
theorem dX10_member_42 : decode cX10_member 42 = .ok (.iconst 0, 1) := by decide +kernel
theorem dX10_member_43 : decode cX10_member 43 = .ok (.invokestatic 84, 3) := by decide +kernel
theorem dX10_member_46 : decode cX10_member 46 = .ok (.aload 4, 2) := by decide +kernel
theorem dX10_member_48 : decode cX10_member 48 = .ok (.iload_n 2, 1) := by decide +kernel
theorem dX10_member_49 : decode cX10_member 49 = .ok (.iload_n 3, 1) := by decide +kernel
theorem dX10_member_50 : decode cX10_member 50 = .ok (.invokevirtual 88, 3) := by decide +kernel
theorem dX10_member_53 : decode cX10_member 53 = .ok (.istore 5, 2) := by decide +kernel
theorem dX10_member_55 : decode cX10_member 55 = .ok (.iload_n 1, 1) := by decide +kernel
theorem dX10_member_56 : decode cX10_member 56 = .ok (.ifCond .ne 18, 3) := by decide +kernel
theorem dX10_member_59 : decode cX10_member 59 = .ok (.aload_n 0, 1) := by decide +kernel
theorem dX10_member_60 : decode cX10_member 60 = .ok (.getfield 12, 3) := by decide +kernel
theorem dX10_member_63 : decode cX10_member 63 = .ok (.getfield 92, 3) := by decide +kernel
theorem dX10_member_66 : decode cX10_member 66 = .ok (.iload 5, 2) := by decide +kernel
theorem dX10_member_68 : decode cX10_member 68 = .ok (.iload_n 2, 1) := by decide +kernel
theorem dX10_member_69 : decode cX10_member 69 = .ok (.aload 4, 2) := by decide +kernel
theorem dX10_member_71 : decode cX10_member 71 = .ok (.invokevirtual 96, 3) := by decide +kernel
theorem dX10_member_74 : decode cX10_member 74 = .ok (.aload_n 0, 1) := by decide +kernel
theorem dX10_member_75 : decode cX10_member 75 = .ok (.getfield 12, 3) := by decide +kernel
theorem dX10_member_78 : decode cX10_member 78 = .ok (.invokevirtual 102, 3) := by decide +kernel
theorem dX10_member_81 : decode cX10_member 81 = .ok (.aload_n 0, 1) := by decide +kernel
theorem dX10_member_82 : decode cX10_member 82 = .ok (.getfield 35, 3) := by decide +kernel
theorem dX10_member_85 : decode cX10_member 85 = .ok (.invokevirtual 105, 3) := by decide +kernel
theorem dX10_member_88 : decode cX10_member 88 = .ok (.iload 5, 2) := by decide +kernel
theorem dX10_member_90 : decode cX10_member 90 = .ok (.ireturn, 1) := by decide +kernel
theorem dX10_bridge_0 : decode cX10_bridge 0 = .ok (.aload_n 0, 1) := by decide +kernel
theorem dX10_bridge_1 : decode cX10_bridge 1 = .ok (.iload_n 1, 1) := by decide +kernel
theorem dX10_bridge_2 : decode cX10_bridge 2 = .ok (.invokevirtual 62, 3) := by decide +kernel
theorem dX10_bridge_5 : decode cX10_bridge 5 = .ok (.astore_n 3, 1) := by decide +kernel
theorem dX10_bridge_6 : decode cX10_bridge 6 = .ok (.iload_n 2, 1) := by decide +kernel
theorem dX10_bridge_7 : decode cX10_bridge 7 = .ok (.iconst 1, 1) := by decide +kernel
theorem dX10_bridge_8 : decode cX10_bridge 8 = .ok (.if_icmp .lt 14, 3) := by decide +kernel
theorem dX10_bridge_11 : decode cX10_bridge 11 = .ok (.iload_n 2, 1) := by decide +kernel
theorem dX10_bridge_12 : decode cX10_bridge 12 = .ok (.sipush 4095, 3) := by decide +kernel
theorem dX10_bridge_15 : decode cX10_bridge 15 = .ok (.if_icmp .gt 7, 3) := by decide +kernel
theorem dX10_bridge_18 : decode cX10_bridge 18 = .ok (.iconst 1, 1) := by decide +kernel
theorem dX10_bridge_19 : decode cX10_bridge 19 = .ok (.goto 4, 3) := by decide +kernel
theorem dX10_bridge_22 : decode cX10_bridge 22 = .ok (.iconst 0, 1) := by decide +kernel
theorem dX10_bridge_23 : decode cX10_bridge 23 = .ok (.istore 4, 2) := by decide +kernel
theorem dX10_bridge_25 : decode cX10_bridge 25 = .ok (.iload 4, 2) := by decide +kernel
theorem dX10_bridge_27 : decode cX10_bridge 27 = .ok (.ifCond .eq 22, 3) := by decide +kernel
theorem dX10_bridge_30 : decode cX10_bridge 30 = .ok (.iload_n 2, 1) := by decide +kernel
theorem dX10_bridge_31 : decode cX10_bridge 31 = .ok (.aload_n 3, 1) := by decide +kernel
theorem dX10_bridge_32 : decode cX10_bridge 32 = .ok (.getfield 80, 3) := by decide +kernel
theorem dX10_bridge_35 : decode cX10_bridge 35 = .ok (.ishr, 1) := by decide +kernel
theorem dX10_bridge_36 : decode cX10_bridge 36 = .ok (.ifCond .eq 13, 3) := by decide +kernel
theorem dX10_bridge_39 : decode cX10_bridge 39 = .ok (.new 108, 3) := by decide +kernel
theorem dX10_bridge_42 : decode cX10_bridge 42 = .ok (.dup, 1) := by decide +kernel
theorem dX10_bridge_43 : decode cX10_bridge 43 = .ok (.ldc 110, 2) := by decide +kernel
theorem dX10_bridge_45 : decode cX10_bridge 45 = .ok (.invokespecial 112, 3) := by decide +kernel
theorem dX10_bridge_48 : decode cX10_bridge 48 = .ok (.athrow, 1) := by decide +kernel
theorem dX10_bridge_49 : decode cX10_bridge 49 = .ok (.iload_n 2, 1) := by decide +kernel
theorem dX10_bridge_50 : decode cX10_bridge 50 = .ok (.iconst 1, 1) := by decide +kernel
theorem dX10_bridge_51 : decode cX10_bridge 51 = .ok (.sipush 4095, 3) := by decide +kernel
theorem dX10_bridge_54 : decode cX10_bridge 54 = .ok (.invokestatic 70, 3) := by decide +kernel
theorem dX10_bridge_57 : decode cX10_bridge 57 = .ok (.iload_n 2, 1) := by decide +kernel
theorem dX10_bridge_58 : decode cX10_bridge 58 = .ok (.invokestatic 115, 3) := by decide +kernel
theorem dX10_bridge_61 : decode cX10_bridge 61 = .ok (.iconst 5, 1) := by decide +kernel
theorem dX10_bridge_62 : decode cX10_bridge 62 = .ok (.if_icmp .gt 15, 3) := by decide +kernel
theorem dX10_bridge_65 : decode cX10_bridge 65 = .ok (.aload_n 3, 1) := by decide +kernel
theorem dX10_bridge_66 : decode cX10_bridge 66 = .ok (.iload_n 2, 1) := by decide +kernel
theorem dX10_bridge_67 : decode cX10_bridge 67 = .ok (.invokevirtual 121, 3) := by decide +kernel
theorem dX10_bridge_70 : decode cX10_bridge 70 = .ok (.ifCond .eq 7, 3) := by decide +kernel
theorem dX10_bridge_73 : decode cX10_bridge 73 = .ok (.iconst 1, 1) := by decide +kernel
theorem dX10_bridge_74 : decode cX10_bridge 74 = .ok (.goto 4, 3) := by decide +kernel
theorem dX10_bridge_77 : decode cX10_bridge 77 = .ok (.iconst 0, 1) := by decide +kernel
theorem dX10_bridge_78 : decode cX10_bridge 78 = .ok (.invokestatic 84, 3) := by decide +kernel
theorem dX10_bridge_81 : decode cX10_bridge 81 = .ok (.aload_n 3, 1) := by decide +kernel
theorem dX10_bridge_82 : decode cX10_bridge 82 = .ok (.getfield 80, 3) := by decide +kernel
theorem dX10_bridge_85 : decode cX10_bridge 85 = .ok (.bipush 12, 2) := by decide +kernel
theorem dX10_bridge_87 : decode cX10_bridge 87 = .ok (.if_icmp .ge 7, 3) := by decide +kernel
theorem dX10_bridge_90 : decode cX10_bridge 90 = .ok (.iconst 1, 1) := by decide +kernel
theorem dX10_bridge_91 : decode cX10_bridge 91 = .ok (.goto 4, 3) := by decide +kernel
theorem dX10_bridge_94 : decode cX10_bridge 94 = .ok (.iconst 0, 1) := by decide +kernel
theorem dX10_bridge_95 : decode cX10_bridge 95 = .ok (.invokestatic 84, 3) := by decide +kernel
theorem dX10_bridge_98 : decode cX10_bridge 98 = .ok (.aload_n 3, 1) := by decide +kernel
theorem dX10_bridge_99 : decode cX10_bridge 99 = .ok (.iload_n 2, 1) := by decide +kernel
theorem dX10_bridge_100 : decode cX10_bridge 100 = .ok (.invokevirtual 124, 3) := by decide +kernel
theorem dX10_bridge_103 : decode cX10_bridge 103 = .ok (.istore 5, 2) := by decide +kernel
theorem dX10_bridge_105 : decode cX10_bridge 105 = .ok (.aload_n 0, 1) := by decide +kernel
theorem dX10_bridge_106 : decode cX10_bridge 106 = .ok (.getfield 12, 3) := by decide +kernel
theorem dX10_bridge_109 : decode cX10_bridge 109 = .ok (.invokevirtual 102, 3) := by decide +kernel
theorem dX10_bridge_112 : decode cX10_bridge 112 = .ok (.aload_n 0, 1) := by decide +kernel
theorem dX10_bridge_113 : decode cX10_bridge 113 = .ok (.getfield 35, 3) := by decide +kernel
theorem dX10_bridge_116 : decode cX10_bridge 116 = .ok (.invokevirtual 105, 3) := by decide +kernel
theorem dX10_bridge_119 : decode cX10_bridge 119 = .ok (.iload 5, 2) := by decide +kernel
theorem dX10_bridge_121 : decode cX10_bridge 121 = .ok (.ireturn, 1) := by decide +kernel
theorem dX10_move_0 : decode cX10_move 0 = .ok (.aload_n 0, 1) := by decide +kernel
theorem dX10_move_1 : decode cX10_move 1 = .ok (.iload_n 1, 1) := by decide +kernel
theorem dX10_move_2 : decode cX10_move 2 = .ok (.invokevirtual 62, 3) := by decide +kernel
theorem dX10_move_5 : decode cX10_move 5 = .ok (.astore 5, 2) := by decide +kernel
theorem dX10_move_7 : decode cX10_move 7 = .ok (.aload 5, 2) := by decide +kernel
theorem dX10_move_9 : decode cX10_move 9 = .ok (.iload_n 2, 1) := by decide +kernel
theorem dX10_move_10 : decode cX10_move 10 = .ok (.invokestatic 66, 3) := by decide +kernel
theorem dX10_move_13 : decode cX10_move 13 = .ok (.aload 5, 2) := by decide +kernel
theorem dX10_move_15 : decode cX10_move 15 = .ok (.iload_n 3, 1) := by decide +kernel
theorem dX10_move_16 : decode cX10_move 16 = .ok (.invokestatic 66, 3) := by decide +kernel
theorem dX10_move_19 : decode cX10_move 19 = .ok (.aload_n 0, 1) := by decide +kernel
theorem dX10_move_20 : decode cX10_move 20 = .ok (.getfield 12, 3) := by decide +kernel
theorem dX10_move_23 : decode cX10_move 23 = .ok (.getfield 127, 3) := by decide +kernel
theorem dX10_move_26 : decode cX10_move 26 = .ok (.iload 4, 2) := by decide +kernel
theorem dX10_move_28 : decode cX10_move 28 = .ok (.invokestatic 66, 3) := by decide +kernel
theorem dX10_move_31 : decode cX10_move 31 = .ok (.iload_n 1, 1) := by decide +kernel
theorem dX10_move_32 : decode cX10_move 32 = .ok (.ifCond .eq 7, 3) := by decide +kernel
theorem dX10_move_35 : decode cX10_move 35 = .ok (.iload_n 2, 1) := by decide +kernel
theorem dX10_move_36 : decode cX10_move 36 = .ok (.ifCond .ne 13, 3) := by decide +kernel
theorem dX10_move_39 : decode cX10_move 39 = .ok (.new 108, 3) := by decide +kernel
theorem dX10_move_42 : decode cX10_move 42 = .ok (.dup, 1) := by decide +kernel
theorem dX10_move_43 : decode cX10_move 43 = .ok (.ldc 131, 2) := by decide +kernel
theorem dX10_move_45 : decode cX10_move 45 = .ok (.invokespecial 112, 3) := by decide +kernel
theorem dX10_move_48 : decode cX10_move 48 = .ok (.athrow, 1) := by decide +kernel
theorem dX10_move_49 : decode cX10_move 49 = .ok (.aload 5, 2) := by decide +kernel
theorem dX10_move_51 : decode cX10_move 51 = .ok (.iload_n 2, 1) := by decide +kernel
theorem dX10_move_52 : decode cX10_move 52 = .ok (.invokevirtual 74, 3) := by decide +kernel
theorem dX10_move_55 : decode cX10_move 55 = .ok (.ifCond .eq 31, 3) := by decide +kernel
theorem dX10_move_58 : decode cX10_move 58 = .ok (.aload 5, 2) := by decide +kernel
theorem dX10_move_60 : decode cX10_move 60 = .ok (.iload_n 3, 1) := by decide +kernel
theorem dX10_move_61 : decode cX10_move 61 = .ok (.invokevirtual 74, 3) := by decide +kernel
theorem dX10_move_64 : decode cX10_move 64 = .ok (.ifCond .eq 22, 3) := by decide +kernel
theorem dX10_move_67 : decode cX10_move 67 = .ok (.aload_n 0, 1) := by decide +kernel
theorem dX10_move_68 : decode cX10_move 68 = .ok (.getfield 12, 3) := by decide +kernel
theorem dX10_move_71 : decode cX10_move 71 = .ok (.getfield 127, 3) := by decide +kernel
theorem dX10_move_74 : decode cX10_move 74 = .ok (.iload 4, 2) := by decide +kernel
theorem dX10_move_76 : decode cX10_move 76 = .ok (.invokevirtual 74, 3) := by decide +kernel
theorem dX10_move_79 : decode cX10_move 79 = .ok (.ifCond .eq 7, 3) := by decide +kernel
theorem dX10_move_82 : decode cX10_move 82 = .ok (.iconst 1, 1) := by decide +kernel
theorem dX10_move_83 : decode cX10_move 83 = .ok (.goto 4, 3) := by decide +kernel
theorem dX10_move_86 : decode cX10_move 86 = .ok (.iconst 0, 1) := by decide +kernel
theorem dX10_move_87 : decode cX10_move 87 = .ok (.invokestatic 84, 3) := by decide +kernel
theorem dX10_move_90 : decode cX10_move 90 = .ok (.iload_n 3, 1) := by decide +kernel
theorem dX10_move_91 : decode cX10_move 91 = .ok (.iload_n 2, 1) := by decide +kernel
theorem dX10_move_92 : decode cX10_move 92 = .ok (.if_icmp .ge 19, 3) := by decide +kernel
theorem dX10_move_95 : decode cX10_move 95 = .ok (.aload_n 0, 1) := by decide +kernel
theorem dX10_move_96 : decode cX10_move 96 = .ok (.getfield 12, 3) := by decide +kernel
theorem dX10_move_99 : decode cX10_move 99 = .ok (.invokevirtual 133, 3) := by decide +kernel
theorem dX10_move_102 : decode cX10_move 102 = .ok (.bipush 10, 2) := by decide +kernel
theorem dX10_move_104 : decode cX10_move 104 = .ok (.if_icmp .ge 7, 3) := by decide +kernel
theorem dX10_move_107 : decode cX10_move 107 = .ok (.iconst 1, 1) := by decide +kernel
theorem dX10_move_108 : decode cX10_move 108 = .ok (.goto 4, 3) := by decide +kernel
theorem dX10_move_111 : decode cX10_move 111 = .ok (.iconst 0, 1) := by decide +kernel
theorem dX10_move_112 : decode cX10_move 112 = .ok (.invokestatic 84, 3) := by decide +kernel
theorem dX10_move_115 : decode cX10_move 115 = .ok (.aload 5, 2) := by decide +kernel
theorem dX10_move_117 : decode cX10_move 117 = .ok (.iload_n 2, 1) := by decide +kernel
theorem dX10_move_118 : decode cX10_move 118 = .ok (.invokevirtual 137, 3) := by decide +kernel
theorem dX10_move_121 : decode cX10_move 121 = .ok (.istore 6, 2) := by decide +kernel
theorem dX10_move_123 : decode cX10_move 123 = .ok (.aload 5, 2) := by decide +kernel
theorem dX10_move_125 : decode cX10_move 125 = .ok (.getfield 140, 3) := by decide +kernel
theorem dX10_move_128 : decode cX10_move 128 = .ok (.iload_n 2, 1) := by decide +kernel
theorem dX10_move_129 : decode cX10_move 129 = .ok (.iload_n 3, 1) := by decide +kernel
theorem dX10_move_130 : decode cX10_move 130 = .ok (.iload 4, 2) := by decide +kernel
theorem dX10_move_132 : decode cX10_move 132 = .ok (.invokevirtual 144, 3) := by decide +kernel
theorem dX10_move_135 : decode cX10_move 135 = .ok (.aload_n 0, 1) := by decide +kernel
theorem dX10_move_136 : decode cX10_move 136 = .ok (.getfield 12, 3) := by decide +kernel
theorem dX10_move_139 : decode cX10_move 139 = .ok (.invokevirtual 102, 3) := by decide +kernel
theorem dX10_move_142 : decode cX10_move 142 = .ok (.aload_n 0, 1) := by decide +kernel
theorem dX10_move_143 : decode cX10_move 143 = .ok (.getfield 35, 3) := by decide +kernel
theorem dX10_move_146 : decode cX10_move 146 = .ok (.invokevirtual 105, 3) := by decide +kernel
theorem dX10_move_149 : decode cX10_move 149 = .ok (.iload 6, 2) := by decide +kernel
theorem dX10_move_151 : decode cX10_move 151 = .ok (.ireturn, 1) := by decide +kernel
theorem dX10_asNow_0 : decode cX10_asNow 0 = .ok (.aload_n 0, 1) := by decide +kernel
theorem dX10_asNow_1 : decode cX10_asNow 1 = .ok (.getfield 12, 3) := by decide +kernel
theorem dX10_asNow_4 : decode cX10_asNow 4 = .ok (.getfield 149, 3) := by decide +kernel
theorem dX10_asNow_7 : decode cX10_asNow 7 = .ok (.istore_n 2, 1) := by decide +kernel
theorem dX10_asNow_8 : decode cX10_asNow 8 = .ok (.aload_n 0, 1) := by decide +kernel
theorem dX10_asNow_9 : decode cX10_asNow 9 = .ok (.getfield 12, 3) := by decide +kernel
theorem dX10_asNow_12 : decode cX10_asNow 12 = .ok (.iload_n 1, 1) := by decide +kernel
theorem dX10_asNow_13 : decode cX10_asNow 13 = .ok (.putfield 149, 3) := by decide +kernel
theorem dX10_asNow_16 : decode cX10_asNow 16 = .ok (.aload_n 0, 1) := by decide +kernel
theorem dX10_asNow_17 : decode cX10_asNow 17 = .ok (.getfield 35, 3) := by decide +kernel
theorem dX10_asNow_20 : decode cX10_asNow 20 = .ok (.invokevirtual 105, 3) := by decide +kernel
theorem dX10_asNow_23 : decode cX10_asNow 23 = .ok (.iload_n 2, 1) := by decide +kernel
theorem dX10_asNow_24 : decode cX10_asNow 24 = .ok (.ireturn, 1) := by decide +kernel
theorem dX10_memberAt_0 : decode cX10_memberAt 0 = .ok (.aload_n 0, 1) := by decide +kernel
theorem dX10_memberAt_1 : decode cX10_memberAt 1 = .ok (.iload_n 1, 1) := by decide +kernel
theorem dX10_memberAt_2 : decode cX10_memberAt 2 = .ok (.invokevirtual 62, 3) := by decide +kernel
theorem dX10_memberAt_5 : decode cX10_memberAt 5 = .ok (.astore 4, 2) := by decide +kernel
theorem dX10_memberAt_7 : decode cX10_memberAt 7 = .ok (.aload 4, 2) := by decide +kernel
theorem dX10_memberAt_9 : decode cX10_memberAt 9 = .ok (.iload_n 2, 1) := by decide +kernel
theorem dX10_memberAt_10 : decode cX10_memberAt 10 = .ok (.invokestatic 66, 3) := by decide +kernel
theorem dX10_memberAt_13 : decode cX10_memberAt 13 = .ok (.iload_n 3, 1) := by decide +kernel
theorem dX10_memberAt_14 : decode cX10_memberAt 14 = .ok (.iconst 0, 1) := by decide +kernel
theorem dX10_memberAt_15 : decode cX10_memberAt 15 = .ok (.iconst 4, 1) := by decide +kernel
theorem dX10_memberAt_16 : decode cX10_memberAt 16 = .ok (.invokestatic 70, 3) := by decide +kernel
theorem dX10_memberAt_19 : decode cX10_memberAt 19 = .ok (.iload_n 3, 1) := by decide +kernel
theorem dX10_memberAt_20 : decode cX10_memberAt 20 = .ok (.tableswitch 73 0 3 #[32, 39, 46, 53], 32) := by decide +kernel
theorem dX10_memberAt_52 : decode cX10_memberAt 52 = .ok (.aload 4, 2) := by decide +kernel
theorem dX10_memberAt_54 : decode cX10_memberAt 54 = .ok (.iload_n 2, 1) := by decide +kernel
theorem dX10_memberAt_55 : decode cX10_memberAt 55 = .ok (.invokevirtual 153, 3) := by decide +kernel
theorem dX10_memberAt_58 : decode cX10_memberAt 58 = .ok (.ireturn, 1) := by decide +kernel
theorem dX10_memberAt_59 : decode cX10_memberAt 59 = .ok (.aload 4, 2) := by decide +kernel
theorem dX10_memberAt_61 : decode cX10_memberAt 61 = .ok (.iload_n 2, 1) := by decide +kernel
theorem dX10_memberAt_62 : decode cX10_memberAt 62 = .ok (.invokevirtual 137, 3) := by decide +kernel
theorem dX10_memberAt_65 : decode cX10_memberAt 65 = .ok (.ireturn, 1) := by decide +kernel
theorem dX10_memberAt_66 : decode cX10_memberAt 66 = .ok (.aload 4, 2) := by decide +kernel
theorem dX10_memberAt_68 : decode cX10_memberAt 68 = .ok (.iload_n 2, 1) := by decide +kernel
theorem dX10_memberAt_69 : decode cX10_memberAt 69 = .ok (.invokevirtual 156, 3) := by decide +kernel
theorem dX10_memberAt_72 : decode cX10_memberAt 72 = .ok (.ireturn, 1) := by decide +kernel
theorem dX10_memberAt_73 : decode cX10_memberAt 73 = .ok (.iload_n 1, 1) := by decide +kernel
theorem dX10_memberAt_74 : decode cX10_memberAt 74 = .ok (.ifCond .ne 17, 3) := by decide +kernel
theorem dX10_memberAt_77 : decode cX10_memberAt 77 = .ok (.aload_n 0, 1) := by decide +kernel
theorem dX10_memberAt_78 : decode cX10_memberAt 78 = .ok (.getfield 12, 3) := by decide +kernel
theorem dX10_memberAt_81 : decode cX10_memberAt 81 = .ok (.getfield 92, 3) := by decide +kernel
theorem dX10_memberAt_84 : decode cX10_memberAt 84 = .ok (.iload_n 2, 1) := by decide +kernel
theorem dX10_memberAt_85 : decode cX10_memberAt 85 = .ok (.invokevirtual 159, 3) := by decide +kernel
theorem dX10_memberAt_88 : decode cX10_memberAt 88 = .ok (.goto 4, 3) := by decide +kernel
theorem dX10_memberAt_91 : decode cX10_memberAt 91 = .ok (.iconst (-1), 1) := by decide +kernel
theorem dX10_memberAt_92 : decode cX10_memberAt 92 = .ok (.ireturn, 1) := by decide +kernel
theorem dX10_memberAt_93 : decode cX10_memberAt 93 = .ok (.aload 4, 2) := by decide +kernel
theorem dX10_memberAt_95 : decode cX10_memberAt 95 = .ok (.iload_n 2, 1) := by decide +kernel
theorem dX10_memberAt_96 : decode cX10_memberAt 96 = .ok (.invokevirtual 162, 3) := by decide +kernel
theorem dX10_memberAt_99 : decode cX10_memberAt 99 = .ok (.ifCond .eq 7, 3) := by decide +kernel
theorem dX10_memberAt_102 : decode cX10_memberAt 102 = .ok (.iconst 1, 1) := by decide +kernel
theorem dX10_memberAt_103 : decode cX10_memberAt 103 = .ok (.goto 4, 3) := by decide +kernel
theorem dX10_memberAt_106 : decode cX10_memberAt 106 = .ok (.iconst 0, 1) := by decide +kernel
theorem dX10_memberAt_107 : decode cX10_memberAt 107 = .ok (.ireturn, 1) := by decide +kernel
theorem dX10_word_0 : decode cX10_word 0 = .ok (.iload_n 1, 1) := by decide +kernel
theorem dX10_word_1 : decode cX10_word 1 = .ok (.iconst 0, 1) := by decide +kernel
theorem dX10_word_2 : decode cX10_word 2 = .ok (.bipush 6, 2) := by decide +kernel
theorem dX10_word_4 : decode cX10_word 4 = .ok (.invokestatic 70, 3) := by decide +kernel
theorem dX10_word_7 : decode cX10_word 7 = .ok (.iload_n 1, 1) := by decide +kernel
theorem dX10_word_8 : decode cX10_word 8 = .ok (.ifCond .ne 11, 3) := by decide +kernel
theorem dX10_word_11 : decode cX10_word 11 = .ok (.iload_n 2, 1) := by decide +kernel
theorem dX10_word_12 : decode cX10_word 12 = .ok (.ldc 165, 2) := by decide +kernel
theorem dX10_word_14 : decode cX10_word 14 = .ok (.ldc 166, 2) := by decide +kernel
theorem dX10_word_16 : decode cX10_word 16 = .ok (.invokestatic 70, 3) := by decide +kernel
theorem dX10_word_19 : decode cX10_word 19 = .ok (.iload_n 1, 1) := by decide +kernel
theorem dX10_word_20 : decode cX10_word 20 = .ok (.iconst 1, 1) := by decide +kernel
theorem dX10_word_21 : decode cX10_word 21 = .ok (.if_icmp .eq 8, 3) := by decide +kernel
theorem dX10_word_24 : decode cX10_word 24 = .ok (.iload_n 1, 1) := by decide +kernel
theorem dX10_word_25 : decode cX10_word 25 = .ok (.iconst 2, 1) := by decide +kernel
theorem dX10_word_26 : decode cX10_word 26 = .ok (.if_icmp .ne 10, 3) := by decide +kernel
theorem dX10_word_29 : decode cX10_word 29 = .ok (.iload_n 2, 1) := by decide +kernel
theorem dX10_word_30 : decode cX10_word 30 = .ok (.iconst 0, 1) := by decide +kernel
theorem dX10_word_31 : decode cX10_word 31 = .ok (.bipush 11, 2) := by decide +kernel
theorem dX10_word_33 : decode cX10_word 33 = .ok (.invokestatic 70, 3) := by decide +kernel
theorem dX10_word_36 : decode cX10_word 36 = .ok (.iload_n 1, 1) := by decide +kernel
theorem dX10_word_37 : decode cX10_word 37 = .ok (.iconst 1, 1) := by decide +kernel
theorem dX10_word_38 : decode cX10_word 38 = .ok (.if_icmp .ne 10, 3) := by decide +kernel
theorem dX10_word_41 : decode cX10_word 41 = .ok (.iload_n 3, 1) := by decide +kernel
theorem dX10_word_42 : decode cX10_word 42 = .ok (.iconst 0, 1) := by decide +kernel
theorem dX10_word_43 : decode cX10_word 43 = .ok (.bipush 11, 2) := by decide +kernel
theorem dX10_word_45 : decode cX10_word 45 = .ok (.invokestatic 70, 3) := by decide +kernel
theorem dX10_word_48 : decode cX10_word 48 = .ok (.aload_n 0, 1) := by decide +kernel
theorem dX10_word_49 : decode cX10_word 49 = .ok (.getfield 58, 3) := by decide +kernel
theorem dX10_word_52 : decode cX10_word 52 = .ok (.iload_n 1, 1) := by decide +kernel
theorem dX10_word_53 : decode cX10_word 53 = .ok (.invokevirtual 167, 3) := by decide +kernel
theorem dX10_word_56 : decode cX10_word 56 = .ok (.invokestatic 84, 3) := by decide +kernel
theorem dX10_word_59 : decode cX10_word 59 = .ok (.aload_n 0, 1) := by decide +kernel
theorem dX10_word_60 : decode cX10_word 60 = .ok (.getfield 58, 3) := by decide +kernel
theorem dX10_word_63 : decode cX10_word 63 = .ok (.iload_n 1, 1) := by decide +kernel
theorem dX10_word_64 : decode cX10_word 64 = .ok (.iload_n 2, 1) := by decide +kernel
theorem dX10_word_65 : decode cX10_word 65 = .ok (.iload_n 3, 1) := by decide +kernel
theorem dX10_word_66 : decode cX10_word 66 = .ok (.invokevirtual 170, 3) := by decide +kernel
theorem dX10_word_69 : decode cX10_word 69 = .ok (.aload_n 0, 1) := by decide +kernel
theorem dX10_word_70 : decode cX10_word 70 = .ok (.getfield 58, 3) := by decide +kernel
theorem dX10_word_73 : decode cX10_word 73 = .ok (.getfield 173, 3) := by decide +kernel
theorem dX10_word_76 : decode cX10_word 76 = .ok (.ireturn, 1) := by decide +kernel
theorem dX10_calculate_0 : decode cX10_calculate 0 = .ok (.aload_n 0, 1) := by decide +kernel
theorem dX10_calculate_1 : decode cX10_calculate 1 = .ok (.iload_n 1, 1) := by decide +kernel
theorem dX10_calculate_2 : decode cX10_calculate 2 = .ok (.invokevirtual 62, 3) := by decide +kernel
theorem dX10_calculate_5 : decode cX10_calculate 5 = .ok (.astore_n 3, 1) := by decide +kernel
theorem dX10_calculate_6 : decode cX10_calculate 6 = .ok (.iload_n 2, 1) := by decide +kernel
theorem dX10_calculate_7 : decode cX10_calculate 7 = .ok (.iconst 0, 1) := by decide +kernel
theorem dX10_calculate_8 : decode cX10_calculate 8 = .ok (.bipush 100, 2) := by decide +kernel
theorem dX10_calculate_10 : decode cX10_calculate 10 = .ok (.invokestatic 70, 3) := by decide +kernel
theorem dX10_calculate_13 : decode cX10_calculate 13 = .ok (.aload_n 0, 1) := by decide +kernel
theorem dX10_calculate_14 : decode cX10_calculate 14 = .ok (.getfield 58, 3) := by decide +kernel
theorem dX10_calculate_17 : decode cX10_calculate 17 = .ok (.getfield 174, 3) := by decide +kernel
theorem dX10_calculate_20 : decode cX10_calculate 20 = .ok (.iconst 1, 1) := by decide +kernel
theorem dX10_calculate_21 : decode cX10_calculate 21 = .ok (.if_icmp .ne 30, 3) := by decide +kernel
theorem dX10_calculate_24 : decode cX10_calculate 24 = .ok (.aload_n 0, 1) := by decide +kernel
theorem dX10_calculate_25 : decode cX10_calculate 25 = .ok (.getfield 58, 3) := by decide +kernel
theorem dX10_calculate_28 : decode cX10_calculate 28 = .ok (.aload_n 3, 1) := by decide +kernel
theorem dX10_calculate_29 : decode cX10_calculate 29 = .ok (.getfield 80, 3) := by decide +kernel
theorem dX10_calculate_32 : decode cX10_calculate 32 = .ok (.invokevirtual 177, 3) := by decide +kernel
theorem dX10_calculate_35 : decode cX10_calculate 35 = .ok (.ifCond .ne 16, 3) := by decide +kernel
theorem dX10_calculate_38 : decode cX10_calculate 38 = .ok (.aload_n 3, 1) := by decide +kernel
theorem dX10_calculate_39 : decode cX10_calculate 39 = .ok (.getfield 80, 3) := by decide +kernel
theorem dX10_calculate_42 : decode cX10_calculate 42 = .ok (.bipush 12, 2) := by decide +kernel
theorem dX10_calculate_44 : decode cX10_calculate 44 = .ok (.if_icmp .ge 7, 3) := by decide +kernel
theorem dX10_calculate_47 : decode cX10_calculate 47 = .ok (.iconst 1, 1) := by decide +kernel
theorem dX10_calculate_48 : decode cX10_calculate 48 = .ok (.goto 4, 3) := by decide +kernel
theorem dX10_calculate_51 : decode cX10_calculate 51 = .ok (.iconst 0, 1) := by decide +kernel
theorem dX10_calculate_52 : decode cX10_calculate 52 = .ok (.invokestatic 84, 3) := by decide +kernel
theorem dX10_calculate_55 : decode cX10_calculate 55 = .ok (.aload_n 3, 1) := by decide +kernel
theorem dX10_calculate_56 : decode cX10_calculate 56 = .ok (.aload_n 0, 1) := by decide +kernel
theorem dX10_calculate_57 : decode cX10_calculate 57 = .ok (.getfield 58, 3) := by decide +kernel
theorem dX10_calculate_60 : decode cX10_calculate 60 = .ok (.iload_n 2, 1) := by decide +kernel
theorem dX10_calculate_61 : decode cX10_calculate 61 = .ok (.invokevirtual 180, 3) := by decide +kernel
theorem dX10_calculate_64 : decode cX10_calculate 64 = .ok (.istore 4, 2) := by decide +kernel
theorem dX10_calculate_66 : decode cX10_calculate 66 = .ok (.aload_n 0, 1) := by decide +kernel
theorem dX10_calculate_67 : decode cX10_calculate 67 = .ok (.new 55, 3) := by decide +kernel
theorem dX10_calculate_70 : decode cX10_calculate 70 = .ok (.dup, 1) := by decide +kernel
theorem dX10_calculate_71 : decode cX10_calculate 71 = .ok (.invokespecial 57, 3) := by decide +kernel
theorem dX10_calculate_74 : decode cX10_calculate 74 = .ok (.putfield 58, 3) := by decide +kernel
theorem dX10_calculate_77 : decode cX10_calculate 77 = .ok (.aload_n 0, 1) := by decide +kernel
theorem dX10_calculate_78 : decode cX10_calculate 78 = .ok (.getfield 35, 3) := by decide +kernel
theorem dX10_calculate_81 : decode cX10_calculate 81 = .ok (.invokevirtual 105, 3) := by decide +kernel
theorem dX10_calculate_84 : decode cX10_calculate 84 = .ok (.iload 4, 2) := by decide +kernel
theorem dX10_calculate_86 : decode cX10_calculate 86 = .ok (.ireturn, 1) := by decide +kernel
theorem dX10_hide_0 : decode cX10_hide 0 = .ok (.aload_n 0, 1) := by decide +kernel
theorem dX10_hide_1 : decode cX10_hide 1 = .ok (.iload_n 1, 1) := by decide +kernel
theorem dX10_hide_2 : decode cX10_hide 2 = .ok (.invokevirtual 62, 3) := by decide +kernel
theorem dX10_hide_5 : decode cX10_hide 5 = .ok (.astore 4, 2) := by decide +kernel
theorem dX10_hide_7 : decode cX10_hide 7 = .ok (.aload 4, 2) := by decide +kernel
theorem dX10_hide_9 : decode cX10_hide 9 = .ok (.iload_n 2, 1) := by decide +kernel
theorem dX10_hide_10 : decode cX10_hide 10 = .ok (.invokestatic 66, 3) := by decide +kernel
theorem dX10_hide_13 : decode cX10_hide 13 = .ok (.iload_n 2, 1) := by decide +kernel
theorem dX10_hide_14 : decode cX10_hide 14 = .ok (.ifCond .ne 13, 3) := by decide +kernel
theorem dX10_hide_17 : decode cX10_hide 17 = .ok (.new 108, 3) := by decide +kernel
theorem dX10_hide_20 : decode cX10_hide 20 = .ok (.dup, 1) := by decide +kernel
theorem dX10_hide_21 : decode cX10_hide 21 = .ok (.ldc 184, 2) := by decide +kernel
theorem dX10_hide_23 : decode cX10_hide 23 = .ok (.invokespecial 112, 3) := by decide +kernel
theorem dX10_hide_26 : decode cX10_hide 26 = .ok (.athrow, 1) := by decide +kernel
theorem dX10_hide_27 : decode cX10_hide 27 = .ok (.aload 4, 2) := by decide +kernel
theorem dX10_hide_29 : decode cX10_hide 29 = .ok (.iload_n 2, 1) := by decide +kernel
theorem dX10_hide_30 : decode cX10_hide 30 = .ok (.invokevirtual 74, 3) := by decide +kernel
theorem dX10_hide_33 : decode cX10_hide 33 = .ok (.invokestatic 84, 3) := by decide +kernel
theorem dX10_hide_36 : decode cX10_hide 36 = .ok (.aload 4, 2) := by decide +kernel
theorem dX10_hide_38 : decode cX10_hide 38 = .ok (.iload_n 2, 1) := by decide +kernel
theorem dX10_hide_39 : decode cX10_hide 39 = .ok (.iload_n 3, 1) := by decide +kernel
theorem dX10_hide_40 : decode cX10_hide 40 = .ok (.invokevirtual 186, 3) := by decide +kernel
theorem dX10_hide_43 : decode cX10_hide 43 = .ok (.istore 5, 2) := by decide +kernel
theorem dX10_hide_45 : decode cX10_hide 45 = .ok (.aload_n 0, 1) := by decide +kernel
theorem dX10_hide_46 : decode cX10_hide 46 = .ok (.getfield 35, 3) := by decide +kernel
theorem dX10_hide_49 : decode cX10_hide 49 = .ok (.invokevirtual 105, 3) := by decide +kernel
theorem dX10_hide_52 : decode cX10_hide 52 = .ok (.iload 5, 2) := by decide +kernel
theorem dX10_hide_54 : decode cX10_hide 54 = .ok (.ireturn, 1) := by decide +kernel
theorem dX10_totals_0 : decode cX10_totals 0 = .ok (.aload_n 0, 1) := by decide +kernel
theorem dX10_totals_1 : decode cX10_totals 1 = .ok (.getfield 12, 3) := by decide +kernel
theorem dX10_totals_4 : decode cX10_totals 4 = .ok (.getfield 190, 3) := by decide +kernel
theorem dX10_totals_7 : decode cX10_totals 7 = .ok (.istore_n 2, 1) := by decide +kernel
theorem dX10_totals_8 : decode cX10_totals 8 = .ok (.aload_n 0, 1) := by decide +kernel
theorem dX10_totals_9 : decode cX10_totals 9 = .ok (.getfield 12, 3) := by decide +kernel
theorem dX10_totals_12 : decode cX10_totals 12 = .ok (.iload_n 1, 1) := by decide +kernel
theorem dX10_totals_13 : decode cX10_totals 13 = .ok (.putfield 190, 3) := by decide +kernel
theorem dX10_totals_16 : decode cX10_totals 16 = .ok (.aload_n 0, 1) := by decide +kernel
theorem dX10_totals_17 : decode cX10_totals 17 = .ok (.getfield 35, 3) := by decide +kernel
theorem dX10_totals_20 : decode cX10_totals 20 = .ok (.invokevirtual 105, 3) := by decide +kernel
theorem dX10_totals_23 : decode cX10_totals 23 = .ok (.iload_n 2, 1) := by decide +kernel
theorem dX10_totals_24 : decode cX10_totals 24 = .ok (.ireturn, 1) := by decide +kernel
theorem dX10_measure_0 : decode cX10_measure 0 = .ok (.iload_n 1, 1) := by decide +kernel
theorem dX10_measure_1 : decode cX10_measure 1 = .ok (.iconst 3, 1) := by decide +kernel
theorem dX10_measure_2 : decode cX10_measure 2 = .ok (.if_icmp .ne 13, 3) := by decide +kernel
theorem dX10_measure_5 : decode cX10_measure 5 = .ok (.aload_n 0, 1) := by decide +kernel
theorem dX10_measure_6 : decode cX10_measure 6 = .ok (.iload_n 2, 1) := by decide +kernel
theorem dX10_measure_7 : decode cX10_measure 7 = .ok (.invokevirtual 193, 3) := by decide +kernel
theorem dX10_measure_10 : decode cX10_measure 10 = .ok (.aload_n 0, 1) := by decide +kernel
theorem dX10_measure_11 : decode cX10_measure 11 = .ok (.iload_n 3, 1) := by decide +kernel
theorem dX10_measure_12 : decode cX10_measure 12 = .ok (.invokevirtual 193, 3) := by decide +kernel
theorem dX10_measure_15 : decode cX10_measure 15 = .ok (.iload_n 1, 1) := by decide +kernel
theorem dX10_measure_16 : decode cX10_measure 16 = .ok (.iconst 0, 1) := by decide +kernel
theorem dX10_measure_17 : decode cX10_measure 17 = .ok (.iconst 3, 1) := by decide +kernel
theorem dX10_measure_18 : decode cX10_measure 18 = .ok (.invokestatic 70, 3) := by decide +kernel
theorem dX10_measure_21 : decode cX10_measure 21 = .ok (.aload_n 0, 1) := by decide +kernel
theorem dX10_measure_22 : decode cX10_measure 22 = .ok (.getfield 21, 3) := by decide +kernel
theorem dX10_measure_25 : decode cX10_measure 25 = .ok (.getfield 197, 3) := by decide +kernel
theorem dX10_measure_28 : decode cX10_measure 28 = .ok (.iconst 4, 1) := by decide +kernel
theorem dX10_measure_29 : decode cX10_measure 29 = .ok (.if_icmp .ge 7, 3) := by decide +kernel
theorem dX10_measure_32 : decode cX10_measure 32 = .ok (.iconst 1, 1) := by decide +kernel
theorem dX10_measure_33 : decode cX10_measure 33 = .ok (.goto 4, 3) := by decide +kernel
theorem dX10_measure_36 : decode cX10_measure 36 = .ok (.iconst 0, 1) := by decide +kernel
theorem dX10_measure_37 : decode cX10_measure 37 = .ok (.invokestatic 84, 3) := by decide +kernel
theorem dX10_measure_40 : decode cX10_measure 40 = .ok (.aload_n 0, 1) := by decide +kernel
theorem dX10_measure_41 : decode cX10_measure 41 = .ok (.getfield 21, 3) := by decide +kernel
theorem dX10_measure_44 : decode cX10_measure 44 = .ok (.iload_n 1, 1) := by decide +kernel
theorem dX10_measure_45 : decode cX10_measure 45 = .ok (.iload_n 2, 1) := by decide +kernel
theorem dX10_measure_46 : decode cX10_measure 46 = .ok (.iload_n 3, 1) := by decide +kernel
theorem dX10_measure_47 : decode cX10_measure 47 = .ok (.invokevirtual 198, 3) := by decide +kernel
theorem dX10_measure_50 : decode cX10_measure 50 = .ok (.istore 4, 2) := by decide +kernel
theorem dX10_measure_52 : decode cX10_measure 52 = .ok (.aload_n 0, 1) := by decide +kernel
theorem dX10_measure_53 : decode cX10_measure 53 = .ok (.getfield 35, 3) := by decide +kernel
theorem dX10_measure_56 : decode cX10_measure 56 = .ok (.invokevirtual 105, 3) := by decide +kernel
theorem dX10_measure_59 : decode cX10_measure 59 = .ok (.iload 4, 2) := by decide +kernel
theorem dX10_measure_61 : decode cX10_measure 61 = .ok (.ireturn, 1) := by decide +kernel
theorem dX10_from_0 : decode cX10_from 0 = .ok (.aload_n 0, 1) := by decide +kernel
theorem dX10_from_1 : decode cX10_from 1 = .ok (.iload_n 1, 1) := by decide +kernel
theorem dX10_from_2 : decode cX10_from 2 = .ok (.invokevirtual 193, 3) := by decide +kernel
theorem dX10_from_5 : decode cX10_from 5 = .ok (.aload_n 0, 1) := by decide +kernel
theorem dX10_from_6 : decode cX10_from 6 = .ok (.iload_n 2, 1) := by decide +kernel
theorem dX10_from_7 : decode cX10_from 7 = .ok (.invokevirtual 62, 3) := by decide +kernel
theorem dX10_from_10 : decode cX10_from 10 = .ok (.pop, 1) := by decide +kernel
theorem dX10_from_11 : decode cX10_from 11 = .ok (.iload_n 3, 1) := by decide +kernel
theorem dX10_from_12 : decode cX10_from 12 = .ok (.iconst 0, 1) := by decide +kernel
theorem dX10_from_13 : decode cX10_from 13 = .ok (.bipush 11, 2) := by decide +kernel
theorem dX10_from_15 : decode cX10_from 15 = .ok (.invokestatic 70, 3) := by decide +kernel
theorem dX10_from_18 : decode cX10_from 18 = .ok (.aload_n 0, 1) := by decide +kernel
theorem dX10_from_19 : decode cX10_from 19 = .ok (.getfield 21, 3) := by decide +kernel
theorem dX10_from_22 : decode cX10_from 22 = .ok (.iload_n 1, 1) := by decide +kernel
theorem dX10_from_23 : decode cX10_from 23 = .ok (.iload_n 2, 1) := by decide +kernel
theorem dX10_from_24 : decode cX10_from 24 = .ok (.iload_n 3, 1) := by decide +kernel
theorem dX10_from_25 : decode cX10_from 25 = .ok (.invokevirtual 202, 3) := by decide +kernel
theorem dX10_from_28 : decode cX10_from 28 = .ok (.istore 4, 2) := by decide +kernel
theorem dX10_from_30 : decode cX10_from 30 = .ok (.aload_n 0, 1) := by decide +kernel
theorem dX10_from_31 : decode cX10_from 31 = .ok (.getfield 35, 3) := by decide +kernel
theorem dX10_from_34 : decode cX10_from 34 = .ok (.invokevirtual 105, 3) := by decide +kernel
theorem dX10_from_37 : decode cX10_from 37 = .ok (.iload 4, 2) := by decide +kernel
theorem dX10_from_39 : decode cX10_from 39 = .ok (.ireturn, 1) := by decide +kernel
theorem dX10_fact_0 : decode cX10_fact 0 = .ok (.aload_n 0, 1) := by decide +kernel
theorem dX10_fact_1 : decode cX10_fact 1 = .ok (.iload_n 1, 1) := by decide +kernel
theorem dX10_fact_2 : decode cX10_fact 2 = .ok (.iload_n 2, 1) := by decide +kernel
theorem dX10_fact_3 : decode cX10_fact 3 = .ok (.iload_n 3, 1) := by decide +kernel
theorem dX10_fact_4 : decode cX10_fact 4 = .ok (.iload 4, 2) := by decide +kernel
theorem dX10_fact_6 : decode cX10_fact 6 = .ok (.invokevirtual 205, 3) := by decide +kernel
theorem dX10_fact_9 : decode cX10_fact 9 = .ok (.istore 6, 2) := by decide +kernel
theorem dX10_fact_11 : decode cX10_fact 11 = .ok (.iload 5, 2) := by decide +kernel
theorem dX10_fact_13 : decode cX10_fact 13 = .ok (.ldc 165, 2) := by decide +kernel
theorem dX10_fact_15 : decode cX10_fact 15 = .ok (.ldc 166, 2) := by decide +kernel
theorem dX10_fact_17 : decode cX10_fact 17 = .ok (.invokestatic 70, 3) := by decide +kernel
theorem dX10_fact_20 : decode cX10_fact 20 = .ok (.aload_n 0, 1) := by decide +kernel
theorem dX10_fact_21 : decode cX10_fact 21 = .ok (.getfield 12, 3) := by decide +kernel
theorem dX10_fact_24 : decode cX10_fact 24 = .ok (.iload 6, 2) := by decide +kernel
theorem dX10_fact_26 : decode cX10_fact 26 = .ok (.invokevirtual 209, 3) := by decide +kernel
theorem dX10_fact_29 : decode cX10_fact 29 = .ok (.ifCond .eq 20, 3) := by decide +kernel
theorem dX10_fact_32 : decode cX10_fact 32 = .ok (.aload_n 0, 1) := by decide +kernel
theorem dX10_fact_33 : decode cX10_fact 33 = .ok (.getfield 21, 3) := by decide +kernel
theorem dX10_fact_36 : decode cX10_fact 36 = .ok (.iload 4, 2) := by decide +kernel
theorem dX10_fact_38 : decode cX10_fact 38 = .ok (.invokevirtual 210, 3) := by decide +kernel
theorem dX10_fact_41 : decode cX10_fact 41 = .ok (.iconst 3, 1) := by decide +kernel
theorem dX10_fact_42 : decode cX10_fact 42 = .ok (.if_icmp .eq 7, 3) := by decide +kernel
theorem dX10_fact_45 : decode cX10_fact 45 = .ok (.iconst 1, 1) := by decide +kernel
theorem dX10_fact_46 : decode cX10_fact 46 = .ok (.goto 4, 3) := by decide +kernel
theorem dX10_fact_49 : decode cX10_fact 49 = .ok (.iconst 0, 1) := by decide +kernel
theorem dX10_fact_50 : decode cX10_fact 50 = .ok (.invokestatic 84, 3) := by decide +kernel
theorem dX10_fact_53 : decode cX10_fact 53 = .ok (.aload_n 0, 1) := by decide +kernel
theorem dX10_fact_54 : decode cX10_fact 54 = .ok (.getfield 28, 3) := by decide +kernel
theorem dX10_fact_57 : decode cX10_fact 57 = .ok (.iload 6, 2) := by decide +kernel
theorem dX10_fact_59 : decode cX10_fact 59 = .ok (.iload 4, 2) := by decide +kernel
theorem dX10_fact_61 : decode cX10_fact 61 = .ok (.invokevirtual 211, 3) := by decide +kernel
theorem dX10_fact_64 : decode cX10_fact 64 = .ok (.istore 7, 2) := by decide +kernel
theorem dX10_fact_66 : decode cX10_fact 66 = .ok (.iload 7, 2) := by decide +kernel
theorem dX10_fact_68 : decode cX10_fact 68 = .ok (.iconst (-1), 1) := by decide +kernel
theorem dX10_fact_69 : decode cX10_fact 69 = .ok (.if_icmp .ne 15, 3) := by decide +kernel
theorem dX10_fact_72 : decode cX10_fact 72 = .ok (.aload_n 0, 1) := by decide +kernel
theorem dX10_fact_73 : decode cX10_fact 73 = .ok (.getfield 28, 3) := by decide +kernel
theorem dX10_fact_76 : decode cX10_fact 76 = .ok (.getfield 214, 3) := by decide +kernel
theorem dX10_fact_79 : decode cX10_fact 79 = .ok (.bipush 50, 2) := by decide +kernel
theorem dX10_fact_81 : decode cX10_fact 81 = .ok (.if_icmp .ge 7, 3) := by decide +kernel
theorem dX10_fact_84 : decode cX10_fact 84 = .ok (.iconst 1, 1) := by decide +kernel
theorem dX10_fact_85 : decode cX10_fact 85 = .ok (.goto 4, 3) := by decide +kernel
theorem dX10_fact_88 : decode cX10_fact 88 = .ok (.iconst 0, 1) := by decide +kernel
theorem dX10_fact_89 : decode cX10_fact 89 = .ok (.invokestatic 84, 3) := by decide +kernel
theorem dX10_fact_92 : decode cX10_fact 92 = .ok (.iload 7, 2) := by decide +kernel
theorem dX10_fact_94 : decode cX10_fact 94 = .ok (.iconst (-1), 1) := by decide +kernel
theorem dX10_fact_95 : decode cX10_fact 95 = .ok (.if_icmp .ne 27, 3) := by decide +kernel
theorem dX10_fact_98 : decode cX10_fact 98 = .ok (.aload_n 0, 1) := by decide +kernel
theorem dX10_fact_99 : decode cX10_fact 99 = .ok (.getfield 28, 3) := by decide +kernel
theorem dX10_fact_102 : decode cX10_fact 102 = .ok (.iload 6, 2) := by decide +kernel
theorem dX10_fact_104 : decode cX10_fact 104 = .ok (.iload 4, 2) := by decide +kernel
theorem dX10_fact_106 : decode cX10_fact 106 = .ok (.iload 5, 2) := by decide +kernel
theorem dX10_fact_108 : decode cX10_fact 108 = .ok (.invokevirtual 215, 3) := by decide +kernel
theorem dX10_fact_111 : decode cX10_fact 111 = .ok (.aload_n 0, 1) := by decide +kernel
theorem dX10_fact_112 : decode cX10_fact 112 = .ok (.iload 6, 2) := by decide +kernel
theorem dX10_fact_114 : decode cX10_fact 114 = .ok (.iload 4, 2) := by decide +kernel
theorem dX10_fact_116 : decode cX10_fact 116 = .ok (.invokevirtual 217, 3) := by decide +kernel
theorem dX10_fact_119 : decode cX10_fact 119 = .ok (.goto 12, 3) := by decide +kernel
theorem dX10_fact_122 : decode cX10_fact 122 = .ok (.aload_n 0, 1) := by decide +kernel
theorem dX10_fact_123 : decode cX10_fact 123 = .ok (.iload 7, 2) := by decide +kernel
theorem dX10_fact_125 : decode cX10_fact 125 = .ok (.iload 5, 2) := by decide +kernel
theorem dX10_fact_127 : decode cX10_fact 127 = .ok (.invokevirtual 221, 3) := by decide +kernel
theorem dX10_fact_130 : decode cX10_fact 130 = .ok (.pop, 1) := by decide +kernel
theorem dX10_fact_131 : decode cX10_fact 131 = .ok (.aload_n 0, 1) := by decide +kernel
theorem dX10_fact_132 : decode cX10_fact 132 = .ok (.getfield 28, 3) := by decide +kernel
theorem dX10_fact_135 : decode cX10_fact 135 = .ok (.getfield 214, 3) := by decide +kernel
theorem dX10_fact_138 : decode cX10_fact 138 = .ok (.ireturn, 1) := by decide +kernel
theorem dX10_cell_0 : decode cX10_cell 0 = .ok (.aload_n 0, 1) := by decide +kernel
theorem dX10_cell_1 : decode cX10_cell 1 = .ok (.iload_n 1, 1) := by decide +kernel
theorem dX10_cell_2 : decode cX10_cell 2 = .ok (.iload_n 2, 1) := by decide +kernel
theorem dX10_cell_3 : decode cX10_cell 3 = .ok (.iload_n 3, 1) := by decide +kernel
theorem dX10_cell_4 : decode cX10_cell 4 = .ok (.iload 4, 2) := by decide +kernel
theorem dX10_cell_6 : decode cX10_cell 6 = .ok (.invokevirtual 205, 3) := by decide +kernel
theorem dX10_cell_9 : decode cX10_cell 9 = .ok (.istore 5, 2) := by decide +kernel
theorem dX10_cell_11 : decode cX10_cell 11 = .ok (.aload_n 0, 1) := by decide +kernel
theorem dX10_cell_12 : decode cX10_cell 12 = .ok (.getfield 12, 3) := by decide +kernel
theorem dX10_cell_15 : decode cX10_cell 15 = .ok (.iload 5, 2) := by decide +kernel
theorem dX10_cell_17 : decode cX10_cell 17 = .ok (.invokevirtual 231, 3) := by decide +kernel
theorem dX10_cell_20 : decode cX10_cell 20 = .ok (.ifCond .ne 7, 3) := by decide +kernel
theorem dX10_cell_23 : decode cX10_cell 23 = .ok (.ldc2_w 232, 3) := by decide +kernel
theorem dX10_cell_26 : decode cX10_cell 26 = .ok (.lreturn, 1) := by decide +kernel
theorem dX10_cell_27 : decode cX10_cell 27 = .ok (.aload_n 0, 1) := by decide +kernel
theorem dX10_cell_28 : decode cX10_cell 28 = .ok (.getfield 35, 3) := by decide +kernel
theorem dX10_cell_31 : decode cX10_cell 31 = .ok (.iload 5, 2) := by decide +kernel
theorem dX10_cell_33 : decode cX10_cell 33 = .ok (.iload 4, 2) := by decide +kernel
theorem dX10_cell_35 : decode cX10_cell 35 = .ok (.invokevirtual 234, 3) := by decide +kernel
theorem dX10_cell_38 : decode cX10_cell 38 = .ok (.istore 6, 2) := by decide +kernel
theorem dX10_cell_40 : decode cX10_cell 40 = .ok (.iload 6, 2) := by decide +kernel
theorem dX10_cell_42 : decode cX10_cell 42 = .ok (.iconst (-1), 1) := by decide +kernel
theorem dX10_cell_43 : decode cX10_cell 43 = .ok (.if_icmp .eq 26, 3) := by decide +kernel
theorem dX10_cell_46 : decode cX10_cell 46 = .ok (.aload_n 0, 1) := by decide +kernel
theorem dX10_cell_47 : decode cX10_cell 47 = .ok (.getfield 35, 3) := by decide +kernel
theorem dX10_cell_50 : decode cX10_cell 50 = .ok (.dup, 1) := by decide +kernel
theorem dX10_cell_51 : decode cX10_cell 51 = .ok (.getfield 235, 3) := by decide +kernel
theorem dX10_cell_54 : decode cX10_cell 54 = .ok (.iconst 1, 1) := by decide +kernel
theorem dX10_cell_55 : decode cX10_cell 55 = .ok (.iadd, 1) := by decide +kernel
theorem dX10_cell_56 : decode cX10_cell 56 = .ok (.putfield 235, 3) := by decide +kernel
theorem dX10_cell_59 : decode cX10_cell 59 = .ok (.aload_n 0, 1) := by decide +kernel
theorem dX10_cell_60 : decode cX10_cell 60 = .ok (.getfield 35, 3) := by decide +kernel
theorem dX10_cell_63 : decode cX10_cell 63 = .ok (.iload 6, 2) := by decide +kernel
theorem dX10_cell_65 : decode cX10_cell 65 = .ok (.invokevirtual 238, 3) := by decide +kernel
theorem dX10_cell_68 : decode cX10_cell 68 = .ok (.lreturn, 1) := by decide +kernel
theorem dX10_cell_69 : decode cX10_cell 69 = .ok (.aload_n 0, 1) := by decide +kernel
theorem dX10_cell_70 : decode cX10_cell 70 = .ok (.getfield 51, 3) := by decide +kernel
theorem dX10_cell_73 : decode cX10_cell 73 = .ok (.iload 4, 2) := by decide +kernel
theorem dX10_cell_75 : decode cX10_cell 75 = .ok (.invokevirtual 242, 3) := by decide +kernel
theorem dX10_cell_78 : decode cX10_cell 78 = .ok (.aload_n 0, 1) := by decide +kernel
theorem dX10_cell_79 : decode cX10_cell 79 = .ok (.getfield 51, 3) := by decide +kernel
theorem dX10_cell_82 : decode cX10_cell 82 = .ok (.iload 5, 2) := by decide +kernel
theorem dX10_cell_84 : decode cX10_cell 84 = .ok (.invokevirtual 245, 3) := by decide +kernel
theorem dX10_cell_87 : decode cX10_cell 87 = .ok (.lstore 7, 2) := by decide +kernel
theorem dX10_cell_89 : decode cX10_cell 89 = .ok (.aload_n 0, 1) := by decide +kernel
theorem dX10_cell_90 : decode cX10_cell 90 = .ok (.getfield 35, 3) := by decide +kernel
theorem dX10_cell_93 : decode cX10_cell 93 = .ok (.iload 5, 2) := by decide +kernel
theorem dX10_cell_95 : decode cX10_cell 95 = .ok (.iload 4, 2) := by decide +kernel
theorem dX10_cell_97 : decode cX10_cell 97 = .ok (.lload 7, 2) := by decide +kernel
theorem dX10_cell_99 : decode cX10_cell 99 = .ok (.invokevirtual 248, 3) := by decide +kernel
theorem dX10_cell_102 : decode cX10_cell 102 = .ok (.lload 7, 2) := by decide +kernel
theorem dX10_cell_104 : decode cX10_cell 104 = .ok (.lreturn, 1) := by decide +kernel
theorem dX10_cellAnew_0 : decode cX10_cellAnew 0 = .ok (.aload_n 0, 1) := by decide +kernel
theorem dX10_cellAnew_1 : decode cX10_cellAnew 1 = .ok (.iload_n 1, 1) := by decide +kernel
theorem dX10_cellAnew_2 : decode cX10_cellAnew 2 = .ok (.iload_n 2, 1) := by decide +kernel
theorem dX10_cellAnew_3 : decode cX10_cellAnew 3 = .ok (.iload_n 3, 1) := by decide +kernel
theorem dX10_cellAnew_4 : decode cX10_cellAnew 4 = .ok (.iload 4, 2) := by decide +kernel
theorem dX10_cellAnew_6 : decode cX10_cellAnew 6 = .ok (.invokevirtual 205, 3) := by decide +kernel
theorem dX10_cellAnew_9 : decode cX10_cellAnew 9 = .ok (.istore 5, 2) := by decide +kernel
theorem dX10_cellAnew_11 : decode cX10_cellAnew 11 = .ok (.aload_n 0, 1) := by decide +kernel
theorem dX10_cellAnew_12 : decode cX10_cellAnew 12 = .ok (.getfield 51, 3) := by decide +kernel
theorem dX10_cellAnew_15 : decode cX10_cellAnew 15 = .ok (.iload 4, 2) := by decide +kernel
theorem dX10_cellAnew_17 : decode cX10_cellAnew 17 = .ok (.invokevirtual 242, 3) := by decide +kernel
theorem dX10_cellAnew_20 : decode cX10_cellAnew 20 = .ok (.aload_n 0, 1) := by decide +kernel
theorem dX10_cellAnew_21 : decode cX10_cellAnew 21 = .ok (.getfield 51, 3) := by decide +kernel
theorem dX10_cellAnew_24 : decode cX10_cellAnew 24 = .ok (.iload 5, 2) := by decide +kernel
theorem dX10_cellAnew_26 : decode cX10_cellAnew 26 = .ok (.invokevirtual 245, 3) := by decide +kernel
theorem dX10_cellAnew_29 : decode cX10_cellAnew 29 = .ok (.lreturn, 1) := by decide +kernel
theorem dX10_kept_0 : decode cX10_kept 0 = .ok (.aload_n 0, 1) := by decide +kernel
theorem dX10_kept_1 : decode cX10_kept 1 = .ok (.getfield 35, 3) := by decide +kernel
theorem dX10_kept_4 : decode cX10_kept 4 = .ok (.getfield 252, 3) := by decide +kernel
theorem dX10_kept_7 : decode cX10_kept 7 = .ok (.ireturn, 1) := by decide +kernel
theorem dX10_hits_0 : decode cX10_hits 0 = .ok (.aload_n 0, 1) := by decide +kernel
theorem dX10_hits_1 : decode cX10_hits 1 = .ok (.getfield 35, 3) := by decide +kernel
theorem dX10_hits_4 : decode cX10_hits 4 = .ok (.getfield 235, 3) := by decide +kernel
theorem dX10_hits_7 : decode cX10_hits 7 = .ok (.ireturn, 1) := by decide +kernel
theorem dX10_at_0 : decode cX10_at 0 = .ok (.aload_n 0, 1) := by decide +kernel
theorem dX10_at_1 : decode cX10_at 1 = .ok (.iload_n 1, 1) := by decide +kernel
theorem dX10_at_2 : decode cX10_at 2 = .ok (.invokevirtual 62, 3) := by decide +kernel
theorem dX10_at_5 : decode cX10_at 5 = .ok (.astore_n 3, 1) := by decide +kernel
theorem dX10_at_6 : decode cX10_at 6 = .ok (.aload_n 3, 1) := by decide +kernel
theorem dX10_at_7 : decode cX10_at 7 = .ok (.iload_n 2, 1) := by decide +kernel
theorem dX10_at_8 : decode cX10_at 8 = .ok (.invokestatic 66, 3) := by decide +kernel
theorem dX10_at_11 : decode cX10_at 11 = .ok (.aload_n 3, 1) := by decide +kernel
theorem dX10_at_12 : decode cX10_at 12 = .ok (.getfield 253, 3) := by decide +kernel
theorem dX10_at_15 : decode cX10_at 15 = .ok (.istore 4, 2) := by decide +kernel
theorem dX10_at_17 : decode cX10_at 17 = .ok (.aload_n 3, 1) := by decide +kernel
theorem dX10_at_18 : decode cX10_at 18 = .ok (.iload_n 2, 1) := by decide +kernel
theorem dX10_at_19 : decode cX10_at 19 = .ok (.putfield 253, 3) := by decide +kernel
theorem dX10_at_22 : decode cX10_at 22 = .ok (.iload 4, 2) := by decide +kernel
theorem dX10_at_24 : decode cX10_at 24 = .ok (.ireturn, 1) := by decide +kernel
theorem dX10_pick_0 : decode cX10_pick 0 = .ok (.aload_n 0, 1) := by decide +kernel
theorem dX10_pick_1 : decode cX10_pick 1 = .ok (.iload_n 1, 1) := by decide +kernel
theorem dX10_pick_2 : decode cX10_pick 2 = .ok (.invokevirtual 62, 3) := by decide +kernel
theorem dX10_pick_5 : decode cX10_pick 5 = .ok (.astore 6, 2) := by decide +kernel
theorem dX10_pick_7 : decode cX10_pick 7 = .ok (.iload_n 2, 1) := by decide +kernel
theorem dX10_pick_8 : decode cX10_pick 8 = .ok (.iconst 2, 1) := by decide +kernel
theorem dX10_pick_9 : decode cX10_pick 9 = .ok (.if_icmp .eq 9, 3) := by decide +kernel
theorem dX10_pick_12 : decode cX10_pick 12 = .ok (.aload 6, 2) := by decide +kernel
theorem dX10_pick_14 : decode cX10_pick 14 = .ok (.iload_n 3, 1) := by decide +kernel
theorem dX10_pick_15 : decode cX10_pick 15 = .ok (.invokestatic 66, 3) := by decide +kernel
theorem dX10_pick_18 : decode cX10_pick 18 = .ok (.iload 5, 2) := by decide +kernel
theorem dX10_pick_20 : decode cX10_pick 20 = .ok (.ifCond .eq 9, 3) := by decide +kernel
theorem dX10_pick_23 : decode cX10_pick 23 = .ok (.aload_n 0, 1) := by decide +kernel
theorem dX10_pick_24 : decode cX10_pick 24 = .ok (.iload 4, 2) := by decide +kernel
theorem dX10_pick_26 : decode cX10_pick 26 = .ok (.invokevirtual 193, 3) := by decide +kernel
theorem dX10_pick_29 : decode cX10_pick 29 = .ok (.iload_n 2, 1) := by decide +kernel
theorem dX10_pick_30 : decode cX10_pick 30 = .ok (.iconst 0, 1) := by decide +kernel
theorem dX10_pick_31 : decode cX10_pick 31 = .ok (.iconst 2, 1) := by decide +kernel
theorem dX10_pick_32 : decode cX10_pick 32 = .ok (.invokestatic 70, 3) := by decide +kernel
theorem dX10_pick_35 : decode cX10_pick 35 = .ok (.iload 5, 2) := by decide +kernel
theorem dX10_pick_37 : decode cX10_pick 37 = .ok (.iconst 0, 1) := by decide +kernel
theorem dX10_pick_38 : decode cX10_pick 38 = .ok (.bipush 12, 2) := by decide +kernel
theorem dX10_pick_40 : decode cX10_pick 40 = .ok (.invokestatic 70, 3) := by decide +kernel
theorem dX10_pick_43 : decode cX10_pick 43 = .ok (.iload_n 2, 1) := by decide +kernel
theorem dX10_pick_44 : decode cX10_pick 44 = .ok (.iconst 2, 1) := by decide +kernel
theorem dX10_pick_45 : decode cX10_pick 45 = .ok (.if_icmp .ne 10, 3) := by decide +kernel
theorem dX10_pick_48 : decode cX10_pick 48 = .ok (.iload_n 3, 1) := by decide +kernel
theorem dX10_pick_49 : decode cX10_pick 49 = .ok (.iconst 0, 1) := by decide +kernel
theorem dX10_pick_50 : decode cX10_pick 50 = .ok (.bipush 11, 2) := by decide +kernel
theorem dX10_pick_52 : decode cX10_pick 52 = .ok (.invokestatic 70, 3) := by decide +kernel
theorem dX10_pick_55 : decode cX10_pick 55 = .ok (.iload_n 2, 1) := by decide +kernel
theorem dX10_pick_56 : decode cX10_pick 56 = .ok (.iconst 2, 1) := by decide +kernel
theorem dX10_pick_57 : decode cX10_pick 57 = .ok (.if_icmp .eq 12, 3) := by decide +kernel
theorem dX10_pick_60 : decode cX10_pick 60 = .ok (.aload 6, 2) := by decide +kernel
theorem dX10_pick_62 : decode cX10_pick 62 = .ok (.iload_n 3, 1) := by decide +kernel
theorem dX10_pick_63 : decode cX10_pick 63 = .ok (.invokevirtual 74, 3) := by decide +kernel
theorem dX10_pick_66 : decode cX10_pick 66 = .ok (.ifCond .eq 7, 3) := by decide +kernel
theorem dX10_pick_69 : decode cX10_pick 69 = .ok (.iconst 1, 1) := by decide +kernel
theorem dX10_pick_70 : decode cX10_pick 70 = .ok (.goto 4, 3) := by decide +kernel
theorem dX10_pick_73 : decode cX10_pick 73 = .ok (.iconst 0, 1) := by decide +kernel
theorem dX10_pick_74 : decode cX10_pick 74 = .ok (.invokestatic 84, 3) := by decide +kernel
theorem dX10_pick_77 : decode cX10_pick 77 = .ok (.aload 6, 2) := by decide +kernel
theorem dX10_pick_79 : decode cX10_pick 79 = .ok (.iload_n 2, 1) := by decide +kernel
theorem dX10_pick_80 : decode cX10_pick 80 = .ok (.iload_n 3, 1) := by decide +kernel
theorem dX10_pick_81 : decode cX10_pick 81 = .ok (.invokevirtual 256, 3) := by decide +kernel
theorem dX10_pick_84 : decode cX10_pick 84 = .ok (.iload 5, 2) := by decide +kernel
theorem dX10_pick_86 : decode cX10_pick 86 = .ok (.ifCond .eq 22, 3) := by decide +kernel
theorem dX10_pick_89 : decode cX10_pick 89 = .ok (.aload_n 0, 1) := by decide +kernel
theorem dX10_pick_90 : decode cX10_pick 90 = .ok (.getfield 51, 3) := by decide +kernel
theorem dX10_pick_93 : decode cX10_pick 93 = .ok (.iload 4, 2) := by decide +kernel
theorem dX10_pick_95 : decode cX10_pick 95 = .ok (.invokevirtual 242, 3) := by decide +kernel
theorem dX10_pick_98 : decode cX10_pick 98 = .ok (.aload_n 0, 1) := by decide +kernel
theorem dX10_pick_99 : decode cX10_pick 99 = .ok (.getfield 51, 3) := by decide +kernel
theorem dX10_pick_102 : decode cX10_pick 102 = .ok (.iload_n 1, 1) := by decide +kernel
theorem dX10_pick_103 : decode cX10_pick 103 = .ok (.iload 5, 2) := by decide +kernel
theorem dX10_pick_105 : decode cX10_pick 105 = .ok (.invokevirtual 259, 3) := by decide +kernel
theorem dX10_pick_108 : decode cX10_pick 108 = .ok (.aload 6, 2) := by decide +kernel
theorem dX10_pick_110 : decode cX10_pick 110 = .ok (.getfield 262, 3) := by decide +kernel
theorem dX10_pick_113 : decode cX10_pick 113 = .ok (.ireturn, 1) := by decide +kernel
theorem dX10_picked_0 : decode cX10_picked 0 = .ok (.aload_n 0, 1) := by decide +kernel
theorem dX10_picked_1 : decode cX10_picked 1 = .ok (.iload_n 1, 1) := by decide +kernel
theorem dX10_picked_2 : decode cX10_picked 2 = .ok (.invokevirtual 62, 3) := by decide +kernel
theorem dX10_picked_5 : decode cX10_picked 5 = .ok (.astore_n 3, 1) := by decide +kernel
theorem dX10_picked_6 : decode cX10_picked 6 = .ok (.iload_n 2, 1) := by decide +kernel
theorem dX10_picked_7 : decode cX10_picked 7 = .ok (.ifCond .ge 14, 3) := by decide +kernel
theorem dX10_picked_10 : decode cX10_picked 10 = .ok (.new 108, 3) := by decide +kernel
theorem dX10_picked_13 : decode cX10_picked 13 = .ok (.dup, 1) := by decide +kernel
theorem dX10_picked_14 : decode cX10_picked 14 = .ok (.ldc_w 265, 3) := by decide +kernel
theorem dX10_picked_17 : decode cX10_picked 17 = .ok (.invokespecial 112, 3) := by decide +kernel
theorem dX10_picked_20 : decode cX10_picked 20 = .ok (.athrow, 1) := by decide +kernel
theorem dX10_picked_21 : decode cX10_picked 21 = .ok (.aload_n 3, 1) := by decide +kernel
theorem dX10_picked_22 : decode cX10_picked 22 = .ok (.iload_n 2, 1) := by decide +kernel
theorem dX10_picked_23 : decode cX10_picked 23 = .ok (.invokevirtual 267, 3) := by decide +kernel
theorem dX10_picked_26 : decode cX10_picked 26 = .ok (.ireturn, 1) := by decide +kernel
theorem dX10_cross_0 : decode cX10_cross 0 = .ok (.aload_n 0, 1) := by decide +kernel
theorem dX10_cross_1 : decode cX10_cross 1 = .ok (.iload_n 1, 1) := by decide +kernel
theorem dX10_cross_2 : decode cX10_cross 2 = .ok (.invokevirtual 62, 3) := by decide +kernel
theorem dX10_cross_5 : decode cX10_cross 5 = .ok (.astore 4, 2) := by decide +kernel
theorem dX10_cross_7 : decode cX10_cross 7 = .ok (.aload_n 0, 1) := by decide +kernel
theorem dX10_cross_8 : decode cX10_cross 8 = .ok (.iload_n 2, 1) := by decide +kernel
theorem dX10_cross_9 : decode cX10_cross 9 = .ok (.invokevirtual 62, 3) := by decide +kernel
theorem dX10_cross_12 : decode cX10_cross 12 = .ok (.astore 5, 2) := by decide +kernel
theorem dX10_cross_14 : decode cX10_cross 14 = .ok (.aload_n 0, 1) := by decide +kernel
theorem dX10_cross_15 : decode cX10_cross 15 = .ok (.iload_n 3, 1) := by decide +kernel
theorem dX10_cross_16 : decode cX10_cross 16 = .ok (.invokevirtual 193, 3) := by decide +kernel
theorem dX10_cross_19 : decode cX10_cross 19 = .ok (.iload_n 1, 1) := by decide +kernel
theorem dX10_cross_20 : decode cX10_cross 20 = .ok (.iload_n 2, 1) := by decide +kernel
theorem dX10_cross_21 : decode cX10_cross 21 = .ok (.if_icmp .ne 14, 3) := by decide +kernel
theorem dX10_cross_24 : decode cX10_cross 24 = .ok (.new 270, 3) := by decide +kernel
theorem dX10_cross_27 : decode cX10_cross 27 = .ok (.dup, 1) := by decide +kernel
theorem dX10_cross_28 : decode cX10_cross 28 = .ok (.ldc_w 272, 3) := by decide +kernel
theorem dX10_cross_31 : decode cX10_cross 31 = .ok (.invokespecial 274, 3) := by decide +kernel
theorem dX10_cross_34 : decode cX10_cross 34 = .ok (.athrow, 1) := by decide +kernel
theorem dX10_cross_35 : decode cX10_cross 35 = .ok (.aload_n 0, 1) := by decide +kernel
theorem dX10_cross_36 : decode cX10_cross 36 = .ok (.getfield 51, 3) := by decide +kernel
theorem dX10_cross_39 : decode cX10_cross 39 = .ok (.iload_n 3, 1) := by decide +kernel
theorem dX10_cross_40 : decode cX10_cross 40 = .ok (.invokevirtual 242, 3) := by decide +kernel
theorem dX10_cross_43 : decode cX10_cross 43 = .ok (.iconst 0, 1) := by decide +kernel
theorem dX10_cross_44 : decode cX10_cross 44 = .ok (.istore 6, 2) := by decide +kernel
theorem dX10_cross_46 : decode cX10_cross 46 = .ok (.iconst 0, 1) := by decide +kernel
theorem dX10_cross_47 : decode cX10_cross 47 = .ok (.istore 7, 2) := by decide +kernel
theorem dX10_cross_49 : decode cX10_cross 49 = .ok (.iload 7, 2) := by decide +kernel
theorem dX10_cross_51 : decode cX10_cross 51 = .ok (.aload 4, 2) := by decide +kernel
theorem dX10_cross_53 : decode cX10_cross 53 = .ok (.getfield 262, 3) := by decide +kernel
theorem dX10_cross_56 : decode cX10_cross 56 = .ok (.if_icmp .ge 78, 3) := by decide +kernel
theorem dX10_cross_59 : decode cX10_cross 59 = .ok (.aload_n 0, 1) := by decide +kernel
theorem dX10_cross_60 : decode cX10_cross 60 = .ok (.getfield 12, 3) := by decide +kernel
theorem dX10_cross_63 : decode cX10_cross 63 = .ok (.invokevirtual 275, 3) := by decide +kernel
theorem dX10_cross_66 : decode cX10_cross 66 = .ok (.iload_n 1, 1) := by decide +kernel
theorem dX10_cross_67 : decode cX10_cross 67 = .ok (.aload 4, 2) := by decide +kernel
theorem dX10_cross_69 : decode cX10_cross 69 = .ok (.iload 7, 2) := by decide +kernel
theorem dX10_cross_71 : decode cX10_cross 71 = .ok (.invokevirtual 267, 3) := by decide +kernel
theorem dX10_cross_74 : decode cX10_cross 74 = .ok (.invokestatic 278, 3) := by decide +kernel
theorem dX10_cross_77 : decode cX10_cross 77 = .ok (.istore 8, 2) := by decide +kernel
theorem dX10_cross_79 : decode cX10_cross 79 = .ok (.iconst 0, 1) := by decide +kernel
theorem dX10_cross_80 : decode cX10_cross 80 = .ok (.istore 9, 2) := by decide +kernel
theorem dX10_cross_82 : decode cX10_cross 82 = .ok (.iload 9, 2) := by decide +kernel
theorem dX10_cross_84 : decode cX10_cross 84 = .ok (.aload 5, 2) := by decide +kernel
theorem dX10_cross_86 : decode cX10_cross 86 = .ok (.getfield 262, 3) := by decide +kernel
theorem dX10_cross_89 : decode cX10_cross 89 = .ok (.if_icmp .ge 39, 3) := by decide +kernel
theorem dX10_cross_92 : decode cX10_cross 92 = .ok (.aload_n 0, 1) := by decide +kernel
theorem dX10_cross_93 : decode cX10_cross 93 = .ok (.getfield 51, 3) := by decide +kernel
theorem dX10_cross_96 : decode cX10_cross 96 = .ok (.iload 8, 2) := by decide +kernel
theorem dX10_cross_98 : decode cX10_cross 98 = .ok (.iload_n 2, 1) := by decide +kernel
theorem dX10_cross_99 : decode cX10_cross 99 = .ok (.aload 5, 2) := by decide +kernel
theorem dX10_cross_101 : decode cX10_cross 101 = .ok (.iload 9, 2) := by decide +kernel
theorem dX10_cross_103 : decode cX10_cross 103 = .ok (.invokevirtual 267, 3) := by decide +kernel
theorem dX10_cross_106 : decode cX10_cross 106 = .ok (.invokestatic 278, 3) := by decide +kernel
theorem dX10_cross_109 : decode cX10_cross 109 = .ok (.invokevirtual 245, 3) := by decide +kernel
theorem dX10_cross_112 : decode cX10_cross 112 = .ok (.ldc2_w 232, 3) := by decide +kernel
theorem dX10_cross_115 : decode cX10_cross 115 = .ok (.lcmp, 1) := by decide +kernel
theorem dX10_cross_116 : decode cX10_cross 116 = .ok (.ifCond .eq 6, 3) := by decide +kernel
theorem dX10_cross_119 : decode cX10_cross 119 = .ok (.iinc 6 1, 3) := by decide +kernel
theorem dX10_cross_122 : decode cX10_cross 122 = .ok (.iinc 9 1, 3) := by decide +kernel
theorem dX10_cross_125 : decode cX10_cross 125 = .ok (.goto (-43), 3) := by decide +kernel
theorem dX10_cross_128 : decode cX10_cross 128 = .ok (.iinc 7 1, 3) := by decide +kernel
theorem dX10_cross_131 : decode cX10_cross 131 = .ok (.goto (-82), 3) := by decide +kernel
theorem dX10_cross_134 : decode cX10_cross 134 = .ok (.iload 6, 2) := by decide +kernel
theorem dX10_cross_136 : decode cX10_cross 136 = .ok (.ireturn, 1) := by decide +kernel
theorem dX10_write_0 : decode cX10_write 0 = .ok (.aload_n 0, 1) := by decide +kernel
theorem dX10_write_1 : decode cX10_write 1 = .ok (.iload_n 1, 1) := by decide +kernel
theorem dX10_write_2 : decode cX10_write 2 = .ok (.iload_n 2, 1) := by decide +kernel
theorem dX10_write_3 : decode cX10_write 3 = .ok (.iload_n 3, 1) := by decide +kernel
theorem dX10_write_4 : decode cX10_write 4 = .ok (.iload 4, 2) := by decide +kernel
theorem dX10_write_6 : decode cX10_write 6 = .ok (.invokevirtual 205, 3) := by decide +kernel
theorem dX10_write_9 : decode cX10_write 9 = .ok (.istore 7, 2) := by decide +kernel
theorem dX10_write_11 : decode cX10_write 11 = .ok (.iload 5, 2) := by decide +kernel
theorem dX10_write_13 : decode cX10_write 13 = .ok (.iconst 0, 1) := by decide +kernel
theorem dX10_write_14 : decode cX10_write 14 = .ok (.ldc 166, 2) := by decide +kernel
theorem dX10_write_16 : decode cX10_write 16 = .ok (.invokestatic 70, 3) := by decide +kernel
theorem dX10_write_19 : decode cX10_write 19 = .ok (.iload 6, 2) := by decide +kernel
theorem dX10_write_21 : decode cX10_write 21 = .ok (.iconst 0, 1) := by decide +kernel
theorem dX10_write_22 : decode cX10_write 22 = .ok (.iconst 2, 1) := by decide +kernel
theorem dX10_write_23 : decode cX10_write 23 = .ok (.invokestatic 70, 3) := by decide +kernel
theorem dX10_write_26 : decode cX10_write 26 = .ok (.aload_n 0, 1) := by decide +kernel
theorem dX10_write_27 : decode cX10_write 27 = .ok (.getfield 21, 3) := by decide +kernel
theorem dX10_write_30 : decode cX10_write 30 = .ok (.iload 4, 2) := by decide +kernel
theorem dX10_write_32 : decode cX10_write 32 = .ok (.invokevirtual 210, 3) := by decide +kernel
theorem dX10_write_35 : decode cX10_write 35 = .ok (.ifCond .ne 31, 3) := by decide +kernel
theorem dX10_write_38 : decode cX10_write 38 = .ok (.aload_n 0, 1) := by decide +kernel
theorem dX10_write_39 : decode cX10_write 39 = .ok (.getfield 12, 3) := by decide +kernel
theorem dX10_write_42 : decode cX10_write 42 = .ok (.iload 7, 2) := by decide +kernel
theorem dX10_write_44 : decode cX10_write 44 = .ok (.invokevirtual 231, 3) := by decide +kernel
theorem dX10_write_47 : decode cX10_write 47 = .ok (.ifCond .eq 19, 3) := by decide +kernel
theorem dX10_write_50 : decode cX10_write 50 = .ok (.aload_n 0, 1) := by decide +kernel
theorem dX10_write_51 : decode cX10_write 51 = .ok (.getfield 12, 3) := by decide +kernel
theorem dX10_write_54 : decode cX10_write 54 = .ok (.iload 7, 2) := by decide +kernel
theorem dX10_write_56 : decode cX10_write 56 = .ok (.invokevirtual 281, 3) := by decide +kernel
theorem dX10_write_59 : decode cX10_write 59 = .ok (.ifCond .ne 7, 3) := by decide +kernel
theorem dX10_write_62 : decode cX10_write 62 = .ok (.iconst 1, 1) := by decide +kernel
theorem dX10_write_63 : decode cX10_write 63 = .ok (.goto 4, 3) := by decide +kernel
theorem dX10_write_66 : decode cX10_write 66 = .ok (.iconst 0, 1) := by decide +kernel
theorem dX10_write_67 : decode cX10_write 67 = .ok (.invokestatic 84, 3) := by decide +kernel
theorem dX10_write_70 : decode cX10_write 70 = .ok (.aload_n 0, 1) := by decide +kernel
theorem dX10_write_71 : decode cX10_write 71 = .ok (.getfield 51, 3) := by decide +kernel
theorem dX10_write_74 : decode cX10_write 74 = .ok (.iload 7, 2) := by decide +kernel
theorem dX10_write_76 : decode cX10_write 76 = .ok (.iload 4, 2) := by decide +kernel
theorem dX10_write_78 : decode cX10_write 78 = .ok (.invokevirtual 284, 3) := by decide +kernel
theorem dX10_write_81 : decode cX10_write 81 = .ok (.aload_n 0, 1) := by decide +kernel
theorem dX10_write_82 : decode cX10_write 82 = .ok (.getfield 51, 3) := by decide +kernel
theorem dX10_write_85 : decode cX10_write 85 = .ok (.getfield 287, 3) := by decide +kernel
theorem dX10_write_88 : decode cX10_write 88 = .ok (.ifCond .ne 58, 3) := by decide +kernel
theorem dX10_write_91 : decode cX10_write 91 = .ok (.aload_n 0, 1) := by decide +kernel
theorem dX10_write_92 : decode cX10_write 92 = .ok (.getfield 12, 3) := by decide +kernel
theorem dX10_write_95 : decode cX10_write 95 = .ok (.iload 7, 2) := by decide +kernel
theorem dX10_write_97 : decode cX10_write 97 = .ok (.invokevirtual 209, 3) := by decide +kernel
theorem dX10_write_100 : decode cX10_write 100 = .ok (.ifCond .eq 19, 3) := by decide +kernel
theorem dX10_write_103 : decode cX10_write 103 = .ok (.aload_n 0, 1) := by decide +kernel
theorem dX10_write_104 : decode cX10_write 104 = .ok (.getfield 28, 3) := by decide +kernel
theorem dX10_write_107 : decode cX10_write 107 = .ok (.getfield 214, 3) := by decide +kernel
theorem dX10_write_110 : decode cX10_write 110 = .ok (.bipush 50, 2) := by decide +kernel
theorem dX10_write_112 : decode cX10_write 112 = .ok (.if_icmp .ge 7, 3) := by decide +kernel
theorem dX10_write_115 : decode cX10_write 115 = .ok (.iconst 1, 1) := by decide +kernel
theorem dX10_write_116 : decode cX10_write 116 = .ok (.goto 4, 3) := by decide +kernel
theorem dX10_write_119 : decode cX10_write 119 = .ok (.iconst 0, 1) := by decide +kernel
theorem dX10_write_120 : decode cX10_write 120 = .ok (.invokestatic 84, 3) := by decide +kernel
theorem dX10_write_123 : decode cX10_write 123 = .ok (.aload_n 0, 1) := by decide +kernel
theorem dX10_write_124 : decode cX10_write 124 = .ok (.getfield 28, 3) := by decide +kernel
theorem dX10_write_127 : decode cX10_write 127 = .ok (.iload 7, 2) := by decide +kernel
theorem dX10_write_129 : decode cX10_write 129 = .ok (.iload 4, 2) := by decide +kernel
theorem dX10_write_131 : decode cX10_write 131 = .ok (.iload 5, 2) := by decide +kernel
theorem dX10_write_133 : decode cX10_write 133 = .ok (.invokevirtual 215, 3) := by decide +kernel
theorem dX10_write_136 : decode cX10_write 136 = .ok (.aload_n 0, 1) := by decide +kernel
theorem dX10_write_137 : decode cX10_write 137 = .ok (.iload 7, 2) := by decide +kernel
theorem dX10_write_139 : decode cX10_write 139 = .ok (.iload 4, 2) := by decide +kernel
theorem dX10_write_141 : decode cX10_write 141 = .ok (.invokevirtual 217, 3) := by decide +kernel
theorem dX10_write_144 : decode cX10_write 144 = .ok (.iconst 1, 1) := by decide +kernel
theorem dX10_write_145 : decode cX10_write 145 = .ok (.ireturn, 1) := by decide +kernel
theorem dX10_write_146 : decode cX10_write 146 = .ok (.aload_n 0, 1) := by decide +kernel
theorem dX10_write_147 : decode cX10_write 147 = .ok (.getfield 51, 3) := by decide +kernel
theorem dX10_write_150 : decode cX10_write 150 = .ok (.invokevirtual 290, 3) := by decide +kernel
theorem dX10_write_153 : decode cX10_write 153 = .ok (.invokestatic 84, 3) := by decide +kernel
theorem dX10_write_156 : decode cX10_write 156 = .ok (.aload_n 0, 1) := by decide +kernel
theorem dX10_write_157 : decode cX10_write 157 = .ok (.getfield 42, 3) := by decide +kernel
theorem dX10_write_160 : decode cX10_write 160 = .ok (.aload_n 0, 1) := by decide +kernel
theorem dX10_write_161 : decode cX10_write 161 = .ok (.getfield 51, 3) := by decide +kernel
theorem dX10_write_164 : decode cX10_write 164 = .ok (.getfield 287, 3) := by decide +kernel
theorem dX10_write_167 : decode cX10_write 167 = .ok (.iload 5, 2) := by decide +kernel
theorem dX10_write_169 : decode cX10_write 169 = .ok (.i2l, 1) := by decide +kernel
theorem dX10_write_170 : decode cX10_write 170 = .ok (.invokevirtual 294, 3) := by decide +kernel
theorem dX10_write_173 : decode cX10_write 173 = .ok (.iconst 0, 1) := by decide +kernel
theorem dX10_write_174 : decode cX10_write 174 = .ok (.istore 8, 2) := by decide +kernel
theorem dX10_write_176 : decode cX10_write 176 = .ok (.iload 8, 2) := by decide +kernel
theorem dX10_write_178 : decode cX10_write 178 = .ok (.aload_n 0, 1) := by decide +kernel
theorem dX10_write_179 : decode cX10_write 179 = .ok (.getfield 51, 3) := by decide +kernel
theorem dX10_write_182 : decode cX10_write 182 = .ok (.getfield 287, 3) := by decide +kernel
theorem dX10_write_185 : decode cX10_write 185 = .ok (.if_icmp .ge 35, 3) := by decide +kernel
theorem dX10_write_188 : decode cX10_write 188 = .ok (.aload_n 0, 1) := by decide +kernel
theorem dX10_write_189 : decode cX10_write 189 = .ok (.getfield 42, 3) := by decide +kernel
theorem dX10_write_192 : decode cX10_write 192 = .ok (.iload 8, 2) := by decide +kernel
theorem dX10_write_194 : decode cX10_write 194 = .ok (.aload_n 0, 1) := by decide +kernel
theorem dX10_write_195 : decode cX10_write 195 = .ok (.getfield 28, 3) := by decide +kernel
theorem dX10_write_198 : decode cX10_write 198 = .ok (.aload_n 0, 1) := by decide +kernel
theorem dX10_write_199 : decode cX10_write 199 = .ok (.getfield 51, 3) := by decide +kernel
theorem dX10_write_202 : decode cX10_write 202 = .ok (.iload 8, 2) := by decide +kernel
theorem dX10_write_204 : decode cX10_write 204 = .ok (.invokevirtual 298, 3) := by decide +kernel
theorem dX10_write_207 : decode cX10_write 207 = .ok (.invokevirtual 225, 3) := by decide +kernel
theorem dX10_write_210 : decode cX10_write 210 = .ok (.i2l, 1) := by decide +kernel
theorem dX10_write_211 : decode cX10_write 211 = .ok (.invokevirtual 301, 3) := by decide +kernel
theorem dX10_write_214 : decode cX10_write 214 = .ok (.iinc 8 1, 3) := by decide +kernel
theorem dX10_write_217 : decode cX10_write 217 = .ok (.goto (-41), 3) := by decide +kernel
theorem dX10_write_220 : decode cX10_write 220 = .ok (.aload_n 0, 1) := by decide +kernel
theorem dX10_write_221 : decode cX10_write 221 = .ok (.getfield 42, 3) := by decide +kernel
theorem dX10_write_224 : decode cX10_write 224 = .ok (.iload 6, 2) := by decide +kernel
theorem dX10_write_226 : decode cX10_write 226 = .ok (.invokevirtual 304, 3) := by decide +kernel
theorem dX10_write_229 : decode cX10_write 229 = .ok (.aload_n 0, 1) := by decide +kernel
theorem dX10_write_230 : decode cX10_write 230 = .ok (.getfield 42, 3) := by decide +kernel
theorem dX10_write_233 : decode cX10_write 233 = .ok (.invokevirtual 307, 3) := by decide +kernel
theorem dX10_write_236 : decode cX10_write 236 = .ok (.invokestatic 84, 3) := by decide +kernel
theorem dX10_write_239 : decode cX10_write 239 = .ok (.aload_n 0, 1) := by decide +kernel
theorem dX10_write_240 : decode cX10_write 240 = .ok (.invokevirtual 310, 3) := by decide +kernel
theorem dX10_write_243 : decode cX10_write 243 = .ok (.ireturn, 1) := by decide +kernel
theorem dX10_begin_0 : decode cX10_begin 0 = .ok (.aload_n 0, 1) := by decide +kernel
theorem dX10_begin_1 : decode cX10_begin 1 = .ok (.getfield 28, 3) := by decide +kernel
theorem dX10_begin_4 : decode cX10_begin 4 = .ok (.getfield 313, 3) := by decide +kernel
theorem dX10_begin_7 : decode cX10_begin 7 = .ok (.ifCond .ne 7, 3) := by decide +kernel
theorem dX10_begin_10 : decode cX10_begin 10 = .ok (.iconst 1, 1) := by decide +kernel
theorem dX10_begin_11 : decode cX10_begin 11 = .ok (.goto 4, 3) := by decide +kernel
theorem dX10_begin_14 : decode cX10_begin 14 = .ok (.iconst 0, 1) := by decide +kernel
theorem dX10_begin_15 : decode cX10_begin 15 = .ok (.invokestatic 84, 3) := by decide +kernel
theorem dX10_begin_18 : decode cX10_begin 18 = .ok (.aload_n 0, 1) := by decide +kernel
theorem dX10_begin_19 : decode cX10_begin 19 = .ok (.getfield 28, 3) := by decide +kernel
theorem dX10_begin_22 : decode cX10_begin 22 = .ok (.invokevirtual 316, 3) := by decide +kernel
theorem dX10_begin_25 : decode cX10_begin 25 = .ok (.return_, 1) := by decide +kernel
theorem dX10_end_0 : decode cX10_end 0 = .ok (.aload_n 0, 1) := by decide +kernel
theorem dX10_end_1 : decode cX10_end 1 = .ok (.getfield 28, 3) := by decide +kernel
theorem dX10_end_4 : decode cX10_end 4 = .ok (.getfield 313, 3) := by decide +kernel
theorem dX10_end_7 : decode cX10_end 7 = .ok (.invokestatic 84, 3) := by decide +kernel
theorem dX10_end_10 : decode cX10_end 10 = .ok (.aload_n 0, 1) := by decide +kernel
theorem dX10_end_11 : decode cX10_end 11 = .ok (.getfield 28, 3) := by decide +kernel
theorem dX10_end_14 : decode cX10_end 14 = .ok (.iconst 0, 1) := by decide +kernel
theorem dX10_end_15 : decode cX10_end 15 = .ok (.putfield 313, 3) := by decide +kernel
theorem dX10_end_18 : decode cX10_end 18 = .ok (.iload_n 1, 1) := by decide +kernel
theorem dX10_end_19 : decode cX10_end 19 = .ok (.ifCond .ne 17, 3) := by decide +kernel
theorem dX10_end_22 : decode cX10_end 22 = .ok (.aload_n 0, 1) := by decide +kernel
theorem dX10_end_23 : decode cX10_end 23 = .ok (.getfield 28, 3) := by decide +kernel
theorem dX10_end_26 : decode cX10_end 26 = .ok (.invokevirtual 319, 3) := by decide +kernel
theorem dX10_end_29 : decode cX10_end 29 = .ok (.aload_n 0, 1) := by decide +kernel
theorem dX10_end_30 : decode cX10_end 30 = .ok (.getfield 35, 3) := by decide +kernel
theorem dX10_end_33 : decode cX10_end 33 = .ok (.invokevirtual 105, 3) := by decide +kernel
theorem dX10_end_36 : decode cX10_end 36 = .ok (.aload_n 0, 1) := by decide +kernel
theorem dX10_end_37 : decode cX10_end 37 = .ok (.getfield 28, 3) := by decide +kernel
theorem dX10_end_40 : decode cX10_end 40 = .ok (.getfield 214, 3) := by decide +kernel
theorem dX10_end_43 : decode cX10_end 43 = .ok (.ireturn, 1) := by decide +kernel
theorem dX10_facts_0 : decode cX10_facts 0 = .ok (.aload_n 0, 1) := by decide +kernel
theorem dX10_facts_1 : decode cX10_facts 1 = .ok (.getfield 28, 3) := by decide +kernel
theorem dX10_facts_4 : decode cX10_facts 4 = .ok (.getfield 214, 3) := by decide +kernel
theorem dX10_facts_7 : decode cX10_facts 7 = .ok (.ireturn, 1) := by decide +kernel
theorem dX10_existing_0 : decode cX10_existing 0 = .ok (.iload_n 1, 1) := by decide +kernel
theorem dX10_existing_1 : decode cX10_existing 1 = .ok (.ifCond .lt 8, 3) := by decide +kernel
theorem dX10_existing_4 : decode cX10_existing 4 = .ok (.iload_n 1, 1) := by decide +kernel
theorem dX10_existing_5 : decode cX10_existing 5 = .ok (.iconst 3, 1) := by decide +kernel
theorem dX10_existing_6 : decode cX10_existing 6 = .ok (.if_icmp .lt 14, 3) := by decide +kernel
theorem dX10_existing_9 : decode cX10_existing 9 = .ok (.new 108, 3) := by decide +kernel
theorem dX10_existing_12 : decode cX10_existing 12 = .ok (.dup, 1) := by decide +kernel
theorem dX10_existing_13 : decode cX10_existing 13 = .ok (.ldc_w 322, 3) := by decide +kernel
theorem dX10_existing_16 : decode cX10_existing 16 = .ok (.invokespecial 112, 3) := by decide +kernel
theorem dX10_existing_19 : decode cX10_existing 19 = .ok (.athrow, 1) := by decide +kernel
theorem dX10_existing_20 : decode cX10_existing 20 = .ok (.aload_n 0, 1) := by decide +kernel
theorem dX10_existing_21 : decode cX10_existing 21 = .ok (.getfield 12, 3) := by decide +kernel
theorem dX10_existing_24 : decode cX10_existing 24 = .ok (.iload_n 1, 1) := by decide +kernel
theorem dX10_existing_25 : decode cX10_existing 25 = .ok (.invokevirtual 324, 3) := by decide +kernel
theorem dX10_existing_28 : decode cX10_existing 28 = .ok (.areturn, 1) := by decide +kernel
theorem dX10_needMember_0 : decode cX10_needMember 0 = .ok (.aload_n 0, 1) := by decide +kernel
theorem dX10_needMember_1 : decode cX10_needMember 1 = .ok (.iload_n 1, 1) := by decide +kernel
theorem dX10_needMember_2 : decode cX10_needMember 2 = .ok (.invokevirtual 327, 3) := by decide +kernel
theorem dX10_needMember_5 : decode cX10_needMember 5 = .ok (.ifCond .ne 13, 3) := by decide +kernel
theorem dX10_needMember_8 : decode cX10_needMember 8 = .ok (.new 108, 3) := by decide +kernel
theorem dX10_needMember_11 : decode cX10_needMember 11 = .ok (.dup, 1) := by decide +kernel
theorem dX10_needMember_12 : decode cX10_needMember 12 = .ok (.ldc 110, 2) := by decide +kernel
theorem dX10_needMember_14 : decode cX10_needMember 14 = .ok (.invokespecial 112, 3) := by decide +kernel
theorem dX10_needMember_17 : decode cX10_needMember 17 = .ok (.athrow, 1) := by decide +kernel
theorem dX10_needMember_18 : decode cX10_needMember 18 = .ok (.return_, 1) := by decide +kernel
theorem dX10_needMeasure_0 : decode cX10_needMeasure 0 = .ok (.aload_n 0, 1) := by decide +kernel
theorem dX10_needMeasure_1 : decode cX10_needMeasure 1 = .ok (.getfield 21, 3) := by decide +kernel
theorem dX10_needMeasure_4 : decode cX10_needMeasure 4 = .ok (.iload_n 1, 1) := by decide +kernel
theorem dX10_needMeasure_5 : decode cX10_needMeasure 5 = .ok (.invokevirtual 330, 3) := by decide +kernel
theorem dX10_needMeasure_8 : decode cX10_needMeasure 8 = .ok (.ifCond .ne 14, 3) := by decide +kernel
theorem dX10_needMeasure_11 : decode cX10_needMeasure 11 = .ok (.new 108, 3) := by decide +kernel
theorem dX10_needMeasure_14 : decode cX10_needMeasure 14 = .ok (.dup, 1) := by decide +kernel
theorem dX10_needMeasure_15 : decode cX10_needMeasure 15 = .ok (.ldc_w 331, 3) := by decide +kernel
theorem dX10_needMeasure_18 : decode cX10_needMeasure 18 = .ok (.invokespecial 112, 3) := by decide +kernel
theorem dX10_needMeasure_21 : decode cX10_needMeasure 21 = .ok (.athrow, 1) := by decide +kernel
theorem dX10_needMeasure_22 : decode cX10_needMeasure 22 = .ok (.return_, 1) := by decide +kernel
theorem dX10_needRange_0 : decode cX10_needRange 0 = .ok (.iload_n 0, 1) := by decide +kernel
theorem dX10_needRange_1 : decode cX10_needRange 1 = .ok (.iload_n 1, 1) := by decide +kernel
theorem dX10_needRange_2 : decode cX10_needRange 2 = .ok (.if_icmp .lt 8, 3) := by decide +kernel
theorem dX10_needRange_5 : decode cX10_needRange 5 = .ok (.iload_n 0, 1) := by decide +kernel
theorem dX10_needRange_6 : decode cX10_needRange 6 = .ok (.iload_n 2, 1) := by decide +kernel
theorem dX10_needRange_7 : decode cX10_needRange 7 = .ok (.if_icmp .le 14, 3) := by decide +kernel
theorem dX10_needRange_10 : decode cX10_needRange 10 = .ok (.new 270, 3) := by decide +kernel
theorem dX10_needRange_13 : decode cX10_needRange 13 = .ok (.dup, 1) := by decide +kernel
theorem dX10_needRange_14 : decode cX10_needRange 14 = .ok (.ldc_w 333, 3) := by decide +kernel
theorem dX10_needRange_17 : decode cX10_needRange 17 = .ok (.invokespecial 274, 3) := by decide +kernel
theorem dX10_needRange_20 : decode cX10_needRange 20 = .ok (.athrow, 1) := by decide +kernel
theorem dX10_needRange_21 : decode cX10_needRange 21 = .ok (.return_, 1) := by decide +kernel
theorem dX10_need_0 : decode cX10_need 0 = .ok (.iload_n 0, 1) := by decide +kernel
theorem dX10_need_1 : decode cX10_need 1 = .ok (.ifCond .ne 14, 3) := by decide +kernel
theorem dX10_need_4 : decode cX10_need 4 = .ok (.new 335, 3) := by decide +kernel
theorem dX10_need_7 : decode cX10_need 7 = .ok (.dup, 1) := by decide +kernel
theorem dX10_need_8 : decode cX10_need 8 = .ok (.ldc_w 337, 3) := by decide +kernel
theorem dX10_need_11 : decode cX10_need 11 = .ok (.invokespecial 339, 3) := by decide +kernel
theorem dX10_need_14 : decode cX10_need 14 = .ok (.athrow, 1) := by decide +kernel
theorem dX10_need_15 : decode cX10_need 15 = .ok (.return_, 1) := by decide +kernel
theorem dX10_existingCell_0 : decode cX10_existingCell 0 = .ok (.aload_n 0, 1) := by decide +kernel
theorem dX10_existingCell_1 : decode cX10_existingCell 1 = .ok (.getfield 12, 3) := by decide +kernel
theorem dX10_existingCell_4 : decode cX10_existingCell 4 = .ok (.getfield 127, 3) := by decide +kernel
theorem dX10_existingCell_7 : decode cX10_existingCell 7 = .ok (.iload_n 1, 1) := by decide +kernel
theorem dX10_existingCell_8 : decode cX10_existingCell 8 = .ok (.invokestatic 66, 3) := by decide +kernel
theorem dX10_existingCell_11 : decode cX10_existingCell 11 = .ok (.aload_n 0, 1) := by decide +kernel
theorem dX10_existingCell_12 : decode cX10_existingCell 12 = .ok (.getfield 12, 3) := by decide +kernel
theorem dX10_existingCell_15 : decode cX10_existingCell 15 = .ok (.getfield 340, 3) := by decide +kernel
theorem dX10_existingCell_18 : decode cX10_existingCell 18 = .ok (.iload_n 2, 1) := by decide +kernel
theorem dX10_existingCell_19 : decode cX10_existingCell 19 = .ok (.invokestatic 66, 3) := by decide +kernel
theorem dX10_existingCell_22 : decode cX10_existingCell 22 = .ok (.aload_n 0, 1) := by decide +kernel
theorem dX10_existingCell_23 : decode cX10_existingCell 23 = .ok (.getfield 12, 3) := by decide +kernel
theorem dX10_existingCell_26 : decode cX10_existingCell 26 = .ok (.getfield 343, 3) := by decide +kernel
theorem dX10_existingCell_29 : decode cX10_existingCell 29 = .ok (.iload_n 3, 1) := by decide +kernel
theorem dX10_existingCell_30 : decode cX10_existingCell 30 = .ok (.invokestatic 66, 3) := by decide +kernel
theorem dX10_existingCell_33 : decode cX10_existingCell 33 = .ok (.aload_n 0, 1) := by decide +kernel
theorem dX10_existingCell_34 : decode cX10_existingCell 34 = .ok (.iload 4, 2) := by decide +kernel
theorem dX10_existingCell_36 : decode cX10_existingCell 36 = .ok (.invokevirtual 193, 3) := by decide +kernel
theorem dX10_existingCell_39 : decode cX10_existingCell 39 = .ok (.iload_n 1, 1) := by decide +kernel
theorem dX10_existingCell_40 : decode cX10_existingCell 40 = .ok (.sipush 144, 3) := by decide +kernel
theorem dX10_existingCell_43 : decode cX10_existingCell 43 = .ok (.imul, 1) := by decide +kernel
theorem dX10_existingCell_44 : decode cX10_existingCell 44 = .ok (.iload_n 2, 1) := by decide +kernel
theorem dX10_existingCell_45 : decode cX10_existingCell 45 = .ok (.bipush 12, 2) := by decide +kernel
theorem dX10_existingCell_47 : decode cX10_existingCell 47 = .ok (.imul, 1) := by decide +kernel
theorem dX10_existingCell_48 : decode cX10_existingCell 48 = .ok (.iadd, 1) := by decide +kernel
theorem dX10_existingCell_49 : decode cX10_existingCell 49 = .ok (.iload_n 3, 1) := by decide +kernel
theorem dX10_existingCell_50 : decode cX10_existingCell 50 = .ok (.iadd, 1) := by decide +kernel
theorem dX10_existingCell_51 : decode cX10_existingCell 51 = .ok (.ireturn, 1) := by decide +kernel
theorem dX10_memberOf_0 : decode cX10_memberOf 0 = .ok (.iload_n 1, 1) := by decide +kernel
theorem dX10_memberOf_1 : decode cX10_memberOf 1 = .ok (.ifCond .ne 9, 3) := by decide +kernel
theorem dX10_memberOf_4 : decode cX10_memberOf 4 = .ok (.iload_n 0, 1) := by decide +kernel
theorem dX10_memberOf_5 : decode cX10_memberOf 5 = .ok (.sipush 144, 3) := by decide +kernel
theorem dX10_memberOf_8 : decode cX10_memberOf 8 = .ok (.idiv, 1) := by decide +kernel
theorem dX10_memberOf_9 : decode cX10_memberOf 9 = .ok (.ireturn, 1) := by decide +kernel
theorem dX10_memberOf_10 : decode cX10_memberOf 10 = .ok (.iload_n 1, 1) := by decide +kernel
theorem dX10_memberOf_11 : decode cX10_memberOf 11 = .ok (.iconst 1, 1) := by decide +kernel
theorem dX10_memberOf_12 : decode cX10_memberOf 12 = .ok (.if_icmp .ne 13, 3) := by decide +kernel
theorem dX10_memberOf_15 : decode cX10_memberOf 15 = .ok (.iload_n 0, 1) := by decide +kernel
theorem dX10_memberOf_16 : decode cX10_memberOf 16 = .ok (.bipush 12, 2) := by decide +kernel
theorem dX10_memberOf_18 : decode cX10_memberOf 18 = .ok (.idiv, 1) := by decide +kernel
theorem dX10_memberOf_19 : decode cX10_memberOf 19 = .ok (.bipush 12, 2) := by decide +kernel
theorem dX10_memberOf_21 : decode cX10_memberOf 21 = .ok (.irem, 1) := by decide +kernel
theorem dX10_memberOf_22 : decode cX10_memberOf 22 = .ok (.goto 7, 3) := by decide +kernel
theorem dX10_memberOf_25 : decode cX10_memberOf 25 = .ok (.iload_n 0, 1) := by decide +kernel
theorem dX10_memberOf_26 : decode cX10_memberOf 26 = .ok (.bipush 12, 2) := by decide +kernel
theorem dX10_memberOf_28 : decode cX10_memberOf 28 = .ok (.irem, 1) := by decide +kernel
theorem dX10_memberOf_29 : decode cX10_memberOf 29 = .ok (.ireturn, 1) := by decide +kernel
theorem dX10_withMember_0 : decode cX10_withMember 0 = .ok (.iload_n 1, 1) := by decide +kernel
theorem dX10_withMember_1 : decode cX10_withMember 1 = .ok (.ifCond .ne 9, 3) := by decide +kernel
theorem dX10_withMember_4 : decode cX10_withMember 4 = .ok (.sipush 144, 3) := by decide +kernel
theorem dX10_withMember_7 : decode cX10_withMember 7 = .ok (.goto 14, 3) := by decide +kernel
theorem dX10_withMember_10 : decode cX10_withMember 10 = .ok (.iload_n 1, 1) := by decide +kernel
theorem dX10_withMember_11 : decode cX10_withMember 11 = .ok (.iconst 1, 1) := by decide +kernel
theorem dX10_withMember_12 : decode cX10_withMember 12 = .ok (.if_icmp .ne 8, 3) := by decide +kernel
theorem dX10_withMember_15 : decode cX10_withMember 15 = .ok (.bipush 12, 2) := by decide +kernel
theorem dX10_withMember_17 : decode cX10_withMember 17 = .ok (.goto 4, 3) := by decide +kernel
theorem dX10_withMember_20 : decode cX10_withMember 20 = .ok (.iconst 1, 1) := by decide +kernel
theorem dX10_withMember_21 : decode cX10_withMember 21 = .ok (.istore_n 3, 1) := by decide +kernel
theorem dX10_withMember_22 : decode cX10_withMember 22 = .ok (.iload_n 0, 1) := by decide +kernel
theorem dX10_withMember_23 : decode cX10_withMember 23 = .ok (.iload_n 2, 1) := by decide +kernel
theorem dX10_withMember_24 : decode cX10_withMember 24 = .ok (.iload_n 0, 1) := by decide +kernel
theorem dX10_withMember_25 : decode cX10_withMember 25 = .ok (.iload_n 1, 1) := by decide +kernel
theorem dX10_withMember_26 : decode cX10_withMember 26 = .ok (.invokestatic 346, 3) := by decide +kernel
theorem dX10_withMember_29 : decode cX10_withMember 29 = .ok (.isub, 1) := by decide +kernel
theorem dX10_withMember_30 : decode cX10_withMember 30 = .ok (.iload_n 3, 1) := by decide +kernel
theorem dX10_withMember_31 : decode cX10_withMember 31 = .ok (.imul, 1) := by decide +kernel
theorem dX10_withMember_32 : decode cX10_withMember 32 = .ok (.iadd, 1) := by decide +kernel
theorem dX10_withMember_33 : decode cX10_withMember 33 = .ok (.ireturn, 1) := by decide +kernel
theorem dX10_bounded_0 : decode cX10_bounded 0 = .ok (.ldc2_w 349, 3) := by decide +kernel
theorem dX10_bounded_3 : decode cX10_bounded 3 = .ok (.ldc2_w 351, 3) := by decide +kernel
theorem dX10_bounded_6 : decode cX10_bounded 6 = .ok (.lload_n 0, 1) := by decide +kernel
theorem dX10_bounded_7 : decode cX10_bounded 7 = .ok (.invokestatic 353, 3) := by decide +kernel
theorem dX10_bounded_10 : decode cX10_bounded 10 = .ok (.invokestatic 359, 3) := by decide +kernel
theorem dX10_bounded_13 : decode cX10_bounded 13 = .ok (.lreturn, 1) := by decide +kernel
theorem dX10_setNumber_0 : decode cX10_setNumber 0 = .ok (.aload_n 0, 1) := by decide +kernel
theorem dX10_setNumber_1 : decode cX10_setNumber 1 = .ok (.getfield 28, 3) := by decide +kernel
theorem dX10_setNumber_4 : decode cX10_setNumber 4 = .ok (.iload_n 1, 1) := by decide +kernel
theorem dX10_setNumber_5 : decode cX10_setNumber 5 = .ok (.invokevirtual 225, 3) := by decide +kernel
theorem dX10_setNumber_8 : decode cX10_setNumber 8 = .ok (.iload_n 2, 1) := by decide +kernel
theorem dX10_setNumber_9 : decode cX10_setNumber 9 = .ok (.if_icmp .ne 5, 3) := by decide +kernel
theorem dX10_setNumber_12 : decode cX10_setNumber 12 = .ok (.iconst 0, 1) := by decide +kernel
theorem dX10_setNumber_13 : decode cX10_setNumber 13 = .ok (.ireturn, 1) := by decide +kernel
theorem dX10_setNumber_14 : decode cX10_setNumber 14 = .ok (.aload_n 0, 1) := by decide +kernel
theorem dX10_setNumber_15 : decode cX10_setNumber 15 = .ok (.getfield 28, 3) := by decide +kernel
theorem dX10_setNumber_18 : decode cX10_setNumber 18 = .ok (.iload_n 1, 1) := by decide +kernel
theorem dX10_setNumber_19 : decode cX10_setNumber 19 = .ok (.iload_n 2, 1) := by decide +kernel
theorem dX10_setNumber_20 : decode cX10_setNumber 20 = .ok (.invokevirtual 362, 3) := by decide +kernel
theorem dX10_setNumber_23 : decode cX10_setNumber 23 = .ok (.aload_n 0, 1) := by decide +kernel
theorem dX10_setNumber_24 : decode cX10_setNumber 24 = .ok (.aload_n 0, 1) := by decide +kernel
theorem dX10_setNumber_25 : decode cX10_setNumber 25 = .ok (.getfield 28, 3) := by decide +kernel
theorem dX10_setNumber_28 : decode cX10_setNumber 28 = .ok (.iload_n 1, 1) := by decide +kernel
theorem dX10_setNumber_29 : decode cX10_setNumber 29 = .ok (.invokevirtual 364, 3) := by decide +kernel
theorem dX10_setNumber_32 : decode cX10_setNumber 32 = .ok (.aload_n 0, 1) := by decide +kernel
theorem dX10_setNumber_33 : decode cX10_setNumber 33 = .ok (.getfield 28, 3) := by decide +kernel
theorem dX10_setNumber_36 : decode cX10_setNumber 36 = .ok (.iload_n 1, 1) := by decide +kernel
theorem dX10_setNumber_37 : decode cX10_setNumber 37 = .ok (.invokevirtual 367, 3) := by decide +kernel
theorem dX10_setNumber_40 : decode cX10_setNumber 40 = .ok (.invokevirtual 217, 3) := by decide +kernel
theorem dX10_setNumber_43 : decode cX10_setNumber 43 = .ok (.iconst 1, 1) := by decide +kernel
theorem dX10_setNumber_44 : decode cX10_setNumber 44 = .ok (.ireturn, 1) := by decide +kernel
theorem dX10_writeShares_0 : decode cX10_writeShares 0 = .ok (.iconst 0, 1) := by decide +kernel
theorem dX10_writeShares_1 : decode cX10_writeShares 1 = .ok (.istore_n 1, 1) := by decide +kernel
theorem dX10_writeShares_2 : decode cX10_writeShares 2 = .ok (.iconst 0, 1) := by decide +kernel
theorem dX10_writeShares_3 : decode cX10_writeShares 3 = .ok (.istore_n 2, 1) := by decide +kernel
theorem dX10_writeShares_4 : decode cX10_writeShares 4 = .ok (.iload_n 2, 1) := by decide +kernel
theorem dX10_writeShares_5 : decode cX10_writeShares 5 = .ok (.aload_n 0, 1) := by decide +kernel
theorem dX10_writeShares_6 : decode cX10_writeShares 6 = .ok (.getfield 51, 3) := by decide +kernel
theorem dX10_writeShares_9 : decode cX10_writeShares 9 = .ok (.getfield 287, 3) := by decide +kernel
theorem dX10_writeShares_12 : decode cX10_writeShares 12 = .ok (.if_icmp .ge 36, 3) := by decide +kernel
theorem dX10_writeShares_15 : decode cX10_writeShares 15 = .ok (.aload_n 0, 1) := by decide +kernel
theorem dX10_writeShares_16 : decode cX10_writeShares 16 = .ok (.aload_n 0, 1) := by decide +kernel
theorem dX10_writeShares_17 : decode cX10_writeShares 17 = .ok (.getfield 51, 3) := by decide +kernel
theorem dX10_writeShares_20 : decode cX10_writeShares 20 = .ok (.iload_n 2, 1) := by decide +kernel
theorem dX10_writeShares_21 : decode cX10_writeShares 21 = .ok (.invokevirtual 298, 3) := by decide +kernel
theorem dX10_writeShares_24 : decode cX10_writeShares 24 = .ok (.aload_n 0, 1) := by decide +kernel
theorem dX10_writeShares_25 : decode cX10_writeShares 25 = .ok (.getfield 42, 3) := by decide +kernel
theorem dX10_writeShares_28 : decode cX10_writeShares 28 = .ok (.iload_n 2, 1) := by decide +kernel
theorem dX10_writeShares_29 : decode cX10_writeShares 29 = .ok (.invokevirtual 370, 3) := by decide +kernel
theorem dX10_writeShares_32 : decode cX10_writeShares 32 = .ok (.l2i, 1) := by decide +kernel
theorem dX10_writeShares_33 : decode cX10_writeShares 33 = .ok (.invokevirtual 221, 3) := by decide +kernel
theorem dX10_writeShares_36 : decode cX10_writeShares 36 = .ok (.ifCond .eq 6, 3) := by decide +kernel
theorem dX10_writeShares_39 : decode cX10_writeShares 39 = .ok (.iinc 1 1, 3) := by decide +kernel
theorem dX10_writeShares_42 : decode cX10_writeShares 42 = .ok (.iinc 2 1, 3) := by decide +kernel
theorem dX10_writeShares_45 : decode cX10_writeShares 45 = .ok (.goto (-41), 3) := by decide +kernel
theorem dX10_writeShares_48 : decode cX10_writeShares 48 = .ok (.iload_n 1, 1) := by decide +kernel
theorem dX10_writeShares_49 : decode cX10_writeShares 49 = .ok (.ireturn, 1) := by decide +kernel
theorem dX10_dropFor_0 : decode cX10_dropFor 0 = .ok (.iconst 0, 1) := by decide +kernel
theorem dX10_dropFor_1 : decode cX10_dropFor 1 = .ok (.istore_n 3, 1) := by decide +kernel
theorem dX10_dropFor_2 : decode cX10_dropFor 2 = .ok (.iconst 0, 1) := by decide +kernel
theorem dX10_dropFor_3 : decode cX10_dropFor 3 = .ok (.istore 4, 2) := by decide +kernel
theorem dX10_dropFor_5 : decode cX10_dropFor 5 = .ok (.iload 4, 2) := by decide +kernel
theorem dX10_dropFor_7 : decode cX10_dropFor 7 = .ok (.aload_n 0, 1) := by decide +kernel
theorem dX10_dropFor_8 : decode cX10_dropFor 8 = .ok (.getfield 35, 3) := by decide +kernel
theorem dX10_dropFor_11 : decode cX10_dropFor 11 = .ok (.getfield 252, 3) := by decide +kernel
theorem dX10_dropFor_14 : decode cX10_dropFor 14 = .ok (.if_icmp .ge 94, 3) := by decide +kernel
theorem dX10_dropFor_17 : decode cX10_dropFor 17 = .ok (.aload_n 0, 1) := by decide +kernel
theorem dX10_dropFor_18 : decode cX10_dropFor 18 = .ok (.getfield 35, 3) := by decide +kernel
theorem dX10_dropFor_21 : decode cX10_dropFor 21 = .ok (.iload 4, 2) := by decide +kernel
theorem dX10_dropFor_23 : decode cX10_dropFor 23 = .ok (.invokevirtual 373, 3) := by decide +kernel
theorem dX10_dropFor_26 : decode cX10_dropFor 26 = .ok (.istore 5, 2) := by decide +kernel
theorem dX10_dropFor_28 : decode cX10_dropFor 28 = .ok (.aload_n 0, 1) := by decide +kernel
theorem dX10_dropFor_29 : decode cX10_dropFor 29 = .ok (.getfield 21, 3) := by decide +kernel
theorem dX10_dropFor_32 : decode cX10_dropFor 32 = .ok (.aload_n 0, 1) := by decide +kernel
theorem dX10_dropFor_33 : decode cX10_dropFor 33 = .ok (.getfield 35, 3) := by decide +kernel
theorem dX10_dropFor_36 : decode cX10_dropFor 36 = .ok (.iload 4, 2) := by decide +kernel
theorem dX10_dropFor_38 : decode cX10_dropFor 38 = .ok (.invokevirtual 374, 3) := by decide +kernel
theorem dX10_dropFor_41 : decode cX10_dropFor 41 = .ok (.iload_n 2, 1) := by decide +kernel
theorem dX10_dropFor_42 : decode cX10_dropFor 42 = .ok (.invokevirtual 375, 3) := by decide +kernel
theorem dX10_dropFor_45 : decode cX10_dropFor 45 = .ok (.istore 6, 2) := by decide +kernel
theorem dX10_dropFor_47 : decode cX10_dropFor 47 = .ok (.aload_n 0, 1) := by decide +kernel
theorem dX10_dropFor_48 : decode cX10_dropFor 48 = .ok (.getfield 12, 3) := by decide +kernel
theorem dX10_dropFor_51 : decode cX10_dropFor 51 = .ok (.iload 5, 2) := by decide +kernel
theorem dX10_dropFor_53 : decode cX10_dropFor 53 = .ok (.invokevirtual 281, 3) := by decide +kernel
theorem dX10_dropFor_56 : decode cX10_dropFor 56 = .ok (.ifCond .ne 21, 3) := by decide +kernel
theorem dX10_dropFor_59 : decode cX10_dropFor 59 = .ok (.iload 6, 2) := by decide +kernel
theorem dX10_dropFor_61 : decode cX10_dropFor 61 = .ok (.ifCond .eq 20, 3) := by decide +kernel
theorem dX10_dropFor_64 : decode cX10_dropFor 64 = .ok (.aload_n 0, 1) := by decide +kernel
theorem dX10_dropFor_65 : decode cX10_dropFor 65 = .ok (.getfield 12, 3) := by decide +kernel
theorem dX10_dropFor_68 : decode cX10_dropFor 68 = .ok (.iload_n 1, 1) := by decide +kernel
theorem dX10_dropFor_69 : decode cX10_dropFor 69 = .ok (.iload 5, 2) := by decide +kernel
theorem dX10_dropFor_71 : decode cX10_dropFor 71 = .ok (.invokevirtual 378, 3) := by decide +kernel
theorem dX10_dropFor_74 : decode cX10_dropFor 74 = .ok (.ifCond .eq 7, 3) := by decide +kernel
theorem dX10_dropFor_77 : decode cX10_dropFor 77 = .ok (.iconst 1, 1) := by decide +kernel
theorem dX10_dropFor_78 : decode cX10_dropFor 78 = .ok (.goto 4, 3) := by decide +kernel
theorem dX10_dropFor_81 : decode cX10_dropFor 81 = .ok (.iconst 0, 1) := by decide +kernel
theorem dX10_dropFor_82 : decode cX10_dropFor 82 = .ok (.istore 7, 2) := by decide +kernel
theorem dX10_dropFor_84 : decode cX10_dropFor 84 = .ok (.iload 7, 2) := by decide +kernel
theorem dX10_dropFor_86 : decode cX10_dropFor 86 = .ok (.ifCond .ne 16, 3) := by decide +kernel
theorem dX10_dropFor_89 : decode cX10_dropFor 89 = .ok (.aload_n 0, 1) := by decide +kernel
theorem dX10_dropFor_90 : decode cX10_dropFor 90 = .ok (.getfield 35, 3) := by decide +kernel
theorem dX10_dropFor_93 : decode cX10_dropFor 93 = .ok (.iload 4, 2) := by decide +kernel
theorem dX10_dropFor_95 : decode cX10_dropFor 95 = .ok (.iload_n 3, 1) := by decide +kernel
theorem dX10_dropFor_96 : decode cX10_dropFor 96 = .ok (.invokevirtual 381, 3) := by decide +kernel
theorem dX10_dropFor_99 : decode cX10_dropFor 99 = .ok (.iinc 3 1, 3) := by decide +kernel
theorem dX10_dropFor_102 : decode cX10_dropFor 102 = .ok (.iinc 4 1, 3) := by decide +kernel
theorem dX10_dropFor_105 : decode cX10_dropFor 105 = .ok (.goto (-100), 3) := by decide +kernel
theorem dX10_dropFor_108 : decode cX10_dropFor 108 = .ok (.aload_n 0, 1) := by decide +kernel
theorem dX10_dropFor_109 : decode cX10_dropFor 109 = .ok (.getfield 35, 3) := by decide +kernel
theorem dX10_dropFor_112 : decode cX10_dropFor 112 = .ok (.iload_n 3, 1) := by decide +kernel
theorem dX10_dropFor_113 : decode cX10_dropFor 113 = .ok (.putfield 252, 3) := by decide +kernel
theorem dX10_dropFor_116 : decode cX10_dropFor 116 = .ok (.return_, 1) := by decide +kernel
theorem dJ6_bitCount_0f7a4_0 : decode cJ6_bitCount_0f7a4 0 = .ok (.iload_n 0, 1) := by decide +kernel
theorem dJ6_bitCount_0f7a4_1 : decode cJ6_bitCount_0f7a4 1 = .ok (.iload_n 0, 1) := by decide +kernel
theorem dJ6_bitCount_0f7a4_2 : decode cJ6_bitCount_0f7a4 2 = .ok (.iconst 1, 1) := by decide +kernel
theorem dJ6_bitCount_0f7a4_3 : decode cJ6_bitCount_0f7a4 3 = .ok (.iushr, 1) := by decide +kernel
theorem dJ6_bitCount_0f7a4_4 : decode cJ6_bitCount_0f7a4 4 = .ok (.ldc_w 265, 3) := by decide +kernel
theorem dJ6_bitCount_0f7a4_7 : decode cJ6_bitCount_0f7a4 7 = .ok (.iand, 1) := by decide +kernel
theorem dJ6_bitCount_0f7a4_8 : decode cJ6_bitCount_0f7a4 8 = .ok (.isub, 1) := by decide +kernel
theorem dJ6_bitCount_0f7a4_9 : decode cJ6_bitCount_0f7a4 9 = .ok (.istore_n 0, 1) := by decide +kernel
theorem dJ6_bitCount_0f7a4_10 : decode cJ6_bitCount_0f7a4 10 = .ok (.iload_n 0, 1) := by decide +kernel
theorem dJ6_bitCount_0f7a4_11 : decode cJ6_bitCount_0f7a4 11 = .ok (.ldc_w 266, 3) := by decide +kernel
theorem dJ6_bitCount_0f7a4_14 : decode cJ6_bitCount_0f7a4 14 = .ok (.iand, 1) := by decide +kernel
theorem dJ6_bitCount_0f7a4_15 : decode cJ6_bitCount_0f7a4 15 = .ok (.iload_n 0, 1) := by decide +kernel
theorem dJ6_bitCount_0f7a4_16 : decode cJ6_bitCount_0f7a4 16 = .ok (.iconst 2, 1) := by decide +kernel
theorem dJ6_bitCount_0f7a4_17 : decode cJ6_bitCount_0f7a4 17 = .ok (.iushr, 1) := by decide +kernel
theorem dJ6_bitCount_0f7a4_18 : decode cJ6_bitCount_0f7a4 18 = .ok (.ldc_w 266, 3) := by decide +kernel
theorem dJ6_bitCount_0f7a4_21 : decode cJ6_bitCount_0f7a4 21 = .ok (.iand, 1) := by decide +kernel
theorem dJ6_bitCount_0f7a4_22 : decode cJ6_bitCount_0f7a4 22 = .ok (.iadd, 1) := by decide +kernel
theorem dJ6_bitCount_0f7a4_23 : decode cJ6_bitCount_0f7a4 23 = .ok (.istore_n 0, 1) := by decide +kernel
theorem dJ6_bitCount_0f7a4_24 : decode cJ6_bitCount_0f7a4 24 = .ok (.iload_n 0, 1) := by decide +kernel
theorem dJ6_bitCount_0f7a4_25 : decode cJ6_bitCount_0f7a4 25 = .ok (.iload_n 0, 1) := by decide +kernel
theorem dJ6_bitCount_0f7a4_26 : decode cJ6_bitCount_0f7a4 26 = .ok (.iconst 4, 1) := by decide +kernel
theorem dJ6_bitCount_0f7a4_27 : decode cJ6_bitCount_0f7a4 27 = .ok (.iushr, 1) := by decide +kernel
theorem dJ6_bitCount_0f7a4_28 : decode cJ6_bitCount_0f7a4 28 = .ok (.iadd, 1) := by decide +kernel
theorem dJ6_bitCount_0f7a4_29 : decode cJ6_bitCount_0f7a4 29 = .ok (.ldc_w 267, 3) := by decide +kernel
theorem dJ6_bitCount_0f7a4_32 : decode cJ6_bitCount_0f7a4 32 = .ok (.iand, 1) := by decide +kernel
theorem dJ6_bitCount_0f7a4_33 : decode cJ6_bitCount_0f7a4 33 = .ok (.istore_n 0, 1) := by decide +kernel
theorem dJ6_bitCount_0f7a4_34 : decode cJ6_bitCount_0f7a4 34 = .ok (.iload_n 0, 1) := by decide +kernel
theorem dJ6_bitCount_0f7a4_35 : decode cJ6_bitCount_0f7a4 35 = .ok (.iload_n 0, 1) := by decide +kernel
theorem dJ6_bitCount_0f7a4_36 : decode cJ6_bitCount_0f7a4 36 = .ok (.bipush 8, 2) := by decide +kernel
theorem dJ6_bitCount_0f7a4_38 : decode cJ6_bitCount_0f7a4 38 = .ok (.iushr, 1) := by decide +kernel
theorem dJ6_bitCount_0f7a4_39 : decode cJ6_bitCount_0f7a4 39 = .ok (.iadd, 1) := by decide +kernel
theorem dJ6_bitCount_0f7a4_40 : decode cJ6_bitCount_0f7a4 40 = .ok (.istore_n 0, 1) := by decide +kernel
theorem dJ6_bitCount_0f7a4_41 : decode cJ6_bitCount_0f7a4 41 = .ok (.iload_n 0, 1) := by decide +kernel
theorem dJ6_bitCount_0f7a4_42 : decode cJ6_bitCount_0f7a4 42 = .ok (.iload_n 0, 1) := by decide +kernel
theorem dJ6_bitCount_0f7a4_43 : decode cJ6_bitCount_0f7a4 43 = .ok (.bipush 16, 2) := by decide +kernel
theorem dJ6_bitCount_0f7a4_45 : decode cJ6_bitCount_0f7a4 45 = .ok (.iushr, 1) := by decide +kernel
theorem dJ6_bitCount_0f7a4_46 : decode cJ6_bitCount_0f7a4 46 = .ok (.iadd, 1) := by decide +kernel
theorem dJ6_bitCount_0f7a4_47 : decode cJ6_bitCount_0f7a4 47 = .ok (.istore_n 0, 1) := by decide +kernel
theorem dJ6_bitCount_0f7a4_48 : decode cJ6_bitCount_0f7a4 48 = .ok (.iload_n 0, 1) := by decide +kernel
theorem dJ6_bitCount_0f7a4_49 : decode cJ6_bitCount_0f7a4 49 = .ok (.bipush 63, 2) := by decide +kernel
theorem dJ6_bitCount_0f7a4_51 : decode cJ6_bitCount_0f7a4 51 = .ok (.iand, 1) := by decide +kernel
theorem dJ6_bitCount_0f7a4_52 : decode cJ6_bitCount_0f7a4 52 = .ok (.ireturn, 1) := by decide +kernel
theorem dJ9_abs_067f4_0 : decode cJ9_abs_067f4 0 = .ok (.lload_n 0, 1) := by decide +kernel
theorem dJ9_abs_067f4_1 : decode cJ9_abs_067f4 1 = .ok (.lconst 0, 1) := by decide +kernel
theorem dJ9_abs_067f4_2 : decode cJ9_abs_067f4 2 = .ok (.lcmp, 1) := by decide +kernel
theorem dJ9_abs_067f4_3 : decode cJ9_abs_067f4 3 = .ok (.ifCond .ge 8, 3) := by decide +kernel
theorem dJ9_abs_067f4_6 : decode cJ9_abs_067f4 6 = .ok (.lload_n 0, 1) := by decide +kernel
theorem dJ9_abs_067f4_7 : decode cJ9_abs_067f4 7 = .ok (.lneg, 1) := by decide +kernel
theorem dJ9_abs_067f4_8 : decode cJ9_abs_067f4 8 = .ok (.goto 4, 3) := by decide +kernel
theorem dJ9_abs_067f4_11 : decode cJ9_abs_067f4 11 = .ok (.lload_n 0, 1) := by decide +kernel
theorem dJ9_abs_067f4_12 : decode cJ9_abs_067f4 12 = .ok (.lreturn, 1) := by decide +kernel
theorem dJ9_max_7cf53_0 : decode cJ9_max_7cf53 0 = .ok (.iload_n 0, 1) := by decide +kernel
theorem dJ9_max_7cf53_1 : decode cJ9_max_7cf53 1 = .ok (.iload_n 1, 1) := by decide +kernel
theorem dJ9_max_7cf53_2 : decode cJ9_max_7cf53 2 = .ok (.if_icmp .lt 7, 3) := by decide +kernel
theorem dJ9_max_7cf53_5 : decode cJ9_max_7cf53 5 = .ok (.iload_n 0, 1) := by decide +kernel
theorem dJ9_max_7cf53_6 : decode cJ9_max_7cf53 6 = .ok (.goto 4, 3) := by decide +kernel
theorem dJ9_max_7cf53_9 : decode cJ9_max_7cf53 9 = .ok (.iload_n 1, 1) := by decide +kernel
theorem dJ9_max_7cf53_10 : decode cJ9_max_7cf53 10 = .ok (.ireturn, 1) := by decide +kernel
theorem dJ9_max_f86c9_0 : decode cJ9_max_f86c9 0 = .ok (.lload_n 0, 1) := by decide +kernel
theorem dJ9_max_f86c9_1 : decode cJ9_max_f86c9 1 = .ok (.lload_n 2, 1) := by decide +kernel
theorem dJ9_max_f86c9_2 : decode cJ9_max_f86c9 2 = .ok (.lcmp, 1) := by decide +kernel
theorem dJ9_max_f86c9_3 : decode cJ9_max_f86c9 3 = .ok (.ifCond .lt 7, 3) := by decide +kernel
theorem dJ9_max_f86c9_6 : decode cJ9_max_f86c9 6 = .ok (.lload_n 0, 1) := by decide +kernel
theorem dJ9_max_f86c9_7 : decode cJ9_max_f86c9 7 = .ok (.goto 4, 3) := by decide +kernel
theorem dJ9_max_f86c9_10 : decode cJ9_max_f86c9 10 = .ok (.lload_n 2, 1) := by decide +kernel
theorem dJ9_max_f86c9_11 : decode cJ9_max_f86c9 11 = .ok (.lreturn, 1) := by decide +kernel
theorem dJ9_min_7cf53_0 : decode cJ9_min_7cf53 0 = .ok (.iload_n 0, 1) := by decide +kernel
theorem dJ9_min_7cf53_1 : decode cJ9_min_7cf53 1 = .ok (.iload_n 1, 1) := by decide +kernel
theorem dJ9_min_7cf53_2 : decode cJ9_min_7cf53 2 = .ok (.if_icmp .gt 7, 3) := by decide +kernel
theorem dJ9_min_7cf53_5 : decode cJ9_min_7cf53 5 = .ok (.iload_n 0, 1) := by decide +kernel
theorem dJ9_min_7cf53_6 : decode cJ9_min_7cf53 6 = .ok (.goto 4, 3) := by decide +kernel
theorem dJ9_min_7cf53_9 : decode cJ9_min_7cf53 9 = .ok (.iload_n 1, 1) := by decide +kernel
theorem dJ9_min_7cf53_10 : decode cJ9_min_7cf53 10 = .ok (.ireturn, 1) := by decide +kernel
theorem dJ9_min_f86c9_0 : decode cJ9_min_f86c9 0 = .ok (.lload_n 0, 1) := by decide +kernel
theorem dJ9_min_f86c9_1 : decode cJ9_min_f86c9 1 = .ok (.lload_n 2, 1) := by decide +kernel
theorem dJ9_min_f86c9_2 : decode cJ9_min_f86c9 2 = .ok (.lcmp, 1) := by decide +kernel
theorem dJ9_min_f86c9_3 : decode cJ9_min_f86c9 3 = .ok (.ifCond .gt 7, 3) := by decide +kernel
theorem dJ9_min_f86c9_6 : decode cJ9_min_f86c9 6 = .ok (.lload_n 0, 1) := by decide +kernel
theorem dJ9_min_f86c9_7 : decode cJ9_min_f86c9 7 = .ok (.goto 4, 3) := by decide +kernel
theorem dJ9_min_f86c9_10 : decode cJ9_min_f86c9 10 = .ok (.lload_n 2, 1) := by decide +kernel
theorem dJ9_min_f86c9_11 : decode cJ9_min_f86c9 11 = .ok (.lreturn, 1) := by decide +kernel
theorem dJ7_fill_53178_0 : decode cJ7_fill_53178 0 = .ok (.iconst 0, 1) := by decide +kernel
theorem dJ7_fill_53178_1 : decode cJ7_fill_53178 1 = .ok (.istore_n 2, 1) := by decide +kernel
theorem dJ7_fill_53178_2 : decode cJ7_fill_53178 2 = .ok (.aload_n 0, 1) := by decide +kernel
theorem dJ7_fill_53178_3 : decode cJ7_fill_53178 3 = .ok (.arraylength, 1) := by decide +kernel
theorem dJ7_fill_53178_4 : decode cJ7_fill_53178 4 = .ok (.istore_n 3, 1) := by decide +kernel
theorem dJ7_fill_53178_5 : decode cJ7_fill_53178 5 = .ok (.iload_n 2, 1) := by decide +kernel
theorem dJ7_fill_53178_6 : decode cJ7_fill_53178 6 = .ok (.iload_n 3, 1) := by decide +kernel
theorem dJ7_fill_53178_7 : decode cJ7_fill_53178 7 = .ok (.if_icmp .ge 13, 3) := by decide +kernel
theorem dJ7_fill_53178_10 : decode cJ7_fill_53178 10 = .ok (.aload_n 0, 1) := by decide +kernel
theorem dJ7_fill_53178_11 : decode cJ7_fill_53178 11 = .ok (.iload_n 2, 1) := by decide +kernel
theorem dJ7_fill_53178_12 : decode cJ7_fill_53178 12 = .ok (.iload_n 1, 1) := by decide +kernel
theorem dJ7_fill_53178_13 : decode cJ7_fill_53178 13 = .ok (.iastore, 1) := by decide +kernel
theorem dJ7_fill_53178_14 : decode cJ7_fill_53178 14 = .ok (.iinc 2 1, 3) := by decide +kernel
theorem dJ7_fill_53178_17 : decode cJ7_fill_53178 17 = .ok (.goto (-12), 3) := by decide +kernel
theorem dJ7_fill_53178_20 : decode cJ7_fill_53178 20 = .ok (.return_, 1) := by decide +kernel
theorem dL_cell_0 : decode cL_cell 0 = .ok (.iload_n 1, 1) := by decide +kernel
theorem dL_cell_1 : decode cL_cell 1 = .ok (.aload_n 0, 1) := by decide +kernel
theorem dL_cell_2 : decode cL_cell 2 = .ok (.arraylength, 1) := by decide +kernel
theorem dL_cell_3 : decode cL_cell 3 = .ok (.if_icmp .ge 9, 3) := by decide +kernel
theorem dL_cell_6 : decode cL_cell 6 = .ok (.aload_n 0, 1) := by decide +kernel
theorem dL_cell_7 : decode cL_cell 7 = .ok (.iload_n 1, 1) := by decide +kernel
theorem dL_cell_8 : decode cL_cell 8 = .ok (.iaload, 1) := by decide +kernel
theorem dL_cell_9 : decode cL_cell 9 = .ok (.goto 11, 3) := by decide +kernel
theorem dL_cell_12 : decode cL_cell 12 = .ok (.ldc 7, 2) := by decide +kernel
theorem dL_cell_14 : decode cL_cell 14 = .ok (.iload_n 1, 1) := by decide +kernel
theorem dL_cell_15 : decode cL_cell 15 = .ok (.imul, 1) := by decide +kernel
theorem dL_cell_16 : decode cL_cell 16 = .ok (.sipush 3301, 3) := by decide +kernel
theorem dL_cell_19 : decode cL_cell 19 = .ok (.iadd, 1) := by decide +kernel
theorem dL_cell_20 : decode cL_cell 20 = .ok (.ireturn, 1) := by decide +kernel
theorem dL_low_0 : decode cL_low 0 = .ok (.iload_n 0, 1) := by decide +kernel
theorem dL_low_1 : decode cL_low 1 = .ok (.ldc 8, 2) := by decide +kernel
theorem dL_low_3 : decode cL_low 3 = .ok (.iand, 1) := by decide +kernel
theorem dL_low_4 : decode cL_low 4 = .ok (.iload_n 1, 1) := by decide +kernel
theorem dL_low_5 : decode cL_low 5 = .ok (.irem, 1) := by decide +kernel
theorem dL_low_6 : decode cL_low 6 = .ok (.ireturn, 1) := by decide +kernel
theorem dL_members_0 : decode cL_members 0 = .ok (.aload_n 0, 1) := by decide +kernel
theorem dL_members_1 : decode cL_members 1 = .ok (.iload_n 1, 1) := by decide +kernel
theorem dL_members_2 : decode cL_members 2 = .ok (.iload_n 2, 1) := by decide +kernel
theorem dL_members_3 : decode cL_members 3 = .ok (.iload_n 3, 1) := by decide +kernel
theorem dL_members_4 : decode cL_members 4 = .ok (.invokevirtual 9, 3) := by decide +kernel
theorem dL_members_7 : decode cL_members 7 = .ok (.ireturn, 1) := by decide +kernel
theorem dL_members_8 : decode cL_members 8 = .ok (.astore 4, 2) := by decide +kernel
theorem dL_members_10 : decode cL_members 10 = .ok (.bipush (-2), 2) := by decide +kernel
theorem dL_members_12 : decode cL_members 12 = .ok (.ireturn, 1) := by decide +kernel
theorem dL_members_13 : decode cL_members 13 = .ok (.astore 4, 2) := by decide +kernel
theorem dL_members_15 : decode cL_members 15 = .ok (.bipush (-3), 2) := by decide +kernel
theorem dL_members_17 : decode cL_members 17 = .ok (.ireturn, 1) := by decide +kernel
theorem dL_members_18 : decode cL_members 18 = .ok (.astore 4, 2) := by decide +kernel
theorem dL_members_20 : decode cL_members 20 = .ok (.bipush (-4), 2) := by decide +kernel
theorem dL_members_22 : decode cL_members 22 = .ok (.ireturn, 1) := by decide +kernel
theorem dL_bridges_0 : decode cL_bridges 0 = .ok (.aload_n 0, 1) := by decide +kernel
theorem dL_bridges_1 : decode cL_bridges 1 = .ok (.iload_n 1, 1) := by decide +kernel
theorem dL_bridges_2 : decode cL_bridges 2 = .ok (.iload_n 2, 1) := by decide +kernel
theorem dL_bridges_3 : decode cL_bridges 3 = .ok (.invokevirtual 21, 3) := by decide +kernel
theorem dL_bridges_6 : decode cL_bridges 6 = .ok (.ireturn, 1) := by decide +kernel
theorem dL_bridges_7 : decode cL_bridges 7 = .ok (.astore_n 3, 1) := by decide +kernel
theorem dL_bridges_8 : decode cL_bridges 8 = .ok (.bipush (-2), 2) := by decide +kernel
theorem dL_bridges_10 : decode cL_bridges 10 = .ok (.ireturn, 1) := by decide +kernel
theorem dL_bridges_11 : decode cL_bridges 11 = .ok (.astore_n 3, 1) := by decide +kernel
theorem dL_bridges_12 : decode cL_bridges 12 = .ok (.bipush (-3), 2) := by decide +kernel
theorem dL_bridges_14 : decode cL_bridges 14 = .ok (.ireturn, 1) := by decide +kernel
theorem dL_bridges_15 : decode cL_bridges 15 = .ok (.astore_n 3, 1) := by decide +kernel
theorem dL_bridges_16 : decode cL_bridges 16 = .ok (.bipush (-4), 2) := by decide +kernel
theorem dL_bridges_18 : decode cL_bridges 18 = .ok (.ireturn, 1) := by decide +kernel
theorem dL_moves_0 : decode cL_moves 0 = .ok (.aload_n 0, 1) := by decide +kernel
theorem dL_moves_1 : decode cL_moves 1 = .ok (.iload_n 1, 1) := by decide +kernel
theorem dL_moves_2 : decode cL_moves 2 = .ok (.iload_n 2, 1) := by decide +kernel
theorem dL_moves_3 : decode cL_moves 3 = .ok (.iload_n 3, 1) := by decide +kernel
theorem dL_moves_4 : decode cL_moves 4 = .ok (.iload 4, 2) := by decide +kernel
theorem dL_moves_6 : decode cL_moves 6 = .ok (.invokevirtual 25, 3) := by decide +kernel
theorem dL_moves_9 : decode cL_moves 9 = .ok (.ireturn, 1) := by decide +kernel
theorem dL_moves_10 : decode cL_moves 10 = .ok (.astore 5, 2) := by decide +kernel
theorem dL_moves_12 : decode cL_moves 12 = .ok (.bipush (-2), 2) := by decide +kernel
theorem dL_moves_14 : decode cL_moves 14 = .ok (.ireturn, 1) := by decide +kernel
theorem dL_moves_15 : decode cL_moves 15 = .ok (.astore 5, 2) := by decide +kernel
theorem dL_moves_17 : decode cL_moves 17 = .ok (.bipush (-4), 2) := by decide +kernel
theorem dL_moves_19 : decode cL_moves 19 = .ok (.ireturn, 1) := by decide +kernel
theorem dL_words_0 : decode cL_words 0 = .ok (.aload_n 0, 1) := by decide +kernel
theorem dL_words_1 : decode cL_words 1 = .ok (.iload_n 1, 1) := by decide +kernel
theorem dL_words_2 : decode cL_words 2 = .ok (.iload_n 2, 1) := by decide +kernel
theorem dL_words_3 : decode cL_words 3 = .ok (.iload_n 3, 1) := by decide +kernel
theorem dL_words_4 : decode cL_words 4 = .ok (.invokevirtual 29, 3) := by decide +kernel
theorem dL_words_7 : decode cL_words 7 = .ok (.ireturn, 1) := by decide +kernel
theorem dL_words_8 : decode cL_words 8 = .ok (.astore 4, 2) := by decide +kernel
theorem dL_words_10 : decode cL_words 10 = .ok (.bipush (-3), 2) := by decide +kernel
theorem dL_words_12 : decode cL_words 12 = .ok (.ireturn, 1) := by decide +kernel
theorem dL_words_13 : decode cL_words 13 = .ok (.astore 4, 2) := by decide +kernel
theorem dL_words_15 : decode cL_words 15 = .ok (.bipush (-4), 2) := by decide +kernel
theorem dL_words_17 : decode cL_words 17 = .ok (.ireturn, 1) := by decide +kernel
theorem dL_calculates_0 : decode cL_calculates 0 = .ok (.aload_n 0, 1) := by decide +kernel
theorem dL_calculates_1 : decode cL_calculates 1 = .ok (.iload_n 1, 1) := by decide +kernel
theorem dL_calculates_2 : decode cL_calculates 2 = .ok (.iload_n 2, 1) := by decide +kernel
theorem dL_calculates_3 : decode cL_calculates 3 = .ok (.invokevirtual 32, 3) := by decide +kernel
theorem dL_calculates_6 : decode cL_calculates 6 = .ok (.ireturn, 1) := by decide +kernel
theorem dL_calculates_7 : decode cL_calculates 7 = .ok (.astore_n 3, 1) := by decide +kernel
theorem dL_calculates_8 : decode cL_calculates 8 = .ok (.bipush (-2), 2) := by decide +kernel
theorem dL_calculates_10 : decode cL_calculates 10 = .ok (.ireturn, 1) := by decide +kernel
theorem dL_calculates_11 : decode cL_calculates 11 = .ok (.astore_n 3, 1) := by decide +kernel
theorem dL_calculates_12 : decode cL_calculates 12 = .ok (.bipush (-3), 2) := by decide +kernel
theorem dL_calculates_14 : decode cL_calculates 14 = .ok (.ireturn, 1) := by decide +kernel
theorem dL_calculates_15 : decode cL_calculates 15 = .ok (.astore_n 3, 1) := by decide +kernel
theorem dL_calculates_16 : decode cL_calculates 16 = .ok (.bipush (-4), 2) := by decide +kernel
theorem dL_calculates_18 : decode cL_calculates 18 = .ok (.ireturn, 1) := by decide +kernel
theorem dL_measures_0 : decode cL_measures 0 = .ok (.aload_n 0, 1) := by decide +kernel
theorem dL_measures_1 : decode cL_measures 1 = .ok (.iload_n 1, 1) := by decide +kernel
theorem dL_measures_2 : decode cL_measures 2 = .ok (.iload_n 2, 1) := by decide +kernel
theorem dL_measures_3 : decode cL_measures 3 = .ok (.iload_n 3, 1) := by decide +kernel
theorem dL_measures_4 : decode cL_measures 4 = .ok (.invokevirtual 35, 3) := by decide +kernel
theorem dL_measures_7 : decode cL_measures 7 = .ok (.ireturn, 1) := by decide +kernel
theorem dL_measures_8 : decode cL_measures 8 = .ok (.astore 4, 2) := by decide +kernel
theorem dL_measures_10 : decode cL_measures 10 = .ok (.bipush (-2), 2) := by decide +kernel
theorem dL_measures_12 : decode cL_measures 12 = .ok (.ireturn, 1) := by decide +kernel
theorem dL_measures_13 : decode cL_measures 13 = .ok (.astore 4, 2) := by decide +kernel
theorem dL_measures_15 : decode cL_measures 15 = .ok (.bipush (-3), 2) := by decide +kernel
theorem dL_measures_17 : decode cL_measures 17 = .ok (.ireturn, 1) := by decide +kernel
theorem dL_measures_18 : decode cL_measures 18 = .ok (.astore 4, 2) := by decide +kernel
theorem dL_measures_20 : decode cL_measures 20 = .ok (.bipush (-4), 2) := by decide +kernel
theorem dL_measures_22 : decode cL_measures 22 = .ok (.ireturn, 1) := by decide +kernel
theorem dL_facts_0 : decode cL_facts 0 = .ok (.aload_n 0, 1) := by decide +kernel
theorem dL_facts_1 : decode cL_facts 1 = .ok (.iload_n 1, 1) := by decide +kernel
theorem dL_facts_2 : decode cL_facts 2 = .ok (.iload_n 2, 1) := by decide +kernel
theorem dL_facts_3 : decode cL_facts 3 = .ok (.iload_n 3, 1) := by decide +kernel
theorem dL_facts_4 : decode cL_facts 4 = .ok (.iload 4, 2) := by decide +kernel
theorem dL_facts_6 : decode cL_facts 6 = .ok (.iload 5, 2) := by decide +kernel
theorem dL_facts_8 : decode cL_facts 8 = .ok (.invokevirtual 38, 3) := by decide +kernel
theorem dL_facts_11 : decode cL_facts 11 = .ok (.ireturn, 1) := by decide +kernel
theorem dL_facts_12 : decode cL_facts 12 = .ok (.astore 6, 2) := by decide +kernel
theorem dL_facts_14 : decode cL_facts 14 = .ok (.bipush (-2), 2) := by decide +kernel
theorem dL_facts_16 : decode cL_facts 16 = .ok (.ireturn, 1) := by decide +kernel
theorem dL_facts_17 : decode cL_facts 17 = .ok (.astore 6, 2) := by decide +kernel
theorem dL_facts_19 : decode cL_facts 19 = .ok (.bipush (-3), 2) := by decide +kernel
theorem dL_facts_21 : decode cL_facts 21 = .ok (.ireturn, 1) := by decide +kernel
theorem dL_facts_22 : decode cL_facts 22 = .ok (.astore 6, 2) := by decide +kernel
theorem dL_facts_24 : decode cL_facts 24 = .ok (.bipush (-4), 2) := by decide +kernel
theorem dL_facts_26 : decode cL_facts 26 = .ok (.ireturn, 1) := by decide +kernel
theorem dL_writes_0 : decode cL_writes 0 = .ok (.aload_n 0, 1) := by decide +kernel
theorem dL_writes_1 : decode cL_writes 1 = .ok (.iload_n 1, 1) := by decide +kernel
theorem dL_writes_2 : decode cL_writes 2 = .ok (.iload_n 2, 1) := by decide +kernel
theorem dL_writes_3 : decode cL_writes 3 = .ok (.iload_n 3, 1) := by decide +kernel
theorem dL_writes_4 : decode cL_writes 4 = .ok (.iload 4, 2) := by decide +kernel
theorem dL_writes_6 : decode cL_writes 6 = .ok (.iload 5, 2) := by decide +kernel
theorem dL_writes_8 : decode cL_writes 8 = .ok (.iload 6, 2) := by decide +kernel
theorem dL_writes_10 : decode cL_writes 10 = .ok (.invokevirtual 42, 3) := by decide +kernel
theorem dL_writes_13 : decode cL_writes 13 = .ok (.ireturn, 1) := by decide +kernel
theorem dL_writes_14 : decode cL_writes 14 = .ok (.astore 7, 2) := by decide +kernel
theorem dL_writes_16 : decode cL_writes 16 = .ok (.bipush (-2), 2) := by decide +kernel
theorem dL_writes_18 : decode cL_writes 18 = .ok (.ireturn, 1) := by decide +kernel
theorem dL_writes_19 : decode cL_writes 19 = .ok (.astore 7, 2) := by decide +kernel
theorem dL_writes_21 : decode cL_writes 21 = .ok (.bipush (-3), 2) := by decide +kernel
theorem dL_writes_23 : decode cL_writes 23 = .ok (.ireturn, 1) := by decide +kernel
theorem dL_writes_24 : decode cL_writes 24 = .ok (.astore 7, 2) := by decide +kernel
theorem dL_writes_26 : decode cL_writes 26 = .ok (.bipush (-4), 2) := by decide +kernel
theorem dL_writes_28 : decode cL_writes 28 = .ok (.ireturn, 1) := by decide +kernel
theorem dL_picks_0 : decode cL_picks 0 = .ok (.aload_n 0, 1) := by decide +kernel
theorem dL_picks_1 : decode cL_picks 1 = .ok (.iload_n 1, 1) := by decide +kernel
theorem dL_picks_2 : decode cL_picks 2 = .ok (.iload_n 2, 1) := by decide +kernel
theorem dL_picks_3 : decode cL_picks 3 = .ok (.iload_n 3, 1) := by decide +kernel
theorem dL_picks_4 : decode cL_picks 4 = .ok (.iload 4, 2) := by decide +kernel
theorem dL_picks_6 : decode cL_picks 6 = .ok (.iload 5, 2) := by decide +kernel
theorem dL_picks_8 : decode cL_picks 8 = .ok (.invokevirtual 46, 3) := by decide +kernel
theorem dL_picks_11 : decode cL_picks 11 = .ok (.ireturn, 1) := by decide +kernel
theorem dL_picks_12 : decode cL_picks 12 = .ok (.astore 6, 2) := by decide +kernel
theorem dL_picks_14 : decode cL_picks 14 = .ok (.bipush (-2), 2) := by decide +kernel
theorem dL_picks_16 : decode cL_picks 16 = .ok (.ireturn, 1) := by decide +kernel
theorem dL_picks_17 : decode cL_picks 17 = .ok (.astore 6, 2) := by decide +kernel
theorem dL_picks_19 : decode cL_picks 19 = .ok (.bipush (-3), 2) := by decide +kernel
theorem dL_picks_21 : decode cL_picks 21 = .ok (.ireturn, 1) := by decide +kernel
theorem dL_picks_22 : decode cL_picks 22 = .ok (.astore 6, 2) := by decide +kernel
theorem dL_picks_24 : decode cL_picks 24 = .ok (.bipush (-4), 2) := by decide +kernel
theorem dL_picks_26 : decode cL_picks 26 = .ok (.ireturn, 1) := by decide +kernel
theorem dL_ends_0 : decode cL_ends 0 = .ok (.aload_n 0, 1) := by decide +kernel
theorem dL_ends_1 : decode cL_ends 1 = .ok (.iload_n 1, 1) := by decide +kernel
theorem dL_ends_2 : decode cL_ends 2 = .ok (.invokevirtual 49, 3) := by decide +kernel
theorem dL_ends_5 : decode cL_ends 5 = .ok (.ireturn, 1) := by decide +kernel
theorem dL_ends_6 : decode cL_ends 6 = .ok (.astore_n 2, 1) := by decide +kernel
theorem dL_ends_7 : decode cL_ends 7 = .ok (.bipush (-4), 2) := by decide +kernel
theorem dL_ends_9 : decode cL_ends 9 = .ok (.ireturn, 1) := by decide +kernel
theorem dL_begins_0 : decode cL_begins 0 = .ok (.aload_n 0, 1) := by decide +kernel
theorem dL_begins_1 : decode cL_begins 1 = .ok (.invokevirtual 53, 3) := by decide +kernel
theorem dL_begins_4 : decode cL_begins 4 = .ok (.iconst 0, 1) := by decide +kernel
theorem dL_begins_5 : decode cL_begins 5 = .ok (.ireturn, 1) := by decide +kernel
theorem dL_begins_6 : decode cL_begins 6 = .ok (.astore_n 1, 1) := by decide +kernel
theorem dL_begins_7 : decode cL_begins 7 = .ok (.bipush (-4), 2) := by decide +kernel
theorem dL_begins_9 : decode cL_begins 9 = .ok (.ireturn, 1) := by decide +kernel
theorem dL_tell_0 : decode cL_tell 0 = .ok (.bipush 60, 2) := by decide +kernel
theorem dL_tell_2 : decode cL_tell 2 = .ok (.newarray .int, 2) := by decide +kernel
theorem dL_tell_4 : decode cL_tell 4 = .ok (.astore_n 2, 1) := by decide +kernel
theorem dL_tell_5 : decode cL_tell 5 = .ok (.iconst 0, 1) := by decide +kernel
theorem dL_tell_6 : decode cL_tell 6 = .ok (.istore_n 3, 1) := by decide +kernel
theorem dL_tell_7 : decode cL_tell 7 = .ok (.iload_n 3, 1) := by decide +kernel
theorem dL_tell_8 : decode cL_tell 8 = .ok (.iconst 3, 1) := by decide +kernel
theorem dL_tell_9 : decode cL_tell 9 = .ok (.if_icmp .ge 68, 3) := by decide +kernel
theorem dL_tell_12 : decode cL_tell 12 = .ok (.iconst 0, 1) := by decide +kernel
theorem dL_tell_13 : decode cL_tell 13 = .ok (.istore 4, 2) := by decide +kernel
theorem dL_tell_15 : decode cL_tell 15 = .ok (.iload 4, 2) := by decide +kernel
theorem dL_tell_17 : decode cL_tell 17 = .ok (.aload_n 1, 1) := by decide +kernel
theorem dL_tell_18 : decode cL_tell 18 = .ok (.iload_n 3, 1) := by decide +kernel
theorem dL_tell_19 : decode cL_tell 19 = .ok (.iaload, 1) := by decide +kernel
theorem dL_tell_20 : decode cL_tell 20 = .ok (.if_icmp .ge 51, 3) := by decide +kernel
theorem dL_tell_23 : decode cL_tell 23 = .ok (.aload_n 2, 1) := by decide +kernel
theorem dL_tell_24 : decode cL_tell 24 = .ok (.bipush 12, 2) := by decide +kernel
theorem dL_tell_26 : decode cL_tell 26 = .ok (.iload_n 3, 1) := by decide +kernel
theorem dL_tell_27 : decode cL_tell 27 = .ok (.imul, 1) := by decide +kernel
theorem dL_tell_28 : decode cL_tell 28 = .ok (.iload 4, 2) := by decide +kernel
theorem dL_tell_30 : decode cL_tell 30 = .ok (.iadd, 1) := by decide +kernel
theorem dL_tell_31 : decode cL_tell 31 = .ok (.aload_n 0, 1) := by decide +kernel
theorem dL_tell_32 : decode cL_tell 32 = .ok (.iload_n 3, 1) := by decide +kernel
theorem dL_tell_33 : decode cL_tell 33 = .ok (.iload 4, 2) := by decide +kernel
theorem dL_tell_35 : decode cL_tell 35 = .ok (.iconst 1, 1) := by decide +kernel
theorem dL_tell_36 : decode cL_tell 36 = .ok (.invokevirtual 56, 3) := by decide +kernel
theorem dL_tell_39 : decode cL_tell 39 = .ok (.bipush 20, 2) := by decide +kernel
theorem dL_tell_41 : decode cL_tell 41 = .ok (.aload_n 0, 1) := by decide +kernel
theorem dL_tell_42 : decode cL_tell 42 = .ok (.iload_n 3, 1) := by decide +kernel
theorem dL_tell_43 : decode cL_tell 43 = .ok (.iload 4, 2) := by decide +kernel
theorem dL_tell_45 : decode cL_tell 45 = .ok (.iconst 2, 1) := by decide +kernel
theorem dL_tell_46 : decode cL_tell 46 = .ok (.invokevirtual 56, 3) := by decide +kernel
theorem dL_tell_49 : decode cL_tell 49 = .ok (.imul, 1) := by decide +kernel
theorem dL_tell_50 : decode cL_tell 50 = .ok (.iadd, 1) := by decide +kernel
theorem dL_tell_51 : decode cL_tell 51 = .ok (.sipush 400, 3) := by decide +kernel
theorem dL_tell_54 : decode cL_tell 54 = .ok (.aload_n 0, 1) := by decide +kernel
theorem dL_tell_55 : decode cL_tell 55 = .ok (.iload_n 3, 1) := by decide +kernel
theorem dL_tell_56 : decode cL_tell 56 = .ok (.iload 4, 2) := by decide +kernel
theorem dL_tell_58 : decode cL_tell 58 = .ok (.iconst 4, 1) := by decide +kernel
theorem dL_tell_59 : decode cL_tell 59 = .ok (.invokevirtual 56, 3) := by decide +kernel
theorem dL_tell_62 : decode cL_tell 62 = .ok (.imul, 1) := by decide +kernel
theorem dL_tell_63 : decode cL_tell 63 = .ok (.iadd, 1) := by decide +kernel
theorem dL_tell_64 : decode cL_tell 64 = .ok (.iastore, 1) := by decide +kernel
theorem dL_tell_65 : decode cL_tell 65 = .ok (.iinc 4 1, 3) := by decide +kernel
theorem dL_tell_68 : decode cL_tell 68 = .ok (.goto (-53), 3) := by decide +kernel
theorem dL_tell_71 : decode cL_tell 71 = .ok (.iinc 3 1, 3) := by decide +kernel
theorem dL_tell_74 : decode cL_tell 74 = .ok (.goto (-67), 3) := by decide +kernel
theorem dL_tell_77 : decode cL_tell 77 = .ok (.iconst 0, 1) := by decide +kernel
theorem dL_tell_78 : decode cL_tell 78 = .ok (.istore_n 3, 1) := by decide +kernel
theorem dL_tell_79 : decode cL_tell 79 = .ok (.iload_n 3, 1) := by decide +kernel
theorem dL_tell_80 : decode cL_tell 80 = .ok (.aload_n 1, 1) := by decide +kernel
theorem dL_tell_81 : decode cL_tell 81 = .ok (.iconst 3, 1) := by decide +kernel
theorem dL_tell_82 : decode cL_tell 82 = .ok (.iaload, 1) := by decide +kernel
theorem dL_tell_83 : decode cL_tell 83 = .ok (.if_icmp .ge 88, 3) := by decide +kernel
theorem dL_tell_86 : decode cL_tell 86 = .ok (.iconst 0, 1) := by decide +kernel
theorem dL_tell_87 : decode cL_tell 87 = .ok (.istore 4, 2) := by decide +kernel
theorem dL_tell_89 : decode cL_tell 89 = .ok (.iload 4, 2) := by decide +kernel
theorem dL_tell_91 : decode cL_tell 91 = .ok (.iconst 3, 1) := by decide +kernel
theorem dL_tell_92 : decode cL_tell 92 = .ok (.if_icmp .ge 73, 3) := by decide +kernel
theorem dL_tell_95 : decode cL_tell 95 = .ok (.aload_n 0, 1) := by decide +kernel
theorem dL_tell_96 : decode cL_tell 96 = .ok (.iload 4, 2) := by decide +kernel
theorem dL_tell_98 : decode cL_tell 98 = .ok (.aload_n 1, 1) := by decide +kernel
theorem dL_tell_99 : decode cL_tell 99 = .ok (.iconst 0, 1) := by decide +kernel
theorem dL_tell_100 : decode cL_tell 100 = .ok (.iaload, 1) := by decide +kernel
theorem dL_tell_101 : decode cL_tell 101 = .ok (.invokestatic 59, 3) := by decide +kernel
theorem dL_tell_104 : decode cL_tell 104 = .ok (.iconst 2, 1) := by decide +kernel
theorem dL_tell_105 : decode cL_tell 105 = .ok (.iload 4, 2) := by decide +kernel
theorem dL_tell_107 : decode cL_tell 107 = .ok (.imul, 1) := by decide +kernel
theorem dL_tell_108 : decode cL_tell 108 = .ok (.aload_n 1, 1) := by decide +kernel
theorem dL_tell_109 : decode cL_tell 109 = .ok (.iconst 1, 1) := by decide +kernel
theorem dL_tell_110 : decode cL_tell 110 = .ok (.iaload, 1) := by decide +kernel
theorem dL_tell_111 : decode cL_tell 111 = .ok (.invokestatic 59, 3) := by decide +kernel
theorem dL_tell_114 : decode cL_tell 114 = .ok (.iload 4, 2) := by decide +kernel
theorem dL_tell_116 : decode cL_tell 116 = .ok (.aload_n 1, 1) := by decide +kernel
theorem dL_tell_117 : decode cL_tell 117 = .ok (.iconst 2, 1) := by decide +kernel
theorem dL_tell_118 : decode cL_tell 118 = .ok (.iaload, 1) := by decide +kernel
theorem dL_tell_119 : decode cL_tell 119 = .ok (.invokestatic 59, 3) := by decide +kernel
theorem dL_tell_122 : decode cL_tell 122 = .ok (.iload_n 3, 1) := by decide +kernel
theorem dL_tell_123 : decode cL_tell 123 = .ok (.invokevirtual 64, 3) := by decide +kernel
theorem dL_tell_126 : decode cL_tell 126 = .ok (.lstore 5, 2) := by decide +kernel
theorem dL_tell_128 : decode cL_tell 128 = .ok (.aload_n 2, 1) := by decide +kernel
theorem dL_tell_129 : decode cL_tell 129 = .ok (.bipush 36, 2) := by decide +kernel
theorem dL_tell_131 : decode cL_tell 131 = .ok (.iconst 3, 1) := by decide +kernel
theorem dL_tell_132 : decode cL_tell 132 = .ok (.iload_n 3, 1) := by decide +kernel
theorem dL_tell_133 : decode cL_tell 133 = .ok (.imul, 1) := by decide +kernel
theorem dL_tell_134 : decode cL_tell 134 = .ok (.iadd, 1) := by decide +kernel
theorem dL_tell_135 : decode cL_tell 135 = .ok (.iload 4, 2) := by decide +kernel
theorem dL_tell_137 : decode cL_tell 137 = .ok (.iadd, 1) := by decide +kernel
theorem dL_tell_138 : decode cL_tell 138 = .ok (.lload 5, 2) := by decide +kernel
theorem dL_tell_140 : decode cL_tell 140 = .ok (.ldc2_w 68, 3) := by decide +kernel
theorem dL_tell_143 : decode cL_tell 143 = .ok (.lcmp, 1) := by decide +kernel
theorem dL_tell_144 : decode cL_tell 144 = .ok (.ifCond .ne 7, 3) := by decide +kernel
theorem dL_tell_147 : decode cL_tell 147 = .ok (.iconst (-1), 1) := by decide +kernel
theorem dL_tell_148 : decode cL_tell 148 = .ok (.goto 10, 3) := by decide +kernel
theorem dL_tell_151 : decode cL_tell 151 = .ok (.lload 5, 2) := by decide +kernel
theorem dL_tell_153 : decode cL_tell 153 = .ok (.ldc2_w 70, 3) := by decide +kernel
theorem dL_tell_156 : decode cL_tell 156 = .ok (.lrem, 1) := by decide +kernel
theorem dL_tell_157 : decode cL_tell 157 = .ok (.l2i, 1) := by decide +kernel
theorem dL_tell_158 : decode cL_tell 158 = .ok (.iastore, 1) := by decide +kernel
theorem dL_tell_159 : decode cL_tell 159 = .ok (.iinc 4 1, 3) := by decide +kernel
theorem dL_tell_162 : decode cL_tell 162 = .ok (.goto (-73), 3) := by decide +kernel
theorem dL_tell_165 : decode cL_tell 165 = .ok (.iinc 3 1, 3) := by decide +kernel
theorem dL_tell_168 : decode cL_tell 168 = .ok (.goto (-89), 3) := by decide +kernel
theorem dL_tell_171 : decode cL_tell 171 = .ok (.aload_n 2, 1) := by decide +kernel
theorem dL_tell_172 : decode cL_tell 172 = .ok (.bipush 50, 2) := by decide +kernel
theorem dL_tell_174 : decode cL_tell 174 = .ok (.aload_n 0, 1) := by decide +kernel
theorem dL_tell_175 : decode cL_tell 175 = .ok (.invokevirtual 72, 3) := by decide +kernel
theorem dL_tell_178 : decode cL_tell 178 = .ok (.iastore, 1) := by decide +kernel
theorem dL_tell_179 : decode cL_tell 179 = .ok (.aload_n 2, 1) := by decide +kernel
theorem dL_tell_180 : decode cL_tell 180 = .ok (.bipush 51, 2) := by decide +kernel
theorem dL_tell_182 : decode cL_tell 182 = .ok (.aload_n 0, 1) := by decide +kernel
theorem dL_tell_183 : decode cL_tell 183 = .ok (.invokevirtual 76, 3) := by decide +kernel
theorem dL_tell_186 : decode cL_tell 186 = .ok (.iastore, 1) := by decide +kernel
theorem dL_tell_187 : decode cL_tell 187 = .ok (.aload_n 2, 1) := by decide +kernel
theorem dL_tell_188 : decode cL_tell 188 = .ok (.bipush 52, 2) := by decide +kernel
theorem dL_tell_190 : decode cL_tell 190 = .ok (.aload_n 0, 1) := by decide +kernel
theorem dL_tell_191 : decode cL_tell 191 = .ok (.invokevirtual 79, 3) := by decide +kernel
theorem dL_tell_194 : decode cL_tell 194 = .ok (.iastore, 1) := by decide +kernel
theorem dL_tell_195 : decode cL_tell 195 = .ok (.aload_n 2, 1) := by decide +kernel
theorem dL_tell_196 : decode cL_tell 196 = .ok (.areturn, 1) := by decide +kernel
theorem dL_same_0 : decode cL_same 0 = .ok (.iconst 0, 1) := by decide +kernel
theorem dL_same_1 : decode cL_same 1 = .ok (.istore_n 2, 1) := by decide +kernel
theorem dL_same_2 : decode cL_same 2 = .ok (.iload_n 2, 1) := by decide +kernel
theorem dL_same_3 : decode cL_same 3 = .ok (.bipush 60, 2) := by decide +kernel
theorem dL_same_5 : decode cL_same 5 = .ok (.if_icmp .ge 20, 3) := by decide +kernel
theorem dL_same_8 : decode cL_same 8 = .ok (.aload_n 0, 1) := by decide +kernel
theorem dL_same_9 : decode cL_same 9 = .ok (.iload_n 2, 1) := by decide +kernel
theorem dL_same_10 : decode cL_same 10 = .ok (.iaload, 1) := by decide +kernel
theorem dL_same_11 : decode cL_same 11 = .ok (.aload_n 1, 1) := by decide +kernel
theorem dL_same_12 : decode cL_same 12 = .ok (.iload_n 2, 1) := by decide +kernel
theorem dL_same_13 : decode cL_same 13 = .ok (.iaload, 1) := by decide +kernel
theorem dL_same_14 : decode cL_same 14 = .ok (.if_icmp .eq 5, 3) := by decide +kernel
theorem dL_same_17 : decode cL_same 17 = .ok (.iconst 0, 1) := by decide +kernel
theorem dL_same_18 : decode cL_same 18 = .ok (.ireturn, 1) := by decide +kernel
theorem dL_same_19 : decode cL_same 19 = .ok (.iinc 2 1, 3) := by decide +kernel
theorem dL_same_22 : decode cL_same 22 = .ok (.goto (-20), 3) := by decide +kernel
theorem dL_same_25 : decode cL_same 25 = .ok (.iconst 1, 1) := by decide +kernel
theorem dL_same_26 : decode cL_same 26 = .ok (.ireturn, 1) := by decide +kernel
theorem dL_asks_0 : decode cL_asks 0 = .ok (.iload_n 2, 1) := by decide +kernel
theorem dL_asks_1 : decode cL_asks 1 = .ok (.aload_n 1, 1) := by decide +kernel
theorem dL_asks_2 : decode cL_asks 2 = .ok (.iconst 0, 1) := by decide +kernel
theorem dL_asks_3 : decode cL_asks 3 = .ok (.iaload, 1) := by decide +kernel
theorem dL_asks_4 : decode cL_asks 4 = .ok (.invokestatic 59, 3) := by decide +kernel
theorem dL_asks_7 : decode cL_asks 7 = .ok (.istore_n 3, 1) := by decide +kernel
theorem dL_asks_8 : decode cL_asks 8 = .ok (.iload_n 2, 1) := by decide +kernel
theorem dL_asks_9 : decode cL_asks 9 = .ok (.iconst 3, 1) := by decide +kernel
theorem dL_asks_10 : decode cL_asks 10 = .ok (.ishr, 1) := by decide +kernel
theorem dL_asks_11 : decode cL_asks 11 = .ok (.aload_n 1, 1) := by decide +kernel
theorem dL_asks_12 : decode cL_asks 12 = .ok (.iconst 1, 1) := by decide +kernel
theorem dL_asks_13 : decode cL_asks 13 = .ok (.iaload, 1) := by decide +kernel
theorem dL_asks_14 : decode cL_asks 14 = .ok (.invokestatic 59, 3) := by decide +kernel
theorem dL_asks_17 : decode cL_asks 17 = .ok (.istore 4, 2) := by decide +kernel
theorem dL_asks_19 : decode cL_asks 19 = .ok (.iload_n 2, 1) := by decide +kernel
theorem dL_asks_20 : decode cL_asks 20 = .ok (.iconst 5, 1) := by decide +kernel
theorem dL_asks_21 : decode cL_asks 21 = .ok (.ishr, 1) := by decide +kernel
theorem dL_asks_22 : decode cL_asks 22 = .ok (.aload_n 1, 1) := by decide +kernel
theorem dL_asks_23 : decode cL_asks 23 = .ok (.iconst 2, 1) := by decide +kernel
theorem dL_asks_24 : decode cL_asks 24 = .ok (.iaload, 1) := by decide +kernel
theorem dL_asks_25 : decode cL_asks 25 = .ok (.invokestatic 59, 3) := by decide +kernel
theorem dL_asks_28 : decode cL_asks 28 = .ok (.istore 5, 2) := by decide +kernel
theorem dL_asks_30 : decode cL_asks 30 = .ok (.iload_n 2, 1) := by decide +kernel
theorem dL_asks_31 : decode cL_asks 31 = .ok (.bipush 7, 2) := by decide +kernel
theorem dL_asks_33 : decode cL_asks 33 = .ok (.ishr, 1) := by decide +kernel
theorem dL_asks_34 : decode cL_asks 34 = .ok (.aload_n 1, 1) := by decide +kernel
theorem dL_asks_35 : decode cL_asks 35 = .ok (.iconst 3, 1) := by decide +kernel
theorem dL_asks_36 : decode cL_asks 36 = .ok (.iaload, 1) := by decide +kernel
theorem dL_asks_37 : decode cL_asks 37 = .ok (.invokestatic 59, 3) := by decide +kernel
theorem dL_asks_40 : decode cL_asks 40 = .ok (.istore 6, 2) := by decide +kernel
theorem dL_asks_42 : decode cL_asks 42 = .ok (.aload_n 0, 1) := by decide +kernel
theorem dL_asks_43 : decode cL_asks 43 = .ok (.iload_n 3, 1) := by decide +kernel
theorem dL_asks_44 : decode cL_asks 44 = .ok (.iload 4, 2) := by decide +kernel
theorem dL_asks_46 : decode cL_asks 46 = .ok (.iload 5, 2) := by decide +kernel
theorem dL_asks_48 : decode cL_asks 48 = .ok (.iload 6, 2) := by decide +kernel
theorem dL_asks_50 : decode cL_asks 50 = .ok (.invokevirtual 82, 3) := by decide +kernel
theorem dL_asks_53 : decode cL_asks 53 = .ok (.lstore 7, 2) := by decide +kernel
theorem dL_asks_55 : decode cL_asks 55 = .ok (.aload_n 0, 1) := by decide +kernel
theorem dL_asks_56 : decode cL_asks 56 = .ok (.iconst 0, 1) := by decide +kernel
theorem dL_asks_57 : decode cL_asks 57 = .ok (.iload_n 3, 1) := by decide +kernel
theorem dL_asks_58 : decode cL_asks 58 = .ok (.iconst 4, 1) := by decide +kernel
theorem dL_asks_59 : decode cL_asks 59 = .ok (.invokevirtual 56, 3) := by decide +kernel
theorem dL_asks_62 : decode cL_asks 62 = .ok (.iconst 1, 1) := by decide +kernel
theorem dL_asks_63 : decode cL_asks 63 = .ok (.if_icmp .ne 31, 3) := by decide +kernel
theorem dL_asks_66 : decode cL_asks 66 = .ok (.aload_n 0, 1) := by decide +kernel
theorem dL_asks_67 : decode cL_asks 67 = .ok (.iconst 1, 1) := by decide +kernel
theorem dL_asks_68 : decode cL_asks 68 = .ok (.iload 4, 2) := by decide +kernel
theorem dL_asks_70 : decode cL_asks 70 = .ok (.iconst 4, 1) := by decide +kernel
theorem dL_asks_71 : decode cL_asks 71 = .ok (.invokevirtual 56, 3) := by decide +kernel
theorem dL_asks_74 : decode cL_asks 74 = .ok (.iconst 1, 1) := by decide +kernel
theorem dL_asks_75 : decode cL_asks 75 = .ok (.if_icmp .ne 19, 3) := by decide +kernel
theorem dL_asks_78 : decode cL_asks 78 = .ok (.aload_n 0, 1) := by decide +kernel
theorem dL_asks_79 : decode cL_asks 79 = .ok (.iconst 2, 1) := by decide +kernel
theorem dL_asks_80 : decode cL_asks 80 = .ok (.iload 5, 2) := by decide +kernel
theorem dL_asks_82 : decode cL_asks 82 = .ok (.iconst 4, 1) := by decide +kernel
theorem dL_asks_83 : decode cL_asks 83 = .ok (.invokevirtual 56, 3) := by decide +kernel
theorem dL_asks_86 : decode cL_asks 86 = .ok (.iconst 1, 1) := by decide +kernel
theorem dL_asks_87 : decode cL_asks 87 = .ok (.if_icmp .ne 7, 3) := by decide +kernel
theorem dL_asks_90 : decode cL_asks 90 = .ok (.iconst 1, 1) := by decide +kernel
theorem dL_asks_91 : decode cL_asks 91 = .ok (.goto 4, 3) := by decide +kernel
theorem dL_asks_94 : decode cL_asks 94 = .ok (.iconst 0, 1) := by decide +kernel
theorem dL_asks_95 : decode cL_asks 95 = .ok (.istore 9, 2) := by decide +kernel
theorem dL_asks_97 : decode cL_asks 97 = .ok (.aload_n 0, 1) := by decide +kernel
theorem dL_asks_98 : decode cL_asks 98 = .ok (.invokevirtual 79, 3) := by decide +kernel
theorem dL_asks_101 : decode cL_asks 101 = .ok (.istore 10, 2) := by decide +kernel
theorem dL_asks_103 : decode cL_asks 103 = .ok (.lload 7, 2) := by decide +kernel
theorem dL_asks_105 : decode cL_asks 105 = .ok (.aload_n 0, 1) := by decide +kernel
theorem dL_asks_106 : decode cL_asks 106 = .ok (.iload_n 3, 1) := by decide +kernel
theorem dL_asks_107 : decode cL_asks 107 = .ok (.iload 4, 2) := by decide +kernel
theorem dL_asks_109 : decode cL_asks 109 = .ok (.iload 5, 2) := by decide +kernel
theorem dL_asks_111 : decode cL_asks 111 = .ok (.iload 6, 2) := by decide +kernel
theorem dL_asks_113 : decode cL_asks 113 = .ok (.invokevirtual 64, 3) := by decide +kernel
theorem dL_asks_116 : decode cL_asks 116 = .ok (.lcmp, 1) := by decide +kernel
theorem dL_asks_117 : decode cL_asks 117 = .ok (.ifCond .ne 71, 3) := by decide +kernel
theorem dL_asks_120 : decode cL_asks 120 = .ok (.iload 9, 2) := by decide +kernel
theorem dL_asks_122 : decode cL_asks 122 = .ok (.ifCond .ne 12, 3) := by decide +kernel
theorem dL_asks_125 : decode cL_asks 125 = .ok (.lload 7, 2) := by decide +kernel
theorem dL_asks_127 : decode cL_asks 127 = .ok (.ldc2_w 68, 3) := by decide +kernel
theorem dL_asks_130 : decode cL_asks 130 = .ok (.lcmp, 1) := by decide +kernel
theorem dL_asks_131 : decode cL_asks 131 = .ok (.ifCond .ne 57, 3) := by decide +kernel
theorem dL_asks_134 : decode cL_asks 134 = .ok (.aload_n 0, 1) := by decide +kernel
theorem dL_asks_135 : decode cL_asks 135 = .ok (.iload_n 3, 1) := by decide +kernel
theorem dL_asks_136 : decode cL_asks 136 = .ok (.iload 4, 2) := by decide +kernel
theorem dL_asks_138 : decode cL_asks 138 = .ok (.iload 5, 2) := by decide +kernel
theorem dL_asks_140 : decode cL_asks 140 = .ok (.iload 6, 2) := by decide +kernel
theorem dL_asks_142 : decode cL_asks 142 = .ok (.invokevirtual 82, 3) := by decide +kernel
theorem dL_asks_145 : decode cL_asks 145 = .ok (.lload 7, 2) := by decide +kernel
theorem dL_asks_147 : decode cL_asks 147 = .ok (.lcmp, 1) := by decide +kernel
theorem dL_asks_148 : decode cL_asks 148 = .ok (.ifCond .ne 40, 3) := by decide +kernel
theorem dL_asks_151 : decode cL_asks 151 = .ok (.aload_n 0, 1) := by decide +kernel
theorem dL_asks_152 : decode cL_asks 152 = .ok (.invokevirtual 79, 3) := by decide +kernel
theorem dL_asks_155 : decode cL_asks 155 = .ok (.iload 10, 2) := by decide +kernel
theorem dL_asks_157 : decode cL_asks 157 = .ok (.iload 9, 2) := by decide +kernel
theorem dL_asks_159 : decode cL_asks 159 = .ok (.ifCond .eq 7, 3) := by decide +kernel
theorem dL_asks_162 : decode cL_asks 162 = .ok (.iconst 1, 1) := by decide +kernel
theorem dL_asks_163 : decode cL_asks 163 = .ok (.goto 4, 3) := by decide +kernel
theorem dL_asks_166 : decode cL_asks 166 = .ok (.iconst 0, 1) := by decide +kernel
theorem dL_asks_167 : decode cL_asks 167 = .ok (.iadd, 1) := by decide +kernel
theorem dL_asks_168 : decode cL_asks 168 = .ok (.if_icmp .ne 20, 3) := by decide +kernel
theorem dL_asks_171 : decode cL_asks 171 = .ok (.aload_n 0, 1) := by decide +kernel
theorem dL_asks_172 : decode cL_asks 172 = .ok (.invokevirtual 76, 3) := by decide +kernel
theorem dL_asks_175 : decode cL_asks 175 = .ok (.bipush 20, 2) := by decide +kernel
theorem dL_asks_177 : decode cL_asks 177 = .ok (.if_icmp .gt 11, 3) := by decide +kernel
theorem dL_asks_180 : decode cL_asks 180 = .ok (.iload 10, 2) := by decide +kernel
theorem dL_asks_182 : decode cL_asks 182 = .ok (.aload_n 1, 1) := by decide +kernel
theorem dL_asks_183 : decode cL_asks 183 = .ok (.iconst 4, 1) := by decide +kernel
theorem dL_asks_184 : decode cL_asks 184 = .ok (.iaload, 1) := by decide +kernel
theorem dL_asks_185 : decode cL_asks 185 = .ok (.if_icmp .ge 5, 3) := by decide +kernel
theorem dL_asks_188 : decode cL_asks 188 = .ok (.iconst 0, 1) := by decide +kernel
theorem dL_asks_189 : decode cL_asks 189 = .ok (.ireturn, 1) := by decide +kernel
theorem dL_asks_190 : decode cL_asks 190 = .ok (.aload_n 1, 1) := by decide +kernel
theorem dL_asks_191 : decode cL_asks 191 = .ok (.iconst 4, 1) := by decide +kernel
theorem dL_asks_192 : decode cL_asks 192 = .ok (.aload_n 0, 1) := by decide +kernel
theorem dL_asks_193 : decode cL_asks 193 = .ok (.invokevirtual 79, 3) := by decide +kernel
theorem dL_asks_196 : decode cL_asks 196 = .ok (.iastore, 1) := by decide +kernel
theorem dL_asks_197 : decode cL_asks 197 = .ok (.iload_n 2, 1) := by decide +kernel
theorem dL_asks_198 : decode cL_asks 198 = .ok (.iconst 4, 1) := by decide +kernel
theorem dL_asks_199 : decode cL_asks 199 = .ok (.ishr, 1) := by decide +kernel
theorem dL_asks_200 : decode cL_asks 200 = .ok (.iconst 3, 1) := by decide +kernel
theorem dL_asks_201 : decode cL_asks 201 = .ok (.invokestatic 59, 3) := by decide +kernel
theorem dL_asks_204 : decode cL_asks 204 = .ok (.istore 11, 2) := by decide +kernel
theorem dL_asks_206 : decode cL_asks 206 = .ok (.iload 11, 2) := by decide +kernel
theorem dL_asks_208 : decode cL_asks 208 = .ok (.iconst 1, 1) := by decide +kernel
theorem dL_asks_209 : decode cL_asks 209 = .ok (.iadd, 1) := by decide +kernel
theorem dL_asks_210 : decode cL_asks 210 = .ok (.iconst 3, 1) := by decide +kernel
theorem dL_asks_211 : decode cL_asks 211 = .ok (.irem, 1) := by decide +kernel
theorem dL_asks_212 : decode cL_asks 212 = .ok (.istore 12, 2) := by decide +kernel
theorem dL_asks_214 : decode cL_asks 214 = .ok (.aload_n 0, 1) := by decide +kernel
theorem dL_asks_215 : decode cL_asks 215 = .ok (.iconst 0, 1) := by decide +kernel
theorem dL_asks_216 : decode cL_asks 216 = .ok (.iload_n 3, 1) := by decide +kernel
theorem dL_asks_217 : decode cL_asks 217 = .ok (.invokevirtual 85, 3) := by decide +kernel
theorem dL_asks_220 : decode cL_asks 220 = .ok (.pop, 1) := by decide +kernel
theorem dL_asks_221 : decode cL_asks 221 = .ok (.aload_n 0, 1) := by decide +kernel
theorem dL_asks_222 : decode cL_asks 222 = .ok (.iconst 1, 1) := by decide +kernel
theorem dL_asks_223 : decode cL_asks 223 = .ok (.iload 4, 2) := by decide +kernel
theorem dL_asks_225 : decode cL_asks 225 = .ok (.invokevirtual 85, 3) := by decide +kernel
theorem dL_asks_228 : decode cL_asks 228 = .ok (.pop, 1) := by decide +kernel
theorem dL_asks_229 : decode cL_asks 229 = .ok (.aload_n 0, 1) := by decide +kernel
theorem dL_asks_230 : decode cL_asks 230 = .ok (.iconst 2, 1) := by decide +kernel
theorem dL_asks_231 : decode cL_asks 231 = .ok (.iload 5, 2) := by decide +kernel
theorem dL_asks_233 : decode cL_asks 233 = .ok (.invokevirtual 85, 3) := by decide +kernel
theorem dL_asks_236 : decode cL_asks 236 = .ok (.pop, 1) := by decide +kernel
theorem dL_asks_237 : decode cL_asks 237 = .ok (.aload_n 0, 1) := by decide +kernel
theorem dL_asks_238 : decode cL_asks 238 = .ok (.iload 11, 2) := by decide +kernel
theorem dL_asks_240 : decode cL_asks 240 = .ok (.iconst 2, 1) := by decide +kernel
theorem dL_asks_241 : decode cL_asks 241 = .ok (.iload_n 2, 1) := by decide +kernel
theorem dL_asks_242 : decode cL_asks 242 = .ok (.bipush 6, 2) := by decide +kernel
theorem dL_asks_244 : decode cL_asks 244 = .ok (.ishr, 1) := by decide +kernel
theorem dL_asks_245 : decode cL_asks 245 = .ok (.iconst 4, 1) := by decide +kernel
theorem dL_asks_246 : decode cL_asks 246 = .ok (.invokestatic 59, 3) := by decide +kernel
theorem dL_asks_249 : decode cL_asks 249 = .ok (.iload 6, 2) := by decide +kernel
theorem dL_asks_251 : decode cL_asks 251 = .ok (.iconst 0, 1) := by decide +kernel
theorem dL_asks_252 : decode cL_asks 252 = .ok (.invokestatic 88, 3) := by decide +kernel
theorem dL_asks_255 : decode cL_asks 255 = .ok (.istore 13, 2) := by decide +kernel
theorem dL_asks_257 : decode cL_asks 257 = .ok (.iconst (-1), 1) := by decide +kernel
theorem dL_asks_258 : decode cL_asks 258 = .ok (.istore 14, 2) := by decide +kernel
theorem dL_asks_260 : decode cL_asks 260 = .ok (.iconst 0, 1) := by decide +kernel
theorem dL_asks_261 : decode cL_asks 261 = .ok (.istore 15, 2) := by decide +kernel
theorem dL_asks_263 : decode cL_asks 263 = .ok (.iload 15, 2) := by decide +kernel
theorem dL_asks_265 : decode cL_asks 265 = .ok (.iload 13, 2) := by decide +kernel
theorem dL_asks_267 : decode cL_asks 267 = .ok (.if_icmp .ge 65, 3) := by decide +kernel
theorem dL_asks_270 : decode cL_asks 270 = .ok (.aload_n 0, 1) := by decide +kernel
theorem dL_asks_271 : decode cL_asks 271 = .ok (.iload 11, 2) := by decide +kernel
theorem dL_asks_273 : decode cL_asks 273 = .ok (.iload 15, 2) := by decide +kernel
theorem dL_asks_275 : decode cL_asks 275 = .ok (.invokevirtual 92, 3) := by decide +kernel
theorem dL_asks_278 : decode cL_asks 278 = .ok (.istore 16, 2) := by decide +kernel
theorem dL_asks_280 : decode cL_asks 280 = .ok (.iload 16, 2) := by decide +kernel
theorem dL_asks_282 : decode cL_asks 282 = .ok (.iload 14, 2) := by decide +kernel
theorem dL_asks_284 : decode cL_asks 284 = .ok (.if_icmp .le 36, 3) := by decide +kernel
theorem dL_asks_287 : decode cL_asks 287 = .ok (.aload_n 0, 1) := by decide +kernel
theorem dL_asks_288 : decode cL_asks 288 = .ok (.iload 11, 2) := by decide +kernel
theorem dL_asks_290 : decode cL_asks 290 = .ok (.iload 16, 2) := by decide +kernel
theorem dL_asks_292 : decode cL_asks 292 = .ok (.iconst 2, 1) := by decide +kernel
theorem dL_asks_293 : decode cL_asks 293 = .ok (.invokevirtual 56, 3) := by decide +kernel
theorem dL_asks_296 : decode cL_asks 296 = .ok (.iload_n 2, 1) := by decide +kernel
theorem dL_asks_297 : decode cL_asks 297 = .ok (.bipush 6, 2) := by decide +kernel
theorem dL_asks_299 : decode cL_asks 299 = .ok (.ishr, 1) := by decide +kernel
theorem dL_asks_300 : decode cL_asks 300 = .ok (.iconst 4, 1) := by decide +kernel
theorem dL_asks_301 : decode cL_asks 301 = .ok (.invokestatic 59, 3) := by decide +kernel
theorem dL_asks_304 : decode cL_asks 304 = .ok (.if_icmp .ne 16, 3) := by decide +kernel
theorem dL_asks_307 : decode cL_asks 307 = .ok (.aload_n 0, 1) := by decide +kernel
theorem dL_asks_308 : decode cL_asks 308 = .ok (.iload 11, 2) := by decide +kernel
theorem dL_asks_310 : decode cL_asks 310 = .ok (.iload 16, 2) := by decide +kernel
theorem dL_asks_312 : decode cL_asks 312 = .ok (.iconst 4, 1) := by decide +kernel
theorem dL_asks_313 : decode cL_asks 313 = .ok (.invokevirtual 56, 3) := by decide +kernel
theorem dL_asks_316 : decode cL_asks 316 = .ok (.iconst 1, 1) := by decide +kernel
theorem dL_asks_317 : decode cL_asks 317 = .ok (.if_icmp .eq 5, 3) := by decide +kernel
theorem dL_asks_320 : decode cL_asks 320 = .ok (.iconst 0, 1) := by decide +kernel
theorem dL_asks_321 : decode cL_asks 321 = .ok (.ireturn, 1) := by decide +kernel
theorem dL_asks_322 : decode cL_asks 322 = .ok (.iload 16, 2) := by decide +kernel
theorem dL_asks_324 : decode cL_asks 324 = .ok (.istore 14, 2) := by decide +kernel
theorem dL_asks_326 : decode cL_asks 326 = .ok (.iinc 15 1, 3) := by decide +kernel
theorem dL_asks_329 : decode cL_asks 329 = .ok (.goto (-66), 3) := by decide +kernel
theorem dL_asks_332 : decode cL_asks 332 = .ok (.aload_n 0, 1) := by decide +kernel
theorem dL_asks_333 : decode cL_asks 333 = .ok (.iload 11, 2) := by decide +kernel
theorem dL_asks_335 : decode cL_asks 335 = .ok (.iconst 2, 1) := by decide +kernel
theorem dL_asks_336 : decode cL_asks 336 = .ok (.iload_n 2, 1) := by decide +kernel
theorem dL_asks_337 : decode cL_asks 337 = .ok (.bipush 6, 2) := by decide +kernel
theorem dL_asks_339 : decode cL_asks 339 = .ok (.ishr, 1) := by decide +kernel
theorem dL_asks_340 : decode cL_asks 340 = .ok (.iconst 4, 1) := by decide +kernel
theorem dL_asks_341 : decode cL_asks 341 = .ok (.invokestatic 59, 3) := by decide +kernel
theorem dL_asks_344 : decode cL_asks 344 = .ok (.iload 6, 2) := by decide +kernel
theorem dL_asks_346 : decode cL_asks 346 = .ok (.iconst 3, 1) := by decide +kernel
theorem dL_asks_347 : decode cL_asks 347 = .ok (.invokestatic 88, 3) := by decide +kernel
theorem dL_asks_350 : decode cL_asks 350 = .ok (.istore 15, 2) := by decide +kernel
theorem dL_asks_352 : decode cL_asks 352 = .ok (.ldc2_w 95, 3) := by decide +kernel
theorem dL_asks_355 : decode cL_asks 355 = .ok (.lstore 16, 2) := by decide +kernel
theorem dL_asks_357 : decode cL_asks 357 = .ok (.iconst 0, 1) := by decide +kernel
theorem dL_asks_358 : decode cL_asks 358 = .ok (.istore 18, 2) := by decide +kernel
theorem dL_asks_360 : decode cL_asks 360 = .ok (.iload 18, 2) := by decide +kernel
theorem dL_asks_362 : decode cL_asks 362 = .ok (.iload 15, 2) := by decide +kernel
theorem dL_asks_364 : decode cL_asks 364 = .ok (.if_icmp .ge 87, 3) := by decide +kernel
theorem dL_asks_367 : decode cL_asks 367 = .ok (.aload_n 0, 1) := by decide +kernel
theorem dL_asks_368 : decode cL_asks 368 = .ok (.iload 11, 2) := by decide +kernel
theorem dL_asks_370 : decode cL_asks 370 = .ok (.iload 18, 2) := by decide +kernel
theorem dL_asks_372 : decode cL_asks 372 = .ok (.invokevirtual 92, 3) := by decide +kernel
theorem dL_asks_375 : decode cL_asks 375 = .ok (.istore 19, 2) := by decide +kernel
theorem dL_asks_377 : decode cL_asks 377 = .ok (.aload_n 0, 1) := by decide +kernel
theorem dL_asks_378 : decode cL_asks 378 = .ok (.iload 11, 2) := by decide +kernel
theorem dL_asks_380 : decode cL_asks 380 = .ok (.ifCond .ne 8, 3) := by decide +kernel
theorem dL_asks_383 : decode cL_asks 383 = .ok (.iload 19, 2) := by decide +kernel
theorem dL_asks_385 : decode cL_asks 385 = .ok (.goto 4, 3) := by decide +kernel
theorem dL_asks_388 : decode cL_asks 388 = .ok (.iload_n 3, 1) := by decide +kernel
theorem dL_asks_389 : decode cL_asks 389 = .ok (.iload 11, 2) := by decide +kernel
theorem dL_asks_391 : decode cL_asks 391 = .ok (.iconst 1, 1) := by decide +kernel
theorem dL_asks_392 : decode cL_asks 392 = .ok (.if_icmp .ne 8, 3) := by decide +kernel
theorem dL_asks_395 : decode cL_asks 395 = .ok (.iload 19, 2) := by decide +kernel
theorem dL_asks_397 : decode cL_asks 397 = .ok (.goto 5, 3) := by decide +kernel
theorem dL_asks_400 : decode cL_asks 400 = .ok (.iload 4, 2) := by decide +kernel
theorem dL_asks_402 : decode cL_asks 402 = .ok (.iload 11, 2) := by decide +kernel
theorem dL_asks_404 : decode cL_asks 404 = .ok (.iconst 2, 1) := by decide +kernel
theorem dL_asks_405 : decode cL_asks 405 = .ok (.if_icmp .ne 8, 3) := by decide +kernel
theorem dL_asks_408 : decode cL_asks 408 = .ok (.iload 19, 2) := by decide +kernel
theorem dL_asks_410 : decode cL_asks 410 = .ok (.goto 5, 3) := by decide +kernel
theorem dL_asks_413 : decode cL_asks 413 = .ok (.iload 5, 2) := by decide +kernel
theorem dL_asks_415 : decode cL_asks 415 = .ok (.iload 6, 2) := by decide +kernel
theorem dL_asks_417 : decode cL_asks 417 = .ok (.invokevirtual 64, 3) := by decide +kernel
theorem dL_asks_420 : decode cL_asks 420 = .ok (.lstore 20, 2) := by decide +kernel
theorem dL_asks_422 : decode cL_asks 422 = .ok (.lload 20, 2) := by decide +kernel
theorem dL_asks_424 : decode cL_asks 424 = .ok (.ldc2_w 68, 3) := by decide +kernel
theorem dL_asks_427 : decode cL_asks 427 = .ok (.lcmp, 1) := by decide +kernel
theorem dL_asks_428 : decode cL_asks 428 = .ok (.ifCond .eq 11, 3) := by decide +kernel
theorem dL_asks_431 : decode cL_asks 431 = .ok (.lload 20, 2) := by decide +kernel
theorem dL_asks_433 : decode cL_asks 433 = .ok (.lload 16, 2) := by decide +kernel
theorem dL_asks_435 : decode cL_asks 435 = .ok (.lcmp, 1) := by decide +kernel
theorem dL_asks_436 : decode cL_asks 436 = .ok (.ifCond .le 5, 3) := by decide +kernel
theorem dL_asks_439 : decode cL_asks 439 = .ok (.iconst 0, 1) := by decide +kernel
theorem dL_asks_440 : decode cL_asks 440 = .ok (.ireturn, 1) := by decide +kernel
theorem dL_asks_441 : decode cL_asks 441 = .ok (.lload 20, 2) := by decide +kernel
theorem dL_asks_443 : decode cL_asks 443 = .ok (.lstore 16, 2) := by decide +kernel
theorem dL_asks_445 : decode cL_asks 445 = .ok (.iinc 18 1, 3) := by decide +kernel
theorem dL_asks_448 : decode cL_asks 448 = .ok (.goto (-88), 3) := by decide +kernel
theorem dL_asks_451 : decode cL_asks 451 = .ok (.aload_n 0, 1) := by decide +kernel
theorem dL_asks_452 : decode cL_asks 452 = .ok (.iload 12, 2) := by decide +kernel
theorem dL_asks_454 : decode cL_asks 454 = .ok (.iconst 0, 1) := by decide +kernel
theorem dL_asks_455 : decode cL_asks 455 = .ok (.iconst 0, 1) := by decide +kernel
theorem dL_asks_456 : decode cL_asks 456 = .ok (.iload 6, 2) := by decide +kernel
theorem dL_asks_458 : decode cL_asks 458 = .ok (.iconst 0, 1) := by decide +kernel
theorem dL_asks_459 : decode cL_asks 459 = .ok (.invokestatic 88, 3) := by decide +kernel
theorem dL_asks_462 : decode cL_asks 462 = .ok (.istore 18, 2) := by decide +kernel
theorem dL_asks_464 : decode cL_asks 464 = .ok (.aload_n 0, 1) := by decide +kernel
theorem dL_asks_465 : decode cL_asks 465 = .ok (.iload 11, 2) := by decide +kernel
theorem dL_asks_467 : decode cL_asks 467 = .ok (.iload 12, 2) := by decide +kernel
theorem dL_asks_469 : decode cL_asks 469 = .ok (.iload 6, 2) := by decide +kernel
theorem dL_asks_471 : decode cL_asks 471 = .ok (.invokevirtual 97, 3) := by decide +kernel
theorem dL_asks_474 : decode cL_asks 474 = .ok (.istore 19, 2) := by decide +kernel
theorem dL_asks_476 : decode cL_asks 476 = .ok (.aload_n 0, 1) := by decide +kernel
theorem dL_asks_477 : decode cL_asks 477 = .ok (.iload 11, 2) := by decide +kernel
theorem dL_asks_479 : decode cL_asks 479 = .ok (.iload 15, 2) := by decide +kernel
theorem dL_asks_481 : decode cL_asks 481 = .ok (.invokevirtual 92, 3) := by decide +kernel
theorem dL_asks_484 : decode cL_asks 484 = .ok (.iconst (-1), 1) := by decide +kernel
theorem dL_asks_485 : decode cL_asks 485 = .ok (.if_icmp .ne 59, 3) := by decide +kernel
theorem dL_asks_488 : decode cL_asks 488 = .ok (.iload 15, 2) := by decide +kernel
theorem dL_asks_490 : decode cL_asks 490 = .ok (.iconst 3, 1) := by decide +kernel
theorem dL_asks_491 : decode cL_asks 491 = .ok (.if_icmp .gt 53, 3) := by decide +kernel
theorem dL_asks_494 : decode cL_asks 494 = .ok (.iload 15, 2) := by decide +kernel
theorem dL_asks_496 : decode cL_asks 496 = .ok (.iload 13, 2) := by decide +kernel
theorem dL_asks_498 : decode cL_asks 498 = .ok (.if_icmp .gt 46, 3) := by decide +kernel
theorem dL_asks_501 : decode cL_asks 501 = .ok (.iload 19, 2) := by decide +kernel
theorem dL_asks_503 : decode cL_asks 503 = .ok (.ifCond .lt 41, 3) := by decide +kernel
theorem dL_asks_506 : decode cL_asks 506 = .ok (.iload 19, 2) := by decide +kernel
theorem dL_asks_508 : decode cL_asks 508 = .ok (.iload 15, 2) := by decide +kernel
theorem dL_asks_510 : decode cL_asks 510 = .ok (.iload 18, 2) := by decide +kernel
theorem dL_asks_512 : decode cL_asks 512 = .ok (.imul, 1) := by decide +kernel
theorem dL_asks_513 : decode cL_asks 513 = .ok (.if_icmp .gt 31, 3) := by decide +kernel
theorem dL_asks_516 : decode cL_asks 516 = .ok (.aload_n 0, 1) := by decide +kernel
theorem dL_asks_517 : decode cL_asks 517 = .ok (.iload 12, 2) := by decide +kernel
theorem dL_asks_519 : decode cL_asks 519 = .ok (.iload 11, 2) := by decide +kernel
theorem dL_asks_521 : decode cL_asks 521 = .ok (.iload 6, 2) := by decide +kernel
theorem dL_asks_523 : decode cL_asks 523 = .ok (.invokevirtual 97, 3) := by decide +kernel
theorem dL_asks_526 : decode cL_asks 526 = .ok (.iload 19, 2) := by decide +kernel
theorem dL_asks_528 : decode cL_asks 528 = .ok (.if_icmp .ne 16, 3) := by decide +kernel
theorem dL_asks_531 : decode cL_asks 531 = .ok (.aload_n 0, 1) := by decide +kernel
theorem dL_asks_532 : decode cL_asks 532 = .ok (.invokevirtual 72, 3) := by decide +kernel
theorem dL_asks_535 : decode cL_asks 535 = .ok (.bipush 50, 2) := by decide +kernel
theorem dL_asks_537 : decode cL_asks 537 = .ok (.if_icmp .gt 7, 3) := by decide +kernel
theorem dL_asks_540 : decode cL_asks 540 = .ok (.iconst 1, 1) := by decide +kernel
theorem dL_asks_541 : decode cL_asks 541 = .ok (.goto 4, 3) := by decide +kernel
theorem dL_asks_544 : decode cL_asks 544 = .ok (.iconst 0, 1) := by decide +kernel
theorem dL_asks_545 : decode cL_asks 545 = .ok (.ireturn, 1) := by decide +kernel
theorem dL_act_0 : decode cL_act 0 = .ok (.iload_n 2, 1) := by decide +kernel
theorem dL_act_1 : decode cL_act 1 = .ok (.iconst 3, 1) := by decide +kernel
theorem dL_act_2 : decode cL_act 2 = .ok (.invokestatic 59, 3) := by decide +kernel
theorem dL_act_5 : decode cL_act 5 = .ok (.istore 4, 2) := by decide +kernel
theorem dL_act_7 : decode cL_act 7 = .ok (.iload_n 2, 1) := by decide +kernel
theorem dL_act_8 : decode cL_act 8 = .ok (.iconst 2, 1) := by decide +kernel
theorem dL_act_9 : decode cL_act 9 = .ok (.ishr, 1) := by decide +kernel
theorem dL_act_10 : decode cL_act 10 = .ok (.aload_n 1, 1) := by decide +kernel
theorem dL_act_11 : decode cL_act 11 = .ok (.iload 4, 2) := by decide +kernel
theorem dL_act_13 : decode cL_act 13 = .ok (.iaload, 1) := by decide +kernel
theorem dL_act_14 : decode cL_act 14 = .ok (.iconst 1, 1) := by decide +kernel
theorem dL_act_15 : decode cL_act 15 = .ok (.iadd, 1) := by decide +kernel
theorem dL_act_16 : decode cL_act 16 = .ok (.invokestatic 59, 3) := by decide +kernel
theorem dL_act_19 : decode cL_act 19 = .ok (.istore 5, 2) := by decide +kernel
theorem dL_act_21 : decode cL_act 21 = .ok (.iload_n 3, 1) := by decide +kernel
theorem dL_act_22 : decode cL_act 22 = .ok (.tableswitch 650 0 11 #[62, 62, 112, 166, 195, 221, 322, 322, 462, 530, 553, 615], 62) := by decide +kernel
theorem dL_act_84 : decode cL_act 84 = .ok (.aload_n 0, 1) := by decide +kernel
theorem dL_act_85 : decode cL_act 85 = .ok (.iload 4, 2) := by decide +kernel
theorem dL_act_87 : decode cL_act 87 = .ok (.iload 5, 2) := by decide +kernel
theorem dL_act_89 : decode cL_act 89 = .ok (.iload_n 2, 1) := by decide +kernel
theorem dL_act_90 : decode cL_act 90 = .ok (.bipush 6, 2) := by decide +kernel
theorem dL_act_92 : decode cL_act 92 = .ok (.ishr, 1) := by decide +kernel
theorem dL_act_93 : decode cL_act 93 = .ok (.bipush 12, 2) := by decide +kernel
theorem dL_act_95 : decode cL_act 95 = .ok (.invokestatic 59, 3) := by decide +kernel
theorem dL_act_98 : decode cL_act 98 = .ok (.iconst 4, 1) := by decide +kernel
theorem dL_act_99 : decode cL_act 99 = .ok (.idiv, 1) := by decide +kernel
theorem dL_act_100 : decode cL_act 100 = .ok (.iload_n 2, 1) := by decide +kernel
theorem dL_act_101 : decode cL_act 101 = .ok (.bipush 9, 2) := by decide +kernel
theorem dL_act_103 : decode cL_act 103 = .ok (.ishr, 1) := by decide +kernel
theorem dL_act_104 : decode cL_act 104 = .ok (.iconst 2, 1) := by decide +kernel
theorem dL_act_105 : decode cL_act 105 = .ok (.invokestatic 59, 3) := by decide +kernel
theorem dL_act_108 : decode cL_act 108 = .ok (.isub, 1) := by decide +kernel
theorem dL_act_109 : decode cL_act 109 = .ok (.invokestatic 100, 3) := by decide +kernel
theorem dL_act_112 : decode cL_act 112 = .ok (.istore 6, 2) := by decide +kernel
theorem dL_act_114 : decode cL_act 114 = .ok (.aload_n 1, 1) := by decide +kernel
theorem dL_act_115 : decode cL_act 115 = .ok (.iload 4, 2) := by decide +kernel
theorem dL_act_117 : decode cL_act 117 = .ok (.dup2, 1) := by decide +kernel
theorem dL_act_118 : decode cL_act 118 = .ok (.iaload, 1) := by decide +kernel
theorem dL_act_119 : decode cL_act 119 = .ok (.iload 6, 2) := by decide +kernel
theorem dL_act_121 : decode cL_act 121 = .ok (.ifCond .ge 7, 3) := by decide +kernel
theorem dL_act_124 : decode cL_act 124 = .ok (.iconst 0, 1) := by decide +kernel
theorem dL_act_125 : decode cL_act 125 = .ok (.goto 4, 3) := by decide +kernel
theorem dL_act_128 : decode cL_act 128 = .ok (.iconst 1, 1) := by decide +kernel
theorem dL_act_129 : decode cL_act 129 = .ok (.iadd, 1) := by decide +kernel
theorem dL_act_130 : decode cL_act 130 = .ok (.iastore, 1) := by decide +kernel
theorem dL_act_131 : decode cL_act 131 = .ok (.iload 6, 2) := by decide +kernel
theorem dL_act_133 : decode cL_act 133 = .ok (.ireturn, 1) := by decide +kernel
theorem dL_act_134 : decode cL_act 134 = .ok (.aload_n 1, 1) := by decide +kernel
theorem dL_act_135 : decode cL_act 135 = .ok (.iload 4, 2) := by decide +kernel
theorem dL_act_137 : decode cL_act 137 = .ok (.iaload, 1) := by decide +kernel
theorem dL_act_138 : decode cL_act 138 = .ok (.bipush 9, 2) := by decide +kernel
theorem dL_act_140 : decode cL_act 140 = .ok (.if_icmp .le 8, 3) := by decide +kernel
theorem dL_act_143 : decode cL_act 143 = .ok (.bipush (-9), 2) := by decide +kernel
theorem dL_act_145 : decode cL_act 145 = .ok (.goto 21, 3) := by decide +kernel
theorem dL_act_148 : decode cL_act 148 = .ok (.aload_n 0, 1) := by decide +kernel
theorem dL_act_149 : decode cL_act 149 = .ok (.iload 4, 2) := by decide +kernel
theorem dL_act_151 : decode cL_act 151 = .ok (.iload_n 2, 1) := by decide +kernel
theorem dL_act_152 : decode cL_act 152 = .ok (.iconst 4, 1) := by decide +kernel
theorem dL_act_153 : decode cL_act 153 = .ok (.ishr, 1) := by decide +kernel
theorem dL_act_154 : decode cL_act 154 = .ok (.iconst 1, 1) := by decide +kernel
theorem dL_act_155 : decode cL_act 155 = .ok (.aload_n 1, 1) := by decide +kernel
theorem dL_act_156 : decode cL_act 156 = .ok (.iload 4, 2) := by decide +kernel
theorem dL_act_158 : decode cL_act 158 = .ok (.iaload, 1) := by decide +kernel
theorem dL_act_159 : decode cL_act 159 = .ok (.ishl, 1) := by decide +kernel
theorem dL_act_160 : decode cL_act 160 = .ok (.invokestatic 59, 3) := by decide +kernel
theorem dL_act_163 : decode cL_act 163 = .ok (.invokestatic 104, 3) := by decide +kernel
theorem dL_act_166 : decode cL_act 166 = .ok (.istore 6, 2) := by decide +kernel
theorem dL_act_168 : decode cL_act 168 = .ok (.aload_n 1, 1) := by decide +kernel
theorem dL_act_169 : decode cL_act 169 = .ok (.iload 4, 2) := by decide +kernel
theorem dL_act_171 : decode cL_act 171 = .ok (.dup2, 1) := by decide +kernel
theorem dL_act_172 : decode cL_act 172 = .ok (.iaload, 1) := by decide +kernel
theorem dL_act_173 : decode cL_act 173 = .ok (.iload 6, 2) := by decide +kernel
theorem dL_act_175 : decode cL_act 175 = .ok (.ifCond .ge 7, 3) := by decide +kernel
theorem dL_act_178 : decode cL_act 178 = .ok (.iconst 0, 1) := by decide +kernel
theorem dL_act_179 : decode cL_act 179 = .ok (.goto 4, 3) := by decide +kernel
theorem dL_act_182 : decode cL_act 182 = .ok (.iconst 1, 1) := by decide +kernel
theorem dL_act_183 : decode cL_act 183 = .ok (.iadd, 1) := by decide +kernel
theorem dL_act_184 : decode cL_act 184 = .ok (.iastore, 1) := by decide +kernel
theorem dL_act_185 : decode cL_act 185 = .ok (.iload 6, 2) := by decide +kernel
theorem dL_act_187 : decode cL_act 187 = .ok (.ireturn, 1) := by decide +kernel
theorem dL_act_188 : decode cL_act 188 = .ok (.aload_n 0, 1) := by decide +kernel
theorem dL_act_189 : decode cL_act 189 = .ok (.iload 4, 2) := by decide +kernel
theorem dL_act_191 : decode cL_act 191 = .ok (.iload 5, 2) := by decide +kernel
theorem dL_act_193 : decode cL_act 193 = .ok (.iload_n 2, 1) := by decide +kernel
theorem dL_act_194 : decode cL_act 194 = .ok (.iconst 5, 1) := by decide +kernel
theorem dL_act_195 : decode cL_act 195 = .ok (.ishr, 1) := by decide +kernel
theorem dL_act_196 : decode cL_act 196 = .ok (.aload_n 1, 1) := by decide +kernel
theorem dL_act_197 : decode cL_act 197 = .ok (.iload 4, 2) := by decide +kernel
theorem dL_act_199 : decode cL_act 199 = .ok (.iaload, 1) := by decide +kernel
theorem dL_act_200 : decode cL_act 200 = .ok (.invokestatic 59, 3) := by decide +kernel
theorem dL_act_203 : decode cL_act 203 = .ok (.iload_n 2, 1) := by decide +kernel
theorem dL_act_204 : decode cL_act 204 = .ok (.bipush 7, 2) := by decide +kernel
theorem dL_act_206 : decode cL_act 206 = .ok (.ishr, 1) := by decide +kernel
theorem dL_act_207 : decode cL_act 207 = .ok (.aload_n 1, 1) := by decide +kernel
theorem dL_act_208 : decode cL_act 208 = .ok (.iconst 0, 1) := by decide +kernel
theorem dL_act_209 : decode cL_act 209 = .ok (.iaload, 1) := by decide +kernel
theorem dL_act_210 : decode cL_act 210 = .ok (.invokestatic 59, 3) := by decide +kernel
theorem dL_act_213 : decode cL_act 213 = .ok (.invokestatic 108, 3) := by decide +kernel
theorem dL_act_216 : decode cL_act 216 = .ok (.ireturn, 1) := by decide +kernel
theorem dL_act_217 : decode cL_act 217 = .ok (.aload_n 0, 1) := by decide +kernel
theorem dL_act_218 : decode cL_act 218 = .ok (.iload_n 2, 1) := by decide +kernel
theorem dL_act_219 : decode cL_act 219 = .ok (.iconst 2, 1) := by decide +kernel
theorem dL_act_220 : decode cL_act 220 = .ok (.invokestatic 59, 3) := by decide +kernel
theorem dL_act_223 : decode cL_act 223 = .ok (.ifCond .ne 7, 3) := by decide +kernel
theorem dL_act_226 : decode cL_act 226 = .ok (.iconst 1, 1) := by decide +kernel
theorem dL_act_227 : decode cL_act 227 = .ok (.goto 4, 3) := by decide +kernel
theorem dL_act_230 : decode cL_act 230 = .ok (.iconst 0, 1) := by decide +kernel
theorem dL_act_231 : decode cL_act 231 = .ok (.invokevirtual 112, 3) := by decide +kernel
theorem dL_act_234 : decode cL_act 234 = .ok (.ifCond .eq 7, 3) := by decide +kernel
theorem dL_act_237 : decode cL_act 237 = .ok (.iconst 1, 1) := by decide +kernel
theorem dL_act_238 : decode cL_act 238 = .ok (.goto 4, 3) := by decide +kernel
theorem dL_act_241 : decode cL_act 241 = .ok (.iconst 0, 1) := by decide +kernel
theorem dL_act_242 : decode cL_act 242 = .ok (.ireturn, 1) := by decide +kernel
theorem dL_act_243 : decode cL_act 243 = .ok (.iload_n 2, 1) := by decide +kernel
theorem dL_act_244 : decode cL_act 244 = .ok (.iconst 3, 1) := by decide +kernel
theorem dL_act_245 : decode cL_act 245 = .ok (.ishr, 1) := by decide +kernel
theorem dL_act_246 : decode cL_act 246 = .ok (.iconst 3, 1) := by decide +kernel
theorem dL_act_247 : decode cL_act 247 = .ok (.invokestatic 59, 3) := by decide +kernel
theorem dL_act_250 : decode cL_act 250 = .ok (.ifCond .eq 34, 3) := by decide +kernel
theorem dL_act_253 : decode cL_act 253 = .ok (.iload 4, 2) := by decide +kernel
theorem dL_act_255 : decode cL_act 255 = .ok (.ifCond .eq 29, 3) := by decide +kernel
theorem dL_act_258 : decode cL_act 258 = .ok (.iload 5, 2) := by decide +kernel
theorem dL_act_260 : decode cL_act 260 = .ok (.ifCond .eq 24, 3) := by decide +kernel
theorem dL_act_263 : decode cL_act 263 = .ok (.iload 5, 2) := by decide +kernel
theorem dL_act_265 : decode cL_act 265 = .ok (.aload_n 1, 1) := by decide +kernel
theorem dL_act_266 : decode cL_act 266 = .ok (.iload 4, 2) := by decide +kernel
theorem dL_act_268 : decode cL_act 268 = .ok (.iaload, 1) := by decide +kernel
theorem dL_act_269 : decode cL_act 269 = .ok (.if_icmp .eq 15, 3) := by decide +kernel
theorem dL_act_272 : decode cL_act 272 = .ok (.aload_n 0, 1) := by decide +kernel
theorem dL_act_273 : decode cL_act 273 = .ok (.iload 4, 2) := by decide +kernel
theorem dL_act_275 : decode cL_act 275 = .ok (.iload 5, 2) := by decide +kernel
theorem dL_act_277 : decode cL_act 277 = .ok (.iconst 0, 1) := by decide +kernel
theorem dL_act_278 : decode cL_act 278 = .ok (.invokevirtual 56, 3) := by decide +kernel
theorem dL_act_281 : decode cL_act 281 = .ok (.ifCond .eq 31, 3) := by decide +kernel
theorem dL_act_284 : decode cL_act 284 = .ok (.aload_n 0, 1) := by decide +kernel
theorem dL_act_285 : decode cL_act 285 = .ok (.iload_n 2, 1) := by decide +kernel
theorem dL_act_286 : decode cL_act 286 = .ok (.iconst 4, 1) := by decide +kernel
theorem dL_act_287 : decode cL_act 287 = .ok (.ishr, 1) := by decide +kernel
theorem dL_act_288 : decode cL_act 288 = .ok (.iconst 2, 1) := by decide +kernel
theorem dL_act_289 : decode cL_act 289 = .ok (.invokestatic 59, 3) := by decide +kernel
theorem dL_act_292 : decode cL_act 292 = .ok (.ifCond .ne 7, 3) := by decide +kernel
theorem dL_act_295 : decode cL_act 295 = .ok (.iconst 1, 1) := by decide +kernel
theorem dL_act_296 : decode cL_act 296 = .ok (.goto 4, 3) := by decide +kernel
theorem dL_act_299 : decode cL_act 299 = .ok (.iconst 0, 1) := by decide +kernel
theorem dL_act_300 : decode cL_act 300 = .ok (.invokevirtual 116, 3) := by decide +kernel
theorem dL_act_303 : decode cL_act 303 = .ok (.ifCond .eq 7, 3) := by decide +kernel
theorem dL_act_306 : decode cL_act 306 = .ok (.iconst 1, 1) := by decide +kernel
theorem dL_act_307 : decode cL_act 307 = .ok (.goto 4, 3) := by decide +kernel
theorem dL_act_310 : decode cL_act 310 = .ok (.iconst 0, 1) := by decide +kernel
theorem dL_act_311 : decode cL_act 311 = .ok (.ireturn, 1) := by decide +kernel
theorem dL_act_312 : decode cL_act 312 = .ok (.aload_n 0, 1) := by decide +kernel
theorem dL_act_313 : decode cL_act 313 = .ok (.iload 4, 2) := by decide +kernel
theorem dL_act_315 : decode cL_act 315 = .ok (.iload 5, 2) := by decide +kernel
theorem dL_act_317 : decode cL_act 317 = .ok (.iload_n 2, 1) := by decide +kernel
theorem dL_act_318 : decode cL_act 318 = .ok (.iconst 5, 1) := by decide +kernel
theorem dL_act_319 : decode cL_act 319 = .ok (.ishr, 1) := by decide +kernel
theorem dL_act_320 : decode cL_act 320 = .ok (.iconst 2, 1) := by decide +kernel
theorem dL_act_321 : decode cL_act 321 = .ok (.invokestatic 59, 3) := by decide +kernel
theorem dL_act_324 : decode cL_act 324 = .ok (.ifCond .ne 7, 3) := by decide +kernel
theorem dL_act_327 : decode cL_act 327 = .ok (.iconst 1, 1) := by decide +kernel
theorem dL_act_328 : decode cL_act 328 = .ok (.goto 4, 3) := by decide +kernel
theorem dL_act_331 : decode cL_act 331 = .ok (.iconst 0, 1) := by decide +kernel
theorem dL_act_332 : decode cL_act 332 = .ok (.invokevirtual 119, 3) := by decide +kernel
theorem dL_act_335 : decode cL_act 335 = .ok (.ifCond .eq 7, 3) := by decide +kernel
theorem dL_act_338 : decode cL_act 338 = .ok (.iconst 1, 1) := by decide +kernel
theorem dL_act_339 : decode cL_act 339 = .ok (.goto 4, 3) := by decide +kernel
theorem dL_act_342 : decode cL_act 342 = .ok (.iconst 0, 1) := by decide +kernel
theorem dL_act_343 : decode cL_act 343 = .ok (.ireturn, 1) := by decide +kernel
theorem dL_act_344 : decode cL_act 344 = .ok (.iload_n 2, 1) := by decide +kernel
theorem dL_act_345 : decode cL_act 345 = .ok (.iconst 3, 1) := by decide +kernel
theorem dL_act_346 : decode cL_act 346 = .ok (.invokestatic 59, 3) := by decide +kernel
theorem dL_act_349 : decode cL_act 349 = .ok (.istore 6, 2) := by decide +kernel
theorem dL_act_351 : decode cL_act 351 = .ok (.aload_n 0, 1) := by decide +kernel
theorem dL_act_352 : decode cL_act 352 = .ok (.iload 6, 2) := by decide +kernel
theorem dL_act_354 : decode cL_act 354 = .ok (.iload_n 2, 1) := by decide +kernel
theorem dL_act_355 : decode cL_act 355 = .ok (.iconst 2, 1) := by decide +kernel
theorem dL_act_356 : decode cL_act 356 = .ok (.ishr, 1) := by decide +kernel
theorem dL_act_357 : decode cL_act 357 = .ok (.iload 6, 2) := by decide +kernel
theorem dL_act_359 : decode cL_act 359 = .ok (.ifCond .ne 9, 3) := by decide +kernel
theorem dL_act_362 : decode cL_act 362 = .ok (.sipush 900, 3) := by decide +kernel
theorem dL_act_365 : decode cL_act 365 = .ok (.goto 5, 3) := by decide +kernel
theorem dL_act_368 : decode cL_act 368 = .ok (.bipush 12, 2) := by decide +kernel
theorem dL_act_370 : decode cL_act 370 = .ok (.invokestatic 59, 3) := by decide +kernel
theorem dL_act_373 : decode cL_act 373 = .ok (.iload_n 2, 1) := by decide +kernel
theorem dL_act_374 : decode cL_act 374 = .ok (.iconst 5, 1) := by decide +kernel
theorem dL_act_375 : decode cL_act 375 = .ok (.ishr, 1) := by decide +kernel
theorem dL_act_376 : decode cL_act 376 = .ok (.iconst 3, 1) := by decide +kernel
theorem dL_act_377 : decode cL_act 377 = .ok (.invokestatic 59, 3) := by decide +kernel
theorem dL_act_380 : decode cL_act 380 = .ok (.invokestatic 123, 3) := by decide +kernel
theorem dL_act_383 : decode cL_act 383 = .ok (.pop, 1) := by decide +kernel
theorem dL_act_384 : decode cL_act 384 = .ok (.iload_n 2, 1) := by decide +kernel
theorem dL_act_385 : decode cL_act 385 = .ok (.bipush 7, 2) := by decide +kernel
theorem dL_act_387 : decode cL_act 387 = .ok (.ishr, 1) := by decide +kernel
theorem dL_act_388 : decode cL_act 388 = .ok (.iconst 3, 1) := by decide +kernel
theorem dL_act_389 : decode cL_act 389 = .ok (.invokestatic 59, 3) := by decide +kernel
theorem dL_act_392 : decode cL_act 392 = .ok (.ifCond .ne 41, 3) := by decide +kernel
theorem dL_act_395 : decode cL_act 395 = .ok (.aload_n 0, 1) := by decide +kernel
theorem dL_act_396 : decode cL_act 396 = .ok (.iload_n 2, 1) := by decide +kernel
theorem dL_act_397 : decode cL_act 397 = .ok (.iconst 4, 1) := by decide +kernel
theorem dL_act_398 : decode cL_act 398 = .ok (.ishr, 1) := by decide +kernel
theorem dL_act_399 : decode cL_act 399 = .ok (.iconst 3, 1) := by decide +kernel
theorem dL_act_400 : decode cL_act 400 = .ok (.invokestatic 59, 3) := by decide +kernel
theorem dL_act_403 : decode cL_act 403 = .ok (.iload_n 2, 1) := by decide +kernel
theorem dL_act_404 : decode cL_act 404 = .ok (.bipush 6, 2) := by decide +kernel
theorem dL_act_406 : decode cL_act 406 = .ok (.ishr, 1) := by decide +kernel
theorem dL_act_407 : decode cL_act 407 = .ok (.iconst 3, 1) := by decide +kernel
theorem dL_act_408 : decode cL_act 408 = .ok (.invokestatic 59, 3) := by decide +kernel
theorem dL_act_411 : decode cL_act 411 = .ok (.iconst 0, 1) := by decide +kernel
theorem dL_act_412 : decode cL_act 412 = .ok (.invokestatic 123, 3) := by decide +kernel
theorem dL_act_415 : decode cL_act 415 = .ok (.pop, 1) := by decide +kernel
theorem dL_act_416 : decode cL_act 416 = .ok (.aload_n 0, 1) := by decide +kernel
theorem dL_act_417 : decode cL_act 417 = .ok (.iconst 3, 1) := by decide +kernel
theorem dL_act_418 : decode cL_act 418 = .ok (.iload_n 2, 1) := by decide +kernel
theorem dL_act_419 : decode cL_act 419 = .ok (.bipush 8, 2) := by decide +kernel
theorem dL_act_421 : decode cL_act 421 = .ok (.ishr, 1) := by decide +kernel
theorem dL_act_422 : decode cL_act 422 = .ok (.iconst 5, 1) := by decide +kernel
theorem dL_act_423 : decode cL_act 423 = .ok (.invokestatic 59, 3) := by decide +kernel
theorem dL_act_426 : decode cL_act 426 = .ok (.iadd, 1) := by decide +kernel
theorem dL_act_427 : decode cL_act 427 = .ok (.iconst 0, 1) := by decide +kernel
theorem dL_act_428 : decode cL_act 428 = .ok (.iconst 0, 1) := by decide +kernel
theorem dL_act_429 : decode cL_act 429 = .ok (.invokestatic 123, 3) := by decide +kernel
theorem dL_act_432 : decode cL_act 432 = .ok (.pop, 1) := by decide +kernel
theorem dL_act_433 : decode cL_act 433 = .ok (.aload_n 1, 1) := by decide +kernel
theorem dL_act_434 : decode cL_act 434 = .ok (.iload 4, 2) := by decide +kernel
theorem dL_act_436 : decode cL_act 436 = .ok (.iaload, 1) := by decide +kernel
theorem dL_act_437 : decode cL_act 437 = .ok (.bipush 10, 2) := by decide +kernel
theorem dL_act_439 : decode cL_act 439 = .ok (.if_icmp .le 8, 3) := by decide +kernel
theorem dL_act_442 : decode cL_act 442 = .ok (.bipush (-9), 2) := by decide +kernel
theorem dL_act_444 : decode cL_act 444 = .ok (.goto 18, 3) := by decide +kernel
theorem dL_act_447 : decode cL_act 447 = .ok (.aload_n 0, 1) := by decide +kernel
theorem dL_act_448 : decode cL_act 448 = .ok (.iload 4, 2) := by decide +kernel
theorem dL_act_450 : decode cL_act 450 = .ok (.iload_n 2, 1) := by decide +kernel
theorem dL_act_451 : decode cL_act 451 = .ok (.bipush 6, 2) := by decide +kernel
theorem dL_act_453 : decode cL_act 453 = .ok (.ishr, 1) := by decide +kernel
theorem dL_act_454 : decode cL_act 454 = .ok (.bipush 102, 2) := by decide +kernel
theorem dL_act_456 : decode cL_act 456 = .ok (.invokestatic 59, 3) := by decide +kernel
theorem dL_act_459 : decode cL_act 459 = .ok (.invokestatic 126, 3) := by decide +kernel
theorem dL_act_462 : decode cL_act 462 = .ok (.istore 7, 2) := by decide +kernel
theorem dL_act_464 : decode cL_act 464 = .ok (.aload_n 1, 1) := by decide +kernel
theorem dL_act_465 : decode cL_act 465 = .ok (.iload 4, 2) := by decide +kernel
theorem dL_act_467 : decode cL_act 467 = .ok (.dup2, 1) := by decide +kernel
theorem dL_act_468 : decode cL_act 468 = .ok (.iaload, 1) := by decide +kernel
theorem dL_act_469 : decode cL_act 469 = .ok (.iload 7, 2) := by decide +kernel
theorem dL_act_471 : decode cL_act 471 = .ok (.ifCond .ge 7, 3) := by decide +kernel
theorem dL_act_474 : decode cL_act 474 = .ok (.iconst 0, 1) := by decide +kernel
theorem dL_act_475 : decode cL_act 475 = .ok (.goto 4, 3) := by decide +kernel
theorem dL_act_478 : decode cL_act 478 = .ok (.iconst 1, 1) := by decide +kernel
theorem dL_act_479 : decode cL_act 479 = .ok (.iadd, 1) := by decide +kernel
theorem dL_act_480 : decode cL_act 480 = .ok (.iastore, 1) := by decide +kernel
theorem dL_act_481 : decode cL_act 481 = .ok (.bipush (-9), 2) := by decide +kernel
theorem dL_act_483 : decode cL_act 483 = .ok (.ireturn, 1) := by decide +kernel
theorem dL_act_484 : decode cL_act 484 = .ok (.aload_n 1, 1) := by decide +kernel
theorem dL_act_485 : decode cL_act 485 = .ok (.iconst 3, 1) := by decide +kernel
theorem dL_act_486 : decode cL_act 486 = .ok (.iaload, 1) := by decide +kernel
theorem dL_act_487 : decode cL_act 487 = .ok (.iconst 4, 1) := by decide +kernel
theorem dL_act_488 : decode cL_act 488 = .ok (.if_icmp .ne 17, 3) := by decide +kernel
theorem dL_act_491 : decode cL_act 491 = .ok (.aload_n 0, 1) := by decide +kernel
theorem dL_act_492 : decode cL_act 492 = .ok (.iload_n 2, 1) := by decide +kernel
