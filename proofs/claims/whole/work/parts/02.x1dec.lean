theorem dX9_init_0 : decode cX9_init 0 = .ok (.aload_n 0, 1) := by decide +kernel
theorem dX9_init_1 : decode cX9_init 1 = .ok (.invokespecial 1, 3) := by decide +kernel
theorem dX9_init_4 : decode cX9_init 4 = .ok (.aload_n 0, 1) := by decide +kernel
theorem dX9_init_5 : decode cX9_init 5 = .ok (.bipush 6, 2) := by decide +kernel
theorem dX9_init_7 : decode cX9_init 7 = .ok (.newarray .int, 2) := by decide +kernel
theorem dX9_init_9 : decode cX9_init 9 = .ok (.putfield 7, 3) := by decide +kernel
theorem dX9_init_12 : decode cX9_init 12 = .ok (.aload_n 0, 1) := by decide +kernel
theorem dX9_init_13 : decode cX9_init 13 = .ok (.bipush 6, 2) := by decide +kernel
theorem dX9_init_15 : decode cX9_init 15 = .ok (.newarray .int, 2) := by decide +kernel
theorem dX9_init_17 : decode cX9_init 17 = .ok (.putfield 13, 3) := by decide +kernel
theorem dX9_init_20 : decode cX9_init 20 = .ok (.aload_n 0, 1) := by decide +kernel
theorem dX9_init_21 : decode cX9_init 21 = .ok (.bipush 6, 2) := by decide +kernel
theorem dX9_init_23 : decode cX9_init 23 = .ok (.newarray .int, 2) := by decide +kernel
theorem dX9_init_25 : decode cX9_init 25 = .ok (.putfield 16, 3) := by decide +kernel
theorem dX9_init_28 : decode cX9_init 28 = .ok (.aload_n 0, 1) := by decide +kernel
theorem dX9_init_29 : decode cX9_init 29 = .ok (.bipush 24, 2) := by decide +kernel
theorem dX9_init_31 : decode cX9_init 31 = .ok (.newarray .int, 2) := by decide +kernel
theorem dX9_init_33 : decode cX9_init 33 = .ok (.putfield 19, 3) := by decide +kernel
theorem dX9_init_36 : decode cX9_init 36 = .ok (.aload_n 0, 1) := by decide +kernel
theorem dX9_init_37 : decode cX9_init 37 = .ok (.bipush 6, 2) := by decide +kernel
theorem dX9_init_39 : decode cX9_init 39 = .ok (.newarray .int, 2) := by decide +kernel
theorem dX9_init_41 : decode cX9_init 41 = .ok (.putfield 22, 3) := by decide +kernel
theorem dX9_init_44 : decode cX9_init 44 = .ok (.aload_n 0, 1) := by decide +kernel
theorem dX9_init_45 : decode cX9_init 45 = .ok (.bipush 6, 2) := by decide +kernel
theorem dX9_init_47 : decode cX9_init 47 = .ok (.newarray .int, 2) := by decide +kernel
theorem dX9_init_49 : decode cX9_init 49 = .ok (.putfield 25, 3) := by decide +kernel
theorem dX9_init_52 : decode cX9_init 52 = .ok (.aload_n 0, 1) := by decide +kernel
theorem dX9_init_53 : decode cX9_init 53 = .ok (.bipush 6, 2) := by decide +kernel
theorem dX9_init_55 : decode cX9_init 55 = .ok (.newarray .int, 2) := by decide +kernel
theorem dX9_init_57 : decode cX9_init 57 = .ok (.putfield 28, 3) := by decide +kernel
theorem dX9_init_60 : decode cX9_init 60 = .ok (.aload_n 0, 1) := by decide +kernel
theorem dX9_init_61 : decode cX9_init 61 = .ok (.bipush 100, 2) := by decide +kernel
theorem dX9_init_63 : decode cX9_init 63 = .ok (.newarray .int, 2) := by decide +kernel
theorem dX9_init_65 : decode cX9_init 65 = .ok (.putfield 31, 3) := by decide +kernel
theorem dX9_init_68 : decode cX9_init 68 = .ok (.aload_n 0, 1) := by decide +kernel
theorem dX9_init_69 : decode cX9_init 69 = .ok (.iconst 4, 1) := by decide +kernel
theorem dX9_init_70 : decode cX9_init 70 = .ok (.newarray .int, 2) := by decide +kernel
theorem dX9_init_72 : decode cX9_init 72 = .ok (.putfield 34, 3) := by decide +kernel
theorem dX9_init_75 : decode cX9_init 75 = .ok (.aload_n 0, 1) := by decide +kernel
theorem dX9_init_76 : decode cX9_init 76 = .ok (.bipush 6, 2) := by decide +kernel
theorem dX9_init_78 : decode cX9_init 78 = .ok (.newarray .int, 2) := by decide +kernel
theorem dX9_init_80 : decode cX9_init 80 = .ok (.putfield 37, 3) := by decide +kernel
theorem dX9_init_83 : decode cX9_init 83 = .ok (.aload_n 0, 1) := by decide +kernel
theorem dX9_init_84 : decode cX9_init 84 = .ok (.bipush 6, 2) := by decide +kernel
theorem dX9_init_86 : decode cX9_init 86 = .ok (.newarray .int, 2) := by decide +kernel
theorem dX9_init_88 : decode cX9_init 88 = .ok (.putfield 40, 3) := by decide +kernel
theorem dX9_init_91 : decode cX9_init 91 = .ok (.aload_n 0, 1) := by decide +kernel
theorem dX9_init_92 : decode cX9_init 92 = .ok (.iconst 4, 1) := by decide +kernel
theorem dX9_init_93 : decode cX9_init 93 = .ok (.newarray .int, 2) := by decide +kernel
theorem dX9_init_95 : decode cX9_init 95 = .ok (.putfield 43, 3) := by decide +kernel
theorem dX9_init_98 : decode cX9_init 98 = .ok (.aload_n 0, 1) := by decide +kernel
theorem dX9_init_99 : decode cX9_init 99 = .ok (.bipush 6, 2) := by decide +kernel
theorem dX9_init_101 : decode cX9_init 101 = .ok (.newarray .int, 2) := by decide +kernel
theorem dX9_init_103 : decode cX9_init 103 = .ok (.putfield 46, 3) := by decide +kernel
theorem dX9_init_106 : decode cX9_init 106 = .ok (.aload_n 0, 1) := by decide +kernel
theorem dX9_init_107 : decode cX9_init 107 = .ok (.bipush 6, 2) := by decide +kernel
theorem dX9_init_109 : decode cX9_init 109 = .ok (.newarray .int, 2) := by decide +kernel
theorem dX9_init_111 : decode cX9_init 111 = .ok (.putfield 49, 3) := by decide +kernel
theorem dX9_init_114 : decode cX9_init 114 = .ok (.aload_n 0, 1) := by decide +kernel
theorem dX9_init_115 : decode cX9_init 115 = .ok (.iconst 4, 1) := by decide +kernel
theorem dX9_init_116 : decode cX9_init 116 = .ok (.newarray .int, 2) := by decide +kernel
theorem dX9_init_118 : decode cX9_init 118 = .ok (.putfield 52, 3) := by decide +kernel
theorem dX9_init_121 : decode cX9_init 121 = .ok (.aload_n 0, 1) := by decide +kernel
theorem dX9_init_122 : decode cX9_init 122 = .ok (.iconst 4, 1) := by decide +kernel
theorem dX9_init_123 : decode cX9_init 123 = .ok (.newarray .int, 2) := by decide +kernel
theorem dX9_init_125 : decode cX9_init 125 = .ok (.putfield 55, 3) := by decide +kernel
theorem dX9_init_128 : decode cX9_init 128 = .ok (.aload_n 0, 1) := by decide +kernel
theorem dX9_init_129 : decode cX9_init 129 = .ok (.sipush 240, 3) := by decide +kernel
theorem dX9_init_132 : decode cX9_init 132 = .ok (.newarray .int, 2) := by decide +kernel
theorem dX9_init_134 : decode cX9_init 134 = .ok (.putfield 58, 3) := by decide +kernel
theorem dX9_init_137 : decode cX9_init 137 = .ok (.aload_n 0, 1) := by decide +kernel
theorem dX9_init_138 : decode cX9_init 138 = .ok (.bipush 60, 2) := by decide +kernel
theorem dX9_init_140 : decode cX9_init 140 = .ok (.newarray .int, 2) := by decide +kernel
theorem dX9_init_142 : decode cX9_init 142 = .ok (.putfield 61, 3) := by decide +kernel
theorem dX9_init_145 : decode cX9_init 145 = .ok (.iconst 0, 1) := by decide +kernel
theorem dX9_init_146 : decode cX9_init 146 = .ok (.istore_n 1, 1) := by decide +kernel
theorem dX9_init_147 : decode cX9_init 147 = .ok (.iload_n 1, 1) := by decide +kernel
theorem dX9_init_148 : decode cX9_init 148 = .ok (.iconst 4, 1) := by decide +kernel
theorem dX9_init_149 : decode cX9_init 149 = .ok (.if_icmp .ge 16, 3) := by decide +kernel
theorem dX9_init_152 : decode cX9_init 152 = .ok (.aload_n 0, 1) := by decide +kernel
theorem dX9_init_153 : decode cX9_init 153 = .ok (.getfield 52, 3) := by decide +kernel
theorem dX9_init_156 : decode cX9_init 156 = .ok (.iload_n 1, 1) := by decide +kernel
theorem dX9_init_157 : decode cX9_init 157 = .ok (.iconst (-1), 1) := by decide +kernel
theorem dX9_init_158 : decode cX9_init 158 = .ok (.iastore, 1) := by decide +kernel
theorem dX9_init_159 : decode cX9_init 159 = .ok (.iinc 1 1, 3) := by decide +kernel
theorem dX9_init_162 : decode cX9_init 162 = .ok (.goto (-15), 3) := by decide +kernel
theorem dX9_init_165 : decode cX9_init 165 = .ok (.return_, 1) := by decide +kernel
theorem dX9_in_0 : decode cX9_in 0 = .ok (.lload_n 0, 1) := by decide +kernel
theorem dX9_in_1 : decode cX9_in 1 = .ok (.lload_n 2, 1) := by decide +kernel
theorem dX9_in_2 : decode cX9_in 2 = .ok (.lcmp, 1) := by decide +kernel
theorem dX9_in_3 : decode cX9_in 3 = .ok (.ifCond .lt 14, 3) := by decide +kernel
theorem dX9_in_6 : decode cX9_in 6 = .ok (.lload_n 0, 1) := by decide +kernel
theorem dX9_in_7 : decode cX9_in 7 = .ok (.lload 4, 2) := by decide +kernel
theorem dX9_in_9 : decode cX9_in 9 = .ok (.lcmp, 1) := by decide +kernel
theorem dX9_in_10 : decode cX9_in 10 = .ok (.ifCond .gt 7, 3) := by decide +kernel
theorem dX9_in_13 : decode cX9_in 13 = .ok (.iconst 1, 1) := by decide +kernel
theorem dX9_in_14 : decode cX9_in 14 = .ok (.goto 4, 3) := by decide +kernel
theorem dX9_in_17 : decode cX9_in 17 = .ok (.iconst 0, 1) := by decide +kernel
theorem dX9_in_18 : decode cX9_in 18 = .ok (.ireturn, 1) := by decide +kernel
theorem dX9_lost_0 : decode cX9_lost 0 = .ok (.ldc2_w 64, 3) := by decide +kernel
theorem dX9_lost_3 : decode cX9_lost 3 = .ok (.lreturn, 1) := by decide +kernel
theorem dX9_isIn_0 : decode cX9_isIn 0 = .ok (.iload_n 0, 1) := by decide +kernel
theorem dX9_isIn_1 : decode cX9_isIn 1 = .ok (.iload_n 1, 1) := by decide +kernel
theorem dX9_isIn_2 : decode cX9_isIn 2 = .ok (.ishr, 1) := by decide +kernel
theorem dX9_isIn_3 : decode cX9_isIn 3 = .ok (.iconst 1, 1) := by decide +kernel
theorem dX9_isIn_4 : decode cX9_isIn 4 = .ok (.iand, 1) := by decide +kernel
theorem dX9_isIn_5 : decode cX9_isIn 5 = .ok (.iconst 1, 1) := by decide +kernel
theorem dX9_isIn_6 : decode cX9_isIn 6 = .ok (.if_icmp .ne 7, 3) := by decide +kernel
theorem dX9_isIn_9 : decode cX9_isIn 9 = .ok (.iconst 1, 1) := by decide +kernel
theorem dX9_isIn_10 : decode cX9_isIn 10 = .ok (.goto 4, 3) := by decide +kernel
theorem dX9_isIn_13 : decode cX9_isIn 13 = .ok (.iconst 0, 1) := by decide +kernel
theorem dX9_isIn_14 : decode cX9_isIn 14 = .ok (.ireturn, 1) := by decide +kernel
theorem dX9_lesser_0 : decode cX9_lesser 0 = .ok (.iload_n 0, 1) := by decide +kernel
theorem dX9_lesser_1 : decode cX9_lesser 1 = .ok (.iload_n 1, 1) := by decide +kernel
theorem dX9_lesser_2 : decode cX9_lesser 2 = .ok (.if_icmp .ge 7, 3) := by decide +kernel
theorem dX9_lesser_5 : decode cX9_lesser 5 = .ok (.iload_n 0, 1) := by decide +kernel
theorem dX9_lesser_6 : decode cX9_lesser 6 = .ok (.goto 4, 3) := by decide +kernel
theorem dX9_lesser_9 : decode cX9_lesser 9 = .ok (.iload_n 1, 1) := by decide +kernel
theorem dX9_lesser_10 : decode cX9_lesser 10 = .ok (.ireturn, 1) := by decide +kernel
theorem dX9_told_0 : decode cX9_told 0 = .ok (.lload_n 0, 1) := by decide +kernel
theorem dX9_told_1 : decode cX9_told 1 = .ok (.lstore 5, 2) := by decide +kernel
theorem dX9_told_3 : decode cX9_told 3 = .ok (.lload_n 2, 1) := by decide +kernel
theorem dX9_told_4 : decode cX9_told 4 = .ok (.lstore 7, 2) := by decide +kernel
theorem dX9_told_6 : decode cX9_told 6 = .ok (.lload 7, 2) := by decide +kernel
theorem dX9_told_8 : decode cX9_told 8 = .ok (.lconst 0, 1) := by decide +kernel
theorem dX9_told_9 : decode cX9_told 9 = .ok (.lcmp, 1) := by decide +kernel
theorem dX9_told_10 : decode cX9_told 10 = .ok (.ifCond .eq 21, 3) := by decide +kernel
theorem dX9_told_13 : decode cX9_told 13 = .ok (.lload 5, 2) := by decide +kernel
theorem dX9_told_15 : decode cX9_told 15 = .ok (.lload 7, 2) := by decide +kernel
theorem dX9_told_17 : decode cX9_told 17 = .ok (.lrem, 1) := by decide +kernel
theorem dX9_told_18 : decode cX9_told 18 = .ok (.lstore 9, 2) := by decide +kernel
theorem dX9_told_20 : decode cX9_told 20 = .ok (.lload 7, 2) := by decide +kernel
theorem dX9_told_22 : decode cX9_told 22 = .ok (.lstore 5, 2) := by decide +kernel
theorem dX9_told_24 : decode cX9_told 24 = .ok (.lload 9, 2) := by decide +kernel
theorem dX9_told_26 : decode cX9_told 26 = .ok (.lstore 7, 2) := by decide +kernel
theorem dX9_told_28 : decode cX9_told 28 = .ok (.goto (-22), 3) := by decide +kernel
theorem dX9_told_31 : decode cX9_told 31 = .ok (.iload 4, 2) := by decide +kernel
theorem dX9_told_33 : decode cX9_told 33 = .ok (.ifCond .ne 7, 3) := by decide +kernel
theorem dX9_told_36 : decode cX9_told 36 = .ok (.lload_n 0, 1) := by decide +kernel
theorem dX9_told_37 : decode cX9_told 37 = .ok (.goto 4, 3) := by decide +kernel
theorem dX9_told_40 : decode cX9_told 40 = .ok (.lload_n 2, 1) := by decide +kernel
theorem dX9_told_41 : decode cX9_told 41 = .ok (.lload 5, 2) := by decide +kernel
theorem dX9_told_43 : decode cX9_told 43 = .ok (.ldiv, 1) := by decide +kernel
theorem dX9_told_44 : decode cX9_told 44 = .ok (.lreturn, 1) := by decide +kernel
theorem dX9_refused_0 : decode cX9_refused 0 = .ok (.aload_n 0, 1) := by decide +kernel
theorem dX9_refused_1 : decode cX9_refused 1 = .ok (.iconst 0, 1) := by decide +kernel
theorem dX9_refused_2 : decode cX9_refused 2 = .ok (.putfield 66, 3) := by decide +kernel
theorem dX9_refused_5 : decode cX9_refused 5 = .ok (.iload_n 1, 1) := by decide +kernel
theorem dX9_refused_6 : decode cX9_refused 6 = .ok (.ireturn, 1) := by decide +kernel
theorem dX9_failed_0 : decode cX9_failed 0 = .ok (.aload_n 0, 1) := by decide +kernel
theorem dX9_failed_1 : decode cX9_failed 1 = .ok (.iload_n 1, 1) := by decide +kernel
theorem dX9_failed_2 : decode cX9_failed 2 = .ok (.putfield 66, 3) := by decide +kernel
theorem dX9_failed_5 : decode cX9_failed 5 = .ok (.bipush (-10), 2) := by decide +kernel
theorem dX9_failed_7 : decode cX9_failed 7 = .ok (.iload_n 1, 1) := by decide +kernel
theorem dX9_failed_8 : decode cX9_failed 8 = .ok (.isub, 1) := by decide +kernel
theorem dX9_failed_9 : decode cX9_failed 9 = .ok (.ireturn, 1) := by decide +kernel
theorem dX9_failedLong_0 : decode cX9_failedLong 0 = .ok (.aload_n 0, 1) := by decide +kernel
theorem dX9_failedLong_1 : decode cX9_failedLong 1 = .ok (.iload_n 1, 1) := by decide +kernel
theorem dX9_failedLong_2 : decode cX9_failedLong 2 = .ok (.putfield 66, 3) := by decide +kernel
theorem dX9_failedLong_5 : decode cX9_failedLong 5 = .ok (.invokestatic 70, 3) := by decide +kernel
theorem dX9_failedLong_8 : decode cX9_failedLong 8 = .ok (.lreturn, 1) := by decide +kernel
theorem dX9_noSeat_0 : decode cX9_noSeat 0 = .ok (.iload_n 1, 1) := by decide +kernel
theorem dX9_noSeat_1 : decode cX9_noSeat 1 = .ok (.i2l, 1) := by decide +kernel
theorem dX9_noSeat_2 : decode cX9_noSeat 2 = .ok (.lconst 0, 1) := by decide +kernel
theorem dX9_noSeat_3 : decode cX9_noSeat 3 = .ok (.aload_n 0, 1) := by decide +kernel
theorem dX9_noSeat_4 : decode cX9_noSeat 4 = .ok (.getfield 74, 3) := by decide +kernel
theorem dX9_noSeat_7 : decode cX9_noSeat 7 = .ok (.aload_n 0, 1) := by decide +kernel
theorem dX9_noSeat_8 : decode cX9_noSeat 8 = .ok (.getfield 77, 3) := by decide +kernel
theorem dX9_noSeat_11 : decode cX9_noSeat 11 = .ok (.imul, 1) := by decide +kernel
theorem dX9_noSeat_12 : decode cX9_noSeat 12 = .ok (.i2l, 1) := by decide +kernel
theorem dX9_noSeat_13 : decode cX9_noSeat 13 = .ok (.lconst 1, 1) := by decide +kernel
theorem dX9_noSeat_14 : decode cX9_noSeat 14 = .ok (.lsub, 1) := by decide +kernel
theorem dX9_noSeat_15 : decode cX9_noSeat 15 = .ok (.invokestatic 80, 3) := by decide +kernel
theorem dX9_noSeat_18 : decode cX9_noSeat 18 = .ok (.ifCond .ne 7, 3) := by decide +kernel
theorem dX9_noSeat_21 : decode cX9_noSeat 21 = .ok (.iconst 1, 1) := by decide +kernel
theorem dX9_noSeat_22 : decode cX9_noSeat 22 = .ok (.goto 4, 3) := by decide +kernel
theorem dX9_noSeat_25 : decode cX9_noSeat 25 = .ok (.iconst 0, 1) := by decide +kernel
theorem dX9_noSeat_26 : decode cX9_noSeat 26 = .ok (.ireturn, 1) := by decide +kernel
theorem dX9_noBuyer_0 : decode cX9_noBuyer 0 = .ok (.iload_n 1, 1) := by decide +kernel
theorem dX9_noBuyer_1 : decode cX9_noBuyer 1 = .ok (.i2l, 1) := by decide +kernel
theorem dX9_noBuyer_2 : decode cX9_noBuyer 2 = .ok (.lconst 0, 1) := by decide +kernel
theorem dX9_noBuyer_3 : decode cX9_noBuyer 3 = .ok (.aload_n 0, 1) := by decide +kernel
theorem dX9_noBuyer_4 : decode cX9_noBuyer 4 = .ok (.getfield 84, 3) := by decide +kernel
theorem dX9_noBuyer_7 : decode cX9_noBuyer 7 = .ok (.i2l, 1) := by decide +kernel
theorem dX9_noBuyer_8 : decode cX9_noBuyer 8 = .ok (.lconst 1, 1) := by decide +kernel
theorem dX9_noBuyer_9 : decode cX9_noBuyer 9 = .ok (.lsub, 1) := by decide +kernel
theorem dX9_noBuyer_10 : decode cX9_noBuyer 10 = .ok (.invokestatic 80, 3) := by decide +kernel
theorem dX9_noBuyer_13 : decode cX9_noBuyer 13 = .ok (.ifCond .ne 7, 3) := by decide +kernel
theorem dX9_noBuyer_16 : decode cX9_noBuyer 16 = .ok (.iconst 1, 1) := by decide +kernel
theorem dX9_noBuyer_17 : decode cX9_noBuyer 17 = .ok (.goto 4, 3) := by decide +kernel
theorem dX9_noBuyer_20 : decode cX9_noBuyer 20 = .ok (.iconst 0, 1) := by decide +kernel
theorem dX9_noBuyer_21 : decode cX9_noBuyer 21 = .ok (.ireturn, 1) := by decide +kernel
theorem dX9_noLot_0 : decode cX9_noLot 0 = .ok (.iload_n 0, 1) := by decide +kernel
theorem dX9_noLot_1 : decode cX9_noLot 1 = .ok (.i2l, 1) := by decide +kernel
theorem dX9_noLot_2 : decode cX9_noLot 2 = .ok (.lconst 0, 1) := by decide +kernel
theorem dX9_noLot_3 : decode cX9_noLot 3 = .ok (.ldc2_w 87, 3) := by decide +kernel
theorem dX9_noLot_6 : decode cX9_noLot 6 = .ok (.invokestatic 80, 3) := by decide +kernel
theorem dX9_noLot_9 : decode cX9_noLot 9 = .ok (.ifCond .ne 7, 3) := by decide +kernel
theorem dX9_noLot_12 : decode cX9_noLot 12 = .ok (.iconst 1, 1) := by decide +kernel
theorem dX9_noLot_13 : decode cX9_noLot 13 = .ok (.goto 4, 3) := by decide +kernel
theorem dX9_noLot_16 : decode cX9_noLot 16 = .ok (.iconst 0, 1) := by decide +kernel
theorem dX9_noLot_17 : decode cX9_noLot 17 = .ok (.ireturn, 1) := by decide +kernel
theorem dX9_codeAt_0 : decode cX9_codeAt 0 = .ok (.aload_n 0, 1) := by decide +kernel
theorem dX9_codeAt_1 : decode cX9_codeAt 1 = .ok (.getfield 89, 3) := by decide +kernel
theorem dX9_codeAt_4 : decode cX9_codeAt 4 = .ok (.iload_n 2, 1) := by decide +kernel
theorem dX9_codeAt_5 : decode cX9_codeAt 5 = .ok (.if_icmp .ge 17, 3) := by decide +kernel
theorem dX9_codeAt_8 : decode cX9_codeAt 8 = .ok (.aload_n 0, 1) := by decide +kernel
theorem dX9_codeAt_9 : decode cX9_codeAt 9 = .ok (.getfield 58, 3) := by decide +kernel
theorem dX9_codeAt_12 : decode cX9_codeAt 12 = .ok (.iload_n 1, 1) := by decide +kernel
theorem dX9_codeAt_13 : decode cX9_codeAt 13 = .ok (.aload_n 0, 1) := by decide +kernel
theorem dX9_codeAt_14 : decode cX9_codeAt 14 = .ok (.getfield 89, 3) := by decide +kernel
theorem dX9_codeAt_17 : decode cX9_codeAt 17 = .ok (.iadd, 1) := by decide +kernel
theorem dX9_codeAt_18 : decode cX9_codeAt 18 = .ok (.iaload, 1) := by decide +kernel
theorem dX9_codeAt_19 : decode cX9_codeAt 19 = .ok (.goto 5, 3) := by decide +kernel
theorem dX9_codeAt_22 : decode cX9_codeAt 22 = .ok (.bipush (-9), 2) := by decide +kernel
theorem dX9_codeAt_24 : decode cX9_codeAt 24 = .ok (.ireturn, 1) := by decide +kernel
theorem dX9_figure_0 : decode cX9_figure 0 = .ok (.aload_n 0, 1) := by decide +kernel
theorem dX9_figure_1 : decode cX9_figure 1 = .ok (.iload_n 1, 1) := by decide +kernel
theorem dX9_figure_2 : decode cX9_figure 2 = .ok (.iload_n 2, 1) := by decide +kernel
theorem dX9_figure_3 : decode cX9_figure 3 = .ok (.invokevirtual 92, 3) := by decide +kernel
theorem dX9_figure_6 : decode cX9_figure 6 = .ok (.bipush 48, 2) := by decide +kernel
theorem dX9_figure_8 : decode cX9_figure 8 = .ok (.isub, 1) := by decide +kernel
theorem dX9_figure_9 : decode cX9_figure 9 = .ok (.istore 5, 2) := by decide +kernel
theorem dX9_figure_11 : decode cX9_figure 11 = .ok (.iload 5, 2) := by decide +kernel
theorem dX9_figure_13 : decode cX9_figure 13 = .ok (.i2l, 1) := by decide +kernel
theorem dX9_figure_14 : decode cX9_figure 14 = .ok (.iload_n 3, 1) := by decide +kernel
theorem dX9_figure_15 : decode cX9_figure 15 = .ok (.i2l, 1) := by decide +kernel
theorem dX9_figure_16 : decode cX9_figure 16 = .ok (.iload 4, 2) := by decide +kernel
theorem dX9_figure_18 : decode cX9_figure 18 = .ok (.i2l, 1) := by decide +kernel
theorem dX9_figure_19 : decode cX9_figure 19 = .ok (.invokestatic 80, 3) := by decide +kernel
theorem dX9_figure_22 : decode cX9_figure 22 = .ok (.istore 6, 2) := by decide +kernel
theorem dX9_figure_24 : decode cX9_figure 24 = .ok (.aload_n 0, 1) := by decide +kernel
theorem dX9_figure_25 : decode cX9_figure 25 = .ok (.dup, 1) := by decide +kernel
theorem dX9_figure_26 : decode cX9_figure 26 = .ok (.getfield 89, 3) := by decide +kernel
theorem dX9_figure_29 : decode cX9_figure 29 = .ok (.iload 6, 2) := by decide +kernel
theorem dX9_figure_31 : decode cX9_figure 31 = .ok (.ifCond .eq 7, 3) := by decide +kernel
theorem dX9_figure_34 : decode cX9_figure 34 = .ok (.iconst 1, 1) := by decide +kernel
theorem dX9_figure_35 : decode cX9_figure 35 = .ok (.goto 4, 3) := by decide +kernel
theorem dX9_figure_38 : decode cX9_figure 38 = .ok (.iconst 0, 1) := by decide +kernel
theorem dX9_figure_39 : decode cX9_figure 39 = .ok (.iadd, 1) := by decide +kernel
theorem dX9_figure_40 : decode cX9_figure 40 = .ok (.putfield 89, 3) := by decide +kernel
theorem dX9_figure_43 : decode cX9_figure 43 = .ok (.iload 6, 2) := by decide +kernel
theorem dX9_figure_45 : decode cX9_figure 45 = .ok (.ifCond .eq 8, 3) := by decide +kernel
theorem dX9_figure_48 : decode cX9_figure 48 = .ok (.iload 5, 2) := by decide +kernel
theorem dX9_figure_50 : decode cX9_figure 50 = .ok (.goto 5, 3) := by decide +kernel
theorem dX9_figure_53 : decode cX9_figure 53 = .ok (.bipush (-9), 2) := by decide +kernel
theorem dX9_figure_55 : decode cX9_figure 55 = .ok (.ireturn, 1) := by decide +kernel
theorem dX9_readsBuyer_0 : decode cX9_readsBuyer 0 = .ok (.aload_n 0, 1) := by decide +kernel
theorem dX9_readsBuyer_1 : decode cX9_readsBuyer 1 = .ok (.getfield 96, 3) := by decide +kernel
theorem dX9_readsBuyer_4 : decode cX9_readsBuyer 4 = .ok (.bipush 6, 2) := by decide +kernel
theorem dX9_readsBuyer_6 : decode cX9_readsBuyer 6 = .ok (.aload_n 0, 1) := by decide +kernel
theorem dX9_readsBuyer_7 : decode cX9_readsBuyer 7 = .ok (.getfield 99, 3) := by decide +kernel
theorem dX9_readsBuyer_10 : decode cX9_readsBuyer 10 = .ok (.aload_n 0, 1) := by decide +kernel
theorem dX9_readsBuyer_11 : decode cX9_readsBuyer 11 = .ok (.getfield 102, 3) := by decide +kernel
theorem dX9_readsBuyer_14 : decode cX9_readsBuyer 14 = .ok (.imul, 1) := by decide +kernel
theorem dX9_readsBuyer_15 : decode cX9_readsBuyer 15 = .ok (.invokestatic 105, 3) := by decide +kernel
theorem dX9_readsBuyer_18 : decode cX9_readsBuyer 18 = .ok (.if_icmp .eq 14, 3) := by decide +kernel
theorem dX9_readsBuyer_21 : decode cX9_readsBuyer 21 = .ok (.aload_n 0, 1) := by decide +kernel
theorem dX9_readsBuyer_22 : decode cX9_readsBuyer 22 = .ok (.iload_n 1, 1) := by decide +kernel
theorem dX9_readsBuyer_23 : decode cX9_readsBuyer 23 = .ok (.iload_n 2, 1) := by decide +kernel
theorem dX9_readsBuyer_24 : decode cX9_readsBuyer 24 = .ok (.invokevirtual 92, 3) := by decide +kernel
theorem dX9_readsBuyer_27 : decode cX9_readsBuyer 27 = .ok (.bipush 59, 2) := by decide +kernel
theorem dX9_readsBuyer_29 : decode cX9_readsBuyer 29 = .ok (.if_icmp .eq 5, 3) := by decide +kernel
theorem dX9_readsBuyer_32 : decode cX9_readsBuyer 32 = .ok (.iconst 0, 1) := by decide +kernel
theorem dX9_readsBuyer_33 : decode cX9_readsBuyer 33 = .ok (.ireturn, 1) := by decide +kernel
theorem dX9_readsBuyer_34 : decode cX9_readsBuyer 34 = .ok (.aload_n 0, 1) := by decide +kernel
theorem dX9_readsBuyer_35 : decode cX9_readsBuyer 35 = .ok (.dup, 1) := by decide +kernel
theorem dX9_readsBuyer_36 : decode cX9_readsBuyer 36 = .ok (.getfield 89, 3) := by decide +kernel
theorem dX9_readsBuyer_39 : decode cX9_readsBuyer 39 = .ok (.iconst 1, 1) := by decide +kernel
theorem dX9_readsBuyer_40 : decode cX9_readsBuyer 40 = .ok (.iadd, 1) := by decide +kernel
theorem dX9_readsBuyer_41 : decode cX9_readsBuyer 41 = .ok (.putfield 89, 3) := by decide +kernel
theorem dX9_readsBuyer_44 : decode cX9_readsBuyer 44 = .ok (.aload_n 0, 1) := by decide +kernel
theorem dX9_readsBuyer_45 : decode cX9_readsBuyer 45 = .ok (.iload_n 1, 1) := by decide +kernel
theorem dX9_readsBuyer_46 : decode cX9_readsBuyer 46 = .ok (.iload_n 2, 1) := by decide +kernel
theorem dX9_readsBuyer_47 : decode cX9_readsBuyer 47 = .ok (.invokevirtual 92, 3) := by decide +kernel
theorem dX9_readsBuyer_50 : decode cX9_readsBuyer 50 = .ok (.istore_n 3, 1) := by decide +kernel
theorem dX9_readsBuyer_51 : decode cX9_readsBuyer 51 = .ok (.iload_n 3, 1) := by decide +kernel
theorem dX9_readsBuyer_52 : decode cX9_readsBuyer 52 = .ok (.bipush 98, 2) := by decide +kernel
theorem dX9_readsBuyer_54 : decode cX9_readsBuyer 54 = .ok (.if_icmp .eq 17, 3) := by decide +kernel
theorem dX9_readsBuyer_57 : decode cX9_readsBuyer 57 = .ok (.iload_n 3, 1) := by decide +kernel
theorem dX9_readsBuyer_58 : decode cX9_readsBuyer 58 = .ok (.bipush 104, 2) := by decide +kernel
theorem dX9_readsBuyer_60 : decode cX9_readsBuyer 60 = .ok (.if_icmp .eq 11, 3) := by decide +kernel
theorem dX9_readsBuyer_63 : decode cX9_readsBuyer 63 = .ok (.iload_n 3, 1) := by decide +kernel
theorem dX9_readsBuyer_64 : decode cX9_readsBuyer 64 = .ok (.bipush 110, 2) := by decide +kernel
theorem dX9_readsBuyer_66 : decode cX9_readsBuyer 66 = .ok (.if_icmp .eq 5, 3) := by decide +kernel
theorem dX9_readsBuyer_69 : decode cX9_readsBuyer 69 = .ok (.iconst 0, 1) := by decide +kernel
theorem dX9_readsBuyer_70 : decode cX9_readsBuyer 70 = .ok (.ireturn, 1) := by decide +kernel
theorem dX9_readsBuyer_71 : decode cX9_readsBuyer 71 = .ok (.aload_n 0, 1) := by decide +kernel
theorem dX9_readsBuyer_72 : decode cX9_readsBuyer 72 = .ok (.dup, 1) := by decide +kernel
theorem dX9_readsBuyer_73 : decode cX9_readsBuyer 73 = .ok (.getfield 89, 3) := by decide +kernel
theorem dX9_readsBuyer_76 : decode cX9_readsBuyer 76 = .ok (.iconst 1, 1) := by decide +kernel
theorem dX9_readsBuyer_77 : decode cX9_readsBuyer 77 = .ok (.iadd, 1) := by decide +kernel
theorem dX9_readsBuyer_78 : decode cX9_readsBuyer 78 = .ok (.putfield 89, 3) := by decide +kernel
theorem dX9_readsBuyer_81 : decode cX9_readsBuyer 81 = .ok (.aload_n 0, 1) := by decide +kernel
theorem dX9_readsBuyer_82 : decode cX9_readsBuyer 82 = .ok (.iload_n 1, 1) := by decide +kernel
theorem dX9_readsBuyer_83 : decode cX9_readsBuyer 83 = .ok (.iload_n 2, 1) := by decide +kernel
theorem dX9_readsBuyer_84 : decode cX9_readsBuyer 84 = .ok (.iconst 0, 1) := by decide +kernel
theorem dX9_readsBuyer_85 : decode cX9_readsBuyer 85 = .ok (.bipush 9, 2) := by decide +kernel
theorem dX9_readsBuyer_87 : decode cX9_readsBuyer 87 = .ok (.invokevirtual 108, 3) := by decide +kernel
theorem dX9_readsBuyer_90 : decode cX9_readsBuyer 90 = .ok (.istore 4, 2) := by decide +kernel
theorem dX9_readsBuyer_92 : decode cX9_readsBuyer 92 = .ok (.iload 4, 2) := by decide +kernel
theorem dX9_readsBuyer_94 : decode cX9_readsBuyer 94 = .ok (.ifCond .ge 8, 3) := by decide +kernel
theorem dX9_readsBuyer_97 : decode cX9_readsBuyer 97 = .ok (.bipush (-9), 2) := by decide +kernel
theorem dX9_readsBuyer_99 : decode cX9_readsBuyer 99 = .ok (.goto 21, 3) := by decide +kernel
theorem dX9_readsBuyer_102 : decode cX9_readsBuyer 102 = .ok (.aload_n 0, 1) := by decide +kernel
theorem dX9_readsBuyer_103 : decode cX9_readsBuyer 103 = .ok (.iload_n 1, 1) := by decide +kernel
theorem dX9_readsBuyer_104 : decode cX9_readsBuyer 104 = .ok (.iload_n 2, 1) := by decide +kernel
theorem dX9_readsBuyer_105 : decode cX9_readsBuyer 105 = .ok (.iload 4, 2) := by decide +kernel
theorem dX9_readsBuyer_107 : decode cX9_readsBuyer 107 = .ok (.ifCond .ne 7, 3) := by decide +kernel
theorem dX9_readsBuyer_110 : decode cX9_readsBuyer 110 = .ok (.iconst 1, 1) := by decide +kernel
theorem dX9_readsBuyer_111 : decode cX9_readsBuyer 111 = .ok (.goto 4, 3) := by decide +kernel
theorem dX9_readsBuyer_114 : decode cX9_readsBuyer 114 = .ok (.iconst 0, 1) := by decide +kernel
theorem dX9_readsBuyer_115 : decode cX9_readsBuyer 115 = .ok (.bipush 9, 2) := by decide +kernel
theorem dX9_readsBuyer_117 : decode cX9_readsBuyer 117 = .ok (.invokevirtual 108, 3) := by decide +kernel
theorem dX9_readsBuyer_120 : decode cX9_readsBuyer 120 = .ok (.istore 5, 2) := by decide +kernel
theorem dX9_readsBuyer_122 : decode cX9_readsBuyer 122 = .ok (.iload 5, 2) := by decide +kernel
theorem dX9_readsBuyer_124 : decode cX9_readsBuyer 124 = .ok (.ifCond .ge 5, 3) := by decide +kernel
theorem dX9_readsBuyer_127 : decode cX9_readsBuyer 127 = .ok (.iconst 0, 1) := by decide +kernel
theorem dX9_readsBuyer_128 : decode cX9_readsBuyer 128 = .ok (.ireturn, 1) := by decide +kernel
theorem dX9_readsBuyer_129 : decode cX9_readsBuyer 129 = .ok (.aload_n 0, 1) := by decide +kernel
theorem dX9_readsBuyer_130 : decode cX9_readsBuyer 130 = .ok (.getfield 22, 3) := by decide +kernel
theorem dX9_readsBuyer_133 : decode cX9_readsBuyer 133 = .ok (.aload_n 0, 1) := by decide +kernel
theorem dX9_readsBuyer_134 : decode cX9_readsBuyer 134 = .ok (.getfield 96, 3) := by decide +kernel
theorem dX9_readsBuyer_137 : decode cX9_readsBuyer 137 = .ok (.iload_n 3, 1) := by decide +kernel
theorem dX9_readsBuyer_138 : decode cX9_readsBuyer 138 = .ok (.bipush 98, 2) := by decide +kernel
theorem dX9_readsBuyer_140 : decode cX9_readsBuyer 140 = .ok (.if_icmp .ne 7, 3) := by decide +kernel
theorem dX9_readsBuyer_143 : decode cX9_readsBuyer 143 = .ok (.iconst 0, 1) := by decide +kernel
theorem dX9_readsBuyer_144 : decode cX9_readsBuyer 144 = .ok (.goto 14, 3) := by decide +kernel
theorem dX9_readsBuyer_147 : decode cX9_readsBuyer 147 = .ok (.iload_n 3, 1) := by decide +kernel
theorem dX9_readsBuyer_148 : decode cX9_readsBuyer 148 = .ok (.bipush 104, 2) := by decide +kernel
theorem dX9_readsBuyer_150 : decode cX9_readsBuyer 150 = .ok (.if_icmp .ne 7, 3) := by decide +kernel
theorem dX9_readsBuyer_153 : decode cX9_readsBuyer 153 = .ok (.iconst 1, 1) := by decide +kernel
theorem dX9_readsBuyer_154 : decode cX9_readsBuyer 154 = .ok (.goto 4, 3) := by decide +kernel
theorem dX9_readsBuyer_157 : decode cX9_readsBuyer 157 = .ok (.iconst 2, 1) := by decide +kernel
theorem dX9_readsBuyer_158 : decode cX9_readsBuyer 158 = .ok (.iastore, 1) := by decide +kernel
theorem dX9_readsBuyer_159 : decode cX9_readsBuyer 159 = .ok (.aload_n 0, 1) := by decide +kernel
theorem dX9_readsBuyer_160 : decode cX9_readsBuyer 160 = .ok (.getfield 25, 3) := by decide +kernel
theorem dX9_readsBuyer_163 : decode cX9_readsBuyer 163 = .ok (.aload_n 0, 1) := by decide +kernel
theorem dX9_readsBuyer_164 : decode cX9_readsBuyer 164 = .ok (.getfield 96, 3) := by decide +kernel
theorem dX9_readsBuyer_167 : decode cX9_readsBuyer 167 = .ok (.bipush 10, 2) := by decide +kernel
theorem dX9_readsBuyer_169 : decode cX9_readsBuyer 169 = .ok (.iload 4, 2) := by decide +kernel
theorem dX9_readsBuyer_171 : decode cX9_readsBuyer 171 = .ok (.imul, 1) := by decide +kernel
theorem dX9_readsBuyer_172 : decode cX9_readsBuyer 172 = .ok (.iload 5, 2) := by decide +kernel
theorem dX9_readsBuyer_174 : decode cX9_readsBuyer 174 = .ok (.iadd, 1) := by decide +kernel
theorem dX9_readsBuyer_175 : decode cX9_readsBuyer 175 = .ok (.iastore, 1) := by decide +kernel
theorem dX9_readsBuyer_176 : decode cX9_readsBuyer 176 = .ok (.aload_n 0, 1) := by decide +kernel
theorem dX9_readsBuyer_177 : decode cX9_readsBuyer 177 = .ok (.dup, 1) := by decide +kernel
theorem dX9_readsBuyer_178 : decode cX9_readsBuyer 178 = .ok (.getfield 96, 3) := by decide +kernel
theorem dX9_readsBuyer_181 : decode cX9_readsBuyer 181 = .ok (.iconst 1, 1) := by decide +kernel
theorem dX9_readsBuyer_182 : decode cX9_readsBuyer 182 = .ok (.iadd, 1) := by decide +kernel
theorem dX9_readsBuyer_183 : decode cX9_readsBuyer 183 = .ok (.putfield 96, 3) := by decide +kernel
theorem dX9_readsBuyer_186 : decode cX9_readsBuyer 186 = .ok (.iconst 1, 1) := by decide +kernel
theorem dX9_readsBuyer_187 : decode cX9_readsBuyer 187 = .ok (.ireturn, 1) := by decide +kernel
theorem dX9_readsHall_0 : decode cX9_readsHall 0 = .ok (.aload_n 0, 1) := by decide +kernel
theorem dX9_readsHall_1 : decode cX9_readsHall 1 = .ok (.iconst 0, 1) := by decide +kernel
theorem dX9_readsHall_2 : decode cX9_readsHall 2 = .ok (.putfield 89, 3) := by decide +kernel
theorem dX9_readsHall_5 : decode cX9_readsHall 5 = .ok (.aload_n 0, 1) := by decide +kernel
theorem dX9_readsHall_6 : decode cX9_readsHall 6 = .ok (.iconst 0, 1) := by decide +kernel
theorem dX9_readsHall_7 : decode cX9_readsHall 7 = .ok (.putfield 96, 3) := by decide +kernel
theorem dX9_readsHall_10 : decode cX9_readsHall 10 = .ok (.aload_n 0, 1) := by decide +kernel
theorem dX9_readsHall_11 : decode cX9_readsHall 11 = .ok (.iload_n 1, 1) := by decide +kernel
theorem dX9_readsHall_12 : decode cX9_readsHall 12 = .ok (.iload_n 2, 1) := by decide +kernel
theorem dX9_readsHall_13 : decode cX9_readsHall 13 = .ok (.invokevirtual 92, 3) := by decide +kernel
theorem dX9_readsHall_16 : decode cX9_readsHall 16 = .ok (.bipush 97, 2) := by decide +kernel
theorem dX9_readsHall_18 : decode cX9_readsHall 18 = .ok (.if_icmp .ne 7, 3) := by decide +kernel
theorem dX9_readsHall_21 : decode cX9_readsHall 21 = .ok (.iconst 1, 1) := by decide +kernel
theorem dX9_readsHall_22 : decode cX9_readsHall 22 = .ok (.goto 4, 3) := by decide +kernel
theorem dX9_readsHall_25 : decode cX9_readsHall 25 = .ok (.iconst 0, 1) := by decide +kernel
theorem dX9_readsHall_26 : decode cX9_readsHall 26 = .ok (.istore_n 3, 1) := by decide +kernel
theorem dX9_readsHall_27 : decode cX9_readsHall 27 = .ok (.aload_n 0, 1) := by decide +kernel
theorem dX9_readsHall_28 : decode cX9_readsHall 28 = .ok (.dup, 1) := by decide +kernel
theorem dX9_readsHall_29 : decode cX9_readsHall 29 = .ok (.getfield 89, 3) := by decide +kernel
theorem dX9_readsHall_32 : decode cX9_readsHall 32 = .ok (.iload_n 3, 1) := by decide +kernel
theorem dX9_readsHall_33 : decode cX9_readsHall 33 = .ok (.ifCond .eq 7, 3) := by decide +kernel
theorem dX9_readsHall_36 : decode cX9_readsHall 36 = .ok (.iconst 1, 1) := by decide +kernel
theorem dX9_readsHall_37 : decode cX9_readsHall 37 = .ok (.goto 4, 3) := by decide +kernel
theorem dX9_readsHall_40 : decode cX9_readsHall 40 = .ok (.iconst 0, 1) := by decide +kernel
theorem dX9_readsHall_41 : decode cX9_readsHall 41 = .ok (.iadd, 1) := by decide +kernel
theorem dX9_readsHall_42 : decode cX9_readsHall 42 = .ok (.putfield 89, 3) := by decide +kernel
theorem dX9_readsHall_45 : decode cX9_readsHall 45 = .ok (.aload_n 0, 1) := by decide +kernel
theorem dX9_readsHall_46 : decode cX9_readsHall 46 = .ok (.iload_n 3, 1) := by decide +kernel
theorem dX9_readsHall_47 : decode cX9_readsHall 47 = .ok (.ifCond .eq 14, 3) := by decide +kernel
theorem dX9_readsHall_50 : decode cX9_readsHall 50 = .ok (.aload_n 0, 1) := by decide +kernel
theorem dX9_readsHall_51 : decode cX9_readsHall 51 = .ok (.iload_n 1, 1) := by decide +kernel
theorem dX9_readsHall_52 : decode cX9_readsHall 52 = .ok (.iload_n 2, 1) := by decide +kernel
theorem dX9_readsHall_53 : decode cX9_readsHall 53 = .ok (.iconst 1, 1) := by decide +kernel
theorem dX9_readsHall_54 : decode cX9_readsHall 54 = .ok (.iconst 4, 1) := by decide +kernel
theorem dX9_readsHall_55 : decode cX9_readsHall 55 = .ok (.invokevirtual 108, 3) := by decide +kernel
theorem dX9_readsHall_58 : decode cX9_readsHall 58 = .ok (.goto 5, 3) := by decide +kernel
theorem dX9_readsHall_61 : decode cX9_readsHall 61 = .ok (.bipush (-9), 2) := by decide +kernel
theorem dX9_readsHall_63 : decode cX9_readsHall 63 = .ok (.putfield 99, 3) := by decide +kernel
theorem dX9_readsHall_66 : decode cX9_readsHall 66 = .ok (.aload_n 0, 1) := by decide +kernel
theorem dX9_readsHall_67 : decode cX9_readsHall 67 = .ok (.aload_n 0, 1) := by decide +kernel
theorem dX9_readsHall_68 : decode cX9_readsHall 68 = .ok (.getfield 99, 3) := by decide +kernel
theorem dX9_readsHall_71 : decode cX9_readsHall 71 = .ok (.ifCond .le 15, 3) := by decide +kernel
theorem dX9_readsHall_74 : decode cX9_readsHall 74 = .ok (.aload_n 0, 1) := by decide +kernel
theorem dX9_readsHall_75 : decode cX9_readsHall 75 = .ok (.iload_n 1, 1) := by decide +kernel
theorem dX9_readsHall_76 : decode cX9_readsHall 76 = .ok (.iload_n 2, 1) := by decide +kernel
theorem dX9_readsHall_77 : decode cX9_readsHall 77 = .ok (.iconst 2, 1) := by decide +kernel
theorem dX9_readsHall_78 : decode cX9_readsHall 78 = .ok (.bipush 6, 2) := by decide +kernel
theorem dX9_readsHall_80 : decode cX9_readsHall 80 = .ok (.invokevirtual 108, 3) := by decide +kernel
theorem dX9_readsHall_83 : decode cX9_readsHall 83 = .ok (.goto 5, 3) := by decide +kernel
theorem dX9_readsHall_86 : decode cX9_readsHall 86 = .ok (.bipush (-9), 2) := by decide +kernel
theorem dX9_readsHall_88 : decode cX9_readsHall 88 = .ok (.putfield 102, 3) := by decide +kernel
theorem dX9_readsHall_91 : decode cX9_readsHall 91 = .ok (.aload_n 0, 1) := by decide +kernel
theorem dX9_readsHall_92 : decode cX9_readsHall 92 = .ok (.getfield 102, 3) := by decide +kernel
theorem dX9_readsHall_95 : decode cX9_readsHall 95 = .ok (.ifCond .le 7, 3) := by decide +kernel
theorem dX9_readsHall_98 : decode cX9_readsHall 98 = .ok (.iconst 1, 1) := by decide +kernel
theorem dX9_readsHall_99 : decode cX9_readsHall 99 = .ok (.goto 4, 3) := by decide +kernel
theorem dX9_readsHall_102 : decode cX9_readsHall 102 = .ok (.iconst 0, 1) := by decide +kernel
theorem dX9_readsHall_103 : decode cX9_readsHall 103 = .ok (.istore_n 3, 1) := by decide +kernel
theorem dX9_readsHall_104 : decode cX9_readsHall 104 = .ok (.iload_n 3, 1) := by decide +kernel
theorem dX9_readsHall_105 : decode cX9_readsHall 105 = .ok (.ifCond .eq 29, 3) := by decide +kernel
theorem dX9_readsHall_108 : decode cX9_readsHall 108 = .ok (.aload_n 0, 1) := by decide +kernel
theorem dX9_readsHall_109 : decode cX9_readsHall 109 = .ok (.getfield 96, 3) := by decide +kernel
theorem dX9_readsHall_112 : decode cX9_readsHall 112 = .ok (.iconst 2, 1) := by decide +kernel
theorem dX9_readsHall_113 : decode cX9_readsHall 113 = .ok (.if_icmp .lt 11, 3) := by decide +kernel
theorem dX9_readsHall_116 : decode cX9_readsHall 116 = .ok (.aload_n 0, 1) := by decide +kernel
theorem dX9_readsHall_117 : decode cX9_readsHall 117 = .ok (.getfield 89, 3) := by decide +kernel
theorem dX9_readsHall_120 : decode cX9_readsHall 120 = .ok (.iload_n 2, 1) := by decide +kernel
theorem dX9_readsHall_121 : decode cX9_readsHall 121 = .ok (.if_icmp .ge 13, 3) := by decide +kernel
theorem dX9_readsHall_124 : decode cX9_readsHall 124 = .ok (.aload_n 0, 1) := by decide +kernel
theorem dX9_readsHall_125 : decode cX9_readsHall 125 = .ok (.iload_n 1, 1) := by decide +kernel
theorem dX9_readsHall_126 : decode cX9_readsHall 126 = .ok (.iload_n 2, 1) := by decide +kernel
theorem dX9_readsHall_127 : decode cX9_readsHall 127 = .ok (.invokevirtual 112, 3) := by decide +kernel
theorem dX9_readsHall_130 : decode cX9_readsHall 130 = .ok (.istore_n 3, 1) := by decide +kernel
theorem dX9_readsHall_131 : decode cX9_readsHall 131 = .ok (.goto (-27), 3) := by decide +kernel
theorem dX9_readsHall_134 : decode cX9_readsHall 134 = .ok (.iload_n 3, 1) := by decide +kernel
theorem dX9_readsHall_135 : decode cX9_readsHall 135 = .ok (.ireturn, 1) := by decide +kernel
theorem dX9_cellsBarred_0 : decode cX9_cellsBarred 0 = .ok (.aload_n 0, 1) := by decide +kernel
theorem dX9_cellsBarred_1 : decode cX9_cellsBarred 1 = .ok (.getfield 52, 3) := by decide +kernel
theorem dX9_cellsBarred_4 : decode cX9_cellsBarred 4 = .ok (.iload_n 1, 1) := by decide +kernel
theorem dX9_cellsBarred_5 : decode cX9_cellsBarred 5 = .ok (.iaload, 1) := by decide +kernel
theorem dX9_cellsBarred_6 : decode cX9_cellsBarred 6 = .ok (.ifCond .lt 19, 3) := by decide +kernel
theorem dX9_cellsBarred_9 : decode cX9_cellsBarred 9 = .ok (.aload_n 0, 1) := by decide +kernel
theorem dX9_cellsBarred_10 : decode cX9_cellsBarred 10 = .ok (.getfield 55, 3) := by decide +kernel
theorem dX9_cellsBarred_13 : decode cX9_cellsBarred 13 = .ok (.iload_n 1, 1) := by decide +kernel
theorem dX9_cellsBarred_14 : decode cX9_cellsBarred 14 = .ok (.iaload, 1) := by decide +kernel
theorem dX9_cellsBarred_15 : decode cX9_cellsBarred 15 = .ok (.iload_n 2, 1) := by decide +kernel
theorem dX9_cellsBarred_16 : decode cX9_cellsBarred 16 = .ok (.if_icmp .eq 9, 3) := by decide +kernel
theorem dX9_cellsBarred_19 : decode cX9_cellsBarred 19 = .ok (.aload_n 0, 1) := by decide +kernel
theorem dX9_cellsBarred_20 : decode cX9_cellsBarred 20 = .ok (.iconst 2, 1) := by decide +kernel
theorem dX9_cellsBarred_21 : decode cX9_cellsBarred 21 = .ok (.invokevirtual 116, 3) := by decide +kernel
theorem dX9_cellsBarred_24 : decode cX9_cellsBarred 24 = .ok (.ireturn, 1) := by decide +kernel
theorem dX9_cellsBarred_25 : decode cX9_cellsBarred 25 = .ok (.aload_n 0, 1) := by decide +kernel
theorem dX9_cellsBarred_26 : decode cX9_cellsBarred 26 = .ok (.getfield 52, 3) := by decide +kernel
theorem dX9_cellsBarred_29 : decode cX9_cellsBarred 29 = .ok (.iload_n 1, 1) := by decide +kernel
theorem dX9_cellsBarred_30 : decode cX9_cellsBarred 30 = .ok (.iaload, 1) := by decide +kernel
theorem dX9_cellsBarred_31 : decode cX9_cellsBarred 31 = .ok (.ifCond .ge 9, 3) := by decide +kernel
theorem dX9_cellsBarred_34 : decode cX9_cellsBarred 34 = .ok (.aload_n 0, 1) := by decide +kernel
theorem dX9_cellsBarred_35 : decode cX9_cellsBarred 35 = .ok (.iconst 1, 1) := by decide +kernel
theorem dX9_cellsBarred_36 : decode cX9_cellsBarred 36 = .ok (.invokevirtual 116, 3) := by decide +kernel
theorem dX9_cellsBarred_39 : decode cX9_cellsBarred 39 = .ok (.ireturn, 1) := by decide +kernel
theorem dX9_cellsBarred_40 : decode cX9_cellsBarred 40 = .ok (.lload 4, 2) := by decide +kernel
theorem dX9_cellsBarred_42 : decode cX9_cellsBarred 42 = .ok (.lconst 0, 1) := by decide +kernel
theorem dX9_cellsBarred_43 : decode cX9_cellsBarred 43 = .ok (.lcmp, 1) := by decide +kernel
theorem dX9_cellsBarred_44 : decode cX9_cellsBarred 44 = .ok (.ifCond .ge 9, 3) := by decide +kernel
theorem dX9_cellsBarred_47 : decode cX9_cellsBarred 47 = .ok (.aload_n 0, 1) := by decide +kernel
theorem dX9_cellsBarred_48 : decode cX9_cellsBarred 48 = .ok (.iconst 4, 1) := by decide +kernel
theorem dX9_cellsBarred_49 : decode cX9_cellsBarred 49 = .ok (.invokevirtual 116, 3) := by decide +kernel
theorem dX9_cellsBarred_52 : decode cX9_cellsBarred 52 = .ok (.ireturn, 1) := by decide +kernel
theorem dX9_cellsBarred_53 : decode cX9_cellsBarred 53 = .ok (.iload_n 3, 1) := by decide +kernel
theorem dX9_cellsBarred_54 : decode cX9_cellsBarred 54 = .ok (.lload 4, 2) := by decide +kernel
theorem dX9_cellsBarred_56 : decode cX9_cellsBarred 56 = .ok (.aload_n 0, 1) := by decide +kernel
theorem dX9_cellsBarred_57 : decode cX9_cellsBarred 57 = .ok (.getfield 52, 3) := by decide +kernel
theorem dX9_cellsBarred_60 : decode cX9_cellsBarred 60 = .ok (.iload_n 1, 1) := by decide +kernel
theorem dX9_cellsBarred_61 : decode cX9_cellsBarred 61 = .ok (.iaload, 1) := by decide +kernel
theorem dX9_cellsBarred_62 : decode cX9_cellsBarred 62 = .ok (.invokestatic 120, 3) := by decide +kernel
theorem dX9_cellsBarred_65 : decode cX9_cellsBarred 65 = .ok (.ifCond .eq 11, 3) := by decide +kernel
theorem dX9_cellsBarred_68 : decode cX9_cellsBarred 68 = .ok (.aload_n 0, 1) := by decide +kernel
theorem dX9_cellsBarred_69 : decode cX9_cellsBarred 69 = .ok (.iconst 3, 1) := by decide +kernel
theorem dX9_cellsBarred_70 : decode cX9_cellsBarred 70 = .ok (.invokevirtual 116, 3) := by decide +kernel
theorem dX9_cellsBarred_73 : decode cX9_cellsBarred 73 = .ok (.goto 4, 3) := by decide +kernel
theorem dX9_cellsBarred_76 : decode cX9_cellsBarred 76 = .ok (.iconst 0, 1) := by decide +kernel
theorem dX9_cellsBarred_77 : decode cX9_cellsBarred 77 = .ok (.ireturn, 1) := by decide +kernel
theorem dX9_hall_0 : decode cX9_hall 0 = .ok (.iload_n 1, 1) := by decide +kernel
theorem dX9_hall_1 : decode cX9_hall 1 = .ok (.invokestatic 124, 3) := by decide +kernel
theorem dX9_hall_4 : decode cX9_hall 4 = .ok (.ifCond .eq 9, 3) := by decide +kernel
theorem dX9_hall_7 : decode cX9_hall 7 = .ok (.aload_n 0, 1) := by decide +kernel
theorem dX9_hall_8 : decode cX9_hall 8 = .ok (.iconst (-1), 1) := by decide +kernel
theorem dX9_hall_9 : decode cX9_hall 9 = .ok (.invokevirtual 128, 3) := by decide +kernel
theorem dX9_hall_12 : decode cX9_hall 12 = .ok (.ireturn, 1) := by decide +kernel
theorem dX9_hall_13 : decode cX9_hall 13 = .ok (.iload_n 2, 1) := by decide +kernel
theorem dX9_hall_14 : decode cX9_hall 14 = .ok (.i2l, 1) := by decide +kernel
theorem dX9_hall_15 : decode cX9_hall 15 = .ok (.lconst 0, 1) := by decide +kernel
theorem dX9_hall_16 : decode cX9_hall 16 = .ok (.ldc2_w 131, 3) := by decide +kernel
theorem dX9_hall_19 : decode cX9_hall 19 = .ok (.invokestatic 80, 3) := by decide +kernel
theorem dX9_hall_22 : decode cX9_hall 22 = .ok (.ifCond .ne 10, 3) := by decide +kernel
theorem dX9_hall_25 : decode cX9_hall 25 = .ok (.aload_n 0, 1) := by decide +kernel
theorem dX9_hall_26 : decode cX9_hall 26 = .ok (.bipush (-2), 2) := by decide +kernel
theorem dX9_hall_28 : decode cX9_hall 28 = .ok (.invokevirtual 128, 3) := by decide +kernel
theorem dX9_hall_31 : decode cX9_hall 31 = .ok (.ireturn, 1) := by decide +kernel
theorem dX9_hall_32 : decode cX9_hall 32 = .ok (.aload_n 0, 1) := by decide +kernel
theorem dX9_hall_33 : decode cX9_hall 33 = .ok (.iload_n 1, 1) := by decide +kernel
theorem dX9_hall_34 : decode cX9_hall 34 = .ok (.iload_n 2, 1) := by decide +kernel
theorem dX9_hall_35 : decode cX9_hall 35 = .ok (.iload_n 3, 1) := by decide +kernel
theorem dX9_hall_36 : decode cX9_hall 36 = .ok (.iload 4, 2) := by decide +kernel
theorem dX9_hall_38 : decode cX9_hall 38 = .ok (.i2l, 1) := by decide +kernel
theorem dX9_hall_39 : decode cX9_hall 39 = .ok (.invokevirtual 133, 3) := by decide +kernel
theorem dX9_hall_42 : decode cX9_hall 42 = .ok (.istore 5, 2) := by decide +kernel
theorem dX9_hall_44 : decode cX9_hall 44 = .ok (.iload 5, 2) := by decide +kernel
theorem dX9_hall_46 : decode cX9_hall 46 = .ok (.ifCond .ge 6, 3) := by decide +kernel
theorem dX9_hall_49 : decode cX9_hall 49 = .ok (.iload 5, 2) := by decide +kernel
theorem dX9_hall_51 : decode cX9_hall 51 = .ok (.ireturn, 1) := by decide +kernel
theorem dX9_hall_52 : decode cX9_hall 52 = .ok (.aload_n 0, 1) := by decide +kernel
theorem dX9_hall_53 : decode cX9_hall 53 = .ok (.bipush 60, 2) := by decide +kernel
theorem dX9_hall_55 : decode cX9_hall 55 = .ok (.iload_n 1, 1) := by decide +kernel
theorem dX9_hall_56 : decode cX9_hall 56 = .ok (.imul, 1) := by decide +kernel
theorem dX9_hall_57 : decode cX9_hall 57 = .ok (.iload_n 3, 1) := by decide +kernel
theorem dX9_hall_58 : decode cX9_hall 58 = .ok (.iadd, 1) := by decide +kernel
theorem dX9_hall_59 : decode cX9_hall 59 = .ok (.iload 4, 2) := by decide +kernel
theorem dX9_hall_61 : decode cX9_hall 61 = .ok (.invokevirtual 137, 3) := by decide +kernel
theorem dX9_hall_64 : decode cX9_hall 64 = .ok (.ifCond .ne 15, 3) := by decide +kernel
theorem dX9_hall_67 : decode cX9_hall 67 = .ok (.aload_n 0, 1) := by decide +kernel
theorem dX9_hall_68 : decode cX9_hall 68 = .ok (.bipush (-100), 2) := by decide +kernel
theorem dX9_hall_70 : decode cX9_hall 70 = .ok (.aload_n 0, 1) := by decide +kernel
theorem dX9_hall_71 : decode cX9_hall 71 = .ok (.getfield 89, 3) := by decide +kernel
theorem dX9_hall_74 : decode cX9_hall 74 = .ok (.isub, 1) := by decide +kernel
theorem dX9_hall_75 : decode cX9_hall 75 = .ok (.invokevirtual 128, 3) := by decide +kernel
theorem dX9_hall_78 : decode cX9_hall 78 = .ok (.ireturn, 1) := by decide +kernel
theorem dX9_hall_79 : decode cX9_hall 79 = .ok (.aload_n 0, 1) := by decide +kernel
theorem dX9_hall_80 : decode cX9_hall 80 = .ok (.aload_n 0, 1) := by decide +kernel
theorem dX9_hall_81 : decode cX9_hall 81 = .ok (.getfield 99, 3) := by decide +kernel
theorem dX9_hall_84 : decode cX9_hall 84 = .ok (.putfield 74, 3) := by decide +kernel
theorem dX9_hall_87 : decode cX9_hall 87 = .ok (.aload_n 0, 1) := by decide +kernel
theorem dX9_hall_88 : decode cX9_hall 88 = .ok (.aload_n 0, 1) := by decide +kernel
theorem dX9_hall_89 : decode cX9_hall 89 = .ok (.getfield 102, 3) := by decide +kernel
theorem dX9_hall_92 : decode cX9_hall 92 = .ok (.putfield 77, 3) := by decide +kernel
theorem dX9_hall_95 : decode cX9_hall 95 = .ok (.aload_n 0, 1) := by decide +kernel
theorem dX9_hall_96 : decode cX9_hall 96 = .ok (.aload_n 0, 1) := by decide +kernel
theorem dX9_hall_97 : decode cX9_hall 97 = .ok (.getfield 96, 3) := by decide +kernel
theorem dX9_hall_100 : decode cX9_hall 100 = .ok (.putfield 84, 3) := by decide +kernel
theorem dX9_hall_103 : decode cX9_hall 103 = .ok (.iconst 0, 1) := by decide +kernel
theorem dX9_hall_104 : decode cX9_hall 104 = .ok (.istore 6, 2) := by decide +kernel
theorem dX9_hall_106 : decode cX9_hall 106 = .ok (.iload 6, 2) := by decide +kernel
theorem dX9_hall_108 : decode cX9_hall 108 = .ok (.aload_n 0, 1) := by decide +kernel
theorem dX9_hall_109 : decode cX9_hall 109 = .ok (.getfield 84, 3) := by decide +kernel
theorem dX9_hall_112 : decode cX9_hall 112 = .ok (.if_icmp .ge 46, 3) := by decide +kernel
theorem dX9_hall_115 : decode cX9_hall 115 = .ok (.aload_n 0, 1) := by decide +kernel
theorem dX9_hall_116 : decode cX9_hall 116 = .ok (.getfield 7, 3) := by decide +kernel
theorem dX9_hall_119 : decode cX9_hall 119 = .ok (.iload 6, 2) := by decide +kernel
theorem dX9_hall_121 : decode cX9_hall 121 = .ok (.aload_n 0, 1) := by decide +kernel
theorem dX9_hall_122 : decode cX9_hall 122 = .ok (.getfield 22, 3) := by decide +kernel
theorem dX9_hall_125 : decode cX9_hall 125 = .ok (.iload 6, 2) := by decide +kernel
theorem dX9_hall_127 : decode cX9_hall 127 = .ok (.iaload, 1) := by decide +kernel
theorem dX9_hall_128 : decode cX9_hall 128 = .ok (.iastore, 1) := by decide +kernel
theorem dX9_hall_129 : decode cX9_hall 129 = .ok (.aload_n 0, 1) := by decide +kernel
theorem dX9_hall_130 : decode cX9_hall 130 = .ok (.getfield 13, 3) := by decide +kernel
theorem dX9_hall_133 : decode cX9_hall 133 = .ok (.iload 6, 2) := by decide +kernel
theorem dX9_hall_135 : decode cX9_hall 135 = .ok (.aload_n 0, 1) := by decide +kernel
theorem dX9_hall_136 : decode cX9_hall 136 = .ok (.getfield 25, 3) := by decide +kernel
theorem dX9_hall_139 : decode cX9_hall 139 = .ok (.iload 6, 2) := by decide +kernel
theorem dX9_hall_141 : decode cX9_hall 141 = .ok (.iaload, 1) := by decide +kernel
theorem dX9_hall_142 : decode cX9_hall 142 = .ok (.iastore, 1) := by decide +kernel
theorem dX9_hall_143 : decode cX9_hall 143 = .ok (.aload_n 0, 1) := by decide +kernel
theorem dX9_hall_144 : decode cX9_hall 144 = .ok (.getfield 16, 3) := by decide +kernel
theorem dX9_hall_147 : decode cX9_hall 147 = .ok (.iload 6, 2) := by decide +kernel
theorem dX9_hall_149 : decode cX9_hall 149 = .ok (.iload 6, 2) := by decide +kernel
theorem dX9_hall_151 : decode cX9_hall 151 = .ok (.iastore, 1) := by decide +kernel
theorem dX9_hall_152 : decode cX9_hall 152 = .ok (.iinc 6 1, 3) := by decide +kernel
theorem dX9_hall_155 : decode cX9_hall 155 = .ok (.goto (-49), 3) := by decide +kernel
theorem dX9_hall_158 : decode cX9_hall 158 = .ok (.iconst 0, 1) := by decide +kernel
theorem dX9_hall_159 : decode cX9_hall 159 = .ok (.istore 6, 2) := by decide +kernel
theorem dX9_hall_161 : decode cX9_hall 161 = .ok (.iload 6, 2) := by decide +kernel
theorem dX9_hall_163 : decode cX9_hall 163 = .ok (.bipush 24, 2) := by decide +kernel
theorem dX9_hall_165 : decode cX9_hall 165 = .ok (.if_icmp .ge 17, 3) := by decide +kernel
theorem dX9_hall_168 : decode cX9_hall 168 = .ok (.aload_n 0, 1) := by decide +kernel
theorem dX9_hall_169 : decode cX9_hall 169 = .ok (.getfield 19, 3) := by decide +kernel
theorem dX9_hall_172 : decode cX9_hall 172 = .ok (.iload 6, 2) := by decide +kernel
theorem dX9_hall_174 : decode cX9_hall 174 = .ok (.iconst 0, 1) := by decide +kernel
theorem dX9_hall_175 : decode cX9_hall 175 = .ok (.iastore, 1) := by decide +kernel
theorem dX9_hall_176 : decode cX9_hall 176 = .ok (.iinc 6 1, 3) := by decide +kernel
theorem dX9_hall_179 : decode cX9_hall 179 = .ok (.goto (-18), 3) := by decide +kernel
theorem dX9_hall_182 : decode cX9_hall 182 = .ok (.aload_n 0, 1) := by decide +kernel
theorem dX9_hall_183 : decode cX9_hall 183 = .ok (.iconst 0, 1) := by decide +kernel
theorem dX9_hall_184 : decode cX9_hall 184 = .ok (.putfield 140, 3) := by decide +kernel
theorem dX9_hall_187 : decode cX9_hall 187 = .ok (.aload_n 0, 1) := by decide +kernel
theorem dX9_hall_188 : decode cX9_hall 188 = .ok (.iconst 0, 1) := by decide +kernel
theorem dX9_hall_189 : decode cX9_hall 189 = .ok (.putfield 143, 3) := by decide +kernel
theorem dX9_hall_192 : decode cX9_hall 192 = .ok (.aload_n 0, 1) := by decide +kernel
theorem dX9_hall_193 : decode cX9_hall 193 = .ok (.aload_n 0, 1) := by decide +kernel
theorem dX9_hall_194 : decode cX9_hall 194 = .ok (.getfield 84, 3) := by decide +kernel
theorem dX9_hall_197 : decode cX9_hall 197 = .ok (.invokevirtual 128, 3) := by decide +kernel
theorem dX9_hall_200 : decode cX9_hall 200 = .ok (.ireturn, 1) := by decide +kernel
theorem dX9_ofBuyer_0 : decode cX9_ofBuyer 0 = .ok (.aload_n 0, 1) := by decide +kernel
theorem dX9_ofBuyer_1 : decode cX9_ofBuyer 1 = .ok (.iload_n 1, 1) := by decide +kernel
theorem dX9_ofBuyer_2 : decode cX9_ofBuyer 2 = .ok (.invokevirtual 146, 3) := by decide +kernel
theorem dX9_ofBuyer_5 : decode cX9_ofBuyer 5 = .ok (.ifCond .eq 5, 3) := by decide +kernel
theorem dX9_ofBuyer_8 : decode cX9_ofBuyer 8 = .ok (.iconst (-1), 1) := by decide +kernel
theorem dX9_ofBuyer_9 : decode cX9_ofBuyer 9 = .ok (.ireturn, 1) := by decide +kernel
theorem dX9_ofBuyer_10 : decode cX9_ofBuyer 10 = .ok (.iload_n 2, 1) := by decide +kernel
theorem dX9_ofBuyer_11 : decode cX9_ofBuyer 11 = .ok (.tableswitch 76 0 3 #[29, 36, 43, 50], 29) := by decide +kernel
theorem dX9_ofBuyer_40 : decode cX9_ofBuyer 40 = .ok (.aload_n 0, 1) := by decide +kernel
theorem dX9_ofBuyer_41 : decode cX9_ofBuyer 41 = .ok (.getfield 7, 3) := by decide +kernel
theorem dX9_ofBuyer_44 : decode cX9_ofBuyer 44 = .ok (.iload_n 1, 1) := by decide +kernel
theorem dX9_ofBuyer_45 : decode cX9_ofBuyer 45 = .ok (.iaload, 1) := by decide +kernel
theorem dX9_ofBuyer_46 : decode cX9_ofBuyer 46 = .ok (.ireturn, 1) := by decide +kernel
theorem dX9_ofBuyer_47 : decode cX9_ofBuyer 47 = .ok (.aload_n 0, 1) := by decide +kernel
theorem dX9_ofBuyer_48 : decode cX9_ofBuyer 48 = .ok (.getfield 16, 3) := by decide +kernel
theorem dX9_ofBuyer_51 : decode cX9_ofBuyer 51 = .ok (.iload_n 1, 1) := by decide +kernel
theorem dX9_ofBuyer_52 : decode cX9_ofBuyer 52 = .ok (.iaload, 1) := by decide +kernel
theorem dX9_ofBuyer_53 : decode cX9_ofBuyer 53 = .ok (.ireturn, 1) := by decide +kernel
theorem dX9_ofBuyer_54 : decode cX9_ofBuyer 54 = .ok (.aload_n 0, 1) := by decide +kernel
theorem dX9_ofBuyer_55 : decode cX9_ofBuyer 55 = .ok (.getfield 13, 3) := by decide +kernel
theorem dX9_ofBuyer_58 : decode cX9_ofBuyer 58 = .ok (.iload_n 1, 1) := by decide +kernel
theorem dX9_ofBuyer_59 : decode cX9_ofBuyer 59 = .ok (.iaload, 1) := by decide +kernel
theorem dX9_ofBuyer_60 : decode cX9_ofBuyer 60 = .ok (.ireturn, 1) := by decide +kernel
theorem dX9_ofBuyer_61 : decode cX9_ofBuyer 61 = .ok (.aload_n 0, 1) := by decide +kernel
theorem dX9_ofBuyer_62 : decode cX9_ofBuyer 62 = .ok (.iconst 1, 1) := by decide +kernel
theorem dX9_ofBuyer_63 : decode cX9_ofBuyer 63 = .ok (.aload_n 0, 1) := by decide +kernel
theorem dX9_ofBuyer_64 : decode cX9_ofBuyer 64 = .ok (.getfield 84, 3) := by decide +kernel
theorem dX9_ofBuyer_67 : decode cX9_ofBuyer 67 = .ok (.ishl, 1) := by decide +kernel
theorem dX9_ofBuyer_68 : decode cX9_ofBuyer 68 = .ok (.iconst 1, 1) := by decide +kernel
theorem dX9_ofBuyer_69 : decode cX9_ofBuyer 69 = .ok (.isub, 1) := by decide +kernel
theorem dX9_ofBuyer_70 : decode cX9_ofBuyer 70 = .ok (.invokevirtual 149, 3) := by decide +kernel
theorem dX9_ofBuyer_73 : decode cX9_ofBuyer 73 = .ok (.aload_n 0, 1) := by decide +kernel
theorem dX9_ofBuyer_74 : decode cX9_ofBuyer 74 = .ok (.iload_n 1, 1) := by decide +kernel
theorem dX9_ofBuyer_75 : decode cX9_ofBuyer 75 = .ok (.invokevirtual 153, 3) := by decide +kernel
theorem dX9_ofBuyer_78 : decode cX9_ofBuyer 78 = .ok (.ifCond .eq 7, 3) := by decide +kernel
theorem dX9_ofBuyer_81 : decode cX9_ofBuyer 81 = .ok (.iconst 1, 1) := by decide +kernel
theorem dX9_ofBuyer_82 : decode cX9_ofBuyer 82 = .ok (.goto 4, 3) := by decide +kernel
theorem dX9_ofBuyer_85 : decode cX9_ofBuyer 85 = .ok (.iconst 0, 1) := by decide +kernel
theorem dX9_ofBuyer_86 : decode cX9_ofBuyer 86 = .ok (.ireturn, 1) := by decide +kernel
theorem dX9_ofBuyer_87 : decode cX9_ofBuyer 87 = .ok (.bipush (-2), 2) := by decide +kernel
theorem dX9_ofBuyer_89 : decode cX9_ofBuyer 89 = .ok (.ireturn, 1) := by decide +kernel
theorem dX9_worth_0 : decode cX9_worth 0 = .ok (.aload_n 0, 1) := by decide +kernel
theorem dX9_worth_1 : decode cX9_worth 1 = .ok (.iload_n 1, 1) := by decide +kernel
theorem dX9_worth_2 : decode cX9_worth 2 = .ok (.invokevirtual 146, 3) := by decide +kernel
theorem dX9_worth_5 : decode cX9_worth 5 = .ok (.ifCond .ne 10, 3) := by decide +kernel
theorem dX9_worth_8 : decode cX9_worth 8 = .ok (.iload_n 2, 1) := by decide +kernel
theorem dX9_worth_9 : decode cX9_worth 9 = .ok (.invokestatic 156, 3) := by decide +kernel
theorem dX9_worth_12 : decode cX9_worth 12 = .ok (.ifCond .eq 5, 3) := by decide +kernel
theorem dX9_worth_15 : decode cX9_worth 15 = .ok (.iconst (-1), 1) := by decide +kernel
theorem dX9_worth_16 : decode cX9_worth 16 = .ok (.ireturn, 1) := by decide +kernel
theorem dX9_worth_17 : decode cX9_worth 17 = .ok (.iload_n 3, 1) := by decide +kernel
theorem dX9_worth_18 : decode cX9_worth 18 = .ok (.i2l, 1) := by decide +kernel
theorem dX9_worth_19 : decode cX9_worth 19 = .ok (.lconst 0, 1) := by decide +kernel
theorem dX9_worth_20 : decode cX9_worth 20 = .ok (.ldc2_w 159, 3) := by decide +kernel
theorem dX9_worth_23 : decode cX9_worth 23 = .ok (.invokestatic 80, 3) := by decide +kernel
theorem dX9_worth_26 : decode cX9_worth 26 = .ok (.ifCond .ne 6, 3) := by decide +kernel
theorem dX9_worth_29 : decode cX9_worth 29 = .ok (.bipush (-2), 2) := by decide +kernel
theorem dX9_worth_31 : decode cX9_worth 31 = .ok (.ireturn, 1) := by decide +kernel
theorem dX9_worth_32 : decode cX9_worth 32 = .ok (.aload_n 0, 1) := by decide +kernel
theorem dX9_worth_33 : decode cX9_worth 33 = .ok (.getfield 19, 3) := by decide +kernel
theorem dX9_worth_36 : decode cX9_worth 36 = .ok (.iconst 4, 1) := by decide +kernel
theorem dX9_worth_37 : decode cX9_worth 37 = .ok (.iload_n 1, 1) := by decide +kernel
theorem dX9_worth_38 : decode cX9_worth 38 = .ok (.imul, 1) := by decide +kernel
theorem dX9_worth_39 : decode cX9_worth 39 = .ok (.iload_n 2, 1) := by decide +kernel
theorem dX9_worth_40 : decode cX9_worth 40 = .ok (.iadd, 1) := by decide +kernel
theorem dX9_worth_41 : decode cX9_worth 41 = .ok (.iaload, 1) := by decide +kernel
theorem dX9_worth_42 : decode cX9_worth 42 = .ok (.istore 4, 2) := by decide +kernel
theorem dX9_worth_44 : decode cX9_worth 44 = .ok (.aload_n 0, 1) := by decide +kernel
theorem dX9_worth_45 : decode cX9_worth 45 = .ok (.getfield 19, 3) := by decide +kernel
theorem dX9_worth_48 : decode cX9_worth 48 = .ok (.iconst 4, 1) := by decide +kernel
theorem dX9_worth_49 : decode cX9_worth 49 = .ok (.iload_n 1, 1) := by decide +kernel
theorem dX9_worth_50 : decode cX9_worth 50 = .ok (.imul, 1) := by decide +kernel
theorem dX9_worth_51 : decode cX9_worth 51 = .ok (.iload_n 2, 1) := by decide +kernel
theorem dX9_worth_52 : decode cX9_worth 52 = .ok (.iadd, 1) := by decide +kernel
theorem dX9_worth_53 : decode cX9_worth 53 = .ok (.iload_n 3, 1) := by decide +kernel
theorem dX9_worth_54 : decode cX9_worth 54 = .ok (.iastore, 1) := by decide +kernel
theorem dX9_worth_55 : decode cX9_worth 55 = .ok (.iload 4, 2) := by decide +kernel
theorem dX9_worth_57 : decode cX9_worth 57 = .ok (.ireturn, 1) := by decide +kernel
theorem dX9_limitOf_0 : decode cX9_limitOf 0 = .ok (.aload_n 0, 1) := by decide +kernel
theorem dX9_limitOf_1 : decode cX9_limitOf 1 = .ok (.getfield 19, 3) := by decide +kernel
theorem dX9_limitOf_4 : decode cX9_limitOf 4 = .ok (.iconst 4, 1) := by decide +kernel
theorem dX9_limitOf_5 : decode cX9_limitOf 5 = .ok (.iload_n 1, 1) := by decide +kernel
theorem dX9_limitOf_6 : decode cX9_limitOf 6 = .ok (.imul, 1) := by decide +kernel
theorem dX9_limitOf_7 : decode cX9_limitOf 7 = .ok (.iload_n 2, 1) := by decide +kernel
theorem dX9_limitOf_8 : decode cX9_limitOf 8 = .ok (.iadd, 1) := by decide +kernel
theorem dX9_limitOf_9 : decode cX9_limitOf 9 = .ok (.iaload, 1) := by decide +kernel
theorem dX9_limitOf_10 : decode cX9_limitOf 10 = .ok (.aload_n 0, 1) := by decide +kernel
theorem dX9_limitOf_11 : decode cX9_limitOf 11 = .ok (.getfield 13, 3) := by decide +kernel
theorem dX9_limitOf_14 : decode cX9_limitOf 14 = .ok (.iload_n 1, 1) := by decide +kernel
theorem dX9_limitOf_15 : decode cX9_limitOf 15 = .ok (.iaload, 1) := by decide +kernel
theorem dX9_limitOf_16 : decode cX9_limitOf 16 = .ok (.invokestatic 105, 3) := by decide +kernel
theorem dX9_limitOf_19 : decode cX9_limitOf 19 = .ok (.istore_n 3, 1) := by decide +kernel
theorem dX9_limitOf_20 : decode cX9_limitOf 20 = .ok (.aload_n 0, 1) := by decide +kernel
theorem dX9_limitOf_21 : decode cX9_limitOf 21 = .ok (.getfield 7, 3) := by decide +kernel
theorem dX9_limitOf_24 : decode cX9_limitOf 24 = .ok (.iload_n 1, 1) := by decide +kernel
theorem dX9_limitOf_25 : decode cX9_limitOf 25 = .ok (.iaload, 1) := by decide +kernel
theorem dX9_limitOf_26 : decode cX9_limitOf 26 = .ok (.iconst 2, 1) := by decide +kernel
theorem dX9_limitOf_27 : decode cX9_limitOf 27 = .ok (.if_icmp .ge 7, 3) := by decide +kernel
theorem dX9_limitOf_30 : decode cX9_limitOf 30 = .ok (.iload_n 3, 1) := by decide +kernel
theorem dX9_limitOf_31 : decode cX9_limitOf 31 = .ok (.goto 15, 3) := by decide +kernel
theorem dX9_limitOf_34 : decode cX9_limitOf 34 = .ok (.iload_n 3, 1) := by decide +kernel
theorem dX9_limitOf_35 : decode cX9_limitOf 35 = .ok (.iconst 2, 1) := by decide +kernel
theorem dX9_limitOf_36 : decode cX9_limitOf 36 = .ok (.if_icmp .ge 7, 3) := by decide +kernel
theorem dX9_limitOf_39 : decode cX9_limitOf 39 = .ok (.iconst 0, 1) := by decide +kernel
theorem dX9_limitOf_40 : decode cX9_limitOf 40 = .ok (.goto 6, 3) := by decide +kernel
theorem dX9_limitOf_43 : decode cX9_limitOf 43 = .ok (.iload_n 3, 1) := by decide +kernel
theorem dX9_limitOf_44 : decode cX9_limitOf 44 = .ok (.iconst 2, 1) := by decide +kernel
theorem dX9_limitOf_45 : decode cX9_limitOf 45 = .ok (.isub, 1) := by decide +kernel
theorem dX9_limitOf_46 : decode cX9_limitOf 46 = .ok (.ireturn, 1) := by decide +kernel
theorem dX9_limit_0 : decode cX9_limit 0 = .ok (.aload_n 0, 1) := by decide +kernel
theorem dX9_limit_1 : decode cX9_limit 1 = .ok (.iload_n 1, 1) := by decide +kernel
theorem dX9_limit_2 : decode cX9_limit 2 = .ok (.invokevirtual 146, 3) := by decide +kernel
theorem dX9_limit_5 : decode cX9_limit 5 = .ok (.ifCond .ne 10, 3) := by decide +kernel
theorem dX9_limit_8 : decode cX9_limit 8 = .ok (.iload_n 2, 1) := by decide +kernel
theorem dX9_limit_9 : decode cX9_limit 9 = .ok (.invokestatic 156, 3) := by decide +kernel
theorem dX9_limit_12 : decode cX9_limit 12 = .ok (.ifCond .eq 7, 3) := by decide +kernel
theorem dX9_limit_15 : decode cX9_limit 15 = .ok (.iconst (-1), 1) := by decide +kernel
theorem dX9_limit_16 : decode cX9_limit 16 = .ok (.goto 9, 3) := by decide +kernel
theorem dX9_limit_19 : decode cX9_limit 19 = .ok (.aload_n 0, 1) := by decide +kernel
theorem dX9_limit_20 : decode cX9_limit 20 = .ok (.iload_n 1, 1) := by decide +kernel
theorem dX9_limit_21 : decode cX9_limit 21 = .ok (.iload_n 2, 1) := by decide +kernel
theorem dX9_limit_22 : decode cX9_limit 22 = .ok (.invokevirtual 161, 3) := by decide +kernel
theorem dX9_limit_25 : decode cX9_limit 25 = .ok (.ireturn, 1) := by decide +kernel
theorem dX9_sitterIn_0 : decode cX9_sitterIn 0 = .ok (.iconst 0, 1) := by decide +kernel
theorem dX9_sitterIn_1 : decode cX9_sitterIn 1 = .ok (.istore_n 2, 1) := by decide +kernel
theorem dX9_sitterIn_2 : decode cX9_sitterIn 2 = .ok (.iload_n 2, 1) := by decide +kernel
theorem dX9_sitterIn_3 : decode cX9_sitterIn 3 = .ok (.aload_n 0, 1) := by decide +kernel
theorem dX9_sitterIn_4 : decode cX9_sitterIn 4 = .ok (.getfield 84, 3) := by decide +kernel
theorem dX9_sitterIn_7 : decode cX9_sitterIn 7 = .ok (.if_icmp .ge 21, 3) := by decide +kernel
theorem dX9_sitterIn_10 : decode cX9_sitterIn 10 = .ok (.aload_n 0, 1) := by decide +kernel
theorem dX9_sitterIn_11 : decode cX9_sitterIn 11 = .ok (.getfield 16, 3) := by decide +kernel
theorem dX9_sitterIn_14 : decode cX9_sitterIn 14 = .ok (.iload_n 2, 1) := by decide +kernel
theorem dX9_sitterIn_15 : decode cX9_sitterIn 15 = .ok (.iaload, 1) := by decide +kernel
theorem dX9_sitterIn_16 : decode cX9_sitterIn 16 = .ok (.iload_n 1, 1) := by decide +kernel
theorem dX9_sitterIn_17 : decode cX9_sitterIn 17 = .ok (.if_icmp .ne 5, 3) := by decide +kernel
theorem dX9_sitterIn_20 : decode cX9_sitterIn 20 = .ok (.iload_n 2, 1) := by decide +kernel
theorem dX9_sitterIn_21 : decode cX9_sitterIn 21 = .ok (.ireturn, 1) := by decide +kernel
theorem dX9_sitterIn_22 : decode cX9_sitterIn 22 = .ok (.iinc 2 1, 3) := by decide +kernel
theorem dX9_sitterIn_25 : decode cX9_sitterIn 25 = .ok (.goto (-23), 3) := by decide +kernel
theorem dX9_sitterIn_28 : decode cX9_sitterIn 28 = .ok (.bipush (-9), 2) := by decide +kernel
theorem dX9_sitterIn_30 : decode cX9_sitterIn 30 = .ok (.ireturn, 1) := by decide +kernel
theorem dX9_sit_0 : decode cX9_sit 0 = .ok (.aload_n 0, 1) := by decide +kernel
theorem dX9_sit_1 : decode cX9_sit 1 = .ok (.iload_n 1, 1) := by decide +kernel
theorem dX9_sit_2 : decode cX9_sit 2 = .ok (.invokevirtual 146, 3) := by decide +kernel
theorem dX9_sit_5 : decode cX9_sit 5 = .ok (.ifCond .ne 11, 3) := by decide +kernel
theorem dX9_sit_8 : decode cX9_sit 8 = .ok (.aload_n 0, 1) := by decide +kernel
theorem dX9_sit_9 : decode cX9_sit 9 = .ok (.iload_n 2, 1) := by decide +kernel
theorem dX9_sit_10 : decode cX9_sit 10 = .ok (.invokevirtual 164, 3) := by decide +kernel
theorem dX9_sit_13 : decode cX9_sit 13 = .ok (.ifCond .eq 5, 3) := by decide +kernel
theorem dX9_sit_16 : decode cX9_sit 16 = .ok (.iconst (-1), 1) := by decide +kernel
theorem dX9_sit_17 : decode cX9_sit 17 = .ok (.ireturn, 1) := by decide +kernel
theorem dX9_sit_18 : decode cX9_sit 18 = .ok (.aload_n 0, 1) := by decide +kernel
theorem dX9_sit_19 : decode cX9_sit 19 = .ok (.iload_n 2, 1) := by decide +kernel
theorem dX9_sit_20 : decode cX9_sit 20 = .ok (.invokevirtual 167, 3) := by decide +kernel
theorem dX9_sit_23 : decode cX9_sit 23 = .ok (.istore_n 3, 1) := by decide +kernel
theorem dX9_sit_24 : decode cX9_sit 24 = .ok (.iload_n 3, 1) := by decide +kernel
theorem dX9_sit_25 : decode cX9_sit 25 = .ok (.ifCond .lt 11, 3) := by decide +kernel
theorem dX9_sit_28 : decode cX9_sit 28 = .ok (.iload_n 3, 1) := by decide +kernel
theorem dX9_sit_29 : decode cX9_sit 29 = .ok (.iload_n 1, 1) := by decide +kernel
theorem dX9_sit_30 : decode cX9_sit 30 = .ok (.if_icmp .eq 6, 3) := by decide +kernel
theorem dX9_sit_33 : decode cX9_sit 33 = .ok (.bipush (-3), 2) := by decide +kernel
theorem dX9_sit_35 : decode cX9_sit 35 = .ok (.ireturn, 1) := by decide +kernel
theorem dX9_sit_36 : decode cX9_sit 36 = .ok (.aload_n 0, 1) := by decide +kernel
theorem dX9_sit_37 : decode cX9_sit 37 = .ok (.getfield 16, 3) := by decide +kernel
theorem dX9_sit_40 : decode cX9_sit 40 = .ok (.iload_n 1, 1) := by decide +kernel
theorem dX9_sit_41 : decode cX9_sit 41 = .ok (.iaload, 1) := by decide +kernel
theorem dX9_sit_42 : decode cX9_sit 42 = .ok (.istore 4, 2) := by decide +kernel
theorem dX9_sit_44 : decode cX9_sit 44 = .ok (.aload_n 0, 1) := by decide +kernel
theorem dX9_sit_45 : decode cX9_sit 45 = .ok (.getfield 16, 3) := by decide +kernel
theorem dX9_sit_48 : decode cX9_sit 48 = .ok (.iload_n 1, 1) := by decide +kernel
theorem dX9_sit_49 : decode cX9_sit 49 = .ok (.iload_n 2, 1) := by decide +kernel
theorem dX9_sit_50 : decode cX9_sit 50 = .ok (.iastore, 1) := by decide +kernel
theorem dX9_sit_51 : decode cX9_sit 51 = .ok (.iload 4, 2) := by decide +kernel
theorem dX9_sit_53 : decode cX9_sit 53 = .ok (.ireturn, 1) := by decide +kernel
theorem dX9_law_0 : decode cX9_law 0 = .ok (.iload_n 1, 1) := by decide +kernel
theorem dX9_law_1 : decode cX9_law 1 = .ok (.i2l, 1) := by decide +kernel
theorem dX9_law_2 : decode cX9_law 2 = .ok (.lconst 0, 1) := by decide +kernel
theorem dX9_law_3 : decode cX9_law 3 = .ok (.ldc2_w 131, 3) := by decide +kernel
theorem dX9_law_6 : decode cX9_law 6 = .ok (.invokestatic 80, 3) := by decide +kernel
theorem dX9_law_9 : decode cX9_law 9 = .ok (.ifCond .ne 6, 3) := by decide +kernel
theorem dX9_law_12 : decode cX9_law 12 = .ok (.bipush (-2), 2) := by decide +kernel
theorem dX9_law_14 : decode cX9_law 14 = .ok (.ireturn, 1) := by decide +kernel
theorem dX9_law_15 : decode cX9_law 15 = .ok (.aload_n 0, 1) := by decide +kernel
theorem dX9_law_16 : decode cX9_law 16 = .ok (.getfield 74, 3) := by decide +kernel
theorem dX9_law_19 : decode cX9_law 19 = .ok (.ifCond .ne 6, 3) := by decide +kernel
theorem dX9_law_22 : decode cX9_law 22 = .ok (.bipush (-3), 2) := by decide +kernel
theorem dX9_law_24 : decode cX9_law 24 = .ok (.ireturn, 1) := by decide +kernel
theorem dX9_law_25 : decode cX9_law 25 = .ok (.aload_n 0, 1) := by decide +kernel
theorem dX9_law_26 : decode cX9_law 26 = .ok (.getfield 140, 3) := by decide +kernel
theorem dX9_law_29 : decode cX9_law 29 = .ok (.istore_n 2, 1) := by decide +kernel
theorem dX9_law_30 : decode cX9_law 30 = .ok (.aload_n 0, 1) := by decide +kernel
theorem dX9_law_31 : decode cX9_law 31 = .ok (.iload_n 1, 1) := by decide +kernel
theorem dX9_law_32 : decode cX9_law 32 = .ok (.putfield 140, 3) := by decide +kernel
theorem dX9_law_35 : decode cX9_law 35 = .ok (.iload_n 2, 1) := by decide +kernel
theorem dX9_law_36 : decode cX9_law 36 = .ok (.ireturn, 1) := by decide +kernel
theorem dX9_sitDown_0 : decode cX9_sitDown 0 = .ok (.iconst 0, 1) := by decide +kernel
theorem dX9_sitDown_1 : decode cX9_sitDown 1 = .ok (.istore_n 2, 1) := by decide +kernel
theorem dX9_sitDown_2 : decode cX9_sitDown 2 = .ok (.iload_n 2, 1) := by decide +kernel
theorem dX9_sitDown_3 : decode cX9_sitDown 3 = .ok (.aload_n 0, 1) := by decide +kernel
theorem dX9_sitDown_4 : decode cX9_sitDown 4 = .ok (.getfield 84, 3) := by decide +kernel
theorem dX9_sitDown_7 : decode cX9_sitDown 7 = .ok (.if_icmp .ge 34, 3) := by decide +kernel
theorem dX9_sitDown_10 : decode cX9_sitDown 10 = .ok (.aload_n 0, 1) := by decide +kernel
theorem dX9_sitDown_11 : decode cX9_sitDown 11 = .ok (.getfield 28, 3) := by decide +kernel
theorem dX9_sitDown_14 : decode cX9_sitDown 14 = .ok (.iload_n 2, 1) := by decide +kernel
theorem dX9_sitDown_15 : decode cX9_sitDown 15 = .ok (.iload_n 1, 1) := by decide +kernel
theorem dX9_sitDown_16 : decode cX9_sitDown 16 = .ok (.iload_n 2, 1) := by decide +kernel
theorem dX9_sitDown_17 : decode cX9_sitDown 17 = .ok (.invokestatic 170, 3) := by decide +kernel
theorem dX9_sitDown_20 : decode cX9_sitDown 20 = .ok (.ifCond .eq 12, 3) := by decide +kernel
theorem dX9_sitDown_23 : decode cX9_sitDown 23 = .ok (.aload_n 0, 1) := by decide +kernel
theorem dX9_sitDown_24 : decode cX9_sitDown 24 = .ok (.getfield 16, 3) := by decide +kernel
theorem dX9_sitDown_27 : decode cX9_sitDown 27 = .ok (.iload_n 2, 1) := by decide +kernel
theorem dX9_sitDown_28 : decode cX9_sitDown 28 = .ok (.iaload, 1) := by decide +kernel
theorem dX9_sitDown_29 : decode cX9_sitDown 29 = .ok (.goto 5, 3) := by decide +kernel
theorem dX9_sitDown_32 : decode cX9_sitDown 32 = .ok (.bipush (-9), 2) := by decide +kernel
theorem dX9_sitDown_34 : decode cX9_sitDown 34 = .ok (.iastore, 1) := by decide +kernel
theorem dX9_sitDown_35 : decode cX9_sitDown 35 = .ok (.iinc 2 1, 3) := by decide +kernel
theorem dX9_sitDown_38 : decode cX9_sitDown 38 = .ok (.goto (-36), 3) := by decide +kernel
theorem dX9_sitDown_41 : decode cX9_sitDown 41 = .ok (.return_, 1) := by decide +kernel
theorem dX9_isTaken_0 : decode cX9_isTaken 0 = .ok (.iconst 0, 1) := by decide +kernel
theorem dX9_isTaken_1 : decode cX9_isTaken 1 = .ok (.istore_n 2, 1) := by decide +kernel
theorem dX9_isTaken_2 : decode cX9_isTaken 2 = .ok (.iconst 0, 1) := by decide +kernel
theorem dX9_isTaken_3 : decode cX9_isTaken 3 = .ok (.istore_n 3, 1) := by decide +kernel
theorem dX9_isTaken_4 : decode cX9_isTaken 4 = .ok (.iload_n 3, 1) := by decide +kernel
theorem dX9_isTaken_5 : decode cX9_isTaken 5 = .ok (.aload_n 0, 1) := by decide +kernel
theorem dX9_isTaken_6 : decode cX9_isTaken 6 = .ok (.getfield 84, 3) := by decide +kernel
theorem dX9_isTaken_9 : decode cX9_isTaken 9 = .ok (.if_icmp .ge 29, 3) := by decide +kernel
theorem dX9_isTaken_12 : decode cX9_isTaken 12 = .ok (.iload_n 2, 1) := by decide +kernel
theorem dX9_isTaken_13 : decode cX9_isTaken 13 = .ok (.ifCond .ne 13, 3) := by decide +kernel
theorem dX9_isTaken_16 : decode cX9_isTaken 16 = .ok (.aload_n 0, 1) := by decide +kernel
theorem dX9_isTaken_17 : decode cX9_isTaken 17 = .ok (.getfield 28, 3) := by decide +kernel
theorem dX9_isTaken_20 : decode cX9_isTaken 20 = .ok (.iload_n 3, 1) := by decide +kernel
theorem dX9_isTaken_21 : decode cX9_isTaken 21 = .ok (.iaload, 1) := by decide +kernel
theorem dX9_isTaken_22 : decode cX9_isTaken 22 = .ok (.iload_n 1, 1) := by decide +kernel
theorem dX9_isTaken_23 : decode cX9_isTaken 23 = .ok (.if_icmp .ne 7, 3) := by decide +kernel
theorem dX9_isTaken_26 : decode cX9_isTaken 26 = .ok (.iconst 1, 1) := by decide +kernel
theorem dX9_isTaken_27 : decode cX9_isTaken 27 = .ok (.goto 4, 3) := by decide +kernel
theorem dX9_isTaken_30 : decode cX9_isTaken 30 = .ok (.iconst 0, 1) := by decide +kernel
theorem dX9_isTaken_31 : decode cX9_isTaken 31 = .ok (.istore_n 2, 1) := by decide +kernel
theorem dX9_isTaken_32 : decode cX9_isTaken 32 = .ok (.iinc 3 1, 3) := by decide +kernel
theorem dX9_isTaken_35 : decode cX9_isTaken 35 = .ok (.goto (-31), 3) := by decide +kernel
theorem dX9_isTaken_38 : decode cX9_isTaken 38 = .ok (.iload_n 2, 1) := by decide +kernel
theorem dX9_isTaken_39 : decode cX9_isTaken 39 = .ok (.ireturn, 1) := by decide +kernel
theorem dX9_isSeen_0 : decode cX9_isSeen 0 = .ok (.aload_n 0, 1) := by decide +kernel
theorem dX9_isSeen_1 : decode cX9_isSeen 1 = .ok (.getfield 7, 3) := by decide +kernel
theorem dX9_isSeen_4 : decode cX9_isSeen 4 = .ok (.iload_n 1, 1) := by decide +kernel
theorem dX9_isSeen_5 : decode cX9_isSeen 5 = .ok (.iaload, 1) := by decide +kernel
theorem dX9_isSeen_6 : decode cX9_isSeen 6 = .ok (.ifCond .eq 34, 3) := by decide +kernel
theorem dX9_isSeen_9 : decode cX9_isSeen 9 = .ok (.aload_n 0, 1) := by decide +kernel
theorem dX9_isSeen_10 : decode cX9_isSeen 10 = .ok (.getfield 28, 3) := by decide +kernel
theorem dX9_isSeen_13 : decode cX9_isSeen 13 = .ok (.iload_n 1, 1) := by decide +kernel
theorem dX9_isSeen_14 : decode cX9_isSeen 14 = .ok (.iaload, 1) := by decide +kernel
theorem dX9_isSeen_15 : decode cX9_isSeen 15 = .ok (.aload_n 0, 1) := by decide +kernel
theorem dX9_isSeen_16 : decode cX9_isSeen 16 = .ok (.getfield 77, 3) := by decide +kernel
theorem dX9_isSeen_19 : decode cX9_isSeen 19 = .ok (.if_icmp .lt 21, 3) := by decide +kernel
theorem dX9_isSeen_22 : decode cX9_isSeen 22 = .ok (.aload_n 0, 1) := by decide +kernel
theorem dX9_isSeen_23 : decode cX9_isSeen 23 = .ok (.aload_n 0, 1) := by decide +kernel
theorem dX9_isSeen_24 : decode cX9_isSeen 24 = .ok (.getfield 28, 3) := by decide +kernel
theorem dX9_isSeen_27 : decode cX9_isSeen 27 = .ok (.iload_n 1, 1) := by decide +kernel
theorem dX9_isSeen_28 : decode cX9_isSeen 28 = .ok (.iaload, 1) := by decide +kernel
theorem dX9_isSeen_29 : decode cX9_isSeen 29 = .ok (.aload_n 0, 1) := by decide +kernel
theorem dX9_isSeen_30 : decode cX9_isSeen 30 = .ok (.getfield 77, 3) := by decide +kernel
theorem dX9_isSeen_33 : decode cX9_isSeen 33 = .ok (.isub, 1) := by decide +kernel
theorem dX9_isSeen_34 : decode cX9_isSeen 34 = .ok (.invokevirtual 173, 3) := by decide +kernel
theorem dX9_isSeen_37 : decode cX9_isSeen 37 = .ok (.ifCond .ne 7, 3) := by decide +kernel
theorem dX9_isSeen_40 : decode cX9_isSeen 40 = .ok (.iconst 1, 1) := by decide +kernel
theorem dX9_isSeen_41 : decode cX9_isSeen 41 = .ok (.goto 4, 3) := by decide +kernel
theorem dX9_isSeen_44 : decode cX9_isSeen 44 = .ok (.iconst 0, 1) := by decide +kernel
theorem dX9_isSeen_45 : decode cX9_isSeen 45 = .ok (.ireturn, 1) := by decide +kernel
theorem dX9_step_0 : decode cX9_step 0 = .ok (.iload_n 1, 1) := by decide +kernel
theorem dX9_step_1 : decode cX9_step 1 = .ok (.aload_n 0, 1) := by decide +kernel
theorem dX9_step_2 : decode cX9_step 2 = .ok (.getfield 77, 3) := by decide +kernel
theorem dX9_step_5 : decode cX9_step 5 = .ok (.irem, 1) := by decide +kernel
theorem dX9_step_6 : decode cX9_step 6 = .ok (.aload_n 0, 1) := by decide +kernel
theorem dX9_step_7 : decode cX9_step 7 = .ok (.getfield 77, 3) := by decide +kernel
theorem dX9_step_10 : decode cX9_step 10 = .ok (.iconst 2, 1) := by decide +kernel
theorem dX9_step_11 : decode cX9_step 11 = .ok (.idiv, 1) := by decide +kernel
theorem dX9_step_12 : decode cX9_step 12 = .ok (.if_icmp .ge 7, 3) := by decide +kernel
theorem dX9_step_15 : decode cX9_step 15 = .ok (.iconst 1, 1) := by decide +kernel
theorem dX9_step_16 : decode cX9_step 16 = .ok (.goto 4, 3) := by decide +kernel
theorem dX9_step_19 : decode cX9_step 19 = .ok (.iconst 0, 1) := by decide +kernel
theorem dX9_step_20 : decode cX9_step 20 = .ok (.istore_n 2, 1) := by decide +kernel
theorem dX9_step_21 : decode cX9_step 21 = .ok (.aload_n 0, 1) := by decide +kernel
theorem dX9_step_22 : decode cX9_step 22 = .ok (.getfield 140, 3) := by decide +kernel
theorem dX9_step_25 : decode cX9_step 25 = .ok (.ifCond .ne 7, 3) := by decide +kernel
theorem dX9_step_28 : decode cX9_step 28 = .ok (.iload_n 2, 1) := by decide +kernel
theorem dX9_step_29 : decode cX9_step 29 = .ok (.ifCond .ne 15, 3) := by decide +kernel
theorem dX9_step_32 : decode cX9_step 32 = .ok (.aload_n 0, 1) := by decide +kernel
theorem dX9_step_33 : decode cX9_step 33 = .ok (.getfield 140, 3) := by decide +kernel
theorem dX9_step_36 : decode cX9_step 36 = .ok (.iconst 1, 1) := by decide +kernel
theorem dX9_step_37 : decode cX9_step 37 = .ok (.if_icmp .ne 11, 3) := by decide +kernel
theorem dX9_step_40 : decode cX9_step 40 = .ok (.iload_n 2, 1) := by decide +kernel
theorem dX9_step_41 : decode cX9_step 41 = .ok (.ifCond .ne 7, 3) := by decide +kernel
theorem dX9_step_44 : decode cX9_step 44 = .ok (.iconst 2, 1) := by decide +kernel
theorem dX9_step_45 : decode cX9_step 45 = .ok (.goto 4, 3) := by decide +kernel
theorem dX9_step_48 : decode cX9_step 48 = .ok (.iconst 1, 1) := by decide +kernel
theorem dX9_step_49 : decode cX9_step 49 = .ok (.ireturn, 1) := by decide +kernel
theorem dX9_nextBidder_0 : decode cX9_nextBidder 0 = .ok (.bipush (-9), 2) := by decide +kernel
theorem dX9_nextBidder_2 : decode cX9_nextBidder 2 = .ok (.istore_n 3, 1) := by decide +kernel
theorem dX9_nextBidder_3 : decode cX9_nextBidder 3 = .ok (.iconst 0, 1) := by decide +kernel
theorem dX9_nextBidder_4 : decode cX9_nextBidder 4 = .ok (.istore 4, 2) := by decide +kernel
theorem dX9_nextBidder_6 : decode cX9_nextBidder 6 = .ok (.iload 4, 2) := by decide +kernel
theorem dX9_nextBidder_8 : decode cX9_nextBidder 8 = .ok (.aload_n 0, 1) := by decide +kernel
theorem dX9_nextBidder_9 : decode cX9_nextBidder 9 = .ok (.getfield 84, 3) := by decide +kernel
theorem dX9_nextBidder_12 : decode cX9_nextBidder 12 = .ok (.if_icmp .ge 111, 3) := by decide +kernel
theorem dX9_nextBidder_15 : decode cX9_nextBidder 15 = .ok (.aload_n 0, 1) := by decide +kernel
theorem dX9_nextBidder_16 : decode cX9_nextBidder 16 = .ok (.getfield 28, 3) := by decide +kernel
theorem dX9_nextBidder_19 : decode cX9_nextBidder 19 = .ok (.iload 4, 2) := by decide +kernel
theorem dX9_nextBidder_21 : decode cX9_nextBidder 21 = .ok (.iaload, 1) := by decide +kernel
theorem dX9_nextBidder_22 : decode cX9_nextBidder 22 = .ok (.ifCond .lt 60, 3) := by decide +kernel
theorem dX9_nextBidder_25 : decode cX9_nextBidder 25 = .ok (.iload 4, 2) := by decide +kernel
theorem dX9_nextBidder_27 : decode cX9_nextBidder 27 = .ok (.aload_n 0, 1) := by decide +kernel
theorem dX9_nextBidder_28 : decode cX9_nextBidder 28 = .ok (.getfield 176, 3) := by decide +kernel
theorem dX9_nextBidder_31 : decode cX9_nextBidder 31 = .ok (.if_icmp .eq 51, 3) := by decide +kernel
theorem dX9_nextBidder_34 : decode cX9_nextBidder 34 = .ok (.iload_n 2, 1) := by decide +kernel
theorem dX9_nextBidder_35 : decode cX9_nextBidder 35 = .ok (.iload 4, 2) := by decide +kernel
theorem dX9_nextBidder_37 : decode cX9_nextBidder 37 = .ok (.invokestatic 170, 3) := by decide +kernel
theorem dX9_nextBidder_40 : decode cX9_nextBidder 40 = .ok (.ifCond .eq 42, 3) := by decide +kernel
theorem dX9_nextBidder_43 : decode cX9_nextBidder 43 = .ok (.aload_n 0, 1) := by decide +kernel
theorem dX9_nextBidder_44 : decode cX9_nextBidder 44 = .ok (.iload 4, 2) := by decide +kernel
theorem dX9_nextBidder_46 : decode cX9_nextBidder 46 = .ok (.invokevirtual 153, 3) := by decide +kernel
theorem dX9_nextBidder_49 : decode cX9_nextBidder 49 = .ok (.ifCond .eq 33, 3) := by decide +kernel
theorem dX9_nextBidder_52 : decode cX9_nextBidder 52 = .ok (.aload_n 0, 1) := by decide +kernel
theorem dX9_nextBidder_53 : decode cX9_nextBidder 53 = .ok (.getfield 179, 3) := by decide +kernel
theorem dX9_nextBidder_56 : decode cX9_nextBidder 56 = .ok (.aload_n 0, 1) := by decide +kernel
theorem dX9_nextBidder_57 : decode cX9_nextBidder 57 = .ok (.aload_n 0, 1) := by decide +kernel
theorem dX9_nextBidder_58 : decode cX9_nextBidder 58 = .ok (.getfield 28, 3) := by decide +kernel
theorem dX9_nextBidder_61 : decode cX9_nextBidder 61 = .ok (.iload 4, 2) := by decide +kernel
theorem dX9_nextBidder_63 : decode cX9_nextBidder 63 = .ok (.iaload, 1) := by decide +kernel
theorem dX9_nextBidder_64 : decode cX9_nextBidder 64 = .ok (.invokevirtual 182, 3) := by decide +kernel
theorem dX9_nextBidder_67 : decode cX9_nextBidder 67 = .ok (.iadd, 1) := by decide +kernel
theorem dX9_nextBidder_68 : decode cX9_nextBidder 68 = .ok (.aload_n 0, 1) := by decide +kernel
theorem dX9_nextBidder_69 : decode cX9_nextBidder 69 = .ok (.iload 4, 2) := by decide +kernel
theorem dX9_nextBidder_71 : decode cX9_nextBidder 71 = .ok (.iload_n 1, 1) := by decide +kernel
theorem dX9_nextBidder_72 : decode cX9_nextBidder 72 = .ok (.invokevirtual 161, 3) := by decide +kernel
theorem dX9_nextBidder_75 : decode cX9_nextBidder 75 = .ok (.if_icmp .gt 7, 3) := by decide +kernel
theorem dX9_nextBidder_78 : decode cX9_nextBidder 78 = .ok (.iconst 1, 1) := by decide +kernel
theorem dX9_nextBidder_79 : decode cX9_nextBidder 79 = .ok (.goto 4, 3) := by decide +kernel
theorem dX9_nextBidder_82 : decode cX9_nextBidder 82 = .ok (.iconst 0, 1) := by decide +kernel
theorem dX9_nextBidder_83 : decode cX9_nextBidder 83 = .ok (.istore 5, 2) := by decide +kernel
theorem dX9_nextBidder_85 : decode cX9_nextBidder 85 = .ok (.iload 5, 2) := by decide +kernel
theorem dX9_nextBidder_87 : decode cX9_nextBidder 87 = .ok (.ifCond .eq 28, 3) := by decide +kernel
theorem dX9_nextBidder_90 : decode cX9_nextBidder 90 = .ok (.iload_n 3, 1) := by decide +kernel
theorem dX9_nextBidder_91 : decode cX9_nextBidder 91 = .ok (.ifCond .lt 19, 3) := by decide +kernel
theorem dX9_nextBidder_94 : decode cX9_nextBidder 94 = .ok (.aload_n 0, 1) := by decide +kernel
theorem dX9_nextBidder_95 : decode cX9_nextBidder 95 = .ok (.getfield 28, 3) := by decide +kernel
theorem dX9_nextBidder_98 : decode cX9_nextBidder 98 = .ok (.iload 4, 2) := by decide +kernel
theorem dX9_nextBidder_100 : decode cX9_nextBidder 100 = .ok (.iaload, 1) := by decide +kernel
theorem dX9_nextBidder_101 : decode cX9_nextBidder 101 = .ok (.aload_n 0, 1) := by decide +kernel
theorem dX9_nextBidder_102 : decode cX9_nextBidder 102 = .ok (.getfield 28, 3) := by decide +kernel
theorem dX9_nextBidder_105 : decode cX9_nextBidder 105 = .ok (.iload_n 3, 1) := by decide +kernel
theorem dX9_nextBidder_106 : decode cX9_nextBidder 106 = .ok (.iaload, 1) := by decide +kernel
theorem dX9_nextBidder_107 : decode cX9_nextBidder 107 = .ok (.if_icmp .ge 8, 3) := by decide +kernel
theorem dX9_nextBidder_110 : decode cX9_nextBidder 110 = .ok (.iload 4, 2) := by decide +kernel
theorem dX9_nextBidder_112 : decode cX9_nextBidder 112 = .ok (.goto 4, 3) := by decide +kernel
theorem dX9_nextBidder_115 : decode cX9_nextBidder 115 = .ok (.iload_n 3, 1) := by decide +kernel
theorem dX9_nextBidder_116 : decode cX9_nextBidder 116 = .ok (.istore_n 3, 1) := by decide +kernel
theorem dX9_nextBidder_117 : decode cX9_nextBidder 117 = .ok (.iinc 4 1, 3) := by decide +kernel
theorem dX9_nextBidder_120 : decode cX9_nextBidder 120 = .ok (.goto (-114), 3) := by decide +kernel
theorem dX9_nextBidder_123 : decode cX9_nextBidder 123 = .ok (.iload_n 3, 1) := by decide +kernel
theorem dX9_nextBidder_124 : decode cX9_nextBidder 124 = .ok (.ireturn, 1) := by decide +kernel
theorem dX9_sell_0 : decode cX9_sell 0 = .ok (.aload_n 0, 1) := by decide +kernel
theorem dX9_sell_1 : decode cX9_sell 1 = .ok (.iconst 0, 1) := by decide +kernel
theorem dX9_sell_2 : decode cX9_sell 2 = .ok (.putfield 179, 3) := by decide +kernel
theorem dX9_sell_5 : decode cX9_sell 5 = .ok (.aload_n 0, 1) := by decide +kernel
theorem dX9_sell_6 : decode cX9_sell 6 = .ok (.bipush (-9), 2) := by decide +kernel
theorem dX9_sell_8 : decode cX9_sell 8 = .ok (.putfield 176, 3) := by decide +kernel
theorem dX9_sell_11 : decode cX9_sell 11 = .ok (.aload_n 0, 1) := by decide +kernel
theorem dX9_sell_12 : decode cX9_sell 12 = .ok (.iconst 0, 1) := by decide +kernel
theorem dX9_sell_13 : decode cX9_sell 13 = .ok (.putfield 185, 3) := by decide +kernel
theorem dX9_sell_16 : decode cX9_sell 16 = .ok (.aload_n 0, 1) := by decide +kernel
theorem dX9_sell_17 : decode cX9_sell 17 = .ok (.iload_n 1, 1) := by decide +kernel
theorem dX9_sell_18 : decode cX9_sell 18 = .ok (.iload_n 2, 1) := by decide +kernel
theorem dX9_sell_19 : decode cX9_sell 19 = .ok (.invokevirtual 188, 3) := by decide +kernel
theorem dX9_sell_22 : decode cX9_sell 22 = .ok (.istore_n 3, 1) := by decide +kernel
theorem dX9_sell_23 : decode cX9_sell 23 = .ok (.iload_n 3, 1) := by decide +kernel
theorem dX9_sell_24 : decode cX9_sell 24 = .ok (.ifCond .lt 111, 3) := by decide +kernel
theorem dX9_sell_27 : decode cX9_sell 27 = .ok (.aload_n 0, 1) := by decide +kernel
theorem dX9_sell_28 : decode cX9_sell 28 = .ok (.dup, 1) := by decide +kernel
theorem dX9_sell_29 : decode cX9_sell 29 = .ok (.getfield 179, 3) := by decide +kernel
theorem dX9_sell_32 : decode cX9_sell 32 = .ok (.aload_n 0, 1) := by decide +kernel
theorem dX9_sell_33 : decode cX9_sell 33 = .ok (.aload_n 0, 1) := by decide +kernel
theorem dX9_sell_34 : decode cX9_sell 34 = .ok (.getfield 28, 3) := by decide +kernel
theorem dX9_sell_37 : decode cX9_sell 37 = .ok (.iload_n 3, 1) := by decide +kernel
theorem dX9_sell_38 : decode cX9_sell 38 = .ok (.iaload, 1) := by decide +kernel
theorem dX9_sell_39 : decode cX9_sell 39 = .ok (.invokevirtual 182, 3) := by decide +kernel
theorem dX9_sell_42 : decode cX9_sell 42 = .ok (.iadd, 1) := by decide +kernel
theorem dX9_sell_43 : decode cX9_sell 43 = .ok (.putfield 179, 3) := by decide +kernel
theorem dX9_sell_46 : decode cX9_sell 46 = .ok (.aload_n 0, 1) := by decide +kernel
theorem dX9_sell_47 : decode cX9_sell 47 = .ok (.iload_n 3, 1) := by decide +kernel
theorem dX9_sell_48 : decode cX9_sell 48 = .ok (.putfield 176, 3) := by decide +kernel
theorem dX9_sell_51 : decode cX9_sell 51 = .ok (.aload_n 0, 1) := by decide +kernel
theorem dX9_sell_52 : decode cX9_sell 52 = .ok (.getfield 31, 3) := by decide +kernel
theorem dX9_sell_55 : decode cX9_sell 55 = .ok (.aload_n 0, 1) := by decide +kernel
theorem dX9_sell_56 : decode cX9_sell 56 = .ok (.getfield 185, 3) := by decide +kernel
theorem dX9_sell_59 : decode cX9_sell 59 = .ok (.bipush 100, 2) := by decide +kernel
theorem dX9_sell_61 : decode cX9_sell 61 = .ok (.aload_n 0, 1) := by decide +kernel
theorem dX9_sell_62 : decode cX9_sell 62 = .ok (.getfield 179, 3) := by decide +kernel
theorem dX9_sell_65 : decode cX9_sell 65 = .ok (.imul, 1) := by decide +kernel
theorem dX9_sell_66 : decode cX9_sell 66 = .ok (.iload_n 3, 1) := by decide +kernel
theorem dX9_sell_67 : decode cX9_sell 67 = .ok (.iadd, 1) := by decide +kernel
theorem dX9_sell_68 : decode cX9_sell 68 = .ok (.iastore, 1) := by decide +kernel
theorem dX9_sell_69 : decode cX9_sell 69 = .ok (.aload_n 0, 1) := by decide +kernel
theorem dX9_sell_70 : decode cX9_sell 70 = .ok (.dup, 1) := by decide +kernel
theorem dX9_sell_71 : decode cX9_sell 71 = .ok (.getfield 185, 3) := by decide +kernel
theorem dX9_sell_74 : decode cX9_sell 74 = .ok (.iconst 1, 1) := by decide +kernel
theorem dX9_sell_75 : decode cX9_sell 75 = .ok (.iadd, 1) := by decide +kernel
theorem dX9_sell_76 : decode cX9_sell 76 = .ok (.putfield 185, 3) := by decide +kernel
theorem dX9_sell_79 : decode cX9_sell 79 = .ok (.aload_n 0, 1) := by decide +kernel
theorem dX9_sell_80 : decode cX9_sell 80 = .ok (.getfield 28, 3) := by decide +kernel
theorem dX9_sell_83 : decode cX9_sell 83 = .ok (.iload_n 3, 1) := by decide +kernel
theorem dX9_sell_84 : decode cX9_sell 84 = .ok (.iaload, 1) := by decide +kernel
theorem dX9_sell_85 : decode cX9_sell 85 = .ok (.iconst 1, 1) := by decide +kernel
theorem dX9_sell_86 : decode cX9_sell 86 = .ok (.iadd, 1) := by decide +kernel
theorem dX9_sell_87 : decode cX9_sell 87 = .ok (.istore 4, 2) := by decide +kernel
theorem dX9_sell_89 : decode cX9_sell 89 = .ok (.aload_n 0, 1) := by decide +kernel
theorem dX9_sell_90 : decode cX9_sell 90 = .ok (.getfield 28, 3) := by decide +kernel
theorem dX9_sell_93 : decode cX9_sell 93 = .ok (.iload_n 3, 1) := by decide +kernel
theorem dX9_sell_94 : decode cX9_sell 94 = .ok (.iload 4, 2) := by decide +kernel
theorem dX9_sell_96 : decode cX9_sell 96 = .ok (.aload_n 0, 1) := by decide +kernel
theorem dX9_sell_97 : decode cX9_sell 97 = .ok (.getfield 77, 3) := by decide +kernel
theorem dX9_sell_100 : decode cX9_sell 100 = .ok (.irem, 1) := by decide +kernel
theorem dX9_sell_101 : decode cX9_sell 101 = .ok (.ifCond .le 17, 3) := by decide +kernel
theorem dX9_sell_104 : decode cX9_sell 104 = .ok (.aload_n 0, 1) := by decide +kernel
theorem dX9_sell_105 : decode cX9_sell 105 = .ok (.iload 4, 2) := by decide +kernel
theorem dX9_sell_107 : decode cX9_sell 107 = .ok (.invokevirtual 173, 3) := by decide +kernel
theorem dX9_sell_110 : decode cX9_sell 110 = .ok (.ifCond .ne 8, 3) := by decide +kernel
theorem dX9_sell_113 : decode cX9_sell 113 = .ok (.iload 4, 2) := by decide +kernel
theorem dX9_sell_115 : decode cX9_sell 115 = .ok (.goto 9, 3) := by decide +kernel
theorem dX9_sell_118 : decode cX9_sell 118 = .ok (.aload_n 0, 1) := by decide +kernel
theorem dX9_sell_119 : decode cX9_sell 119 = .ok (.getfield 28, 3) := by decide +kernel
theorem dX9_sell_122 : decode cX9_sell 122 = .ok (.iload_n 3, 1) := by decide +kernel
theorem dX9_sell_123 : decode cX9_sell 123 = .ok (.iaload, 1) := by decide +kernel
theorem dX9_sell_124 : decode cX9_sell 124 = .ok (.iastore, 1) := by decide +kernel
theorem dX9_sell_125 : decode cX9_sell 125 = .ok (.aload_n 0, 1) := by decide +kernel
theorem dX9_sell_126 : decode cX9_sell 126 = .ok (.iload_n 1, 1) := by decide +kernel
theorem dX9_sell_127 : decode cX9_sell 127 = .ok (.iload_n 2, 1) := by decide +kernel
theorem dX9_sell_128 : decode cX9_sell 128 = .ok (.invokevirtual 188, 3) := by decide +kernel
theorem dX9_sell_131 : decode cX9_sell 131 = .ok (.istore_n 3, 1) := by decide +kernel
theorem dX9_sell_132 : decode cX9_sell 132 = .ok (.goto (-109), 3) := by decide +kernel
theorem dX9_sell_135 : decode cX9_sell 135 = .ok (.return_, 1) := by decide +kernel
theorem dX9_all_0 : decode cX9_all 0 = .ok (.iconst 1, 1) := by decide +kernel
theorem dX9_all_1 : decode cX9_all 1 = .ok (.aload_n 0, 1) := by decide +kernel
theorem dX9_all_2 : decode cX9_all 2 = .ok (.getfield 84, 3) := by decide +kernel
theorem dX9_all_5 : decode cX9_all 5 = .ok (.ishl, 1) := by decide +kernel
theorem dX9_all_6 : decode cX9_all 6 = .ok (.iconst 1, 1) := by decide +kernel
theorem dX9_all_7 : decode cX9_all 7 = .ok (.isub, 1) := by decide +kernel
theorem dX9_all_8 : decode cX9_all 8 = .ok (.ireturn, 1) := by decide +kernel
theorem dX9_sellTo_0 : decode cX9_sellTo 0 = .ok (.aload_n 0, 1) := by decide +kernel
theorem dX9_sellTo_1 : decode cX9_sellTo 1 = .ok (.iload_n 2, 1) := by decide +kernel
theorem dX9_sellTo_2 : decode cX9_sellTo 2 = .ok (.invokevirtual 149, 3) := by decide +kernel
theorem dX9_sellTo_5 : decode cX9_sellTo 5 = .ok (.aload_n 0, 1) := by decide +kernel
theorem dX9_sellTo_6 : decode cX9_sellTo 6 = .ok (.iload_n 1, 1) := by decide +kernel
theorem dX9_sellTo_7 : decode cX9_sellTo 7 = .ok (.iload_n 2, 1) := by decide +kernel
theorem dX9_sellTo_8 : decode cX9_sellTo 8 = .ok (.invokevirtual 191, 3) := by decide +kernel
theorem dX9_sellTo_11 : decode cX9_sellTo 11 = .ok (.return_, 1) := by decide +kernel
theorem dX9_sale_0 : decode cX9_sale 0 = .ok (.iload_n 1, 1) := by decide +kernel
theorem dX9_sale_1 : decode cX9_sale 1 = .ok (.invokestatic 156, 3) := by decide +kernel
theorem dX9_sale_4 : decode cX9_sale 4 = .ok (.ifCond .eq 5, 3) := by decide +kernel
theorem dX9_sale_7 : decode cX9_sale 7 = .ok (.iconst (-1), 1) := by decide +kernel
theorem dX9_sale_8 : decode cX9_sale 8 = .ok (.ireturn, 1) := by decide +kernel
theorem dX9_sale_9 : decode cX9_sale 9 = .ok (.iload_n 2, 1) := by decide +kernel
theorem dX9_sale_10 : decode cX9_sale 10 = .ok (.i2l, 1) := by decide +kernel
theorem dX9_sale_11 : decode cX9_sale 11 = .ok (.lconst 0, 1) := by decide +kernel
theorem dX9_sale_12 : decode cX9_sale 12 = .ok (.ldc2_w 131, 3) := by decide +kernel
theorem dX9_sale_15 : decode cX9_sale 15 = .ok (.invokestatic 80, 3) := by decide +kernel
theorem dX9_sale_18 : decode cX9_sale 18 = .ok (.ifCond .ne 6, 3) := by decide +kernel
theorem dX9_sale_21 : decode cX9_sale 21 = .ok (.bipush (-2), 2) := by decide +kernel
theorem dX9_sale_23 : decode cX9_sale 23 = .ok (.ireturn, 1) := by decide +kernel
theorem dX9_sale_24 : decode cX9_sale 24 = .ok (.aload_n 0, 1) := by decide +kernel
theorem dX9_sale_25 : decode cX9_sale 25 = .ok (.getfield 74, 3) := by decide +kernel
theorem dX9_sale_28 : decode cX9_sale 28 = .ok (.ifCond .ne 6, 3) := by decide +kernel
theorem dX9_sale_31 : decode cX9_sale 31 = .ok (.bipush (-3), 2) := by decide +kernel
theorem dX9_sale_33 : decode cX9_sale 33 = .ok (.ireturn, 1) := by decide +kernel
theorem dX9_sale_34 : decode cX9_sale 34 = .ok (.aload_n 0, 1) := by decide +kernel
theorem dX9_sale_35 : decode cX9_sale 35 = .ok (.iload_n 1, 1) := by decide +kernel
theorem dX9_sale_36 : decode cX9_sale 36 = .ok (.aload_n 0, 1) := by decide +kernel
theorem dX9_sale_37 : decode cX9_sale 37 = .ok (.invokevirtual 195, 3) := by decide +kernel
theorem dX9_sale_40 : decode cX9_sale 40 = .ok (.invokevirtual 199, 3) := by decide +kernel
theorem dX9_sale_43 : decode cX9_sale 43 = .ok (.iload_n 2, 1) := by decide +kernel
theorem dX9_sale_44 : decode cX9_sale 44 = .ok (.ifCond .ne 10, 3) := by decide +kernel
theorem dX9_sale_47 : decode cX9_sale 47 = .ok (.aload_n 0, 1) := by decide +kernel
theorem dX9_sale_48 : decode cX9_sale 48 = .ok (.getfield 179, 3) := by decide +kernel
theorem dX9_sale_51 : decode cX9_sale 51 = .ok (.goto 19, 3) := by decide +kernel
theorem dX9_sale_54 : decode cX9_sale 54 = .ok (.iload_n 2, 1) := by decide +kernel
theorem dX9_sale_55 : decode cX9_sale 55 = .ok (.iconst 1, 1) := by decide +kernel
theorem dX9_sale_56 : decode cX9_sale 56 = .ok (.if_icmp .ne 10, 3) := by decide +kernel
theorem dX9_sale_59 : decode cX9_sale 59 = .ok (.aload_n 0, 1) := by decide +kernel
theorem dX9_sale_60 : decode cX9_sale 60 = .ok (.getfield 176, 3) := by decide +kernel
theorem dX9_sale_63 : decode cX9_sale 63 = .ok (.goto 7, 3) := by decide +kernel
theorem dX9_sale_66 : decode cX9_sale 66 = .ok (.aload_n 0, 1) := by decide +kernel
theorem dX9_sale_67 : decode cX9_sale 67 = .ok (.getfield 185, 3) := by decide +kernel
theorem dX9_sale_70 : decode cX9_sale 70 = .ok (.ireturn, 1) := by decide +kernel
theorem dX9_bid_0 : decode cX9_bid 0 = .ok (.iload_n 1, 1) := by decide +kernel
theorem dX9_bid_1 : decode cX9_bid 1 = .ok (.invokestatic 156, 3) := by decide +kernel
theorem dX9_bid_4 : decode cX9_bid 4 = .ok (.ifCond .ne 7, 3) := by decide +kernel
theorem dX9_bid_7 : decode cX9_bid 7 = .ok (.iload_n 2, 1) := by decide +kernel
theorem dX9_bid_8 : decode cX9_bid 8 = .ok (.ifCond .ge 5, 3) := by decide +kernel
theorem dX9_bid_11 : decode cX9_bid 11 = .ok (.iconst (-1), 1) := by decide +kernel
theorem dX9_bid_12 : decode cX9_bid 12 = .ok (.ireturn, 1) := by decide +kernel
theorem dX9_bid_13 : decode cX9_bid 13 = .ok (.aload_n 0, 1) := by decide +kernel
theorem dX9_bid_14 : decode cX9_bid 14 = .ok (.getfield 74, 3) := by decide +kernel
theorem dX9_bid_17 : decode cX9_bid 17 = .ok (.ifCond .ne 6, 3) := by decide +kernel
theorem dX9_bid_20 : decode cX9_bid 20 = .ok (.bipush (-3), 2) := by decide +kernel
theorem dX9_bid_22 : decode cX9_bid 22 = .ok (.ireturn, 1) := by decide +kernel
theorem dX9_bid_23 : decode cX9_bid 23 = .ok (.aload_n 0, 1) := by decide +kernel
theorem dX9_bid_24 : decode cX9_bid 24 = .ok (.iload_n 1, 1) := by decide +kernel
theorem dX9_bid_25 : decode cX9_bid 25 = .ok (.aload_n 0, 1) := by decide +kernel
theorem dX9_bid_26 : decode cX9_bid 26 = .ok (.invokevirtual 195, 3) := by decide +kernel
theorem dX9_bid_29 : decode cX9_bid 29 = .ok (.invokevirtual 199, 3) := by decide +kernel
theorem dX9_bid_32 : decode cX9_bid 32 = .ok (.iload_n 2, 1) := by decide +kernel
theorem dX9_bid_33 : decode cX9_bid 33 = .ok (.aload_n 0, 1) := by decide +kernel
theorem dX9_bid_34 : decode cX9_bid 34 = .ok (.getfield 185, 3) := by decide +kernel
theorem dX9_bid_37 : decode cX9_bid 37 = .ok (.if_icmp .ge 12, 3) := by decide +kernel
theorem dX9_bid_40 : decode cX9_bid 40 = .ok (.aload_n 0, 1) := by decide +kernel
theorem dX9_bid_41 : decode cX9_bid 41 = .ok (.getfield 31, 3) := by decide +kernel
theorem dX9_bid_44 : decode cX9_bid 44 = .ok (.iload_n 2, 1) := by decide +kernel
theorem dX9_bid_45 : decode cX9_bid 45 = .ok (.iaload, 1) := by decide +kernel
theorem dX9_bid_46 : decode cX9_bid 46 = .ok (.goto 5, 3) := by decide +kernel
theorem dX9_bid_49 : decode cX9_bid 49 = .ok (.bipush (-9), 2) := by decide +kernel
theorem dX9_bid_51 : decode cX9_bid 51 = .ok (.ireturn, 1) := by decide +kernel
theorem dX9_ends_0 : decode cX9_ends 0 = .ok (.aload_n 0, 1) := by decide +kernel
theorem dX9_ends_1 : decode cX9_ends 1 = .ok (.iload_n 1, 1) := by decide +kernel
theorem dX9_ends_2 : decode cX9_ends 2 = .ok (.invokevirtual 146, 3) := by decide +kernel
theorem dX9_ends_5 : decode cX9_ends 5 = .ok (.ifCond .ne 10, 3) := by decide +kernel
theorem dX9_ends_8 : decode cX9_ends 8 = .ok (.iload_n 2, 1) := by decide +kernel
theorem dX9_ends_9 : decode cX9_ends 9 = .ok (.invokestatic 156, 3) := by decide +kernel
theorem dX9_ends_12 : decode cX9_ends 12 = .ok (.ifCond .eq 5, 3) := by decide +kernel
theorem dX9_ends_15 : decode cX9_ends 15 = .ok (.iconst (-1), 1) := by decide +kernel
theorem dX9_ends_16 : decode cX9_ends 16 = .ok (.ireturn, 1) := by decide +kernel
theorem dX9_ends_17 : decode cX9_ends 17 = .ok (.aload_n 0, 1) := by decide +kernel
theorem dX9_ends_18 : decode cX9_ends 18 = .ok (.iload_n 2, 1) := by decide +kernel
theorem dX9_ends_19 : decode cX9_ends 19 = .ok (.aload_n 0, 1) := by decide +kernel
theorem dX9_ends_20 : decode cX9_ends 20 = .ok (.invokevirtual 195, 3) := by decide +kernel
theorem dX9_ends_23 : decode cX9_ends 23 = .ok (.invokevirtual 199, 3) := by decide +kernel
theorem dX9_ends_26 : decode cX9_ends 26 = .ok (.aload_n 0, 1) := by decide +kernel
theorem dX9_ends_27 : decode cX9_ends 27 = .ok (.getfield 28, 3) := by decide +kernel
theorem dX9_ends_30 : decode cX9_ends 30 = .ok (.iload_n 1, 1) := by decide +kernel
theorem dX9_ends_31 : decode cX9_ends 31 = .ok (.iaload, 1) := by decide +kernel
theorem dX9_ends_32 : decode cX9_ends 32 = .ok (.ireturn, 1) := by decide +kernel
theorem dX9_brings_0 : decode cX9_brings 0 = .ok (.iconst 0, 1) := by decide +kernel
theorem dX9_brings_1 : decode cX9_brings 1 = .ok (.istore_n 2, 1) := by decide +kernel
theorem dX9_brings_2 : decode cX9_brings 2 = .ok (.iload_n 2, 1) := by decide +kernel
theorem dX9_brings_3 : decode cX9_brings 3 = .ok (.aload_n 0, 1) := by decide +kernel
theorem dX9_brings_4 : decode cX9_brings 4 = .ok (.getfield 84, 3) := by decide +kernel
theorem dX9_brings_7 : decode cX9_brings 7 = .ok (.if_icmp .ge 21, 3) := by decide +kernel
theorem dX9_brings_10 : decode cX9_brings 10 = .ok (.aload_n 0, 1) := by decide +kernel
theorem dX9_brings_11 : decode cX9_brings 11 = .ok (.getfield 37, 3) := by decide +kernel
theorem dX9_brings_14 : decode cX9_brings 14 = .ok (.iload_n 2, 1) := by decide +kernel
theorem dX9_brings_15 : decode cX9_brings 15 = .ok (.aload_n 0, 1) := by decide +kernel
theorem dX9_brings_16 : decode cX9_brings 16 = .ok (.getfield 13, 3) := by decide +kernel
theorem dX9_brings_19 : decode cX9_brings 19 = .ok (.iload_n 2, 1) := by decide +kernel
theorem dX9_brings_20 : decode cX9_brings 20 = .ok (.iaload, 1) := by decide +kernel
theorem dX9_brings_21 : decode cX9_brings 21 = .ok (.iastore, 1) := by decide +kernel
theorem dX9_brings_22 : decode cX9_brings 22 = .ok (.iinc 2 1, 3) := by decide +kernel
theorem dX9_brings_25 : decode cX9_brings 25 = .ok (.goto (-23), 3) := by decide +kernel
theorem dX9_brings_28 : decode cX9_brings 28 = .ok (.aload_n 0, 1) := by decide +kernel
theorem dX9_brings_29 : decode cX9_brings 29 = .ok (.aload_n 0, 1) := by decide +kernel
theorem dX9_brings_30 : decode cX9_brings 30 = .ok (.invokevirtual 195, 3) := by decide +kernel
theorem dX9_brings_33 : decode cX9_brings 33 = .ok (.invokevirtual 149, 3) := by decide +kernel
theorem dX9_brings_36 : decode cX9_brings 36 = .ok (.iconst 0, 1) := by decide +kernel
theorem dX9_brings_37 : decode cX9_brings 37 = .ok (.istore_n 2, 1) := by decide +kernel
theorem dX9_brings_38 : decode cX9_brings 38 = .ok (.iconst 0, 1) := by decide +kernel
theorem dX9_brings_39 : decode cX9_brings 39 = .ok (.istore_n 3, 1) := by decide +kernel
theorem dX9_brings_40 : decode cX9_brings 40 = .ok (.iload_n 3, 1) := by decide +kernel
theorem dX9_brings_41 : decode cX9_brings 41 = .ok (.iload_n 1, 1) := by decide +kernel
theorem dX9_brings_42 : decode cX9_brings 42 = .ok (.if_icmp .ge 53, 3) := by decide +kernel
theorem dX9_brings_45 : decode cX9_brings 45 = .ok (.aload_n 0, 1) := by decide +kernel
theorem dX9_brings_46 : decode cX9_brings 46 = .ok (.aload_n 0, 1) := by decide +kernel
theorem dX9_brings_47 : decode cX9_brings 47 = .ok (.getfield 34, 3) := by decide +kernel
theorem dX9_brings_50 : decode cX9_brings 50 = .ok (.iload_n 3, 1) := by decide +kernel
theorem dX9_brings_51 : decode cX9_brings 51 = .ok (.iaload, 1) := by decide +kernel
theorem dX9_brings_52 : decode cX9_brings 52 = .ok (.aload_n 0, 1) := by decide +kernel
theorem dX9_brings_53 : decode cX9_brings 53 = .ok (.invokevirtual 195, 3) := by decide +kernel
theorem dX9_brings_56 : decode cX9_brings 56 = .ok (.invokevirtual 191, 3) := by decide +kernel
theorem dX9_brings_59 : decode cX9_brings 59 = .ok (.iload_n 2, 1) := by decide +kernel
theorem dX9_brings_60 : decode cX9_brings 60 = .ok (.aload_n 0, 1) := by decide +kernel
theorem dX9_brings_61 : decode cX9_brings 61 = .ok (.getfield 179, 3) := by decide +kernel
theorem dX9_brings_64 : decode cX9_brings 64 = .ok (.iadd, 1) := by decide +kernel
theorem dX9_brings_65 : decode cX9_brings 65 = .ok (.istore_n 2, 1) := by decide +kernel
theorem dX9_brings_66 : decode cX9_brings 66 = .ok (.aload_n 0, 1) := by decide +kernel
theorem dX9_brings_67 : decode cX9_brings 67 = .ok (.getfield 176, 3) := by decide +kernel
theorem dX9_brings_70 : decode cX9_brings 70 = .ok (.ifCond .lt 19, 3) := by decide +kernel
theorem dX9_brings_73 : decode cX9_brings 73 = .ok (.aload_n 0, 1) := by decide +kernel
theorem dX9_brings_74 : decode cX9_brings 74 = .ok (.getfield 13, 3) := by decide +kernel
theorem dX9_brings_77 : decode cX9_brings 77 = .ok (.aload_n 0, 1) := by decide +kernel
theorem dX9_brings_78 : decode cX9_brings 78 = .ok (.getfield 176, 3) := by decide +kernel
theorem dX9_brings_81 : decode cX9_brings 81 = .ok (.dup2, 1) := by decide +kernel
theorem dX9_brings_82 : decode cX9_brings 82 = .ok (.iaload, 1) := by decide +kernel
theorem dX9_brings_83 : decode cX9_brings 83 = .ok (.aload_n 0, 1) := by decide +kernel
theorem dX9_brings_84 : decode cX9_brings 84 = .ok (.getfield 179, 3) := by decide +kernel
theorem dX9_brings_87 : decode cX9_brings 87 = .ok (.isub, 1) := by decide +kernel
theorem dX9_brings_88 : decode cX9_brings 88 = .ok (.iastore, 1) := by decide +kernel
theorem dX9_brings_89 : decode cX9_brings 89 = .ok (.iinc 3 1, 3) := by decide +kernel
theorem dX9_brings_92 : decode cX9_brings 92 = .ok (.goto (-52), 3) := by decide +kernel
theorem dX9_brings_95 : decode cX9_brings 95 = .ok (.iconst 0, 1) := by decide +kernel
theorem dX9_brings_96 : decode cX9_brings 96 = .ok (.istore_n 3, 1) := by decide +kernel
theorem dX9_brings_97 : decode cX9_brings 97 = .ok (.iload_n 3, 1) := by decide +kernel
theorem dX9_brings_98 : decode cX9_brings 98 = .ok (.aload_n 0, 1) := by decide +kernel
theorem dX9_brings_99 : decode cX9_brings 99 = .ok (.getfield 84, 3) := by decide +kernel
theorem dX9_brings_102 : decode cX9_brings 102 = .ok (.if_icmp .ge 33, 3) := by decide +kernel
theorem dX9_brings_105 : decode cX9_brings 105 = .ok (.aload_n 0, 1) := by decide +kernel
theorem dX9_brings_106 : decode cX9_brings 106 = .ok (.getfield 40, 3) := by decide +kernel
theorem dX9_brings_109 : decode cX9_brings 109 = .ok (.iload_n 3, 1) := by decide +kernel
theorem dX9_brings_110 : decode cX9_brings 110 = .ok (.aload_n 0, 1) := by decide +kernel
theorem dX9_brings_111 : decode cX9_brings 111 = .ok (.getfield 13, 3) := by decide +kernel
theorem dX9_brings_114 : decode cX9_brings 114 = .ok (.iload_n 3, 1) := by decide +kernel
theorem dX9_brings_115 : decode cX9_brings 115 = .ok (.iaload, 1) := by decide +kernel
theorem dX9_brings_116 : decode cX9_brings 116 = .ok (.iastore, 1) := by decide +kernel
theorem dX9_brings_117 : decode cX9_brings 117 = .ok (.aload_n 0, 1) := by decide +kernel
theorem dX9_brings_118 : decode cX9_brings 118 = .ok (.getfield 13, 3) := by decide +kernel
theorem dX9_brings_121 : decode cX9_brings 121 = .ok (.iload_n 3, 1) := by decide +kernel
theorem dX9_brings_122 : decode cX9_brings 122 = .ok (.aload_n 0, 1) := by decide +kernel
theorem dX9_brings_123 : decode cX9_brings 123 = .ok (.getfield 37, 3) := by decide +kernel
theorem dX9_brings_126 : decode cX9_brings 126 = .ok (.iload_n 3, 1) := by decide +kernel
theorem dX9_brings_127 : decode cX9_brings 127 = .ok (.iaload, 1) := by decide +kernel
theorem dX9_brings_128 : decode cX9_brings 128 = .ok (.iastore, 1) := by decide +kernel
theorem dX9_brings_129 : decode cX9_brings 129 = .ok (.iinc 3 1, 3) := by decide +kernel
theorem dX9_brings_132 : decode cX9_brings 132 = .ok (.goto (-35), 3) := by decide +kernel
theorem dX9_brings_135 : decode cX9_brings 135 = .ok (.iload_n 2, 1) := by decide +kernel
theorem dX9_brings_136 : decode cX9_brings 136 = .ok (.ireturn, 1) := by decide +kernel
theorem dX9_row_0 : decode cX9_row 0 = .ok (.iload_n 1, 1) := by decide +kernel
theorem dX9_row_1 : decode cX9_row 1 = .ok (.iconst (-1), 1) := by decide +kernel
theorem dX9_row_2 : decode cX9_row 2 = .ok (.if_icmp .eq 11, 3) := by decide +kernel
theorem dX9_row_5 : decode cX9_row 5 = .ok (.aload_n 0, 1) := by decide +kernel
theorem dX9_row_6 : decode cX9_row 6 = .ok (.iload_n 1, 1) := by decide +kernel
theorem dX9_row_7 : decode cX9_row 7 = .ok (.invokevirtual 146, 3) := by decide +kernel
theorem dX9_row_10 : decode cX9_row 10 = .ok (.ifCond .ne 10, 3) := by decide +kernel
theorem dX9_row_13 : decode cX9_row 13 = .ok (.iload_n 2, 1) := by decide +kernel
theorem dX9_row_14 : decode cX9_row 14 = .ok (.invokestatic 124, 3) := by decide +kernel
theorem dX9_row_17 : decode cX9_row 17 = .ok (.ifCond .eq 9, 3) := by decide +kernel
theorem dX9_row_20 : decode cX9_row 20 = .ok (.aload_n 0, 1) := by decide +kernel
theorem dX9_row_21 : decode cX9_row 21 = .ok (.iconst (-1), 1) := by decide +kernel
theorem dX9_row_22 : decode cX9_row 22 = .ok (.invokevirtual 128, 3) := by decide +kernel
theorem dX9_row_25 : decode cX9_row 25 = .ok (.ireturn, 1) := by decide +kernel
theorem dX9_row_26 : decode cX9_row 26 = .ok (.iload_n 3, 1) := by decide +kernel
theorem dX9_row_27 : decode cX9_row 27 = .ok (.i2l, 1) := by decide +kernel
theorem dX9_row_28 : decode cX9_row 28 = .ok (.lconst 0, 1) := by decide +kernel
theorem dX9_row_29 : decode cX9_row 29 = .ok (.ldc2_w 131, 3) := by decide +kernel
theorem dX9_row_32 : decode cX9_row 32 = .ok (.invokestatic 80, 3) := by decide +kernel
theorem dX9_row_35 : decode cX9_row 35 = .ok (.ifCond .ne 10, 3) := by decide +kernel
theorem dX9_row_38 : decode cX9_row 38 = .ok (.aload_n 0, 1) := by decide +kernel
theorem dX9_row_39 : decode cX9_row 39 = .ok (.bipush (-2), 2) := by decide +kernel
theorem dX9_row_41 : decode cX9_row 41 = .ok (.invokevirtual 128, 3) := by decide +kernel
theorem dX9_row_44 : decode cX9_row 44 = .ok (.ireturn, 1) := by decide +kernel
theorem dX9_row_45 : decode cX9_row 45 = .ok (.aload_n 0, 1) := by decide +kernel
theorem dX9_row_46 : decode cX9_row 46 = .ok (.getfield 74, 3) := by decide +kernel
theorem dX9_row_49 : decode cX9_row 49 = .ok (.ifCond .ne 10, 3) := by decide +kernel
theorem dX9_row_52 : decode cX9_row 52 = .ok (.aload_n 0, 1) := by decide +kernel
theorem dX9_row_53 : decode cX9_row 53 = .ok (.bipush (-3), 2) := by decide +kernel
theorem dX9_row_55 : decode cX9_row 55 = .ok (.invokevirtual 128, 3) := by decide +kernel
theorem dX9_row_58 : decode cX9_row 58 = .ok (.ireturn, 1) := by decide +kernel
theorem dX9_row_59 : decode cX9_row 59 = .ok (.aload_n 0, 1) := by decide +kernel
theorem dX9_row_60 : decode cX9_row 60 = .ok (.iload_n 2, 1) := by decide +kernel
theorem dX9_row_61 : decode cX9_row 61 = .ok (.iload_n 3, 1) := by decide +kernel
theorem dX9_row_62 : decode cX9_row 62 = .ok (.iload 4, 2) := by decide +kernel
theorem dX9_row_64 : decode cX9_row 64 = .ok (.iload 5, 2) := by decide +kernel
theorem dX9_row_66 : decode cX9_row 66 = .ok (.i2l, 1) := by decide +kernel
theorem dX9_row_67 : decode cX9_row 67 = .ok (.invokevirtual 133, 3) := by decide +kernel
theorem dX9_row_70 : decode cX9_row 70 = .ok (.istore 6, 2) := by decide +kernel
theorem dX9_row_72 : decode cX9_row 72 = .ok (.iload 6, 2) := by decide +kernel
theorem dX9_row_74 : decode cX9_row 74 = .ok (.ifCond .ge 6, 3) := by decide +kernel
theorem dX9_row_77 : decode cX9_row 77 = .ok (.iload 6, 2) := by decide +kernel
theorem dX9_row_79 : decode cX9_row 79 = .ok (.ireturn, 1) := by decide +kernel
theorem dX9_row_80 : decode cX9_row 80 = .ok (.iconst 0, 1) := by decide +kernel
theorem dX9_row_81 : decode cX9_row 81 = .ok (.istore 7, 2) := by decide +kernel
theorem dX9_row_83 : decode cX9_row 83 = .ok (.iconst 0, 1) := by decide +kernel
theorem dX9_row_84 : decode cX9_row 84 = .ok (.istore 8, 2) := by decide +kernel
theorem dX9_row_86 : decode cX9_row 86 = .ok (.iload 8, 2) := by decide +kernel
theorem dX9_row_88 : decode cX9_row 88 = .ok (.iload 5, 2) := by decide +kernel
theorem dX9_row_90 : decode cX9_row 90 = .ok (.if_icmp .ge 68, 3) := by decide +kernel
theorem dX9_row_93 : decode cX9_row 93 = .ok (.aload_n 0, 1) := by decide +kernel
theorem dX9_row_94 : decode cX9_row 94 = .ok (.getfield 58, 3) := by decide +kernel
theorem dX9_row_97 : decode cX9_row 97 = .ok (.bipush 60, 2) := by decide +kernel
theorem dX9_row_99 : decode cX9_row 99 = .ok (.iload_n 2, 1) := by decide +kernel
theorem dX9_row_100 : decode cX9_row 100 = .ok (.imul, 1) := by decide +kernel
theorem dX9_row_101 : decode cX9_row 101 = .ok (.iload 4, 2) := by decide +kernel
theorem dX9_row_103 : decode cX9_row 103 = .ok (.iadd, 1) := by decide +kernel
theorem dX9_row_104 : decode cX9_row 104 = .ok (.iload 8, 2) := by decide +kernel
theorem dX9_row_106 : decode cX9_row 106 = .ok (.iadd, 1) := by decide +kernel
theorem dX9_row_107 : decode cX9_row 107 = .ok (.iaload, 1) := by decide +kernel
theorem dX9_row_108 : decode cX9_row 108 = .ok (.istore 9, 2) := by decide +kernel
theorem dX9_row_110 : decode cX9_row 110 = .ok (.iload 9, 2) := by decide +kernel
theorem dX9_row_112 : decode cX9_row 112 = .ok (.invokestatic 156, 3) := by decide +kernel
theorem dX9_row_115 : decode cX9_row 115 = .ok (.ifCond .ne 13, 3) := by decide +kernel
theorem dX9_row_118 : decode cX9_row 118 = .ok (.iload 7, 2) := by decide +kernel
theorem dX9_row_120 : decode cX9_row 120 = .ok (.iload 9, 2) := by decide +kernel
theorem dX9_row_122 : decode cX9_row 122 = .ok (.invokestatic 170, 3) := by decide +kernel
theorem dX9_row_125 : decode cX9_row 125 = .ok (.ifCond .eq 9, 3) := by decide +kernel
theorem dX9_row_128 : decode cX9_row 128 = .ok (.aload_n 0, 1) := by decide +kernel
theorem dX9_row_129 : decode cX9_row 129 = .ok (.iconst (-1), 1) := by decide +kernel
theorem dX9_row_130 : decode cX9_row 130 = .ok (.invokevirtual 128, 3) := by decide +kernel
theorem dX9_row_133 : decode cX9_row 133 = .ok (.ireturn, 1) := by decide +kernel
theorem dX9_row_134 : decode cX9_row 134 = .ok (.iload 7, 2) := by decide +kernel
theorem dX9_row_136 : decode cX9_row 136 = .ok (.iconst 1, 1) := by decide +kernel
theorem dX9_row_137 : decode cX9_row 137 = .ok (.iload 9, 2) := by decide +kernel
theorem dX9_row_139 : decode cX9_row 139 = .ok (.ishl, 1) := by decide +kernel
theorem dX9_row_140 : decode cX9_row 140 = .ok (.ior, 1) := by decide +kernel
theorem dX9_row_141 : decode cX9_row 141 = .ok (.istore 7, 2) := by decide +kernel
theorem dX9_row_143 : decode cX9_row 143 = .ok (.aload_n 0, 1) := by decide +kernel
theorem dX9_row_144 : decode cX9_row 144 = .ok (.getfield 34, 3) := by decide +kernel
theorem dX9_row_147 : decode cX9_row 147 = .ok (.iload 8, 2) := by decide +kernel
theorem dX9_row_149 : decode cX9_row 149 = .ok (.iload 9, 2) := by decide +kernel
theorem dX9_row_151 : decode cX9_row 151 = .ok (.iastore, 1) := by decide +kernel
theorem dX9_row_152 : decode cX9_row 152 = .ok (.iinc 8 1, 3) := by decide +kernel
theorem dX9_row_155 : decode cX9_row 155 = .ok (.goto (-69), 3) := by decide +kernel
theorem dX9_row_158 : decode cX9_row 158 = .ok (.aload_n 0, 1) := by decide +kernel
theorem dX9_row_159 : decode cX9_row 159 = .ok (.iload 5, 2) := by decide +kernel
theorem dX9_row_161 : decode cX9_row 161 = .ok (.invokevirtual 202, 3) := by decide +kernel
theorem dX9_row_164 : decode cX9_row 164 = .ok (.istore 8, 2) := by decide +kernel
theorem dX9_row_166 : decode cX9_row 166 = .ok (.aload_n 0, 1) := by decide +kernel
theorem dX9_row_167 : decode cX9_row 167 = .ok (.iload_n 1, 1) := by decide +kernel
theorem dX9_row_168 : decode cX9_row 168 = .ok (.ifCond .ge 8, 3) := by decide +kernel
theorem dX9_row_171 : decode cX9_row 171 = .ok (.iload 8, 2) := by decide +kernel
theorem dX9_row_173 : decode cX9_row 173 = .ok (.goto 9, 3) := by decide +kernel
theorem dX9_row_176 : decode cX9_row 176 = .ok (.aload_n 0, 1) := by decide +kernel
theorem dX9_row_177 : decode cX9_row 177 = .ok (.getfield 40, 3) := by decide +kernel
theorem dX9_row_180 : decode cX9_row 180 = .ok (.iload_n 1, 1) := by decide +kernel
theorem dX9_row_181 : decode cX9_row 181 = .ok (.iaload, 1) := by decide +kernel
theorem dX9_row_182 : decode cX9_row 182 = .ok (.invokevirtual 128, 3) := by decide +kernel
theorem dX9_row_185 : decode cX9_row 185 = .ok (.ireturn, 1) := by decide +kernel
theorem dX9_gainOf_0 : decode cX9_gainOf 0 = .ok (.aload_n 0, 1) := by decide +kernel
theorem dX9_gainOf_1 : decode cX9_gainOf 1 = .ok (.iload_n 2, 1) := by decide +kernel
theorem dX9_gainOf_2 : decode cX9_gainOf 2 = .ok (.aload_n 0, 1) := by decide +kernel
theorem dX9_gainOf_3 : decode cX9_gainOf 3 = .ok (.invokevirtual 195, 3) := by decide +kernel
theorem dX9_gainOf_6 : decode cX9_gainOf 6 = .ok (.invokevirtual 199, 3) := by decide +kernel
theorem dX9_gainOf_9 : decode cX9_gainOf 9 = .ok (.aload_n 0, 1) := by decide +kernel
theorem dX9_gainOf_10 : decode cX9_gainOf 10 = .ok (.getfield 176, 3) := by decide +kernel
theorem dX9_gainOf_13 : decode cX9_gainOf 13 = .ok (.iload_n 1, 1) := by decide +kernel
theorem dX9_gainOf_14 : decode cX9_gainOf 14 = .ok (.if_icmp .ne 21, 3) := by decide +kernel
theorem dX9_gainOf_17 : decode cX9_gainOf 17 = .ok (.aload_n 0, 1) := by decide +kernel
theorem dX9_gainOf_18 : decode cX9_gainOf 18 = .ok (.getfield 19, 3) := by decide +kernel
theorem dX9_gainOf_21 : decode cX9_gainOf 21 = .ok (.iconst 4, 1) := by decide +kernel
theorem dX9_gainOf_22 : decode cX9_gainOf 22 = .ok (.iload_n 1, 1) := by decide +kernel
theorem dX9_gainOf_23 : decode cX9_gainOf 23 = .ok (.imul, 1) := by decide +kernel
theorem dX9_gainOf_24 : decode cX9_gainOf 24 = .ok (.iload_n 2, 1) := by decide +kernel
theorem dX9_gainOf_25 : decode cX9_gainOf 25 = .ok (.iadd, 1) := by decide +kernel
theorem dX9_gainOf_26 : decode cX9_gainOf 26 = .ok (.iaload, 1) := by decide +kernel
theorem dX9_gainOf_27 : decode cX9_gainOf 27 = .ok (.aload_n 0, 1) := by decide +kernel
theorem dX9_gainOf_28 : decode cX9_gainOf 28 = .ok (.getfield 179, 3) := by decide +kernel
theorem dX9_gainOf_31 : decode cX9_gainOf 31 = .ok (.isub, 1) := by decide +kernel
theorem dX9_gainOf_32 : decode cX9_gainOf 32 = .ok (.goto 4, 3) := by decide +kernel
theorem dX9_gainOf_35 : decode cX9_gainOf 35 = .ok (.iconst 0, 1) := by decide +kernel
theorem dX9_gainOf_36 : decode cX9_gainOf 36 = .ok (.ireturn, 1) := by decide +kernel
theorem dX9_gain_0 : decode cX9_gain 0 = .ok (.aload_n 0, 1) := by decide +kernel
theorem dX9_gain_1 : decode cX9_gain 1 = .ok (.iload_n 1, 1) := by decide +kernel
theorem dX9_gain_2 : decode cX9_gain 2 = .ok (.invokevirtual 146, 3) := by decide +kernel
theorem dX9_gain_5 : decode cX9_gain 5 = .ok (.ifCond .ne 10, 3) := by decide +kernel
theorem dX9_gain_8 : decode cX9_gain 8 = .ok (.iload_n 2, 1) := by decide +kernel
theorem dX9_gain_9 : decode cX9_gain 9 = .ok (.invokestatic 156, 3) := by decide +kernel
theorem dX9_gain_12 : decode cX9_gain 12 = .ok (.ifCond .eq 7, 3) := by decide +kernel
theorem dX9_gain_15 : decode cX9_gain 15 = .ok (.iconst (-1), 1) := by decide +kernel
theorem dX9_gain_16 : decode cX9_gain 16 = .ok (.goto 12, 3) := by decide +kernel
theorem dX9_gain_19 : decode cX9_gain 19 = .ok (.aload_n 0, 1) := by decide +kernel
theorem dX9_gain_20 : decode cX9_gain 20 = .ok (.iload_n 1, 1) := by decide +kernel
theorem dX9_gain_21 : decode cX9_gain 21 = .ok (.iload_n 2, 1) := by decide +kernel
theorem dX9_gain_22 : decode cX9_gain 22 = .ok (.invokevirtual 205, 3) := by decide +kernel
theorem dX9_gain_25 : decode cX9_gain 25 = .ok (.bipush 100, 2) := by decide +kernel
theorem dX9_gain_27 : decode cX9_gain 27 = .ok (.iadd, 1) := by decide +kernel
theorem dX9_gain_28 : decode cX9_gain 28 = .ok (.ireturn, 1) := by decide +kernel
theorem dX9_best_0 : decode cX9_best 0 = .ok (.aload_n 0, 1) := by decide +kernel
theorem dX9_best_1 : decode cX9_best 1 = .ok (.iload_n 1, 1) := by decide +kernel
theorem dX9_best_2 : decode cX9_best 2 = .ok (.invokevirtual 146, 3) := by decide +kernel
theorem dX9_best_5 : decode cX9_best 5 = .ok (.ifCond .ne 10, 3) := by decide +kernel
theorem dX9_best_8 : decode cX9_best 8 = .ok (.iload_n 2, 1) := by decide +kernel
theorem dX9_best_9 : decode cX9_best 9 = .ok (.invokestatic 156, 3) := by decide +kernel
theorem dX9_best_12 : decode cX9_best 12 = .ok (.ifCond .eq 5, 3) := by decide +kernel
theorem dX9_best_15 : decode cX9_best 15 = .ok (.iconst (-1), 1) := by decide +kernel
theorem dX9_best_16 : decode cX9_best 16 = .ok (.ireturn, 1) := by decide +kernel
theorem dX9_best_17 : decode cX9_best 17 = .ok (.iload_n 3, 1) := by decide +kernel
theorem dX9_best_18 : decode cX9_best 18 = .ok (.i2l, 1) := by decide +kernel
theorem dX9_best_19 : decode cX9_best 19 = .ok (.lconst 0, 1) := by decide +kernel
theorem dX9_best_20 : decode cX9_best 20 = .ok (.lconst 1, 1) := by decide +kernel
theorem dX9_best_21 : decode cX9_best 21 = .ok (.invokestatic 80, 3) := by decide +kernel
theorem dX9_best_24 : decode cX9_best 24 = .ok (.ifCond .ne 6, 3) := by decide +kernel
theorem dX9_best_27 : decode cX9_best 27 = .ok (.bipush (-2), 2) := by decide +kernel
theorem dX9_best_29 : decode cX9_best 29 = .ok (.ireturn, 1) := by decide +kernel
theorem dX9_best_30 : decode cX9_best 30 = .ok (.aload_n 0, 1) := by decide +kernel
theorem dX9_best_31 : decode cX9_best 31 = .ok (.getfield 16, 3) := by decide +kernel
theorem dX9_best_34 : decode cX9_best 34 = .ok (.iload_n 1, 1) := by decide +kernel
theorem dX9_best_35 : decode cX9_best 35 = .ok (.iaload, 1) := by decide +kernel
theorem dX9_best_36 : decode cX9_best 36 = .ok (.istore 4, 2) := by decide +kernel
theorem dX9_best_38 : decode cX9_best 38 = .ok (.bipush (-9), 2) := by decide +kernel
theorem dX9_best_40 : decode cX9_best 40 = .ok (.istore 5, 2) := by decide +kernel
theorem dX9_best_42 : decode cX9_best 42 = .ok (.bipush (-99), 2) := by decide +kernel
theorem dX9_best_44 : decode cX9_best 44 = .ok (.istore 6, 2) := by decide +kernel
theorem dX9_best_46 : decode cX9_best 46 = .ok (.iconst 0, 1) := by decide +kernel
theorem dX9_best_47 : decode cX9_best 47 = .ok (.istore 7, 2) := by decide +kernel
theorem dX9_best_49 : decode cX9_best 49 = .ok (.iload 7, 2) := by decide +kernel
theorem dX9_best_51 : decode cX9_best 51 = .ok (.aload_n 0, 1) := by decide +kernel
theorem dX9_best_52 : decode cX9_best 52 = .ok (.getfield 74, 3) := by decide +kernel
theorem dX9_best_55 : decode cX9_best 55 = .ok (.aload_n 0, 1) := by decide +kernel
theorem dX9_best_56 : decode cX9_best 56 = .ok (.getfield 77, 3) := by decide +kernel
theorem dX9_best_59 : decode cX9_best 59 = .ok (.imul, 1) := by decide +kernel
theorem dX9_best_60 : decode cX9_best 60 = .ok (.if_icmp .ge 84, 3) := by decide +kernel
theorem dX9_best_63 : decode cX9_best 63 = .ok (.aload_n 0, 1) := by decide +kernel
theorem dX9_best_64 : decode cX9_best 64 = .ok (.iload 7, 2) := by decide +kernel
theorem dX9_best_66 : decode cX9_best 66 = .ok (.invokevirtual 167, 3) := by decide +kernel
theorem dX9_best_69 : decode cX9_best 69 = .ok (.istore 8, 2) := by decide +kernel
theorem dX9_best_71 : decode cX9_best 71 = .ok (.iload 8, 2) := by decide +kernel
theorem dX9_best_73 : decode cX9_best 73 = .ok (.ifCond .lt 9, 3) := by decide +kernel
theorem dX9_best_76 : decode cX9_best 76 = .ok (.iload 8, 2) := by decide +kernel
theorem dX9_best_78 : decode cX9_best 78 = .ok (.iload_n 1, 1) := by decide +kernel
theorem dX9_best_79 : decode cX9_best 79 = .ok (.if_icmp .ne 59, 3) := by decide +kernel
theorem dX9_best_82 : decode cX9_best 82 = .ok (.aload_n 0, 1) := by decide +kernel
theorem dX9_best_83 : decode cX9_best 83 = .ok (.getfield 16, 3) := by decide +kernel
theorem dX9_best_86 : decode cX9_best 86 = .ok (.iload_n 1, 1) := by decide +kernel
theorem dX9_best_87 : decode cX9_best 87 = .ok (.iload 7, 2) := by decide +kernel
theorem dX9_best_89 : decode cX9_best 89 = .ok (.iastore, 1) := by decide +kernel
theorem dX9_best_90 : decode cX9_best 90 = .ok (.aload_n 0, 1) := by decide +kernel
theorem dX9_best_91 : decode cX9_best 91 = .ok (.iload_n 1, 1) := by decide +kernel
theorem dX9_best_92 : decode cX9_best 92 = .ok (.iload_n 2, 1) := by decide +kernel
theorem dX9_best_93 : decode cX9_best 93 = .ok (.invokevirtual 205, 3) := by decide +kernel
theorem dX9_best_96 : decode cX9_best 96 = .ok (.istore 9, 2) := by decide +kernel
theorem dX9_best_98 : decode cX9_best 98 = .ok (.aload_n 0, 1) := by decide +kernel
theorem dX9_best_99 : decode cX9_best 99 = .ok (.getfield 16, 3) := by decide +kernel
theorem dX9_best_102 : decode cX9_best 102 = .ok (.iload_n 1, 1) := by decide +kernel
theorem dX9_best_103 : decode cX9_best 103 = .ok (.iload 4, 2) := by decide +kernel
theorem dX9_best_105 : decode cX9_best 105 = .ok (.iastore, 1) := by decide +kernel
theorem dX9_best_106 : decode cX9_best 106 = .ok (.iload 9, 2) := by decide +kernel
theorem dX9_best_108 : decode cX9_best 108 = .ok (.iload 6, 2) := by decide +kernel
theorem dX9_best_110 : decode cX9_best 110 = .ok (.if_icmp .le 8, 3) := by decide +kernel
theorem dX9_best_113 : decode cX9_best 113 = .ok (.iload 7, 2) := by decide +kernel
theorem dX9_best_115 : decode cX9_best 115 = .ok (.goto 5, 3) := by decide +kernel
theorem dX9_best_118 : decode cX9_best 118 = .ok (.iload 5, 2) := by decide +kernel
theorem dX9_best_120 : decode cX9_best 120 = .ok (.istore 5, 2) := by decide +kernel
theorem dX9_best_122 : decode cX9_best 122 = .ok (.iload 9, 2) := by decide +kernel
theorem dX9_best_124 : decode cX9_best 124 = .ok (.iload 6, 2) := by decide +kernel
theorem dX9_best_126 : decode cX9_best 126 = .ok (.if_icmp .le 8, 3) := by decide +kernel
theorem dX9_best_129 : decode cX9_best 129 = .ok (.iload 9, 2) := by decide +kernel
theorem dX9_best_131 : decode cX9_best 131 = .ok (.goto 5, 3) := by decide +kernel
theorem dX9_best_134 : decode cX9_best 134 = .ok (.iload 6, 2) := by decide +kernel
theorem dX9_best_136 : decode cX9_best 136 = .ok (.istore 6, 2) := by decide +kernel
theorem dX9_best_138 : decode cX9_best 138 = .ok (.iinc 7 1, 3) := by decide +kernel
theorem dX9_best_141 : decode cX9_best 141 = .ok (.goto (-92), 3) := by decide +kernel
theorem dX9_best_144 : decode cX9_best 144 = .ok (.iload_n 3, 1) := by decide +kernel
theorem dX9_best_145 : decode cX9_best 145 = .ok (.ifCond .ne 8, 3) := by decide +kernel
theorem dX9_best_148 : decode cX9_best 148 = .ok (.iload 5, 2) := by decide +kernel
theorem dX9_best_150 : decode cX9_best 150 = .ok (.goto 8, 3) := by decide +kernel
theorem dX9_best_153 : decode cX9_best 153 = .ok (.iload 6, 2) := by decide +kernel
theorem dX9_best_155 : decode cX9_best 155 = .ok (.bipush 100, 2) := by decide +kernel
theorem dX9_best_157 : decode cX9_best 157 = .ok (.iadd, 1) := by decide +kernel
theorem dX9_best_158 : decode cX9_best 158 = .ok (.ireturn, 1) := by decide +kernel
theorem dX9_order_0 : decode cX9_order 0 = .ok (.iload_n 1, 1) := by decide +kernel
theorem dX9_order_1 : decode cX9_order 1 = .ok (.i2l, 1) := by decide +kernel
theorem dX9_order_2 : decode cX9_order 2 = .ok (.ldc2_w 208, 3) := by decide +kernel
theorem dX9_order_5 : decode cX9_order 5 = .ok (.ldc2_w 87, 3) := by decide +kernel
theorem dX9_order_8 : decode cX9_order 8 = .ok (.invokestatic 80, 3) := by decide +kernel
theorem dX9_order_11 : decode cX9_order 11 = .ok (.ifCond .ne 5, 3) := by decide +kernel
theorem dX9_order_14 : decode cX9_order 14 = .ok (.iconst (-1), 1) := by decide +kernel
theorem dX9_order_15 : decode cX9_order 15 = .ok (.ireturn, 1) := by decide +kernel
theorem dX9_order_16 : decode cX9_order 16 = .ok (.aload_n 0, 1) := by decide +kernel
theorem dX9_order_17 : decode cX9_order 17 = .ok (.getfield 74, 3) := by decide +kernel
theorem dX9_order_20 : decode cX9_order 20 = .ok (.ifCond .ne 6, 3) := by decide +kernel
theorem dX9_order_23 : decode cX9_order 23 = .ok (.bipush (-3), 2) := by decide +kernel
theorem dX9_order_25 : decode cX9_order 25 = .ok (.ireturn, 1) := by decide +kernel
theorem dX9_order_26 : decode cX9_order 26 = .ok (.bipush (-9), 2) := by decide +kernel
theorem dX9_order_28 : decode cX9_order 28 = .ok (.istore_n 2, 1) := by decide +kernel
theorem dX9_order_29 : decode cX9_order 29 = .ok (.iconst 0, 1) := by decide +kernel
theorem dX9_order_30 : decode cX9_order 30 = .ok (.istore_n 3, 1) := by decide +kernel
theorem dX9_order_31 : decode cX9_order 31 = .ok (.iload_n 3, 1) := by decide +kernel
theorem dX9_order_32 : decode cX9_order 32 = .ok (.sipush 256, 3) := by decide +kernel
theorem dX9_order_35 : decode cX9_order 35 = .ok (.if_icmp .ge 131, 3) := by decide +kernel
theorem dX9_order_38 : decode cX9_order 38 = .ok (.iconst 0, 1) := by decide +kernel
theorem dX9_order_39 : decode cX9_order 39 = .ok (.istore 4, 2) := by decide +kernel
theorem dX9_order_41 : decode cX9_order 41 = .ok (.iconst 0, 1) := by decide +kernel
theorem dX9_order_42 : decode cX9_order 42 = .ok (.istore 5, 2) := by decide +kernel
theorem dX9_order_44 : decode cX9_order 44 = .ok (.iload 5, 2) := by decide +kernel
theorem dX9_order_46 : decode cX9_order 46 = .ok (.iconst 4, 1) := by decide +kernel
theorem dX9_order_47 : decode cX9_order 47 = .ok (.if_icmp .ge 41, 3) := by decide +kernel
theorem dX9_order_50 : decode cX9_order 50 = .ok (.aload_n 0, 1) := by decide +kernel
theorem dX9_order_51 : decode cX9_order 51 = .ok (.getfield 34, 3) := by decide +kernel
theorem dX9_order_54 : decode cX9_order 54 = .ok (.iload 5, 2) := by decide +kernel
theorem dX9_order_56 : decode cX9_order 56 = .ok (.iload_n 3, 1) := by decide +kernel
theorem dX9_order_57 : decode cX9_order 57 = .ok (.bipush 6, 2) := by decide +kernel
theorem dX9_order_59 : decode cX9_order 59 = .ok (.iconst 2, 1) := by decide +kernel
theorem dX9_order_60 : decode cX9_order 60 = .ok (.iload 5, 2) := by decide +kernel
theorem dX9_order_62 : decode cX9_order 62 = .ok (.imul, 1) := by decide +kernel
theorem dX9_order_63 : decode cX9_order 63 = .ok (.isub, 1) := by decide +kernel
theorem dX9_order_64 : decode cX9_order 64 = .ok (.ishr, 1) := by decide +kernel
theorem dX9_order_65 : decode cX9_order 65 = .ok (.iconst 3, 1) := by decide +kernel
theorem dX9_order_66 : decode cX9_order 66 = .ok (.iand, 1) := by decide +kernel
theorem dX9_order_67 : decode cX9_order 67 = .ok (.iastore, 1) := by decide +kernel
theorem dX9_order_68 : decode cX9_order 68 = .ok (.iload 4, 2) := by decide +kernel
theorem dX9_order_70 : decode cX9_order 70 = .ok (.iconst 1, 1) := by decide +kernel
theorem dX9_order_71 : decode cX9_order 71 = .ok (.aload_n 0, 1) := by decide +kernel
theorem dX9_order_72 : decode cX9_order 72 = .ok (.getfield 34, 3) := by decide +kernel
theorem dX9_order_75 : decode cX9_order 75 = .ok (.iload 5, 2) := by decide +kernel
theorem dX9_order_77 : decode cX9_order 77 = .ok (.iaload, 1) := by decide +kernel
theorem dX9_order_78 : decode cX9_order 78 = .ok (.ishl, 1) := by decide +kernel
theorem dX9_order_79 : decode cX9_order 79 = .ok (.ior, 1) := by decide +kernel
theorem dX9_order_80 : decode cX9_order 80 = .ok (.istore 4, 2) := by decide +kernel
theorem dX9_order_82 : decode cX9_order 82 = .ok (.iinc 5 1, 3) := by decide +kernel
theorem dX9_order_85 : decode cX9_order 85 = .ok (.goto (-41), 3) := by decide +kernel
theorem dX9_order_88 : decode cX9_order 88 = .ok (.iload 4, 2) := by decide +kernel
theorem dX9_order_90 : decode cX9_order 90 = .ok (.bipush 15, 2) := by decide +kernel
theorem dX9_order_92 : decode cX9_order 92 = .ok (.if_icmp .ne 68, 3) := by decide +kernel
theorem dX9_order_95 : decode cX9_order 95 = .ok (.aload_n 0, 1) := by decide +kernel
theorem dX9_order_96 : decode cX9_order 96 = .ok (.iconst 4, 1) := by decide +kernel
theorem dX9_order_97 : decode cX9_order 97 = .ok (.invokevirtual 202, 3) := by decide +kernel
theorem dX9_order_100 : decode cX9_order 100 = .ok (.istore 5, 2) := by decide +kernel
theorem dX9_order_102 : decode cX9_order 102 = .ok (.iconst 0, 1) := by decide +kernel
theorem dX9_order_103 : decode cX9_order 103 = .ok (.istore 6, 2) := by decide +kernel
theorem dX9_order_105 : decode cX9_order 105 = .ok (.iload 6, 2) := by decide +kernel
theorem dX9_order_107 : decode cX9_order 107 = .ok (.iconst 4, 1) := by decide +kernel
theorem dX9_order_108 : decode cX9_order 108 = .ok (.if_icmp .ge 39, 3) := by decide +kernel
theorem dX9_order_111 : decode cX9_order 111 = .ok (.aload_n 0, 1) := by decide +kernel
theorem dX9_order_112 : decode cX9_order 112 = .ok (.getfield 43, 3) := by decide +kernel
theorem dX9_order_115 : decode cX9_order 115 = .ok (.iload 6, 2) := by decide +kernel
theorem dX9_order_117 : decode cX9_order 117 = .ok (.iload 5, 2) := by decide +kernel
theorem dX9_order_119 : decode cX9_order 119 = .ok (.iload_n 2, 1) := by decide +kernel
theorem dX9_order_120 : decode cX9_order 120 = .ok (.if_icmp .le 13, 3) := by decide +kernel
theorem dX9_order_123 : decode cX9_order 123 = .ok (.aload_n 0, 1) := by decide +kernel
theorem dX9_order_124 : decode cX9_order 124 = .ok (.getfield 34, 3) := by decide +kernel
theorem dX9_order_127 : decode cX9_order 127 = .ok (.iload 6, 2) := by decide +kernel
theorem dX9_order_129 : decode cX9_order 129 = .ok (.iaload, 1) := by decide +kernel
theorem dX9_order_130 : decode cX9_order 130 = .ok (.goto 10, 3) := by decide +kernel
theorem dX9_order_133 : decode cX9_order 133 = .ok (.aload_n 0, 1) := by decide +kernel
theorem dX9_order_134 : decode cX9_order 134 = .ok (.getfield 43, 3) := by decide +kernel
theorem dX9_order_137 : decode cX9_order 137 = .ok (.iload 6, 2) := by decide +kernel
theorem dX9_order_139 : decode cX9_order 139 = .ok (.iaload, 1) := by decide +kernel
theorem dX9_order_140 : decode cX9_order 140 = .ok (.iastore, 1) := by decide +kernel
theorem dX9_order_141 : decode cX9_order 141 = .ok (.iinc 6 1, 3) := by decide +kernel
theorem dX9_order_144 : decode cX9_order 144 = .ok (.goto (-39), 3) := by decide +kernel
theorem dX9_order_147 : decode cX9_order 147 = .ok (.iload 5, 2) := by decide +kernel
theorem dX9_order_149 : decode cX9_order 149 = .ok (.iload_n 2, 1) := by decide +kernel
theorem dX9_order_150 : decode cX9_order 150 = .ok (.if_icmp .le 8, 3) := by decide +kernel
theorem dX9_order_153 : decode cX9_order 153 = .ok (.iload 5, 2) := by decide +kernel
theorem dX9_order_155 : decode cX9_order 155 = .ok (.goto 4, 3) := by decide +kernel
theorem dX9_order_158 : decode cX9_order 158 = .ok (.iload_n 2, 1) := by decide +kernel
theorem dX9_order_159 : decode cX9_order 159 = .ok (.istore_n 2, 1) := by decide +kernel
theorem dX9_order_160 : decode cX9_order 160 = .ok (.iinc 3 1, 3) := by decide +kernel
theorem dX9_order_163 : decode cX9_order 163 = .ok (.goto (-132), 3) := by decide +kernel
theorem dX9_order_166 : decode cX9_order 166 = .ok (.iload_n 1, 1) := by decide +kernel
theorem dX9_order_167 : decode cX9_order 167 = .ok (.ifCond .ge 7, 3) := by decide +kernel
theorem dX9_order_170 : decode cX9_order 170 = .ok (.iload_n 2, 1) := by decide +kernel
theorem dX9_order_171 : decode cX9_order 171 = .ok (.goto 9, 3) := by decide +kernel
theorem dX9_order_174 : decode cX9_order 174 = .ok (.aload_n 0, 1) := by decide +kernel
theorem dX9_order_175 : decode cX9_order 175 = .ok (.getfield 43, 3) := by decide +kernel
theorem dX9_order_178 : decode cX9_order 178 = .ok (.iload_n 1, 1) := by decide +kernel
theorem dX9_order_179 : decode cX9_order 179 = .ok (.iaload, 1) := by decide +kernel
theorem dX9_order_180 : decode cX9_order 180 = .ok (.ireturn, 1) := by decide +kernel
theorem dX9_ring_0 : decode cX9_ring 0 = .ok (.iload_n 2, 1) := by decide +kernel
theorem dX9_ring_1 : decode cX9_ring 1 = .ok (.invokestatic 156, 3) := by decide +kernel
theorem dX9_ring_4 : decode cX9_ring 4 = .ok (.ifCond .eq 5, 3) := by decide +kernel
theorem dX9_ring_7 : decode cX9_ring 7 = .ok (.iconst (-1), 1) := by decide +kernel
theorem dX9_ring_8 : decode cX9_ring 8 = .ok (.ireturn, 1) := by decide +kernel
theorem dX9_ring_9 : decode cX9_ring 9 = .ok (.iload_n 1, 1) := by decide +kernel
theorem dX9_ring_10 : decode cX9_ring 10 = .ok (.i2l, 1) := by decide +kernel
theorem dX9_ring_11 : decode cX9_ring 11 = .ok (.lconst 0, 1) := by decide +kernel
theorem dX9_ring_12 : decode cX9_ring 12 = .ok (.aload_n 0, 1) := by decide +kernel
theorem dX9_ring_13 : decode cX9_ring 13 = .ok (.invokevirtual 195, 3) := by decide +kernel
theorem dX9_ring_16 : decode cX9_ring 16 = .ok (.i2l, 1) := by decide +kernel
theorem dX9_ring_17 : decode cX9_ring 17 = .ok (.invokestatic 80, 3) := by decide +kernel
theorem dX9_ring_20 : decode cX9_ring 20 = .ok (.ifCond .ne 6, 3) := by decide +kernel
theorem dX9_ring_23 : decode cX9_ring 23 = .ok (.bipush (-2), 2) := by decide +kernel
theorem dX9_ring_25 : decode cX9_ring 25 = .ok (.ireturn, 1) := by decide +kernel
theorem dX9_ring_26 : decode cX9_ring 26 = .ok (.aload_n 0, 1) := by decide +kernel
theorem dX9_ring_27 : decode cX9_ring 27 = .ok (.getfield 74, 3) := by decide +kernel
theorem dX9_ring_30 : decode cX9_ring 30 = .ok (.ifCond .ne 6, 3) := by decide +kernel
theorem dX9_ring_33 : decode cX9_ring 33 = .ok (.bipush (-3), 2) := by decide +kernel
theorem dX9_ring_35 : decode cX9_ring 35 = .ok (.ireturn, 1) := by decide +kernel
theorem dX9_ring_36 : decode cX9_ring 36 = .ok (.bipush (-9), 2) := by decide +kernel
theorem dX9_ring_38 : decode cX9_ring 38 = .ok (.istore_n 3, 1) := by decide +kernel
theorem dX9_ring_39 : decode cX9_ring 39 = .ok (.iconst 0, 1) := by decide +kernel
theorem dX9_ring_40 : decode cX9_ring 40 = .ok (.istore 4, 2) := by decide +kernel
theorem dX9_ring_42 : decode cX9_ring 42 = .ok (.iload 4, 2) := by decide +kernel
theorem dX9_ring_44 : decode cX9_ring 44 = .ok (.aload_n 0, 1) := by decide +kernel
theorem dX9_ring_45 : decode cX9_ring 45 = .ok (.getfield 84, 3) := by decide +kernel
theorem dX9_ring_48 : decode cX9_ring 48 = .ok (.if_icmp .ge 45, 3) := by decide +kernel
theorem dX9_ring_51 : decode cX9_ring 51 = .ok (.iload_n 1, 1) := by decide +kernel
theorem dX9_ring_52 : decode cX9_ring 52 = .ok (.iload 4, 2) := by decide +kernel
theorem dX9_ring_54 : decode cX9_ring 54 = .ok (.invokestatic 170, 3) := by decide +kernel
theorem dX9_ring_57 : decode cX9_ring 57 = .ok (.ifCond .eq 28, 3) := by decide +kernel
theorem dX9_ring_60 : decode cX9_ring 60 = .ok (.iload_n 3, 1) := by decide +kernel
theorem dX9_ring_61 : decode cX9_ring 61 = .ok (.ifCond .lt 19, 3) := by decide +kernel
theorem dX9_ring_64 : decode cX9_ring 64 = .ok (.aload_n 0, 1) := by decide +kernel
theorem dX9_ring_65 : decode cX9_ring 65 = .ok (.iload 4, 2) := by decide +kernel
theorem dX9_ring_67 : decode cX9_ring 67 = .ok (.iload_n 2, 1) := by decide +kernel
theorem dX9_ring_68 : decode cX9_ring 68 = .ok (.invokevirtual 161, 3) := by decide +kernel
theorem dX9_ring_71 : decode cX9_ring 71 = .ok (.aload_n 0, 1) := by decide +kernel
theorem dX9_ring_72 : decode cX9_ring 72 = .ok (.iload_n 3, 1) := by decide +kernel
theorem dX9_ring_73 : decode cX9_ring 73 = .ok (.iload_n 2, 1) := by decide +kernel
theorem dX9_ring_74 : decode cX9_ring 74 = .ok (.invokevirtual 161, 3) := by decide +kernel
theorem dX9_ring_77 : decode cX9_ring 77 = .ok (.if_icmp .le 8, 3) := by decide +kernel
theorem dX9_ring_80 : decode cX9_ring 80 = .ok (.iload 4, 2) := by decide +kernel
theorem dX9_ring_82 : decode cX9_ring 82 = .ok (.goto 4, 3) := by decide +kernel
theorem dX9_ring_85 : decode cX9_ring 85 = .ok (.iload_n 3, 1) := by decide +kernel
theorem dX9_ring_86 : decode cX9_ring 86 = .ok (.istore_n 3, 1) := by decide +kernel
theorem dX9_ring_87 : decode cX9_ring 87 = .ok (.iinc 4 1, 3) := by decide +kernel
theorem dX9_ring_90 : decode cX9_ring 90 = .ok (.goto (-48), 3) := by decide +kernel
theorem dX9_ring_93 : decode cX9_ring 93 = .ok (.aload_n 0, 1) := by decide +kernel
theorem dX9_ring_94 : decode cX9_ring 94 = .ok (.aload_n 0, 1) := by decide +kernel
theorem dX9_ring_95 : decode cX9_ring 95 = .ok (.invokevirtual 195, 3) := by decide +kernel
theorem dX9_ring_98 : decode cX9_ring 98 = .ok (.invokevirtual 149, 3) := by decide +kernel
theorem dX9_ring_101 : decode cX9_ring 101 = .ok (.aload_n 0, 1) := by decide +kernel
theorem dX9_ring_102 : decode cX9_ring 102 = .ok (.iload_n 2, 1) := by decide +kernel
theorem dX9_ring_103 : decode cX9_ring 103 = .ok (.iload_n 3, 1) := by decide +kernel
theorem dX9_ring_104 : decode cX9_ring 104 = .ok (.ifCond .ge 10, 3) := by decide +kernel
theorem dX9_ring_107 : decode cX9_ring 107 = .ok (.aload_n 0, 1) := by decide +kernel
theorem dX9_ring_108 : decode cX9_ring 108 = .ok (.invokevirtual 195, 3) := by decide +kernel
theorem dX9_ring_111 : decode cX9_ring 111 = .ok (.goto 15, 3) := by decide +kernel
theorem dX9_ring_114 : decode cX9_ring 114 = .ok (.aload_n 0, 1) := by decide +kernel
theorem dX9_ring_115 : decode cX9_ring 115 = .ok (.invokevirtual 195, 3) := by decide +kernel
theorem dX9_ring_118 : decode cX9_ring 118 = .ok (.iload_n 1, 1) := by decide +kernel
theorem dX9_ring_119 : decode cX9_ring 119 = .ok (.iconst (-1), 1) := by decide +kernel
theorem dX9_ring_120 : decode cX9_ring 120 = .ok (.ixor, 1) := by decide +kernel
theorem dX9_ring_121 : decode cX9_ring 121 = .ok (.iand, 1) := by decide +kernel
theorem dX9_ring_122 : decode cX9_ring 122 = .ok (.iconst 1, 1) := by decide +kernel
theorem dX9_ring_123 : decode cX9_ring 123 = .ok (.iload_n 3, 1) := by decide +kernel
theorem dX9_ring_124 : decode cX9_ring 124 = .ok (.ishl, 1) := by decide +kernel
theorem dX9_ring_125 : decode cX9_ring 125 = .ok (.ior, 1) := by decide +kernel
theorem dX9_ring_126 : decode cX9_ring 126 = .ok (.invokevirtual 191, 3) := by decide +kernel
theorem dX9_ring_129 : decode cX9_ring 129 = .ok (.aload_n 0, 1) := by decide +kernel
theorem dX9_ring_130 : decode cX9_ring 130 = .ok (.getfield 179, 3) := by decide +kernel
theorem dX9_ring_133 : decode cX9_ring 133 = .ok (.ireturn, 1) := by decide +kernel
theorem dX9_mean_0 : decode cX9_mean 0 = .ok (.iload_n 1, 1) := by decide +kernel
theorem dX9_mean_1 : decode cX9_mean 1 = .ok (.invokestatic 156, 3) := by decide +kernel
theorem dX9_mean_4 : decode cX9_mean 4 = .ok (.ifCond .ne 20, 3) := by decide +kernel
theorem dX9_mean_7 : decode cX9_mean 7 = .ok (.iload_n 2, 1) := by decide +kernel
theorem dX9_mean_8 : decode cX9_mean 8 = .ok (.i2l, 1) := by decide +kernel
theorem dX9_mean_9 : decode cX9_mean 9 = .ok (.lconst 0, 1) := by decide +kernel
theorem dX9_mean_10 : decode cX9_mean 10 = .ok (.lconst 1, 1) := by decide +kernel
theorem dX9_mean_11 : decode cX9_mean 11 = .ok (.invokestatic 80, 3) := by decide +kernel
theorem dX9_mean_14 : decode cX9_mean 14 = .ok (.ifCond .eq 10, 3) := by decide +kernel
theorem dX9_mean_17 : decode cX9_mean 17 = .ok (.aload_n 0, 1) := by decide +kernel
theorem dX9_mean_18 : decode cX9_mean 18 = .ok (.getfield 74, 3) := by decide +kernel
theorem dX9_mean_21 : decode cX9_mean 21 = .ok (.ifCond .ne 7, 3) := by decide +kernel
theorem dX9_mean_24 : decode cX9_mean 24 = .ok (.invokestatic 70, 3) := by decide +kernel
theorem dX9_mean_27 : decode cX9_mean 27 = .ok (.lreturn, 1) := by decide +kernel
theorem dX9_mean_28 : decode cX9_mean 28 = .ok (.iconst 0, 1) := by decide +kernel
theorem dX9_mean_29 : decode cX9_mean 29 = .ok (.istore_n 3, 1) := by decide +kernel
theorem dX9_mean_30 : decode cX9_mean 30 = .ok (.iconst 0, 1) := by decide +kernel
theorem dX9_mean_31 : decode cX9_mean 31 = .ok (.istore 4, 2) := by decide +kernel
theorem dX9_mean_33 : decode cX9_mean 33 = .ok (.iload 4, 2) := by decide +kernel
theorem dX9_mean_35 : decode cX9_mean 35 = .ok (.aload_n 0, 1) := by decide +kernel
theorem dX9_mean_36 : decode cX9_mean 36 = .ok (.invokevirtual 195, 3) := by decide +kernel
theorem dX9_mean_39 : decode cX9_mean 39 = .ok (.if_icmp .gt 23, 3) := by decide +kernel
theorem dX9_mean_42 : decode cX9_mean 42 = .ok (.aload_n 0, 1) := by decide +kernel
theorem dX9_mean_43 : decode cX9_mean 43 = .ok (.iload_n 1, 1) := by decide +kernel
theorem dX9_mean_44 : decode cX9_mean 44 = .ok (.iload 4, 2) := by decide +kernel
theorem dX9_mean_46 : decode cX9_mean 46 = .ok (.invokevirtual 199, 3) := by decide +kernel
theorem dX9_mean_49 : decode cX9_mean 49 = .ok (.iload_n 3, 1) := by decide +kernel
theorem dX9_mean_50 : decode cX9_mean 50 = .ok (.aload_n 0, 1) := by decide +kernel
theorem dX9_mean_51 : decode cX9_mean 51 = .ok (.getfield 179, 3) := by decide +kernel
theorem dX9_mean_54 : decode cX9_mean 54 = .ok (.iadd, 1) := by decide +kernel
theorem dX9_mean_55 : decode cX9_mean 55 = .ok (.istore_n 3, 1) := by decide +kernel
theorem dX9_mean_56 : decode cX9_mean 56 = .ok (.iinc 4 1, 3) := by decide +kernel
theorem dX9_mean_59 : decode cX9_mean 59 = .ok (.goto (-26), 3) := by decide +kernel
theorem dX9_mean_62 : decode cX9_mean 62 = .ok (.iload_n 3, 1) := by decide +kernel
theorem dX9_mean_63 : decode cX9_mean 63 = .ok (.i2l, 1) := by decide +kernel
theorem dX9_mean_64 : decode cX9_mean 64 = .ok (.aload_n 0, 1) := by decide +kernel
theorem dX9_mean_65 : decode cX9_mean 65 = .ok (.invokevirtual 195, 3) := by decide +kernel
theorem dX9_mean_68 : decode cX9_mean 68 = .ok (.i2l, 1) := by decide +kernel
theorem dX9_mean_69 : decode cX9_mean 69 = .ok (.lconst 1, 1) := by decide +kernel
theorem dX9_mean_70 : decode cX9_mean 70 = .ok (.ladd, 1) := by decide +kernel
theorem dX9_mean_71 : decode cX9_mean 71 = .ok (.iload_n 2, 1) := by decide +kernel
theorem dX9_mean_72 : decode cX9_mean 72 = .ok (.invokestatic 210, 3) := by decide +kernel
theorem dX9_mean_75 : decode cX9_mean 75 = .ok (.lreturn, 1) := by decide +kernel
theorem dX9_hangs_0 : decode cX9_hangs 0 = .ok (.iload_n 1, 1) := by decide +kernel
theorem dX9_hangs_1 : decode cX9_hangs 1 = .ok (.invokestatic 156, 3) := by decide +kernel
theorem dX9_hangs_4 : decode cX9_hangs 4 = .ok (.ifCond .eq 5, 3) := by decide +kernel
theorem dX9_hangs_7 : decode cX9_hangs 7 = .ok (.iconst (-1), 1) := by decide +kernel
theorem dX9_hangs_8 : decode cX9_hangs 8 = .ok (.ireturn, 1) := by decide +kernel
theorem dX9_hangs_9 : decode cX9_hangs 9 = .ok (.aload_n 0, 1) := by decide +kernel
theorem dX9_hangs_10 : decode cX9_hangs 10 = .ok (.getfield 74, 3) := by decide +kernel
theorem dX9_hangs_13 : decode cX9_hangs 13 = .ok (.ifCond .ne 6, 3) := by decide +kernel
theorem dX9_hangs_16 : decode cX9_hangs 16 = .ok (.bipush (-3), 2) := by decide +kernel
theorem dX9_hangs_18 : decode cX9_hangs 18 = .ok (.ireturn, 1) := by decide +kernel
theorem dX9_hangs_19 : decode cX9_hangs 19 = .ok (.aload_n 0, 1) := by decide +kernel
theorem dX9_hangs_20 : decode cX9_hangs 20 = .ok (.iload_n 1, 1) := by decide +kernel
theorem dX9_hangs_21 : decode cX9_hangs 21 = .ok (.aload_n 0, 1) := by decide +kernel
theorem dX9_hangs_22 : decode cX9_hangs 22 = .ok (.invokevirtual 195, 3) := by decide +kernel
theorem dX9_hangs_25 : decode cX9_hangs 25 = .ok (.invokevirtual 199, 3) := by decide +kernel
theorem dX9_hangs_28 : decode cX9_hangs 28 = .ok (.aload_n 0, 1) := by decide +kernel
theorem dX9_hangs_29 : decode cX9_hangs 29 = .ok (.getfield 176, 3) := by decide +kernel
theorem dX9_hangs_32 : decode cX9_hangs 32 = .ok (.istore_n 2, 1) := by decide +kernel
theorem dX9_hangs_33 : decode cX9_hangs 33 = .ok (.iconst 0, 1) := by decide +kernel
theorem dX9_hangs_34 : decode cX9_hangs 34 = .ok (.istore_n 3, 1) := by decide +kernel
theorem dX9_hangs_35 : decode cX9_hangs 35 = .ok (.iconst 0, 1) := by decide +kernel
theorem dX9_hangs_36 : decode cX9_hangs 36 = .ok (.istore 4, 2) := by decide +kernel
theorem dX9_hangs_38 : decode cX9_hangs 38 = .ok (.iload 4, 2) := by decide +kernel
theorem dX9_hangs_40 : decode cX9_hangs 40 = .ok (.aload_n 0, 1) := by decide +kernel
theorem dX9_hangs_41 : decode cX9_hangs 41 = .ok (.getfield 84, 3) := by decide +kernel
theorem dX9_hangs_44 : decode cX9_hangs 44 = .ok (.if_icmp .ge 44, 3) := by decide +kernel
theorem dX9_hangs_47 : decode cX9_hangs 47 = .ok (.aload_n 0, 1) := by decide +kernel
theorem dX9_hangs_48 : decode cX9_hangs 48 = .ok (.iload_n 1, 1) := by decide +kernel
theorem dX9_hangs_49 : decode cX9_hangs 49 = .ok (.aload_n 0, 1) := by decide +kernel
theorem dX9_hangs_50 : decode cX9_hangs 50 = .ok (.invokevirtual 195, 3) := by decide +kernel
theorem dX9_hangs_53 : decode cX9_hangs 53 = .ok (.iconst 1, 1) := by decide +kernel
theorem dX9_hangs_54 : decode cX9_hangs 54 = .ok (.iload 4, 2) := by decide +kernel
theorem dX9_hangs_56 : decode cX9_hangs 56 = .ok (.ishl, 1) := by decide +kernel
theorem dX9_hangs_57 : decode cX9_hangs 57 = .ok (.iconst (-1), 1) := by decide +kernel
theorem dX9_hangs_58 : decode cX9_hangs 58 = .ok (.ixor, 1) := by decide +kernel
theorem dX9_hangs_59 : decode cX9_hangs 59 = .ok (.iand, 1) := by decide +kernel
theorem dX9_hangs_60 : decode cX9_hangs 60 = .ok (.invokevirtual 199, 3) := by decide +kernel
theorem dX9_hangs_63 : decode cX9_hangs 63 = .ok (.iload_n 3, 1) := by decide +kernel
theorem dX9_hangs_64 : decode cX9_hangs 64 = .ok (.aload_n 0, 1) := by decide +kernel
theorem dX9_hangs_65 : decode cX9_hangs 65 = .ok (.getfield 176, 3) := by decide +kernel
theorem dX9_hangs_68 : decode cX9_hangs 68 = .ok (.iload_n 2, 1) := by decide +kernel
theorem dX9_hangs_69 : decode cX9_hangs 69 = .ok (.if_icmp .ne 7, 3) := by decide +kernel
theorem dX9_hangs_72 : decode cX9_hangs 72 = .ok (.iconst 0, 1) := by decide +kernel
theorem dX9_hangs_73 : decode cX9_hangs 73 = .ok (.goto 7, 3) := by decide +kernel
theorem dX9_hangs_76 : decode cX9_hangs 76 = .ok (.iconst 1, 1) := by decide +kernel
theorem dX9_hangs_77 : decode cX9_hangs 77 = .ok (.iload 4, 2) := by decide +kernel
theorem dX9_hangs_79 : decode cX9_hangs 79 = .ok (.ishl, 1) := by decide +kernel
theorem dX9_hangs_80 : decode cX9_hangs 80 = .ok (.ior, 1) := by decide +kernel
theorem dX9_hangs_81 : decode cX9_hangs 81 = .ok (.istore_n 3, 1) := by decide +kernel
theorem dX9_hangs_82 : decode cX9_hangs 82 = .ok (.iinc 4 1, 3) := by decide +kernel
theorem dX9_hangs_85 : decode cX9_hangs 85 = .ok (.goto (-47), 3) := by decide +kernel
theorem dX9_hangs_88 : decode cX9_hangs 88 = .ok (.iload_n 3, 1) := by decide +kernel
theorem dX9_hangs_89 : decode cX9_hangs 89 = .ok (.ireturn, 1) := by decide +kernel
theorem dX9_reading_0 : decode cX9_reading 0 = .ok (.iload_n 1, 1) := by decide +kernel
theorem dX9_reading_1 : decode cX9_reading 1 = .ok (.invokestatic 156, 3) := by decide +kernel
theorem dX9_reading_4 : decode cX9_reading 4 = .ok (.ifCond .eq 5, 3) := by decide +kernel
theorem dX9_reading_7 : decode cX9_reading 7 = .ok (.iconst (-1), 1) := by decide +kernel
theorem dX9_reading_8 : decode cX9_reading 8 = .ok (.ireturn, 1) := by decide +kernel
theorem dX9_reading_9 : decode cX9_reading 9 = .ok (.iload_n 2, 1) := by decide +kernel
theorem dX9_reading_10 : decode cX9_reading 10 = .ok (.i2l, 1) := by decide +kernel
theorem dX9_reading_11 : decode cX9_reading 11 = .ok (.lconst 0, 1) := by decide +kernel
theorem dX9_reading_12 : decode cX9_reading 12 = .ok (.ldc2_w 159, 3) := by decide +kernel
theorem dX9_reading_15 : decode cX9_reading 15 = .ok (.invokestatic 80, 3) := by decide +kernel
theorem dX9_reading_18 : decode cX9_reading 18 = .ok (.ifCond .ne 6, 3) := by decide +kernel
theorem dX9_reading_21 : decode cX9_reading 21 = .ok (.bipush (-2), 2) := by decide +kernel
theorem dX9_reading_23 : decode cX9_reading 23 = .ok (.ireturn, 1) := by decide +kernel
theorem dX9_reading_24 : decode cX9_reading 24 = .ok (.aload_n 0, 1) := by decide +kernel
theorem dX9_reading_25 : decode cX9_reading 25 = .ok (.getfield 74, 3) := by decide +kernel
theorem dX9_reading_28 : decode cX9_reading 28 = .ok (.ifCond .ne 6, 3) := by decide +kernel
theorem dX9_reading_31 : decode cX9_reading 31 = .ok (.bipush (-3), 2) := by decide +kernel
theorem dX9_reading_33 : decode cX9_reading 33 = .ok (.ireturn, 1) := by decide +kernel
theorem dX9_reading_34 : decode cX9_reading 34 = .ok (.aload_n 0, 1) := by decide +kernel
theorem dX9_reading_35 : decode cX9_reading 35 = .ok (.getfield 143, 3) := by decide +kernel
theorem dX9_reading_38 : decode cX9_reading 38 = .ok (.bipush 6, 2) := by decide +kernel
theorem dX9_reading_40 : decode cX9_reading 40 = .ok (.if_icmp .ne 6, 3) := by decide +kernel
theorem dX9_reading_43 : decode cX9_reading 43 = .ok (.bipush (-4), 2) := by decide +kernel
theorem dX9_reading_45 : decode cX9_reading 45 = .ok (.ireturn, 1) := by decide +kernel
theorem dX9_reading_46 : decode cX9_reading 46 = .ok (.aload_n 0, 1) := by decide +kernel
theorem dX9_reading_47 : decode cX9_reading 47 = .ok (.getfield 46, 3) := by decide +kernel
theorem dX9_reading_50 : decode cX9_reading 50 = .ok (.aload_n 0, 1) := by decide +kernel
theorem dX9_reading_51 : decode cX9_reading 51 = .ok (.getfield 143, 3) := by decide +kernel
theorem dX9_reading_54 : decode cX9_reading 54 = .ok (.iload_n 1, 1) := by decide +kernel
theorem dX9_reading_55 : decode cX9_reading 55 = .ok (.iastore, 1) := by decide +kernel
theorem dX9_reading_56 : decode cX9_reading 56 = .ok (.aload_n 0, 1) := by decide +kernel
theorem dX9_reading_57 : decode cX9_reading 57 = .ok (.getfield 49, 3) := by decide +kernel
theorem dX9_reading_60 : decode cX9_reading 60 = .ok (.aload_n 0, 1) := by decide +kernel
theorem dX9_reading_61 : decode cX9_reading 61 = .ok (.getfield 143, 3) := by decide +kernel
theorem dX9_reading_64 : decode cX9_reading 64 = .ok (.iload_n 2, 1) := by decide +kernel
theorem dX9_reading_65 : decode cX9_reading 65 = .ok (.iastore, 1) := by decide +kernel
theorem dX9_reading_66 : decode cX9_reading 66 = .ok (.aload_n 0, 1) := by decide +kernel
theorem dX9_reading_67 : decode cX9_reading 67 = .ok (.dup, 1) := by decide +kernel
theorem dX9_reading_68 : decode cX9_reading 68 = .ok (.getfield 143, 3) := by decide +kernel
theorem dX9_reading_71 : decode cX9_reading 71 = .ok (.iconst 1, 1) := by decide +kernel
theorem dX9_reading_72 : decode cX9_reading 72 = .ok (.iadd, 1) := by decide +kernel
theorem dX9_reading_73 : decode cX9_reading 73 = .ok (.putfield 143, 3) := by decide +kernel
theorem dX9_reading_76 : decode cX9_reading 76 = .ok (.aload_n 0, 1) := by decide +kernel
theorem dX9_reading_77 : decode cX9_reading 77 = .ok (.getfield 143, 3) := by decide +kernel
theorem dX9_reading_80 : decode cX9_reading 80 = .ok (.iconst 1, 1) := by decide +kernel
theorem dX9_reading_81 : decode cX9_reading 81 = .ok (.isub, 1) := by decide +kernel
theorem dX9_reading_82 : decode cX9_reading 82 = .ok (.ireturn, 1) := by decide +kernel
theorem dX9_back_0 : decode cX9_back 0 = .ok (.iload_n 1, 1) := by decide +kernel
theorem dX9_back_1 : decode cX9_back 1 = .ok (.i2l, 1) := by decide +kernel
theorem dX9_back_2 : decode cX9_back 2 = .ok (.lconst 0, 1) := by decide +kernel
theorem dX9_back_3 : decode cX9_back 3 = .ok (.aload_n 0, 1) := by decide +kernel
theorem dX9_back_4 : decode cX9_back 4 = .ok (.getfield 143, 3) := by decide +kernel
theorem dX9_back_7 : decode cX9_back 7 = .ok (.i2l, 1) := by decide +kernel
theorem dX9_back_8 : decode cX9_back 8 = .ok (.invokestatic 80, 3) := by decide +kernel
theorem dX9_back_11 : decode cX9_back 11 = .ok (.ifCond .ne 6, 3) := by decide +kernel
theorem dX9_back_14 : decode cX9_back 14 = .ok (.bipush (-2), 2) := by decide +kernel
theorem dX9_back_16 : decode cX9_back 16 = .ok (.ireturn, 1) := by decide +kernel
theorem dX9_back_17 : decode cX9_back 17 = .ok (.aload_n 0, 1) := by decide +kernel
theorem dX9_back_18 : decode cX9_back 18 = .ok (.dup, 1) := by decide +kernel
theorem dX9_back_19 : decode cX9_back 19 = .ok (.getfield 143, 3) := by decide +kernel
theorem dX9_back_22 : decode cX9_back 22 = .ok (.iload_n 1, 1) := by decide +kernel
theorem dX9_back_23 : decode cX9_back 23 = .ok (.isub, 1) := by decide +kernel
theorem dX9_back_24 : decode cX9_back 24 = .ok (.putfield 143, 3) := by decide +kernel
theorem dX9_back_27 : decode cX9_back 27 = .ok (.aload_n 0, 1) := by decide +kernel
theorem dX9_back_28 : decode cX9_back 28 = .ok (.getfield 143, 3) := by decide +kernel
theorem dX9_back_31 : decode cX9_back 31 = .ok (.ireturn, 1) := by decide +kernel
theorem dX9_areSo_0 : decode cX9_areSo 0 = .ok (.iconst 1, 1) := by decide +kernel
theorem dX9_areSo_1 : decode cX9_areSo 1 = .ok (.istore_n 1, 1) := by decide +kernel
theorem dX9_areSo_2 : decode cX9_areSo 2 = .ok (.iconst 0, 1) := by decide +kernel
theorem dX9_areSo_3 : decode cX9_areSo 3 = .ok (.istore_n 2, 1) := by decide +kernel
theorem dX9_areSo_4 : decode cX9_areSo 4 = .ok (.iload_n 2, 1) := by decide +kernel
theorem dX9_areSo_5 : decode cX9_areSo 5 = .ok (.aload_n 0, 1) := by decide +kernel
theorem dX9_areSo_6 : decode cX9_areSo 6 = .ok (.getfield 143, 3) := by decide +kernel
theorem dX9_areSo_9 : decode cX9_areSo 9 = .ok (.if_icmp .ge 46, 3) := by decide +kernel
theorem dX9_areSo_12 : decode cX9_areSo 12 = .ok (.iload_n 1, 1) := by decide +kernel
theorem dX9_areSo_13 : decode cX9_areSo 13 = .ok (.ifCond .eq 42, 3) := by decide +kernel
theorem dX9_areSo_16 : decode cX9_areSo 16 = .ok (.aload_n 0, 1) := by decide +kernel
theorem dX9_areSo_17 : decode cX9_areSo 17 = .ok (.aload_n 0, 1) := by decide +kernel
theorem dX9_areSo_18 : decode cX9_areSo 18 = .ok (.getfield 46, 3) := by decide +kernel
theorem dX9_areSo_21 : decode cX9_areSo 21 = .ok (.iload_n 2, 1) := by decide +kernel
theorem dX9_areSo_22 : decode cX9_areSo 22 = .ok (.iaload, 1) := by decide +kernel
theorem dX9_areSo_23 : decode cX9_areSo 23 = .ok (.aload_n 0, 1) := by decide +kernel
theorem dX9_areSo_24 : decode cX9_areSo 24 = .ok (.invokevirtual 195, 3) := by decide +kernel
theorem dX9_areSo_27 : decode cX9_areSo 27 = .ok (.invokevirtual 199, 3) := by decide +kernel
theorem dX9_areSo_30 : decode cX9_areSo 30 = .ok (.aload_n 0, 1) := by decide +kernel
theorem dX9_areSo_31 : decode cX9_areSo 31 = .ok (.getfield 179, 3) := by decide +kernel
theorem dX9_areSo_34 : decode cX9_areSo 34 = .ok (.aload_n 0, 1) := by decide +kernel
theorem dX9_areSo_35 : decode cX9_areSo 35 = .ok (.getfield 49, 3) := by decide +kernel
theorem dX9_areSo_38 : decode cX9_areSo 38 = .ok (.iload_n 2, 1) := by decide +kernel
theorem dX9_areSo_39 : decode cX9_areSo 39 = .ok (.iaload, 1) := by decide +kernel
theorem dX9_areSo_40 : decode cX9_areSo 40 = .ok (.if_icmp .ne 7, 3) := by decide +kernel
theorem dX9_areSo_43 : decode cX9_areSo 43 = .ok (.iconst 1, 1) := by decide +kernel
theorem dX9_areSo_44 : decode cX9_areSo 44 = .ok (.goto 4, 3) := by decide +kernel
theorem dX9_areSo_47 : decode cX9_areSo 47 = .ok (.iconst 0, 1) := by decide +kernel
theorem dX9_areSo_48 : decode cX9_areSo 48 = .ok (.istore_n 1, 1) := by decide +kernel
theorem dX9_areSo_49 : decode cX9_areSo 49 = .ok (.iinc 2 1, 3) := by decide +kernel
theorem dX9_areSo_52 : decode cX9_areSo 52 = .ok (.goto (-48), 3) := by decide +kernel
theorem dX9_areSo_55 : decode cX9_areSo 55 = .ok (.iload_n 1, 1) := by decide +kernel
theorem dX9_areSo_56 : decode cX9_areSo 56 = .ok (.ireturn, 1) := by decide +kernel
theorem dX9_values_0 : decode cX9_values 0 = .ok (.aload_n 0, 1) := by decide +kernel
theorem dX9_values_1 : decode cX9_values 1 = .ok (.iload_n 1, 1) := by decide +kernel
theorem dX9_values_2 : decode cX9_values 2 = .ok (.invokevirtual 146, 3) := by decide +kernel
theorem dX9_values_5 : decode cX9_values 5 = .ok (.ifCond .ne 15, 3) := by decide +kernel
theorem dX9_values_8 : decode cX9_values 8 = .ok (.iload_n 2, 1) := by decide +kernel
theorem dX9_values_9 : decode cX9_values 9 = .ok (.invokestatic 156, 3) := by decide +kernel
theorem dX9_values_12 : decode cX9_values 12 = .ok (.ifCond .ne 8, 3) := by decide +kernel
theorem dX9_values_15 : decode cX9_values 15 = .ok (.iload_n 3, 1) := by decide +kernel
theorem dX9_values_16 : decode cX9_values 16 = .ok (.iconst (-1), 1) := by decide +kernel
theorem dX9_values_17 : decode cX9_values 17 = .ok (.if_icmp .ge 5, 3) := by decide +kernel
theorem dX9_values_20 : decode cX9_values 20 = .ok (.iconst (-1), 1) := by decide +kernel
theorem dX9_values_21 : decode cX9_values 21 = .ok (.ireturn, 1) := by decide +kernel
theorem dX9_values_22 : decode cX9_values 22 = .ok (.aload_n 0, 1) := by decide +kernel
theorem dX9_values_23 : decode cX9_values 23 = .ok (.getfield 19, 3) := by decide +kernel
theorem dX9_values_26 : decode cX9_values 26 = .ok (.iconst 4, 1) := by decide +kernel
theorem dX9_values_27 : decode cX9_values 27 = .ok (.iload_n 1, 1) := by decide +kernel
theorem dX9_values_28 : decode cX9_values 28 = .ok (.imul, 1) := by decide +kernel
theorem dX9_values_29 : decode cX9_values 29 = .ok (.iload_n 2, 1) := by decide +kernel
theorem dX9_values_30 : decode cX9_values 30 = .ok (.iadd, 1) := by decide +kernel
theorem dX9_values_31 : decode cX9_values 31 = .ok (.iaload, 1) := by decide +kernel
theorem dX9_values_32 : decode cX9_values 32 = .ok (.istore 4, 2) := by decide +kernel
theorem dX9_values_34 : decode cX9_values 34 = .ok (.iconst 0, 1) := by decide +kernel
theorem dX9_values_35 : decode cX9_values 35 = .ok (.istore 5, 2) := by decide +kernel
theorem dX9_values_37 : decode cX9_values 37 = .ok (.bipush (-9), 2) := by decide +kernel
theorem dX9_values_39 : decode cX9_values 39 = .ok (.istore 6, 2) := by decide +kernel
theorem dX9_values_41 : decode cX9_values 41 = .ok (.iconst 0, 1) := by decide +kernel
theorem dX9_values_42 : decode cX9_values 42 = .ok (.istore 7, 2) := by decide +kernel
theorem dX9_values_44 : decode cX9_values 44 = .ok (.iload 7, 2) := by decide +kernel
theorem dX9_values_46 : decode cX9_values 46 = .ok (.bipush 99, 2) := by decide +kernel
theorem dX9_values_48 : decode cX9_values 48 = .ok (.if_icmp .gt 46, 3) := by decide +kernel
theorem dX9_values_51 : decode cX9_values 51 = .ok (.aload_n 0, 1) := by decide +kernel
theorem dX9_values_52 : decode cX9_values 52 = .ok (.getfield 19, 3) := by decide +kernel
theorem dX9_values_55 : decode cX9_values 55 = .ok (.iconst 4, 1) := by decide +kernel
theorem dX9_values_56 : decode cX9_values 56 = .ok (.iload_n 1, 1) := by decide +kernel
theorem dX9_values_57 : decode cX9_values 57 = .ok (.imul, 1) := by decide +kernel
theorem dX9_values_58 : decode cX9_values 58 = .ok (.iload_n 2, 1) := by decide +kernel
theorem dX9_values_59 : decode cX9_values 59 = .ok (.iadd, 1) := by decide +kernel
theorem dX9_values_60 : decode cX9_values 60 = .ok (.iload 7, 2) := by decide +kernel
theorem dX9_values_62 : decode cX9_values 62 = .ok (.iastore, 1) := by decide +kernel
theorem dX9_values_63 : decode cX9_values 63 = .ok (.aload_n 0, 1) := by decide +kernel
theorem dX9_values_64 : decode cX9_values 64 = .ok (.invokevirtual 214, 3) := by decide +kernel
theorem dX9_values_67 : decode cX9_values 67 = .ok (.ifCond .eq 21, 3) := by decide +kernel
theorem dX9_values_70 : decode cX9_values 70 = .ok (.iload 5, 2) := by decide +kernel
theorem dX9_values_72 : decode cX9_values 72 = .ok (.iload_n 3, 1) := by decide +kernel
theorem dX9_values_73 : decode cX9_values 73 = .ok (.if_icmp .ne 8, 3) := by decide +kernel
theorem dX9_values_76 : decode cX9_values 76 = .ok (.iload 7, 2) := by decide +kernel
theorem dX9_values_78 : decode cX9_values 78 = .ok (.goto 5, 3) := by decide +kernel
theorem dX9_values_81 : decode cX9_values 81 = .ok (.iload 6, 2) := by decide +kernel
theorem dX9_values_83 : decode cX9_values 83 = .ok (.istore 6, 2) := by decide +kernel
theorem dX9_values_85 : decode cX9_values 85 = .ok (.iinc 5 1, 3) := by decide +kernel
theorem dX9_values_88 : decode cX9_values 88 = .ok (.iinc 7 1, 3) := by decide +kernel
theorem dX9_values_91 : decode cX9_values 91 = .ok (.goto (-47), 3) := by decide +kernel
theorem dX9_values_94 : decode cX9_values 94 = .ok (.aload_n 0, 1) := by decide +kernel
theorem dX9_values_95 : decode cX9_values 95 = .ok (.getfield 19, 3) := by decide +kernel
theorem dX9_values_98 : decode cX9_values 98 = .ok (.iconst 4, 1) := by decide +kernel
theorem dX9_values_99 : decode cX9_values 99 = .ok (.iload_n 1, 1) := by decide +kernel
theorem dX9_values_100 : decode cX9_values 100 = .ok (.imul, 1) := by decide +kernel
theorem dX9_values_101 : decode cX9_values 101 = .ok (.iload_n 2, 1) := by decide +kernel
theorem dX9_values_102 : decode cX9_values 102 = .ok (.iadd, 1) := by decide +kernel
theorem dX9_values_103 : decode cX9_values 103 = .ok (.iload 4, 2) := by decide +kernel
theorem dX9_values_105 : decode cX9_values 105 = .ok (.iastore, 1) := by decide +kernel
theorem dX9_values_106 : decode cX9_values 106 = .ok (.iload_n 3, 1) := by decide +kernel
theorem dX9_values_107 : decode cX9_values 107 = .ok (.ifCond .ge 8, 3) := by decide +kernel
theorem dX9_values_110 : decode cX9_values 110 = .ok (.iload 5, 2) := by decide +kernel
theorem dX9_values_112 : decode cX9_values 112 = .ok (.goto 5, 3) := by decide +kernel
theorem dX9_values_115 : decode cX9_values 115 = .ok (.iload 6, 2) := by decide +kernel
theorem dX9_values_117 : decode cX9_values 117 = .ok (.ireturn, 1) := by decide +kernel
theorem dX9_places_0 : decode cX9_places 0 = .ok (.aload_n 0, 1) := by decide +kernel
theorem dX9_places_1 : decode cX9_places 1 = .ok (.iload_n 1, 1) := by decide +kernel
theorem dX9_places_2 : decode cX9_places 2 = .ok (.invokevirtual 146, 3) := by decide +kernel
theorem dX9_places_5 : decode cX9_places 5 = .ok (.ifCond .eq 5, 3) := by decide +kernel
theorem dX9_places_8 : decode cX9_places 8 = .ok (.iconst (-1), 1) := by decide +kernel
theorem dX9_places_9 : decode cX9_places 9 = .ok (.ireturn, 1) := by decide +kernel
theorem dX9_places_10 : decode cX9_places 10 = .ok (.aload_n 0, 1) := by decide +kernel
theorem dX9_places_11 : decode cX9_places 11 = .ok (.getfield 16, 3) := by decide +kernel
theorem dX9_places_14 : decode cX9_places 14 = .ok (.iload_n 1, 1) := by decide +kernel
theorem dX9_places_15 : decode cX9_places 15 = .ok (.iaload, 1) := by decide +kernel
theorem dX9_places_16 : decode cX9_places 16 = .ok (.istore_n 2, 1) := by decide +kernel
theorem dX9_places_17 : decode cX9_places 17 = .ok (.iconst 0, 1) := by decide +kernel
theorem dX9_places_18 : decode cX9_places 18 = .ok (.istore_n 3, 1) := by decide +kernel
theorem dX9_places_19 : decode cX9_places 19 = .ok (.iconst 0, 1) := by decide +kernel
theorem dX9_places_20 : decode cX9_places 20 = .ok (.istore 4, 2) := by decide +kernel
theorem dX9_places_22 : decode cX9_places 22 = .ok (.iload 4, 2) := by decide +kernel
theorem dX9_places_24 : decode cX9_places 24 = .ok (.aload_n 0, 1) := by decide +kernel
theorem dX9_places_25 : decode cX9_places 25 = .ok (.getfield 74, 3) := by decide +kernel
theorem dX9_places_28 : decode cX9_places 28 = .ok (.aload_n 0, 1) := by decide +kernel
theorem dX9_places_29 : decode cX9_places 29 = .ok (.getfield 77, 3) := by decide +kernel
theorem dX9_places_32 : decode cX9_places 32 = .ok (.imul, 1) := by decide +kernel
theorem dX9_places_33 : decode cX9_places 33 = .ok (.if_icmp .ge 61, 3) := by decide +kernel
theorem dX9_places_36 : decode cX9_places 36 = .ok (.aload_n 0, 1) := by decide +kernel
theorem dX9_places_37 : decode cX9_places 37 = .ok (.iload 4, 2) := by decide +kernel
theorem dX9_places_39 : decode cX9_places 39 = .ok (.invokevirtual 167, 3) := by decide +kernel
theorem dX9_places_42 : decode cX9_places 42 = .ok (.istore 5, 2) := by decide +kernel
theorem dX9_places_44 : decode cX9_places 44 = .ok (.iload 5, 2) := by decide +kernel
theorem dX9_places_46 : decode cX9_places 46 = .ok (.ifCond .lt 9, 3) := by decide +kernel
theorem dX9_places_49 : decode cX9_places 49 = .ok (.iload 5, 2) := by decide +kernel
theorem dX9_places_51 : decode cX9_places 51 = .ok (.iload_n 1, 1) := by decide +kernel
theorem dX9_places_52 : decode cX9_places 52 = .ok (.if_icmp .ne 36, 3) := by decide +kernel
theorem dX9_places_55 : decode cX9_places 55 = .ok (.aload_n 0, 1) := by decide +kernel
theorem dX9_places_56 : decode cX9_places 56 = .ok (.getfield 16, 3) := by decide +kernel
theorem dX9_places_59 : decode cX9_places 59 = .ok (.iload_n 1, 1) := by decide +kernel
theorem dX9_places_60 : decode cX9_places 60 = .ok (.iload 4, 2) := by decide +kernel
theorem dX9_places_62 : decode cX9_places 62 = .ok (.iastore, 1) := by decide +kernel
theorem dX9_places_63 : decode cX9_places 63 = .ok (.iload_n 3, 1) := by decide +kernel
theorem dX9_places_64 : decode cX9_places 64 = .ok (.aload_n 0, 1) := by decide +kernel
theorem dX9_places_65 : decode cX9_places 65 = .ok (.invokevirtual 214, 3) := by decide +kernel
theorem dX9_places_68 : decode cX9_places 68 = .ok (.ifCond .eq 10, 3) := by decide +kernel
theorem dX9_places_71 : decode cX9_places 71 = .ok (.iconst 1, 1) := by decide +kernel
theorem dX9_places_72 : decode cX9_places 72 = .ok (.iload 4, 2) := by decide +kernel
theorem dX9_places_74 : decode cX9_places 74 = .ok (.ishl, 1) := by decide +kernel
theorem dX9_places_75 : decode cX9_places 75 = .ok (.goto 4, 3) := by decide +kernel
theorem dX9_places_78 : decode cX9_places 78 = .ok (.iconst 0, 1) := by decide +kernel
theorem dX9_places_79 : decode cX9_places 79 = .ok (.ior, 1) := by decide +kernel
theorem dX9_places_80 : decode cX9_places 80 = .ok (.istore_n 3, 1) := by decide +kernel
theorem dX9_places_81 : decode cX9_places 81 = .ok (.aload_n 0, 1) := by decide +kernel
theorem dX9_places_82 : decode cX9_places 82 = .ok (.getfield 16, 3) := by decide +kernel
theorem dX9_places_85 : decode cX9_places 85 = .ok (.iload_n 1, 1) := by decide +kernel
theorem dX9_places_86 : decode cX9_places 86 = .ok (.iload_n 2, 1) := by decide +kernel
theorem dX9_places_87 : decode cX9_places 87 = .ok (.iastore, 1) := by decide +kernel
theorem dX9_places_88 : decode cX9_places 88 = .ok (.iinc 4 1, 3) := by decide +kernel
theorem dX9_places_91 : decode cX9_places 91 = .ok (.goto (-69), 3) := by decide +kernel
theorem dX9_places_94 : decode cX9_places 94 = .ok (.iload_n 3, 1) := by decide +kernel
theorem dX9_places_95 : decode cX9_places 95 = .ok (.ireturn, 1) := by decide +kernel
theorem dX9_noSheet_0 : decode cX9_noSheet 0 = .ok (.iload_n 0, 1) := by decide +kernel
theorem dX9_noSheet_1 : decode cX9_noSheet 1 = .ok (.i2l, 1) := by decide +kernel
theorem dX9_noSheet_2 : decode cX9_noSheet 2 = .ok (.lconst 0, 1) := by decide +kernel
theorem dX9_noSheet_3 : decode cX9_noSheet 3 = .ok (.ldc2_w 87, 3) := by decide +kernel
theorem dX9_noSheet_6 : decode cX9_noSheet 6 = .ok (.invokestatic 80, 3) := by decide +kernel
theorem dX9_noSheet_9 : decode cX9_noSheet 9 = .ok (.ifCond .ne 7, 3) := by decide +kernel
theorem dX9_noSheet_12 : decode cX9_noSheet 12 = .ok (.iconst 1, 1) := by decide +kernel
theorem dX9_noSheet_13 : decode cX9_noSheet 13 = .ok (.goto 4, 3) := by decide +kernel
theorem dX9_noSheet_16 : decode cX9_noSheet 16 = .ok (.iconst 0, 1) := by decide +kernel
theorem dX9_noSheet_17 : decode cX9_noSheet 17 = .ok (.ireturn, 1) := by decide +kernel
theorem dX9_sheet_0 : decode cX9_sheet 0 = .ok (.iload_n 1, 1) := by decide +kernel
theorem dX9_sheet_1 : decode cX9_sheet 1 = .ok (.invokestatic 124, 3) := by decide +kernel
theorem dX9_sheet_4 : decode cX9_sheet 4 = .ok (.ifCond .eq 9, 3) := by decide +kernel
theorem dX9_sheet_7 : decode cX9_sheet 7 = .ok (.aload_n 0, 1) := by decide +kernel
theorem dX9_sheet_8 : decode cX9_sheet 8 = .ok (.iconst (-1), 1) := by decide +kernel
theorem dX9_sheet_9 : decode cX9_sheet 9 = .ok (.invokevirtual 128, 3) := by decide +kernel
theorem dX9_sheet_12 : decode cX9_sheet 12 = .ok (.ireturn, 1) := by decide +kernel
theorem dX9_sheet_13 : decode cX9_sheet 13 = .ok (.iload_n 2, 1) := by decide +kernel
theorem dX9_sheet_14 : decode cX9_sheet 14 = .ok (.i2l, 1) := by decide +kernel
theorem dX9_sheet_15 : decode cX9_sheet 15 = .ok (.lconst 0, 1) := by decide +kernel
theorem dX9_sheet_16 : decode cX9_sheet 16 = .ok (.ldc2_w 131, 3) := by decide +kernel
theorem dX9_sheet_19 : decode cX9_sheet 19 = .ok (.invokestatic 80, 3) := by decide +kernel
theorem dX9_sheet_22 : decode cX9_sheet 22 = .ok (.ifCond .eq 9, 3) := by decide +kernel
theorem dX9_sheet_25 : decode cX9_sheet 25 = .ok (.iload_n 3, 1) := by decide +kernel
theorem dX9_sheet_26 : decode cX9_sheet 26 = .ok (.bipush 60, 2) := by decide +kernel
theorem dX9_sheet_28 : decode cX9_sheet 28 = .ok (.if_icmp .le 10, 3) := by decide +kernel
theorem dX9_sheet_31 : decode cX9_sheet 31 = .ok (.aload_n 0, 1) := by decide +kernel
theorem dX9_sheet_32 : decode cX9_sheet 32 = .ok (.bipush (-2), 2) := by decide +kernel
theorem dX9_sheet_34 : decode cX9_sheet 34 = .ok (.invokevirtual 128, 3) := by decide +kernel
theorem dX9_sheet_37 : decode cX9_sheet 37 = .ok (.ireturn, 1) := by decide +kernel
theorem dX9_sheet_38 : decode cX9_sheet 38 = .ok (.iload_n 3, 1) := by decide +kernel
theorem dX9_sheet_39 : decode cX9_sheet 39 = .ok (.ifCond .ge 9, 3) := by decide +kernel
theorem dX9_sheet_42 : decode cX9_sheet 42 = .ok (.aload_n 0, 1) := by decide +kernel
theorem dX9_sheet_43 : decode cX9_sheet 43 = .ok (.iconst 4, 1) := by decide +kernel
theorem dX9_sheet_44 : decode cX9_sheet 44 = .ok (.invokevirtual 116, 3) := by decide +kernel
theorem dX9_sheet_47 : decode cX9_sheet 47 = .ok (.ireturn, 1) := by decide +kernel
theorem dX9_sheet_48 : decode cX9_sheet 48 = .ok (.aload_n 0, 1) := by decide +kernel
theorem dX9_sheet_49 : decode cX9_sheet 49 = .ok (.getfield 52, 3) := by decide +kernel
theorem dX9_sheet_52 : decode cX9_sheet 52 = .ok (.iload_n 1, 1) := by decide +kernel
theorem dX9_sheet_53 : decode cX9_sheet 53 = .ok (.iload_n 3, 1) := by decide +kernel
theorem dX9_sheet_54 : decode cX9_sheet 54 = .ok (.iastore, 1) := by decide +kernel
theorem dX9_sheet_55 : decode cX9_sheet 55 = .ok (.aload_n 0, 1) := by decide +kernel
theorem dX9_sheet_56 : decode cX9_sheet 56 = .ok (.getfield 55, 3) := by decide +kernel
theorem dX9_sheet_59 : decode cX9_sheet 59 = .ok (.iload_n 1, 1) := by decide +kernel
theorem dX9_sheet_60 : decode cX9_sheet 60 = .ok (.iload_n 2, 1) := by decide +kernel
theorem dX9_sheet_61 : decode cX9_sheet 61 = .ok (.iastore, 1) := by decide +kernel
theorem dX9_sheet_62 : decode cX9_sheet 62 = .ok (.iconst 0, 1) := by decide +kernel
theorem dX9_sheet_63 : decode cX9_sheet 63 = .ok (.istore 4, 2) := by decide +kernel
theorem dX9_sheet_65 : decode cX9_sheet 65 = .ok (.iload 4, 2) := by decide +kernel
theorem dX9_sheet_67 : decode cX9_sheet 67 = .ok (.iload_n 3, 1) := by decide +kernel
theorem dX9_sheet_68 : decode cX9_sheet 68 = .ok (.if_icmp .ge 22, 3) := by decide +kernel
theorem dX9_sheet_71 : decode cX9_sheet 71 = .ok (.aload_n 0, 1) := by decide +kernel
theorem dX9_sheet_72 : decode cX9_sheet 72 = .ok (.getfield 58, 3) := by decide +kernel
theorem dX9_sheet_75 : decode cX9_sheet 75 = .ok (.bipush 60, 2) := by decide +kernel
theorem dX9_sheet_77 : decode cX9_sheet 77 = .ok (.iload_n 1, 1) := by decide +kernel
theorem dX9_sheet_78 : decode cX9_sheet 78 = .ok (.imul, 1) := by decide +kernel
theorem dX9_sheet_79 : decode cX9_sheet 79 = .ok (.iload 4, 2) := by decide +kernel
theorem dX9_sheet_81 : decode cX9_sheet 81 = .ok (.iadd, 1) := by decide +kernel
theorem dX9_sheet_82 : decode cX9_sheet 82 = .ok (.iconst 0, 1) := by decide +kernel
theorem dX9_sheet_83 : decode cX9_sheet 83 = .ok (.iastore, 1) := by decide +kernel
theorem dX9_sheet_84 : decode cX9_sheet 84 = .ok (.iinc 4 1, 3) := by decide +kernel
theorem dX9_sheet_87 : decode cX9_sheet 87 = .ok (.goto (-22), 3) := by decide +kernel
theorem dX9_sheet_90 : decode cX9_sheet 90 = .ok (.aload_n 0, 1) := by decide +kernel
theorem dX9_sheet_91 : decode cX9_sheet 91 = .ok (.iconst 1, 1) := by decide +kernel
theorem dX9_sheet_92 : decode cX9_sheet 92 = .ok (.invokevirtual 128, 3) := by decide +kernel
theorem dX9_sheet_95 : decode cX9_sheet 95 = .ok (.ireturn, 1) := by decide +kernel
theorem dX9_lose_0 : decode cX9_lose 0 = .ok (.iload_n 1, 1) := by decide +kernel
theorem dX9_lose_1 : decode cX9_lose 1 = .ok (.invokestatic 124, 3) := by decide +kernel
theorem dX9_lose_4 : decode cX9_lose 4 = .ok (.ifCond .eq 5, 3) := by decide +kernel
theorem dX9_lose_7 : decode cX9_lose 7 = .ok (.iconst (-1), 1) := by decide +kernel
theorem dX9_lose_8 : decode cX9_lose 8 = .ok (.ireturn, 1) := by decide +kernel
theorem dX9_lose_9 : decode cX9_lose 9 = .ok (.aload_n 0, 1) := by decide +kernel
theorem dX9_lose_10 : decode cX9_lose 10 = .ok (.getfield 52, 3) := by decide +kernel
theorem dX9_lose_13 : decode cX9_lose 13 = .ok (.iload_n 1, 1) := by decide +kernel
theorem dX9_lose_14 : decode cX9_lose 14 = .ok (.iaload, 1) := by decide +kernel
theorem dX9_lose_15 : decode cX9_lose 15 = .ok (.ifCond .ge 7, 3) := by decide +kernel
theorem dX9_lose_18 : decode cX9_lose 18 = .ok (.iconst 0, 1) := by decide +kernel
theorem dX9_lose_19 : decode cX9_lose 19 = .ok (.goto 4, 3) := by decide +kernel
theorem dX9_lose_22 : decode cX9_lose 22 = .ok (.iconst 1, 1) := by decide +kernel
theorem dX9_lose_23 : decode cX9_lose 23 = .ok (.istore_n 2, 1) := by decide +kernel
theorem dX9_lose_24 : decode cX9_lose 24 = .ok (.aload_n 0, 1) := by decide +kernel
theorem dX9_lose_25 : decode cX9_lose 25 = .ok (.getfield 52, 3) := by decide +kernel
theorem dX9_lose_28 : decode cX9_lose 28 = .ok (.iload_n 1, 1) := by decide +kernel
theorem dX9_lose_29 : decode cX9_lose 29 = .ok (.iconst (-1), 1) := by decide +kernel
theorem dX9_lose_30 : decode cX9_lose 30 = .ok (.iastore, 1) := by decide +kernel
theorem dX9_lose_31 : decode cX9_lose 31 = .ok (.iload_n 2, 1) := by decide +kernel
theorem dX9_lose_32 : decode cX9_lose 32 = .ok (.ireturn, 1) := by decide +kernel
theorem dX9_noCell_0 : decode cX9_noCell 0 = .ok (.aload_n 0, 1) := by decide +kernel
theorem dX9_noCell_1 : decode cX9_noCell 1 = .ok (.getfield 52, 3) := by decide +kernel
theorem dX9_noCell_4 : decode cX9_noCell 4 = .ok (.iload_n 1, 1) := by decide +kernel
theorem dX9_noCell_5 : decode cX9_noCell 5 = .ok (.iaload, 1) := by decide +kernel
theorem dX9_noCell_6 : decode cX9_noCell 6 = .ok (.ifCond .ge 7, 3) := by decide +kernel
theorem dX9_noCell_9 : decode cX9_noCell 9 = .ok (.iconst 1, 1) := by decide +kernel
theorem dX9_noCell_10 : decode cX9_noCell 10 = .ok (.goto 26, 3) := by decide +kernel
theorem dX9_noCell_13 : decode cX9_noCell 13 = .ok (.iload_n 2, 1) := by decide +kernel
theorem dX9_noCell_14 : decode cX9_noCell 14 = .ok (.i2l, 1) := by decide +kernel
theorem dX9_noCell_15 : decode cX9_noCell 15 = .ok (.lconst 0, 1) := by decide +kernel
theorem dX9_noCell_16 : decode cX9_noCell 16 = .ok (.aload_n 0, 1) := by decide +kernel
theorem dX9_noCell_17 : decode cX9_noCell 17 = .ok (.getfield 52, 3) := by decide +kernel
theorem dX9_noCell_20 : decode cX9_noCell 20 = .ok (.iload_n 1, 1) := by decide +kernel
theorem dX9_noCell_21 : decode cX9_noCell 21 = .ok (.iaload, 1) := by decide +kernel
theorem dX9_noCell_22 : decode cX9_noCell 22 = .ok (.i2l, 1) := by decide +kernel
theorem dX9_noCell_23 : decode cX9_noCell 23 = .ok (.lconst 1, 1) := by decide +kernel
theorem dX9_noCell_24 : decode cX9_noCell 24 = .ok (.lsub, 1) := by decide +kernel
theorem dX9_noCell_25 : decode cX9_noCell 25 = .ok (.invokestatic 80, 3) := by decide +kernel
theorem dX9_noCell_28 : decode cX9_noCell 28 = .ok (.ifCond .eq 7, 3) := by decide +kernel
theorem dX9_noCell_31 : decode cX9_noCell 31 = .ok (.iconst 0, 1) := by decide +kernel
theorem dX9_noCell_32 : decode cX9_noCell 32 = .ok (.goto 4, 3) := by decide +kernel
theorem dX9_noCell_35 : decode cX9_noCell 35 = .ok (.iconst 3, 1) := by decide +kernel
theorem dX9_noCell_36 : decode cX9_noCell 36 = .ok (.ireturn, 1) := by decide +kernel
theorem dX9_put_0 : decode cX9_put 0 = .ok (.iload_n 1, 1) := by decide +kernel
theorem dX9_put_1 : decode cX9_put 1 = .ok (.invokestatic 124, 3) := by decide +kernel
theorem dX9_put_4 : decode cX9_put 4 = .ok (.ifCond .eq 9, 3) := by decide +kernel
theorem dX9_put_7 : decode cX9_put 7 = .ok (.aload_n 0, 1) := by decide +kernel
theorem dX9_put_8 : decode cX9_put 8 = .ok (.iconst (-1), 1) := by decide +kernel
theorem dX9_put_9 : decode cX9_put 9 = .ok (.invokevirtual 128, 3) := by decide +kernel
theorem dX9_put_12 : decode cX9_put 12 = .ok (.ireturn, 1) := by decide +kernel
theorem dX9_put_13 : decode cX9_put 13 = .ok (.aload_n 0, 1) := by decide +kernel
theorem dX9_put_14 : decode cX9_put 14 = .ok (.iload_n 1, 1) := by decide +kernel
theorem dX9_put_15 : decode cX9_put 15 = .ok (.iload_n 2, 1) := by decide +kernel
theorem dX9_put_16 : decode cX9_put 16 = .ok (.invokevirtual 218, 3) := by decide +kernel
theorem dX9_put_19 : decode cX9_put 19 = .ok (.ifCond .le 14, 3) := by decide +kernel
theorem dX9_put_22 : decode cX9_put 22 = .ok (.aload_n 0, 1) := by decide +kernel
theorem dX9_put_23 : decode cX9_put 23 = .ok (.aload_n 0, 1) := by decide +kernel
theorem dX9_put_24 : decode cX9_put 24 = .ok (.iload_n 1, 1) := by decide +kernel
theorem dX9_put_25 : decode cX9_put 25 = .ok (.iload_n 2, 1) := by decide +kernel
theorem dX9_put_26 : decode cX9_put 26 = .ok (.invokevirtual 218, 3) := by decide +kernel
theorem dX9_put_29 : decode cX9_put 29 = .ok (.invokevirtual 116, 3) := by decide +kernel
theorem dX9_put_32 : decode cX9_put 32 = .ok (.ireturn, 1) := by decide +kernel
theorem dX9_put_33 : decode cX9_put 33 = .ok (.aload_n 0, 1) := by decide +kernel
theorem dX9_put_34 : decode cX9_put 34 = .ok (.getfield 58, 3) := by decide +kernel
theorem dX9_put_37 : decode cX9_put 37 = .ok (.bipush 60, 2) := by decide +kernel
theorem dX9_put_39 : decode cX9_put 39 = .ok (.iload_n 1, 1) := by decide +kernel
theorem dX9_put_40 : decode cX9_put 40 = .ok (.imul, 1) := by decide +kernel
theorem dX9_put_41 : decode cX9_put 41 = .ok (.iload_n 2, 1) := by decide +kernel
theorem dX9_put_42 : decode cX9_put 42 = .ok (.iadd, 1) := by decide +kernel
theorem dX9_put_43 : decode cX9_put 43 = .ok (.aload_n 0, 1) := by decide +kernel
theorem dX9_put_44 : decode cX9_put 44 = .ok (.getfield 55, 3) := by decide +kernel
theorem dX9_put_47 : decode cX9_put 47 = .ok (.iload_n 1, 1) := by decide +kernel
theorem dX9_put_48 : decode cX9_put 48 = .ok (.iaload, 1) := by decide +kernel
theorem dX9_put_49 : decode cX9_put 49 = .ok (.ifCond .ne 8, 3) := by decide +kernel
theorem dX9_put_52 : decode cX9_put 52 = .ok (.iload_n 3, 1) := by decide +kernel
theorem dX9_put_53 : decode cX9_put 53 = .ok (.i2b, 1) := by decide +kernel
theorem dX9_put_54 : decode cX9_put 54 = .ok (.goto 19, 3) := by decide +kernel
theorem dX9_put_57 : decode cX9_put 57 = .ok (.aload_n 0, 1) := by decide +kernel
theorem dX9_put_58 : decode cX9_put 58 = .ok (.getfield 55, 3) := by decide +kernel
theorem dX9_put_61 : decode cX9_put 61 = .ok (.iload_n 1, 1) := by decide +kernel
theorem dX9_put_62 : decode cX9_put 62 = .ok (.iaload, 1) := by decide +kernel
theorem dX9_put_63 : decode cX9_put 63 = .ok (.iconst 1, 1) := by decide +kernel
theorem dX9_put_64 : decode cX9_put 64 = .ok (.if_icmp .ne 8, 3) := by decide +kernel
theorem dX9_put_67 : decode cX9_put 67 = .ok (.iload_n 3, 1) := by decide +kernel
theorem dX9_put_68 : decode cX9_put 68 = .ok (.i2s, 1) := by decide +kernel
theorem dX9_put_69 : decode cX9_put 69 = .ok (.goto 4, 3) := by decide +kernel
theorem dX9_put_72 : decode cX9_put 72 = .ok (.iload_n 3, 1) := by decide +kernel
theorem dX9_put_73 : decode cX9_put 73 = .ok (.iastore, 1) := by decide +kernel
theorem dX9_put_74 : decode cX9_put 74 = .ok (.aload_n 0, 1) := by decide +kernel
theorem dX9_put_75 : decode cX9_put 75 = .ok (.iconst 1, 1) := by decide +kernel
theorem dX9_put_76 : decode cX9_put 76 = .ok (.invokevirtual 128, 3) := by decide +kernel
theorem dX9_put_79 : decode cX9_put 79 = .ok (.ireturn, 1) := by decide +kernel
theorem dX9_cell_0 : decode cX9_cell 0 = .ok (.aload_n 0, 1) := by decide +kernel
theorem dX9_cell_1 : decode cX9_cell 1 = .ok (.iconst 0, 1) := by decide +kernel
theorem dX9_cell_2 : decode cX9_cell 2 = .ok (.putfield 66, 3) := by decide +kernel
theorem dX9_cell_5 : decode cX9_cell 5 = .ok (.iload_n 1, 1) := by decide +kernel
theorem dX9_cell_6 : decode cX9_cell 6 = .ok (.invokestatic 124, 3) := by decide +kernel
theorem dX9_cell_9 : decode cX9_cell 9 = .ok (.ifCond .ne 15, 3) := by decide +kernel
theorem dX9_cell_12 : decode cX9_cell 12 = .ok (.iload_n 3, 1) := by decide +kernel
theorem dX9_cell_13 : decode cX9_cell 13 = .ok (.i2l, 1) := by decide +kernel
theorem dX9_cell_14 : decode cX9_cell 14 = .ok (.lconst 0, 1) := by decide +kernel
theorem dX9_cell_15 : decode cX9_cell 15 = .ok (.ldc2_w 131, 3) := by decide +kernel
theorem dX9_cell_18 : decode cX9_cell 18 = .ok (.invokestatic 80, 3) := by decide +kernel
theorem dX9_cell_21 : decode cX9_cell 21 = .ok (.ifCond .ne 7, 3) := by decide +kernel
theorem dX9_cell_24 : decode cX9_cell 24 = .ok (.invokestatic 70, 3) := by decide +kernel
theorem dX9_cell_27 : decode cX9_cell 27 = .ok (.lreturn, 1) := by decide +kernel
theorem dX9_cell_28 : decode cX9_cell 28 = .ok (.aload_n 0, 1) := by decide +kernel
theorem dX9_cell_29 : decode cX9_cell 29 = .ok (.getfield 52, 3) := by decide +kernel
theorem dX9_cell_32 : decode cX9_cell 32 = .ok (.iload_n 1, 1) := by decide +kernel
theorem dX9_cell_33 : decode cX9_cell 33 = .ok (.iaload, 1) := by decide +kernel
theorem dX9_cell_34 : decode cX9_cell 34 = .ok (.ifCond .lt 19, 3) := by decide +kernel
theorem dX9_cell_37 : decode cX9_cell 37 = .ok (.aload_n 0, 1) := by decide +kernel
theorem dX9_cell_38 : decode cX9_cell 38 = .ok (.getfield 55, 3) := by decide +kernel
theorem dX9_cell_41 : decode cX9_cell 41 = .ok (.iload_n 1, 1) := by decide +kernel
theorem dX9_cell_42 : decode cX9_cell 42 = .ok (.iaload, 1) := by decide +kernel
theorem dX9_cell_43 : decode cX9_cell 43 = .ok (.iload_n 3, 1) := by decide +kernel
theorem dX9_cell_44 : decode cX9_cell 44 = .ok (.if_icmp .eq 9, 3) := by decide +kernel
theorem dX9_cell_47 : decode cX9_cell 47 = .ok (.aload_n 0, 1) := by decide +kernel
theorem dX9_cell_48 : decode cX9_cell 48 = .ok (.iconst 2, 1) := by decide +kernel
theorem dX9_cell_49 : decode cX9_cell 49 = .ok (.invokevirtual 221, 3) := by decide +kernel
theorem dX9_cell_52 : decode cX9_cell 52 = .ok (.lreturn, 1) := by decide +kernel
theorem dX9_cell_53 : decode cX9_cell 53 = .ok (.aload_n 0, 1) := by decide +kernel
theorem dX9_cell_54 : decode cX9_cell 54 = .ok (.iload_n 1, 1) := by decide +kernel
theorem dX9_cell_55 : decode cX9_cell 55 = .ok (.iload_n 2, 1) := by decide +kernel
theorem dX9_cell_56 : decode cX9_cell 56 = .ok (.invokevirtual 218, 3) := by decide +kernel
theorem dX9_cell_59 : decode cX9_cell 59 = .ok (.ifCond .le 16, 3) := by decide +kernel
theorem dX9_cell_62 : decode cX9_cell 62 = .ok (.aload_n 0, 1) := by decide +kernel
theorem dX9_cell_63 : decode cX9_cell 63 = .ok (.aload_n 0, 1) := by decide +kernel
theorem dX9_cell_64 : decode cX9_cell 64 = .ok (.iload_n 1, 1) := by decide +kernel
theorem dX9_cell_65 : decode cX9_cell 65 = .ok (.iload_n 2, 1) := by decide +kernel
theorem dX9_cell_66 : decode cX9_cell 66 = .ok (.invokevirtual 218, 3) := by decide +kernel
theorem dX9_cell_69 : decode cX9_cell 69 = .ok (.invokevirtual 221, 3) := by decide +kernel
theorem dX9_cell_72 : decode cX9_cell 72 = .ok (.goto 15, 3) := by decide +kernel
theorem dX9_cell_75 : decode cX9_cell 75 = .ok (.aload_n 0, 1) := by decide +kernel
theorem dX9_cell_76 : decode cX9_cell 76 = .ok (.getfield 58, 3) := by decide +kernel
theorem dX9_cell_79 : decode cX9_cell 79 = .ok (.bipush 60, 2) := by decide +kernel
theorem dX9_cell_81 : decode cX9_cell 81 = .ok (.iload_n 1, 1) := by decide +kernel
theorem dX9_cell_82 : decode cX9_cell 82 = .ok (.imul, 1) := by decide +kernel
theorem dX9_cell_83 : decode cX9_cell 83 = .ok (.iload_n 2, 1) := by decide +kernel
theorem dX9_cell_84 : decode cX9_cell 84 = .ok (.iadd, 1) := by decide +kernel
theorem dX9_cell_85 : decode cX9_cell 85 = .ok (.iaload, 1) := by decide +kernel
theorem dX9_cell_86 : decode cX9_cell 86 = .ok (.i2l, 1) := by decide +kernel
theorem dX9_cell_87 : decode cX9_cell 87 = .ok (.lreturn, 1) := by decide +kernel
theorem dX9_isBeyond_0 : decode cX9_isBeyond 0 = .ok (.iload_n 0, 1) := by decide +kernel
theorem dX9_isBeyond_1 : decode cX9_isBeyond 1 = .ok (.ifCond .lt 19, 3) := by decide +kernel
theorem dX9_isBeyond_4 : decode cX9_isBeyond 4 = .ok (.lload_n 1, 1) := by decide +kernel
theorem dX9_isBeyond_5 : decode cX9_isBeyond 5 = .ok (.lconst 0, 1) := by decide +kernel
theorem dX9_isBeyond_6 : decode cX9_isBeyond 6 = .ok (.lcmp, 1) := by decide +kernel
theorem dX9_isBeyond_7 : decode cX9_isBeyond 7 = .ok (.ifCond .lt 13, 3) := by decide +kernel
theorem dX9_isBeyond_10 : decode cX9_isBeyond 10 = .ok (.iload_n 0, 1) := by decide +kernel
theorem dX9_isBeyond_11 : decode cX9_isBeyond 11 = .ok (.i2l, 1) := by decide +kernel
theorem dX9_isBeyond_12 : decode cX9_isBeyond 12 = .ok (.lload_n 1, 1) := by decide +kernel
theorem dX9_isBeyond_13 : decode cX9_isBeyond 13 = .ok (.ladd, 1) := by decide +kernel
theorem dX9_isBeyond_14 : decode cX9_isBeyond 14 = .ok (.iload_n 3, 1) := by decide +kernel
theorem dX9_isBeyond_15 : decode cX9_isBeyond 15 = .ok (.i2l, 1) := by decide +kernel
theorem dX9_isBeyond_16 : decode cX9_isBeyond 16 = .ok (.lcmp, 1) := by decide +kernel
theorem dX9_isBeyond_17 : decode cX9_isBeyond 17 = .ok (.ifCond .le 7, 3) := by decide +kernel
theorem dX9_isBeyond_20 : decode cX9_isBeyond 20 = .ok (.iconst 1, 1) := by decide +kernel
theorem dX9_isBeyond_21 : decode cX9_isBeyond 21 = .ok (.goto 4, 3) := by decide +kernel
theorem dX9_isBeyond_24 : decode cX9_isBeyond 24 = .ok (.iconst 0, 1) := by decide +kernel
theorem dX9_isBeyond_25 : decode cX9_isBeyond 25 = .ok (.ireturn, 1) := by decide +kernel
theorem dX9_copy_0 : decode cX9_copy 0 = .ok (.iload_n 1, 1) := by decide +kernel
theorem dX9_copy_1 : decode cX9_copy 1 = .ok (.invokestatic 124, 3) := by decide +kernel
theorem dX9_copy_4 : decode cX9_copy 4 = .ok (.ifCond .ne 10, 3) := by decide +kernel
theorem dX9_copy_7 : decode cX9_copy 7 = .ok (.iload_n 3, 1) := by decide +kernel
theorem dX9_copy_8 : decode cX9_copy 8 = .ok (.invokestatic 124, 3) := by decide +kernel
theorem dX9_copy_11 : decode cX9_copy 11 = .ok (.ifCond .eq 9, 3) := by decide +kernel
theorem dX9_copy_14 : decode cX9_copy 14 = .ok (.aload_n 0, 1) := by decide +kernel
theorem dX9_copy_15 : decode cX9_copy 15 = .ok (.iconst (-1), 1) := by decide +kernel
theorem dX9_copy_16 : decode cX9_copy 16 = .ok (.invokevirtual 128, 3) := by decide +kernel
theorem dX9_copy_19 : decode cX9_copy 19 = .ok (.ireturn, 1) := by decide +kernel
theorem dX9_copy_20 : decode cX9_copy 20 = .ok (.aload_n 0, 1) := by decide +kernel
theorem dX9_copy_21 : decode cX9_copy 21 = .ok (.getfield 52, 3) := by decide +kernel
theorem dX9_copy_24 : decode cX9_copy 24 = .ok (.iload_n 1, 1) := by decide +kernel
theorem dX9_copy_25 : decode cX9_copy 25 = .ok (.iaload, 1) := by decide +kernel
theorem dX9_copy_26 : decode cX9_copy 26 = .ok (.ifCond .lt 12, 3) := by decide +kernel
theorem dX9_copy_29 : decode cX9_copy 29 = .ok (.aload_n 0, 1) := by decide +kernel
theorem dX9_copy_30 : decode cX9_copy 30 = .ok (.getfield 52, 3) := by decide +kernel
theorem dX9_copy_33 : decode cX9_copy 33 = .ok (.iload_n 3, 1) := by decide +kernel
theorem dX9_copy_34 : decode cX9_copy 34 = .ok (.iaload, 1) := by decide +kernel
theorem dX9_copy_35 : decode cX9_copy 35 = .ok (.ifCond .ge 9, 3) := by decide +kernel
theorem dX9_copy_38 : decode cX9_copy 38 = .ok (.aload_n 0, 1) := by decide +kernel
theorem dX9_copy_39 : decode cX9_copy 39 = .ok (.iconst 1, 1) := by decide +kernel
theorem dX9_copy_40 : decode cX9_copy 40 = .ok (.invokevirtual 116, 3) := by decide +kernel
theorem dX9_copy_43 : decode cX9_copy 43 = .ok (.ireturn, 1) := by decide +kernel
theorem dX9_copy_44 : decode cX9_copy 44 = .ok (.aload_n 0, 1) := by decide +kernel
theorem dX9_copy_45 : decode cX9_copy 45 = .ok (.getfield 55, 3) := by decide +kernel
theorem dX9_copy_48 : decode cX9_copy 48 = .ok (.iload_n 1, 1) := by decide +kernel
theorem dX9_copy_49 : decode cX9_copy 49 = .ok (.iaload, 1) := by decide +kernel
theorem dX9_copy_50 : decode cX9_copy 50 = .ok (.aload_n 0, 1) := by decide +kernel
theorem dX9_copy_51 : decode cX9_copy 51 = .ok (.getfield 55, 3) := by decide +kernel
theorem dX9_copy_54 : decode cX9_copy 54 = .ok (.iload_n 3, 1) := by decide +kernel
theorem dX9_copy_55 : decode cX9_copy 55 = .ok (.iaload, 1) := by decide +kernel
theorem dX9_copy_56 : decode cX9_copy 56 = .ok (.if_icmp .eq 9, 3) := by decide +kernel
theorem dX9_copy_59 : decode cX9_copy 59 = .ok (.aload_n 0, 1) := by decide +kernel
theorem dX9_copy_60 : decode cX9_copy 60 = .ok (.iconst 2, 1) := by decide +kernel
theorem dX9_copy_61 : decode cX9_copy 61 = .ok (.invokevirtual 116, 3) := by decide +kernel
theorem dX9_copy_64 : decode cX9_copy 64 = .ok (.ireturn, 1) := by decide +kernel
theorem dX9_copy_65 : decode cX9_copy 65 = .ok (.iload_n 2, 1) := by decide +kernel
theorem dX9_copy_66 : decode cX9_copy 66 = .ok (.iload 5, 2) := by decide +kernel
theorem dX9_copy_68 : decode cX9_copy 68 = .ok (.i2l, 1) := by decide +kernel
theorem dX9_copy_69 : decode cX9_copy 69 = .ok (.aload_n 0, 1) := by decide +kernel
theorem dX9_copy_70 : decode cX9_copy 70 = .ok (.getfield 52, 3) := by decide +kernel
theorem dX9_copy_73 : decode cX9_copy 73 = .ok (.iload_n 1, 1) := by decide +kernel
theorem dX9_copy_74 : decode cX9_copy 74 = .ok (.iaload, 1) := by decide +kernel
theorem dX9_copy_75 : decode cX9_copy 75 = .ok (.invokestatic 120, 3) := by decide +kernel
theorem dX9_copy_78 : decode cX9_copy 78 = .ok (.ifCond .ne 20, 3) := by decide +kernel
theorem dX9_copy_81 : decode cX9_copy 81 = .ok (.iload 4, 2) := by decide +kernel
theorem dX9_copy_83 : decode cX9_copy 83 = .ok (.iload 5, 2) := by decide +kernel
theorem dX9_copy_85 : decode cX9_copy 85 = .ok (.i2l, 1) := by decide +kernel
theorem dX9_copy_86 : decode cX9_copy 86 = .ok (.aload_n 0, 1) := by decide +kernel
theorem dX9_copy_87 : decode cX9_copy 87 = .ok (.getfield 52, 3) := by decide +kernel
theorem dX9_copy_90 : decode cX9_copy 90 = .ok (.iload_n 3, 1) := by decide +kernel
theorem dX9_copy_91 : decode cX9_copy 91 = .ok (.iaload, 1) := by decide +kernel
theorem dX9_copy_92 : decode cX9_copy 92 = .ok (.invokestatic 120, 3) := by decide +kernel
theorem dX9_copy_95 : decode cX9_copy 95 = .ok (.ifCond .eq 9, 3) := by decide +kernel
theorem dX9_copy_98 : decode cX9_copy 98 = .ok (.aload_n 0, 1) := by decide +kernel
theorem dX9_copy_99 : decode cX9_copy 99 = .ok (.iconst 3, 1) := by decide +kernel
theorem dX9_copy_100 : decode cX9_copy 100 = .ok (.invokevirtual 116, 3) := by decide +kernel
theorem dX9_copy_103 : decode cX9_copy 103 = .ok (.ireturn, 1) := by decide +kernel
theorem dX9_copy_104 : decode cX9_copy 104 = .ok (.iconst 0, 1) := by decide +kernel
theorem dX9_copy_105 : decode cX9_copy 105 = .ok (.istore 6, 2) := by decide +kernel
theorem dX9_copy_107 : decode cX9_copy 107 = .ok (.iload 6, 2) := by decide +kernel
theorem dX9_copy_109 : decode cX9_copy 109 = .ok (.iload 5, 2) := by decide +kernel
theorem dX9_copy_111 : decode cX9_copy 111 = .ok (.if_icmp .ge 30, 3) := by decide +kernel
theorem dX9_copy_114 : decode cX9_copy 114 = .ok (.aload_n 0, 1) := by decide +kernel
theorem dX9_copy_115 : decode cX9_copy 115 = .ok (.getfield 61, 3) := by decide +kernel
theorem dX9_copy_118 : decode cX9_copy 118 = .ok (.iload 6, 2) := by decide +kernel
theorem dX9_copy_120 : decode cX9_copy 120 = .ok (.aload_n 0, 1) := by decide +kernel
theorem dX9_copy_121 : decode cX9_copy 121 = .ok (.getfield 58, 3) := by decide +kernel
theorem dX9_copy_124 : decode cX9_copy 124 = .ok (.bipush 60, 2) := by decide +kernel
theorem dX9_copy_126 : decode cX9_copy 126 = .ok (.iload_n 1, 1) := by decide +kernel
theorem dX9_copy_127 : decode cX9_copy 127 = .ok (.imul, 1) := by decide +kernel
theorem dX9_copy_128 : decode cX9_copy 128 = .ok (.iload_n 2, 1) := by decide +kernel
theorem dX9_copy_129 : decode cX9_copy 129 = .ok (.iadd, 1) := by decide +kernel
theorem dX9_copy_130 : decode cX9_copy 130 = .ok (.iload 6, 2) := by decide +kernel
theorem dX9_copy_132 : decode cX9_copy 132 = .ok (.iadd, 1) := by decide +kernel
theorem dX9_copy_133 : decode cX9_copy 133 = .ok (.iaload, 1) := by decide +kernel
theorem dX9_copy_134 : decode cX9_copy 134 = .ok (.iastore, 1) := by decide +kernel
theorem dX9_copy_135 : decode cX9_copy 135 = .ok (.iinc 6 1, 3) := by decide +kernel
theorem dX9_copy_138 : decode cX9_copy 138 = .ok (.goto (-31), 3) := by decide +kernel
theorem dX9_copy_141 : decode cX9_copy 141 = .ok (.iconst 0, 1) := by decide +kernel
theorem dX9_copy_142 : decode cX9_copy 142 = .ok (.istore 6, 2) := by decide +kernel
theorem dX9_copy_144 : decode cX9_copy 144 = .ok (.iload 6, 2) := by decide +kernel
theorem dX9_copy_146 : decode cX9_copy 146 = .ok (.iload 5, 2) := by decide +kernel
theorem dX9_copy_148 : decode cX9_copy 148 = .ok (.if_icmp .ge 31, 3) := by decide +kernel
theorem dX9_copy_151 : decode cX9_copy 151 = .ok (.aload_n 0, 1) := by decide +kernel
theorem dX9_copy_152 : decode cX9_copy 152 = .ok (.getfield 58, 3) := by decide +kernel
theorem dX9_copy_155 : decode cX9_copy 155 = .ok (.bipush 60, 2) := by decide +kernel
theorem dX9_copy_157 : decode cX9_copy 157 = .ok (.iload_n 3, 1) := by decide +kernel
theorem dX9_copy_158 : decode cX9_copy 158 = .ok (.imul, 1) := by decide +kernel
theorem dX9_copy_159 : decode cX9_copy 159 = .ok (.iload 4, 2) := by decide +kernel
theorem dX9_copy_161 : decode cX9_copy 161 = .ok (.iadd, 1) := by decide +kernel
theorem dX9_copy_162 : decode cX9_copy 162 = .ok (.iload 6, 2) := by decide +kernel
theorem dX9_copy_164 : decode cX9_copy 164 = .ok (.iadd, 1) := by decide +kernel
theorem dX9_copy_165 : decode cX9_copy 165 = .ok (.aload_n 0, 1) := by decide +kernel
theorem dX9_copy_166 : decode cX9_copy 166 = .ok (.getfield 61, 3) := by decide +kernel
theorem dX9_copy_169 : decode cX9_copy 169 = .ok (.iload 6, 2) := by decide +kernel
theorem dX9_copy_171 : decode cX9_copy 171 = .ok (.iaload, 1) := by decide +kernel
theorem dX9_copy_172 : decode cX9_copy 172 = .ok (.iastore, 1) := by decide +kernel
theorem dX9_copy_173 : decode cX9_copy 173 = .ok (.iinc 6 1, 3) := by decide +kernel
theorem dX9_copy_176 : decode cX9_copy 176 = .ok (.goto (-32), 3) := by decide +kernel
theorem dX9_copy_179 : decode cX9_copy 179 = .ok (.aload_n 0, 1) := by decide +kernel
theorem dX9_copy_180 : decode cX9_copy 180 = .ok (.iload 5, 2) := by decide +kernel
theorem dX9_copy_182 : decode cX9_copy 182 = .ok (.invokevirtual 128, 3) := by decide +kernel
theorem dX9_copy_185 : decode cX9_copy 185 = .ok (.ireturn, 1) := by decide +kernel
theorem dX9_traced_0 : decode cX9_traced 0 = .ok (.aload_n 0, 1) := by decide +kernel
theorem dX9_traced_1 : decode cX9_traced 1 = .ok (.bipush 31, 2) := by decide +kernel
theorem dX9_traced_3 : decode cX9_traced 3 = .ok (.aload_n 0, 1) := by decide +kernel
theorem dX9_traced_4 : decode cX9_traced 4 = .ok (.getfield 225, 3) := by decide +kernel
theorem dX9_traced_7 : decode cX9_traced 7 = .ok (.imul, 1) := by decide +kernel
theorem dX9_traced_8 : decode cX9_traced 8 = .ok (.iload_n 1, 1) := by decide +kernel
theorem dX9_traced_9 : decode cX9_traced 9 = .ok (.iadd, 1) := by decide +kernel
theorem dX9_traced_10 : decode cX9_traced 10 = .ok (.putfield 225, 3) := by decide +kernel
theorem dX9_traced_13 : decode cX9_traced 13 = .ok (.return_, 1) := by decide +kernel
theorem dX9_tell_0 : decode cX9_tell 0 = .ok (.aload_n 0, 1) := by decide +kernel
theorem dX9_tell_1 : decode cX9_tell 1 = .ok (.iload_n 1, 1) := by decide +kernel
theorem dX9_tell_2 : decode cX9_tell 2 = .ok (.invokevirtual 146, 3) := by decide +kernel
theorem dX9_tell_5 : decode cX9_tell 5 = .ok (.ifCond .eq 5, 3) := by decide +kernel
theorem dX9_tell_8 : decode cX9_tell 8 = .ok (.iconst (-1), 1) := by decide +kernel
theorem dX9_tell_9 : decode cX9_tell 9 = .ok (.ireturn, 1) := by decide +kernel
theorem dX9_tell_10 : decode cX9_tell 10 = .ok (.aload_n 0, 1) := by decide +kernel
theorem dX9_tell_11 : decode cX9_tell 11 = .ok (.getfield 7, 3) := by decide +kernel
theorem dX9_tell_14 : decode cX9_tell 14 = .ok (.iload_n 1, 1) := by decide +kernel
theorem dX9_tell_15 : decode cX9_tell 15 = .ok (.iaload, 1) := by decide +kernel
theorem dX9_tell_16 : decode cX9_tell 16 = .ok (.istore_n 2, 1) := by decide +kernel
theorem dX9_tell_17 : decode cX9_tell 17 = .ok (.iload_n 2, 1) := by decide +kernel
theorem dX9_tell_18 : decode cX9_tell 18 = .ok (.iconst 2, 1) := by decide +kernel
theorem dX9_tell_19 : decode cX9_tell 19 = .ok (.if_icmp .ne 8, 3) := by decide +kernel
theorem dX9_tell_22 : decode cX9_tell 22 = .ok (.aload_n 0, 1) := by decide +kernel
theorem dX9_tell_23 : decode cX9_tell 23 = .ok (.iconst 3, 1) := by decide +kernel
theorem dX9_tell_24 : decode cX9_tell 24 = .ok (.invokevirtual 228, 3) := by decide +kernel
theorem dX9_tell_27 : decode cX9_tell 27 = .ok (.iload_n 2, 1) := by decide +kernel
theorem dX9_tell_28 : decode cX9_tell 28 = .ok (.ifCond .le 8, 3) := by decide +kernel
theorem dX9_tell_31 : decode cX9_tell 31 = .ok (.aload_n 0, 1) := by decide +kernel
theorem dX9_tell_32 : decode cX9_tell 32 = .ok (.iconst 2, 1) := by decide +kernel
theorem dX9_tell_33 : decode cX9_tell 33 = .ok (.invokevirtual 228, 3) := by decide +kernel
theorem dX9_tell_36 : decode cX9_tell 36 = .ok (.aload_n 0, 1) := by decide +kernel
theorem dX9_tell_37 : decode cX9_tell 37 = .ok (.iconst 1, 1) := by decide +kernel
theorem dX9_tell_38 : decode cX9_tell 38 = .ok (.invokevirtual 228, 3) := by decide +kernel
theorem dX9_tell_41 : decode cX9_tell 41 = .ok (.iload_n 2, 1) := by decide +kernel
theorem dX9_tell_42 : decode cX9_tell 42 = .ok (.iconst 2, 1) := by decide +kernel
theorem dX9_tell_43 : decode cX9_tell 43 = .ok (.if_icmp .ne 8, 3) := by decide +kernel
theorem dX9_tell_46 : decode cX9_tell 46 = .ok (.aload_n 0, 1) := by decide +kernel
theorem dX9_tell_47 : decode cX9_tell 47 = .ok (.iconst 1, 1) := by decide +kernel
theorem dX9_tell_48 : decode cX9_tell 48 = .ok (.invokevirtual 228, 3) := by decide +kernel
theorem dX9_tell_51 : decode cX9_tell 51 = .ok (.aload_n 0, 1) := by decide +kernel
theorem dX9_tell_52 : decode cX9_tell 52 = .ok (.getfield 13, 3) := by decide +kernel
theorem dX9_tell_55 : decode cX9_tell 55 = .ok (.iload_n 1, 1) := by decide +kernel
theorem dX9_tell_56 : decode cX9_tell 56 = .ok (.iaload, 1) := by decide +kernel
theorem dX9_tell_57 : decode cX9_tell 57 = .ok (.istore_n 3, 1) := by decide +kernel
theorem dX9_tell_58 : decode cX9_tell 58 = .ok (.iload_n 2, 1) := by decide +kernel
theorem dX9_tell_59 : decode cX9_tell 59 = .ok (.ifCond .ne 7, 3) := by decide +kernel
theorem dX9_tell_62 : decode cX9_tell 62 = .ok (.iload_n 3, 1) := by decide +kernel
theorem dX9_tell_63 : decode cX9_tell 63 = .ok (.goto 21, 3) := by decide +kernel
theorem dX9_tell_66 : decode cX9_tell 66 = .ok (.iload_n 2, 1) := by decide +kernel
theorem dX9_tell_67 : decode cX9_tell 67 = .ok (.iconst 1, 1) := by decide +kernel
theorem dX9_tell_68 : decode cX9_tell 68 = .ok (.if_icmp .ne 10, 3) := by decide +kernel
theorem dX9_tell_71 : decode cX9_tell 71 = .ok (.iload_n 3, 1) := by decide +kernel
theorem dX9_tell_72 : decode cX9_tell 72 = .ok (.bipush 100, 2) := by decide +kernel
theorem dX9_tell_74 : decode cX9_tell 74 = .ok (.iadd, 1) := by decide +kernel
theorem dX9_tell_75 : decode cX9_tell 75 = .ok (.goto 9, 3) := by decide +kernel
theorem dX9_tell_78 : decode cX9_tell 78 = .ok (.iconst 2, 1) := by decide +kernel
theorem dX9_tell_79 : decode cX9_tell 79 = .ok (.iload_n 3, 1) := by decide +kernel
theorem dX9_tell_80 : decode cX9_tell 80 = .ok (.imul, 1) := by decide +kernel
theorem dX9_tell_81 : decode cX9_tell 81 = .ok (.bipush 100, 2) := by decide +kernel
theorem dX9_tell_83 : decode cX9_tell 83 = .ok (.iadd, 1) := by decide +kernel
theorem dX9_tell_84 : decode cX9_tell 84 = .ok (.ireturn, 1) := by decide +kernel
theorem dX9_nod_0 : decode cX9_nod 0 = .ok (.aload_n 0, 1) := by decide +kernel
theorem dX9_nod_1 : decode cX9_nod 1 = .ok (.iload_n 1, 1) := by decide +kernel
theorem dX9_nod_2 : decode cX9_nod 2 = .ok (.invokevirtual 146, 3) := by decide +kernel
theorem dX9_nod_5 : decode cX9_nod 5 = .ok (.ifCond .eq 5, 3) := by decide +kernel
theorem dX9_nod_8 : decode cX9_nod 8 = .ok (.iconst (-1), 1) := by decide +kernel
theorem dX9_nod_9 : decode cX9_nod 9 = .ok (.ireturn, 1) := by decide +kernel
theorem dX9_nod_10 : decode cX9_nod 10 = .ok (.aload_n 0, 1) := by decide +kernel
theorem dX9_nod_11 : decode cX9_nod 11 = .ok (.aload_n 0, 1) := by decide +kernel
theorem dX9_nod_12 : decode cX9_nod 12 = .ok (.getfield 7, 3) := by decide +kernel
theorem dX9_nod_15 : decode cX9_nod 15 = .ok (.iload_n 1, 1) := by decide +kernel
theorem dX9_nod_16 : decode cX9_nod 16 = .ok (.iaload, 1) := by decide +kernel
theorem dX9_nod_17 : decode cX9_nod 17 = .ok (.iconst 2, 1) := by decide +kernel
theorem dX9_nod_18 : decode cX9_nod 18 = .ok (.if_icmp .ne 7, 3) := by decide +kernel
theorem dX9_nod_21 : decode cX9_nod 21 = .ok (.iconst 5, 1) := by decide +kernel
theorem dX9_nod_22 : decode cX9_nod 22 = .ok (.goto 4, 3) := by decide +kernel
theorem dX9_nod_25 : decode cX9_nod 25 = .ok (.iconst 4, 1) := by decide +kernel
theorem dX9_nod_26 : decode cX9_nod 26 = .ok (.invokevirtual 228, 3) := by decide +kernel
theorem dX9_nod_29 : decode cX9_nod 29 = .ok (.aload_n 0, 1) := by decide +kernel
theorem dX9_nod_30 : decode cX9_nod 30 = .ok (.getfield 7, 3) := by decide +kernel
theorem dX9_nod_33 : decode cX9_nod 33 = .ok (.iload_n 1, 1) := by decide +kernel
theorem dX9_nod_34 : decode cX9_nod 34 = .ok (.iaload, 1) := by decide +kernel
theorem dX9_nod_35 : decode cX9_nod 35 = .ok (.iconst 2, 1) := by decide +kernel
theorem dX9_nod_36 : decode cX9_nod 36 = .ok (.if_icmp .ne 8, 3) := by decide +kernel
theorem dX9_nod_39 : decode cX9_nod 39 = .ok (.bipush 80, 2) := by decide +kernel
theorem dX9_nod_41 : decode cX9_nod 41 = .ok (.goto 4, 3) := by decide +kernel
theorem dX9_nod_44 : decode cX9_nod 44 = .ok (.iload_n 1, 1) := by decide +kernel
theorem dX9_nod_45 : decode cX9_nod 45 = .ok (.ireturn, 1) := by decide +kernel
theorem dX9_as_0 : decode cX9_as 0 = .ok (.aload_n 0, 1) := by decide +kernel
theorem dX9_as_1 : decode cX9_as 1 = .ok (.iload_n 1, 1) := by decide +kernel
theorem dX9_as_2 : decode cX9_as 2 = .ok (.invokevirtual 146, 3) := by decide +kernel
theorem dX9_as_5 : decode cX9_as 5 = .ok (.ifCond .eq 9, 3) := by decide +kernel
theorem dX9_as_8 : decode cX9_as 8 = .ok (.aload_n 0, 1) := by decide +kernel
theorem dX9_as_9 : decode cX9_as 9 = .ok (.iconst (-1), 1) := by decide +kernel
theorem dX9_as_10 : decode cX9_as 10 = .ok (.invokevirtual 128, 3) := by decide +kernel
theorem dX9_as_13 : decode cX9_as 13 = .ok (.ireturn, 1) := by decide +kernel
theorem dX9_as_14 : decode cX9_as 14 = .ok (.iload_n 2, 1) := by decide +kernel
theorem dX9_as_15 : decode cX9_as 15 = .ok (.i2l, 1) := by decide +kernel
theorem dX9_as_16 : decode cX9_as 16 = .ok (.lconst 0, 1) := by decide +kernel
theorem dX9_as_17 : decode cX9_as 17 = .ok (.ldc2_w 131, 3) := by decide +kernel
theorem dX9_as_20 : decode cX9_as 20 = .ok (.invokestatic 80, 3) := by decide +kernel
theorem dX9_as_23 : decode cX9_as 23 = .ok (.ifCond .ne 10, 3) := by decide +kernel
theorem dX9_as_26 : decode cX9_as 26 = .ok (.aload_n 0, 1) := by decide +kernel
theorem dX9_as_27 : decode cX9_as 27 = .ok (.bipush (-2), 2) := by decide +kernel
theorem dX9_as_29 : decode cX9_as 29 = .ok (.invokevirtual 128, 3) := by decide +kernel
theorem dX9_as_32 : decode cX9_as 32 = .ok (.ireturn, 1) := by decide +kernel
theorem dX9_as_33 : decode cX9_as 33 = .ok (.aload_n 0, 1) := by decide +kernel
theorem dX9_as_34 : decode cX9_as 34 = .ok (.getfield 7, 3) := by decide +kernel
theorem dX9_as_37 : decode cX9_as 37 = .ok (.iload_n 1, 1) := by decide +kernel
theorem dX9_as_38 : decode cX9_as 38 = .ok (.iaload, 1) := by decide +kernel
theorem dX9_as_39 : decode cX9_as 39 = .ok (.iload_n 2, 1) := by decide +kernel
theorem dX9_as_40 : decode cX9_as 40 = .ok (.if_icmp .lt 11, 3) := by decide +kernel
theorem dX9_as_43 : decode cX9_as 43 = .ok (.aload_n 0, 1) := by decide +kernel
theorem dX9_as_44 : decode cX9_as 44 = .ok (.iconst 1, 1) := by decide +kernel
theorem dX9_as_45 : decode cX9_as 45 = .ok (.invokevirtual 128, 3) := by decide +kernel
theorem dX9_as_48 : decode cX9_as 48 = .ok (.goto 8, 3) := by decide +kernel
theorem dX9_as_51 : decode cX9_as 51 = .ok (.aload_n 0, 1) := by decide +kernel
theorem dX9_as_52 : decode cX9_as 52 = .ok (.iconst 2, 1) := by decide +kernel
theorem dX9_as_53 : decode cX9_as 53 = .ok (.invokevirtual 116, 3) := by decide +kernel
theorem dX9_as_56 : decode cX9_as 56 = .ok (.ireturn, 1) := by decide +kernel
theorem dX9_trace_0 : decode cX9_trace 0 = .ok (.aload_n 0, 1) := by decide +kernel
theorem dX9_trace_1 : decode cX9_trace 1 = .ok (.getfield 225, 3) := by decide +kernel
theorem dX9_trace_4 : decode cX9_trace 4 = .ok (.ireturn, 1) := by decide +kernel
theorem dX9_fault_0 : decode cX9_fault 0 = .ok (.aload_n 0, 1) := by decide +kernel
theorem dX9_fault_1 : decode cX9_fault 1 = .ok (.getfield 66, 3) := by decide +kernel
theorem dX9_fault_4 : decode cX9_fault 4 = .ok (.ireturn, 1) := by decide +kernel
theorem dX9_many_0 : decode cX9_many 0 = .ok (.iload_n 1, 1) := by decide +kernel
theorem dX9_many_1 : decode cX9_many 1 = .ok (.tableswitch 56 0 3 #[31, 36, 46, 51], 31) := by decide +kernel
theorem dX9_many_32 : decode cX9_many 32 = .ok (.aload_n 0, 1) := by decide +kernel
theorem dX9_many_33 : decode cX9_many 33 = .ok (.getfield 84, 3) := by decide +kernel
theorem dX9_many_36 : decode cX9_many 36 = .ok (.ireturn, 1) := by decide +kernel
theorem dX9_many_37 : decode cX9_many 37 = .ok (.aload_n 0, 1) := by decide +kernel
theorem dX9_many_38 : decode cX9_many 38 = .ok (.getfield 74, 3) := by decide +kernel
theorem dX9_many_41 : decode cX9_many 41 = .ok (.aload_n 0, 1) := by decide +kernel
theorem dX9_many_42 : decode cX9_many 42 = .ok (.getfield 77, 3) := by decide +kernel
theorem dX9_many_45 : decode cX9_many 45 = .ok (.imul, 1) := by decide +kernel
theorem dX9_many_46 : decode cX9_many 46 = .ok (.ireturn, 1) := by decide +kernel
theorem dX9_many_47 : decode cX9_many 47 = .ok (.aload_n 0, 1) := by decide +kernel
theorem dX9_many_48 : decode cX9_many 48 = .ok (.getfield 140, 3) := by decide +kernel
theorem dX9_many_51 : decode cX9_many 51 = .ok (.ireturn, 1) := by decide +kernel
theorem dX9_many_52 : decode cX9_many 52 = .ok (.aload_n 0, 1) := by decide +kernel
theorem dX9_many_53 : decode cX9_many 53 = .ok (.getfield 143, 3) := by decide +kernel
theorem dX9_many_56 : decode cX9_many 56 = .ok (.ireturn, 1) := by decide +kernel
theorem dX9_many_57 : decode cX9_many 57 = .ok (.bipush (-2), 2) := by decide +kernel
theorem dX9_many_59 : decode cX9_many 59 = .ok (.ireturn, 1) := by decide +kernel
