theorem dX9_init_0 : decode cX9_init 0 = .ok (.aload_n 0, 1) := by decide +kernel
theorem dX9_init_1 : decode cX9_init 1 = .ok (.invokespecial 1, 3) := by decide +kernel
theorem dX9_init_4 : decode cX9_init 4 = .ok (.aload_n 0, 1) := by decide +kernel
theorem dX9_init_5 : decode cX9_init 5 = .ok (.iconst 4, 1) := by decide +kernel
theorem dX9_init_6 : decode cX9_init 6 = .ok (.newarray .int, 2) := by decide +kernel
theorem dX9_init_8 : decode cX9_init 8 = .ok (.putfield 7, 3) := by decide +kernel
theorem dX9_init_11 : decode cX9_init 11 = .ok (.aload_n 0, 1) := by decide +kernel
theorem dX9_init_12 : decode cX9_init 12 = .ok (.bipush 24, 2) := by decide +kernel
theorem dX9_init_14 : decode cX9_init 14 = .ok (.newarray .int, 2) := by decide +kernel
theorem dX9_init_16 : decode cX9_init 16 = .ok (.putfield 13, 3) := by decide +kernel
theorem dX9_init_19 : decode cX9_init 19 = .ok (.aload_n 0, 1) := by decide +kernel
theorem dX9_init_20 : decode cX9_init 20 = .ok (.iconst 4, 1) := by decide +kernel
theorem dX9_init_21 : decode cX9_init 21 = .ok (.newarray .int, 2) := by decide +kernel
theorem dX9_init_23 : decode cX9_init 23 = .ok (.putfield 16, 3) := by decide +kernel
theorem dX9_init_26 : decode cX9_init 26 = .ok (.aload_n 0, 1) := by decide +kernel
theorem dX9_init_27 : decode cX9_init 27 = .ok (.bipush 24, 2) := by decide +kernel
theorem dX9_init_29 : decode cX9_init 29 = .ok (.newarray .int, 2) := by decide +kernel
theorem dX9_init_31 : decode cX9_init 31 = .ok (.putfield 19, 3) := by decide +kernel
theorem dX9_init_34 : decode cX9_init 34 = .ok (.aload_n 0, 1) := by decide +kernel
theorem dX9_init_35 : decode cX9_init 35 = .ok (.bipush 6, 2) := by decide +kernel
theorem dX9_init_37 : decode cX9_init 37 = .ok (.newarray .int, 2) := by decide +kernel
theorem dX9_init_39 : decode cX9_init 39 = .ok (.putfield 22, 3) := by decide +kernel
theorem dX9_init_42 : decode cX9_init 42 = .ok (.aload_n 0, 1) := by decide +kernel
theorem dX9_init_43 : decode cX9_init 43 = .ok (.bipush 8, 2) := by decide +kernel
theorem dX9_init_45 : decode cX9_init 45 = .ok (.newarray .int, 2) := by decide +kernel
theorem dX9_init_47 : decode cX9_init 47 = .ok (.putfield 25, 3) := by decide +kernel
theorem dX9_init_50 : decode cX9_init 50 = .ok (.aload_n 0, 1) := by decide +kernel
theorem dX9_init_51 : decode cX9_init 51 = .ok (.bipush 8, 2) := by decide +kernel
theorem dX9_init_53 : decode cX9_init 53 = .ok (.newarray .int, 2) := by decide +kernel
theorem dX9_init_55 : decode cX9_init 55 = .ok (.putfield 28, 3) := by decide +kernel
theorem dX9_init_58 : decode cX9_init 58 = .ok (.aload_n 0, 1) := by decide +kernel
theorem dX9_init_59 : decode cX9_init 59 = .ok (.bipush 8, 2) := by decide +kernel
theorem dX9_init_61 : decode cX9_init 61 = .ok (.newarray .int, 2) := by decide +kernel
theorem dX9_init_63 : decode cX9_init 63 = .ok (.putfield 31, 3) := by decide +kernel
theorem dX9_init_66 : decode cX9_init 66 = .ok (.aload_n 0, 1) := by decide +kernel
theorem dX9_init_67 : decode cX9_init 67 = .ok (.bipush 8, 2) := by decide +kernel
theorem dX9_init_69 : decode cX9_init 69 = .ok (.newarray .int, 2) := by decide +kernel
theorem dX9_init_71 : decode cX9_init 71 = .ok (.putfield 34, 3) := by decide +kernel
theorem dX9_init_74 : decode cX9_init 74 = .ok (.aload_n 0, 1) := by decide +kernel
theorem dX9_init_75 : decode cX9_init 75 = .ok (.bipush 8, 2) := by decide +kernel
theorem dX9_init_77 : decode cX9_init 77 = .ok (.newarray .int, 2) := by decide +kernel
theorem dX9_init_79 : decode cX9_init 79 = .ok (.putfield 37, 3) := by decide +kernel
theorem dX9_init_82 : decode cX9_init 82 = .ok (.aload_n 0, 1) := by decide +kernel
theorem dX9_init_83 : decode cX9_init 83 = .ok (.bipush 8, 2) := by decide +kernel
theorem dX9_init_85 : decode cX9_init 85 = .ok (.newarray .int, 2) := by decide +kernel
theorem dX9_init_87 : decode cX9_init 87 = .ok (.putfield 40, 3) := by decide +kernel
theorem dX9_init_90 : decode cX9_init 90 = .ok (.aload_n 0, 1) := by decide +kernel
theorem dX9_init_91 : decode cX9_init 91 = .ok (.bipush 8, 2) := by decide +kernel
theorem dX9_init_93 : decode cX9_init 93 = .ok (.newarray .int, 2) := by decide +kernel
theorem dX9_init_95 : decode cX9_init 95 = .ok (.putfield 43, 3) := by decide +kernel
theorem dX9_init_98 : decode cX9_init 98 = .ok (.aload_n 0, 1) := by decide +kernel
theorem dX9_init_99 : decode cX9_init 99 = .ok (.bipush 8, 2) := by decide +kernel
theorem dX9_init_101 : decode cX9_init 101 = .ok (.newarray .int, 2) := by decide +kernel
theorem dX9_init_103 : decode cX9_init 103 = .ok (.putfield 46, 3) := by decide +kernel
theorem dX9_init_106 : decode cX9_init 106 = .ok (.aload_n 0, 1) := by decide +kernel
theorem dX9_init_107 : decode cX9_init 107 = .ok (.bipush 8, 2) := by decide +kernel
theorem dX9_init_109 : decode cX9_init 109 = .ok (.newarray .int, 2) := by decide +kernel
theorem dX9_init_111 : decode cX9_init 111 = .ok (.putfield 49, 3) := by decide +kernel
theorem dX9_init_114 : decode cX9_init 114 = .ok (.aload_n 0, 1) := by decide +kernel
theorem dX9_init_115 : decode cX9_init 115 = .ok (.bipush 8, 2) := by decide +kernel
theorem dX9_init_117 : decode cX9_init 117 = .ok (.newarray .int, 2) := by decide +kernel
theorem dX9_init_119 : decode cX9_init 119 = .ok (.putfield 52, 3) := by decide +kernel
theorem dX9_init_122 : decode cX9_init 122 = .ok (.aload_n 0, 1) := by decide +kernel
theorem dX9_init_123 : decode cX9_init 123 = .ok (.bipush 8, 2) := by decide +kernel
theorem dX9_init_125 : decode cX9_init 125 = .ok (.newarray .int, 2) := by decide +kernel
theorem dX9_init_127 : decode cX9_init 127 = .ok (.putfield 55, 3) := by decide +kernel
theorem dX9_init_130 : decode cX9_init 130 = .ok (.aload_n 0, 1) := by decide +kernel
theorem dX9_init_131 : decode cX9_init 131 = .ok (.iconst 4, 1) := by decide +kernel
theorem dX9_init_132 : decode cX9_init 132 = .ok (.newarray .int, 2) := by decide +kernel
theorem dX9_init_134 : decode cX9_init 134 = .ok (.putfield 58, 3) := by decide +kernel
theorem dX9_init_137 : decode cX9_init 137 = .ok (.aload_n 0, 1) := by decide +kernel
theorem dX9_init_138 : decode cX9_init 138 = .ok (.iconst 4, 1) := by decide +kernel
theorem dX9_init_139 : decode cX9_init 139 = .ok (.newarray .int, 2) := by decide +kernel
theorem dX9_init_141 : decode cX9_init 141 = .ok (.putfield 61, 3) := by decide +kernel
theorem dX9_init_144 : decode cX9_init 144 = .ok (.aload_n 0, 1) := by decide +kernel
theorem dX9_init_145 : decode cX9_init 145 = .ok (.sipush 240, 3) := by decide +kernel
theorem dX9_init_148 : decode cX9_init 148 = .ok (.newarray .int, 2) := by decide +kernel
theorem dX9_init_150 : decode cX9_init 150 = .ok (.putfield 64, 3) := by decide +kernel
theorem dX9_init_153 : decode cX9_init 153 = .ok (.aload_n 0, 1) := by decide +kernel
theorem dX9_init_154 : decode cX9_init 154 = .ok (.bipush 60, 2) := by decide +kernel
theorem dX9_init_156 : decode cX9_init 156 = .ok (.newarray .int, 2) := by decide +kernel
theorem dX9_init_158 : decode cX9_init 158 = .ok (.putfield 67, 3) := by decide +kernel
theorem dX9_init_161 : decode cX9_init 161 = .ok (.iconst 0, 1) := by decide +kernel
theorem dX9_init_162 : decode cX9_init 162 = .ok (.istore_n 1, 1) := by decide +kernel
theorem dX9_init_163 : decode cX9_init 163 = .ok (.iload_n 1, 1) := by decide +kernel
theorem dX9_init_164 : decode cX9_init 164 = .ok (.iconst 4, 1) := by decide +kernel
theorem dX9_init_165 : decode cX9_init 165 = .ok (.if_icmp .ge 16, 3) := by decide +kernel
theorem dX9_init_168 : decode cX9_init 168 = .ok (.aload_n 0, 1) := by decide +kernel
theorem dX9_init_169 : decode cX9_init 169 = .ok (.getfield 58, 3) := by decide +kernel
theorem dX9_init_172 : decode cX9_init 172 = .ok (.iload_n 1, 1) := by decide +kernel
theorem dX9_init_173 : decode cX9_init 173 = .ok (.iconst (-1), 1) := by decide +kernel
theorem dX9_init_174 : decode cX9_init 174 = .ok (.iastore, 1) := by decide +kernel
theorem dX9_init_175 : decode cX9_init 175 = .ok (.iinc 1 1, 3) := by decide +kernel
theorem dX9_init_178 : decode cX9_init 178 = .ok (.goto (-15), 3) := by decide +kernel
theorem dX9_init_181 : decode cX9_init 181 = .ok (.return_, 1) := by decide +kernel
theorem dX9_in_0 : decode cX9_in 0 = .ok (.lload_n 0, 1) := by decide +kernel
theorem dX9_in_1 : decode cX9_in 1 = .ok (.lload_n 2, 1) := by decide +kernel
theorem dX9_in_2 : decode cX9_in 2 = .ok (.lcmp, 1) := by decide +kernel
theorem dX9_in_3 : decode cX9_in 3 = .ok (.ifCond .lt 14, 3) := by decide +kernel
theorem dX9_in_6 : decode cX9_in 6 = .ok (.lload_n 0, 1) := by decide +kernel
theorem dX9_in_7 : decode cX9_in 7 = .ok (.lload 4, 2) := by decide +kernel
theorem dX9_in_9 : decode cX9_in 9 = .ok (.lcmp, 1) := by decide +kernel
theorem dX9_in_10 : decode cX9_in 10 = .ok (.ifCond .gt 7, 3) := by decide +kernel
theorem dX9_in_13 : decode cX9_in 13 = .ok (.iconst 1, 1) := by decide +kernel
theorem dX9_in_14 : decode cX9_in 14 = .ok (.goto 4, 3) := by decide +kernel
theorem dX9_in_17 : decode cX9_in 17 = .ok (.iconst 0, 1) := by decide +kernel
theorem dX9_in_18 : decode cX9_in 18 = .ok (.ireturn, 1) := by decide +kernel
theorem dX9_lost_0 : decode cX9_lost 0 = .ok (.ldc2_w 70, 3) := by decide +kernel
theorem dX9_lost_3 : decode cX9_lost 3 = .ok (.lreturn, 1) := by decide +kernel
theorem dX9_bits_0 : decode cX9_bits 0 = .ok (.iconst 0, 1) := by decide +kernel
theorem dX9_bits_1 : decode cX9_bits 1 = .ok (.istore_n 1, 1) := by decide +kernel
theorem dX9_bits_2 : decode cX9_bits 2 = .ok (.iload_n 0, 1) := by decide +kernel
theorem dX9_bits_3 : decode cX9_bits 3 = .ok (.istore_n 2, 1) := by decide +kernel
theorem dX9_bits_4 : decode cX9_bits 4 = .ok (.iload_n 2, 1) := by decide +kernel
theorem dX9_bits_5 : decode cX9_bits 5 = .ok (.ifCond .le 16, 3) := by decide +kernel
theorem dX9_bits_8 : decode cX9_bits 8 = .ok (.iload_n 1, 1) := by decide +kernel
theorem dX9_bits_9 : decode cX9_bits 9 = .ok (.iload_n 2, 1) := by decide +kernel
theorem dX9_bits_10 : decode cX9_bits 10 = .ok (.iconst 1, 1) := by decide +kernel
theorem dX9_bits_11 : decode cX9_bits 11 = .ok (.iand, 1) := by decide +kernel
theorem dX9_bits_12 : decode cX9_bits 12 = .ok (.iadd, 1) := by decide +kernel
theorem dX9_bits_13 : decode cX9_bits 13 = .ok (.istore_n 1, 1) := by decide +kernel
theorem dX9_bits_14 : decode cX9_bits 14 = .ok (.iload_n 2, 1) := by decide +kernel
theorem dX9_bits_15 : decode cX9_bits 15 = .ok (.iconst 1, 1) := by decide +kernel
theorem dX9_bits_16 : decode cX9_bits 16 = .ok (.ishr, 1) := by decide +kernel
theorem dX9_bits_17 : decode cX9_bits 17 = .ok (.istore_n 2, 1) := by decide +kernel
theorem dX9_bits_18 : decode cX9_bits 18 = .ok (.goto (-14), 3) := by decide +kernel
theorem dX9_bits_21 : decode cX9_bits 21 = .ok (.iload_n 1, 1) := by decide +kernel
theorem dX9_bits_22 : decode cX9_bits 22 = .ok (.ireturn, 1) := by decide +kernel
theorem dX9_share_0 : decode cX9_share 0 = .ok (.lload_n 0, 1) := by decide +kernel
theorem dX9_share_1 : decode cX9_share 1 = .ok (.lstore 5, 2) := by decide +kernel
theorem dX9_share_3 : decode cX9_share 3 = .ok (.lload_n 2, 1) := by decide +kernel
theorem dX9_share_4 : decode cX9_share 4 = .ok (.lstore 7, 2) := by decide +kernel
theorem dX9_share_6 : decode cX9_share 6 = .ok (.lload 7, 2) := by decide +kernel
theorem dX9_share_8 : decode cX9_share 8 = .ok (.lconst 0, 1) := by decide +kernel
theorem dX9_share_9 : decode cX9_share 9 = .ok (.lcmp, 1) := by decide +kernel
theorem dX9_share_10 : decode cX9_share 10 = .ok (.ifCond .eq 21, 3) := by decide +kernel
theorem dX9_share_13 : decode cX9_share 13 = .ok (.lload 5, 2) := by decide +kernel
theorem dX9_share_15 : decode cX9_share 15 = .ok (.lload 7, 2) := by decide +kernel
theorem dX9_share_17 : decode cX9_share 17 = .ok (.lrem, 1) := by decide +kernel
theorem dX9_share_18 : decode cX9_share 18 = .ok (.lstore 9, 2) := by decide +kernel
theorem dX9_share_20 : decode cX9_share 20 = .ok (.lload 7, 2) := by decide +kernel
theorem dX9_share_22 : decode cX9_share 22 = .ok (.lstore 5, 2) := by decide +kernel
theorem dX9_share_24 : decode cX9_share 24 = .ok (.lload 9, 2) := by decide +kernel
theorem dX9_share_26 : decode cX9_share 26 = .ok (.lstore 7, 2) := by decide +kernel
theorem dX9_share_28 : decode cX9_share 28 = .ok (.goto (-22), 3) := by decide +kernel
theorem dX9_share_31 : decode cX9_share 31 = .ok (.iload 4, 2) := by decide +kernel
theorem dX9_share_33 : decode cX9_share 33 = .ok (.ifCond .ne 7, 3) := by decide +kernel
theorem dX9_share_36 : decode cX9_share 36 = .ok (.lload_n 0, 1) := by decide +kernel
theorem dX9_share_37 : decode cX9_share 37 = .ok (.goto 4, 3) := by decide +kernel
theorem dX9_share_40 : decode cX9_share 40 = .ok (.lload_n 2, 1) := by decide +kernel
theorem dX9_share_41 : decode cX9_share 41 = .ok (.lload 5, 2) := by decide +kernel
theorem dX9_share_43 : decode cX9_share 43 = .ok (.ldiv, 1) := by decide +kernel
theorem dX9_share_44 : decode cX9_share 44 = .ok (.lreturn, 1) := by decide +kernel
theorem dX9_refused_0 : decode cX9_refused 0 = .ok (.aload_n 0, 1) := by decide +kernel
theorem dX9_refused_1 : decode cX9_refused 1 = .ok (.iconst 0, 1) := by decide +kernel
theorem dX9_refused_2 : decode cX9_refused 2 = .ok (.putfield 72, 3) := by decide +kernel
theorem dX9_refused_5 : decode cX9_refused 5 = .ok (.iload_n 1, 1) := by decide +kernel
theorem dX9_refused_6 : decode cX9_refused 6 = .ok (.ireturn, 1) := by decide +kernel
theorem dX9_failed_0 : decode cX9_failed 0 = .ok (.aload_n 0, 1) := by decide +kernel
theorem dX9_failed_1 : decode cX9_failed 1 = .ok (.iload_n 1, 1) := by decide +kernel
theorem dX9_failed_2 : decode cX9_failed 2 = .ok (.putfield 72, 3) := by decide +kernel
theorem dX9_failed_5 : decode cX9_failed 5 = .ok (.bipush (-10), 2) := by decide +kernel
theorem dX9_failed_7 : decode cX9_failed 7 = .ok (.iload_n 1, 1) := by decide +kernel
theorem dX9_failed_8 : decode cX9_failed 8 = .ok (.isub, 1) := by decide +kernel
theorem dX9_failed_9 : decode cX9_failed 9 = .ok (.ireturn, 1) := by decide +kernel
theorem dX9_failedLong_0 : decode cX9_failedLong 0 = .ok (.aload_n 0, 1) := by decide +kernel
theorem dX9_failedLong_1 : decode cX9_failedLong 1 = .ok (.iload_n 1, 1) := by decide +kernel
theorem dX9_failedLong_2 : decode cX9_failedLong 2 = .ok (.putfield 72, 3) := by decide +kernel
theorem dX9_failedLong_5 : decode cX9_failedLong 5 = .ok (.invokestatic 76, 3) := by decide +kernel
theorem dX9_failedLong_8 : decode cX9_failedLong 8 = .ok (.lreturn, 1) := by decide +kernel
theorem dX9_noCaller_0 : decode cX9_noCaller 0 = .ok (.iload_n 1, 1) := by decide +kernel
theorem dX9_noCaller_1 : decode cX9_noCaller 1 = .ok (.i2l, 1) := by decide +kernel
theorem dX9_noCaller_2 : decode cX9_noCaller 2 = .ok (.lconst 0, 1) := by decide +kernel
theorem dX9_noCaller_3 : decode cX9_noCaller 3 = .ok (.aload_n 0, 1) := by decide +kernel
theorem dX9_noCaller_4 : decode cX9_noCaller 4 = .ok (.getfield 80, 3) := by decide +kernel
theorem dX9_noCaller_7 : decode cX9_noCaller 7 = .ok (.i2l, 1) := by decide +kernel
theorem dX9_noCaller_8 : decode cX9_noCaller 8 = .ok (.lconst 1, 1) := by decide +kernel
theorem dX9_noCaller_9 : decode cX9_noCaller 9 = .ok (.lsub, 1) := by decide +kernel
theorem dX9_noCaller_10 : decode cX9_noCaller 10 = .ok (.invokestatic 83, 3) := by decide +kernel
theorem dX9_noCaller_13 : decode cX9_noCaller 13 = .ok (.ifCond .ne 7, 3) := by decide +kernel
theorem dX9_noCaller_16 : decode cX9_noCaller 16 = .ok (.iconst 1, 1) := by decide +kernel
theorem dX9_noCaller_17 : decode cX9_noCaller 17 = .ok (.goto 4, 3) := by decide +kernel
theorem dX9_noCaller_20 : decode cX9_noCaller 20 = .ok (.iconst 0, 1) := by decide +kernel
theorem dX9_noCaller_21 : decode cX9_noCaller 21 = .ok (.ireturn, 1) := by decide +kernel
theorem dX9_noBeat_0 : decode cX9_noBeat 0 = .ok (.iload_n 1, 1) := by decide +kernel
theorem dX9_noBeat_1 : decode cX9_noBeat 1 = .ok (.i2l, 1) := by decide +kernel
theorem dX9_noBeat_2 : decode cX9_noBeat 2 = .ok (.lconst 0, 1) := by decide +kernel
theorem dX9_noBeat_3 : decode cX9_noBeat 3 = .ok (.aload_n 0, 1) := by decide +kernel
theorem dX9_noBeat_4 : decode cX9_noBeat 4 = .ok (.getfield 87, 3) := by decide +kernel
theorem dX9_noBeat_7 : decode cX9_noBeat 7 = .ok (.i2l, 1) := by decide +kernel
theorem dX9_noBeat_8 : decode cX9_noBeat 8 = .ok (.lconst 1, 1) := by decide +kernel
theorem dX9_noBeat_9 : decode cX9_noBeat 9 = .ok (.lsub, 1) := by decide +kernel
theorem dX9_noBeat_10 : decode cX9_noBeat 10 = .ok (.invokestatic 83, 3) := by decide +kernel
theorem dX9_noBeat_13 : decode cX9_noBeat 13 = .ok (.ifCond .ne 7, 3) := by decide +kernel
theorem dX9_noBeat_16 : decode cX9_noBeat 16 = .ok (.iconst 1, 1) := by decide +kernel
theorem dX9_noBeat_17 : decode cX9_noBeat 17 = .ok (.goto 4, 3) := by decide +kernel
theorem dX9_noBeat_20 : decode cX9_noBeat 20 = .ok (.iconst 0, 1) := by decide +kernel
theorem dX9_noBeat_21 : decode cX9_noBeat 21 = .ok (.ireturn, 1) := by decide +kernel
theorem dX9_codeAt_0 : decode cX9_codeAt 0 = .ok (.aload_n 0, 1) := by decide +kernel
theorem dX9_codeAt_1 : decode cX9_codeAt 1 = .ok (.getfield 90, 3) := by decide +kernel
theorem dX9_codeAt_4 : decode cX9_codeAt 4 = .ok (.iload_n 2, 1) := by decide +kernel
theorem dX9_codeAt_5 : decode cX9_codeAt 5 = .ok (.if_icmp .ge 17, 3) := by decide +kernel
theorem dX9_codeAt_8 : decode cX9_codeAt 8 = .ok (.aload_n 0, 1) := by decide +kernel
theorem dX9_codeAt_9 : decode cX9_codeAt 9 = .ok (.getfield 64, 3) := by decide +kernel
theorem dX9_codeAt_12 : decode cX9_codeAt 12 = .ok (.iload_n 1, 1) := by decide +kernel
theorem dX9_codeAt_13 : decode cX9_codeAt 13 = .ok (.aload_n 0, 1) := by decide +kernel
theorem dX9_codeAt_14 : decode cX9_codeAt 14 = .ok (.getfield 90, 3) := by decide +kernel
theorem dX9_codeAt_17 : decode cX9_codeAt 17 = .ok (.iadd, 1) := by decide +kernel
theorem dX9_codeAt_18 : decode cX9_codeAt 18 = .ok (.iaload, 1) := by decide +kernel
theorem dX9_codeAt_19 : decode cX9_codeAt 19 = .ok (.goto 5, 3) := by decide +kernel
theorem dX9_codeAt_22 : decode cX9_codeAt 22 = .ok (.bipush (-9), 2) := by decide +kernel
theorem dX9_codeAt_24 : decode cX9_codeAt 24 = .ok (.ireturn, 1) := by decide +kernel
theorem dX9_readsSign_0 : decode cX9_readsSign 0 = .ok (.aload_n 0, 1) := by decide +kernel
theorem dX9_readsSign_1 : decode cX9_readsSign 1 = .ok (.iload_n 1, 1) := by decide +kernel
theorem dX9_readsSign_2 : decode cX9_readsSign 2 = .ok (.iload_n 2, 1) := by decide +kernel
theorem dX9_readsSign_3 : decode cX9_readsSign 3 = .ok (.invokevirtual 93, 3) := by decide +kernel
theorem dX9_readsSign_6 : decode cX9_readsSign 6 = .ok (.istore 4, 2) := by decide +kernel
theorem dX9_readsSign_8 : decode cX9_readsSign 8 = .ok (.iload 4, 2) := by decide +kernel
theorem dX9_readsSign_10 : decode cX9_readsSign 10 = .ok (.bipush 45, 2) := by decide +kernel
theorem dX9_readsSign_12 : decode cX9_readsSign 12 = .ok (.if_icmp .eq 26, 3) := by decide +kernel
theorem dX9_readsSign_15 : decode cX9_readsSign 15 = .ok (.iload 4, 2) := by decide +kernel
theorem dX9_readsSign_17 : decode cX9_readsSign 17 = .ok (.i2l, 1) := by decide +kernel
theorem dX9_readsSign_18 : decode cX9_readsSign 18 = .ok (.ldc2_w 97, 3) := by decide +kernel
theorem dX9_readsSign_21 : decode cX9_readsSign 21 = .ok (.lsub, 1) := by decide +kernel
theorem dX9_readsSign_22 : decode cX9_readsSign 22 = .ok (.lconst 0, 1) := by decide +kernel
theorem dX9_readsSign_23 : decode cX9_readsSign 23 = .ok (.aload_n 0, 1) := by decide +kernel
theorem dX9_readsSign_24 : decode cX9_readsSign 24 = .ok (.getfield 99, 3) := by decide +kernel
theorem dX9_readsSign_27 : decode cX9_readsSign 27 = .ok (.i2l, 1) := by decide +kernel
theorem dX9_readsSign_28 : decode cX9_readsSign 28 = .ok (.lconst 1, 1) := by decide +kernel
theorem dX9_readsSign_29 : decode cX9_readsSign 29 = .ok (.lsub, 1) := by decide +kernel
theorem dX9_readsSign_30 : decode cX9_readsSign 30 = .ok (.invokestatic 83, 3) := by decide +kernel
theorem dX9_readsSign_33 : decode cX9_readsSign 33 = .ok (.ifCond .ne 5, 3) := by decide +kernel
theorem dX9_readsSign_36 : decode cX9_readsSign 36 = .ok (.iconst 0, 1) := by decide +kernel
theorem dX9_readsSign_37 : decode cX9_readsSign 37 = .ok (.ireturn, 1) := by decide +kernel
theorem dX9_readsSign_38 : decode cX9_readsSign 38 = .ok (.aload_n 0, 1) := by decide +kernel
theorem dX9_readsSign_39 : decode cX9_readsSign 39 = .ok (.getfield 19, 3) := by decide +kernel
theorem dX9_readsSign_42 : decode cX9_readsSign 42 = .ok (.bipush 6, 2) := by decide +kernel
theorem dX9_readsSign_44 : decode cX9_readsSign 44 = .ok (.aload_n 0, 1) := by decide +kernel
theorem dX9_readsSign_45 : decode cX9_readsSign 45 = .ok (.getfield 102, 3) := by decide +kernel
theorem dX9_readsSign_48 : decode cX9_readsSign 48 = .ok (.imul, 1) := by decide +kernel
theorem dX9_readsSign_49 : decode cX9_readsSign 49 = .ok (.iload_n 3, 1) := by decide +kernel
theorem dX9_readsSign_50 : decode cX9_readsSign 50 = .ok (.iadd, 1) := by decide +kernel
theorem dX9_readsSign_51 : decode cX9_readsSign 51 = .ok (.iload 4, 2) := by decide +kernel
theorem dX9_readsSign_53 : decode cX9_readsSign 53 = .ok (.bipush 45, 2) := by decide +kernel
theorem dX9_readsSign_55 : decode cX9_readsSign 55 = .ok (.if_icmp .ne 8, 3) := by decide +kernel
theorem dX9_readsSign_58 : decode cX9_readsSign 58 = .ok (.bipush (-9), 2) := by decide +kernel
theorem dX9_readsSign_60 : decode cX9_readsSign 60 = .ok (.goto 8, 3) := by decide +kernel
theorem dX9_readsSign_63 : decode cX9_readsSign 63 = .ok (.iload 4, 2) := by decide +kernel
theorem dX9_readsSign_65 : decode cX9_readsSign 65 = .ok (.bipush 48, 2) := by decide +kernel
theorem dX9_readsSign_67 : decode cX9_readsSign 67 = .ok (.isub, 1) := by decide +kernel
theorem dX9_readsSign_68 : decode cX9_readsSign 68 = .ok (.iastore, 1) := by decide +kernel
theorem dX9_readsSign_69 : decode cX9_readsSign 69 = .ok (.aload_n 0, 1) := by decide +kernel
theorem dX9_readsSign_70 : decode cX9_readsSign 70 = .ok (.dup, 1) := by decide +kernel
theorem dX9_readsSign_71 : decode cX9_readsSign 71 = .ok (.getfield 90, 3) := by decide +kernel
theorem dX9_readsSign_74 : decode cX9_readsSign 74 = .ok (.iconst 1, 1) := by decide +kernel
theorem dX9_readsSign_75 : decode cX9_readsSign 75 = .ok (.iadd, 1) := by decide +kernel
theorem dX9_readsSign_76 : decode cX9_readsSign 76 = .ok (.putfield 90, 3) := by decide +kernel
theorem dX9_readsSign_79 : decode cX9_readsSign 79 = .ok (.iconst 1, 1) := by decide +kernel
theorem dX9_readsSign_80 : decode cX9_readsSign 80 = .ok (.ireturn, 1) := by decide +kernel
theorem dX9_readsCaller_0 : decode cX9_readsCaller 0 = .ok (.aload_n 0, 1) := by decide +kernel
theorem dX9_readsCaller_1 : decode cX9_readsCaller 1 = .ok (.getfield 102, 3) := by decide +kernel
theorem dX9_readsCaller_4 : decode cX9_readsCaller 4 = .ok (.iconst 4, 1) := by decide +kernel
theorem dX9_readsCaller_5 : decode cX9_readsCaller 5 = .ok (.if_icmp .eq 14, 3) := by decide +kernel
theorem dX9_readsCaller_8 : decode cX9_readsCaller 8 = .ok (.aload_n 0, 1) := by decide +kernel
theorem dX9_readsCaller_9 : decode cX9_readsCaller 9 = .ok (.iload_n 1, 1) := by decide +kernel
theorem dX9_readsCaller_10 : decode cX9_readsCaller 10 = .ok (.iload_n 2, 1) := by decide +kernel
theorem dX9_readsCaller_11 : decode cX9_readsCaller 11 = .ok (.invokevirtual 93, 3) := by decide +kernel
theorem dX9_readsCaller_14 : decode cX9_readsCaller 14 = .ok (.bipush 59, 2) := by decide +kernel
theorem dX9_readsCaller_16 : decode cX9_readsCaller 16 = .ok (.if_icmp .eq 5, 3) := by decide +kernel
theorem dX9_readsCaller_19 : decode cX9_readsCaller 19 = .ok (.iconst 0, 1) := by decide +kernel
theorem dX9_readsCaller_20 : decode cX9_readsCaller 20 = .ok (.ireturn, 1) := by decide +kernel
theorem dX9_readsCaller_21 : decode cX9_readsCaller 21 = .ok (.aload_n 0, 1) := by decide +kernel
theorem dX9_readsCaller_22 : decode cX9_readsCaller 22 = .ok (.dup, 1) := by decide +kernel
theorem dX9_readsCaller_23 : decode cX9_readsCaller 23 = .ok (.getfield 90, 3) := by decide +kernel
theorem dX9_readsCaller_26 : decode cX9_readsCaller 26 = .ok (.iconst 1, 1) := by decide +kernel
theorem dX9_readsCaller_27 : decode cX9_readsCaller 27 = .ok (.iadd, 1) := by decide +kernel
theorem dX9_readsCaller_28 : decode cX9_readsCaller 28 = .ok (.putfield 90, 3) := by decide +kernel
theorem dX9_readsCaller_31 : decode cX9_readsCaller 31 = .ok (.aload_n 0, 1) := by decide +kernel
theorem dX9_readsCaller_32 : decode cX9_readsCaller 32 = .ok (.iload_n 1, 1) := by decide +kernel
theorem dX9_readsCaller_33 : decode cX9_readsCaller 33 = .ok (.iload_n 2, 1) := by decide +kernel
theorem dX9_readsCaller_34 : decode cX9_readsCaller 34 = .ok (.invokevirtual 93, 3) := by decide +kernel
theorem dX9_readsCaller_37 : decode cX9_readsCaller 37 = .ok (.istore_n 3, 1) := by decide +kernel
theorem dX9_readsCaller_38 : decode cX9_readsCaller 38 = .ok (.iload_n 3, 1) := by decide +kernel
theorem dX9_readsCaller_39 : decode cX9_readsCaller 39 = .ok (.bipush 112, 2) := by decide +kernel
theorem dX9_readsCaller_41 : decode cX9_readsCaller 41 = .ok (.if_icmp .eq 17, 3) := by decide +kernel
theorem dX9_readsCaller_44 : decode cX9_readsCaller 44 = .ok (.iload_n 3, 1) := by decide +kernel
theorem dX9_readsCaller_45 : decode cX9_readsCaller 45 = .ok (.bipush 98, 2) := by decide +kernel
theorem dX9_readsCaller_47 : decode cX9_readsCaller 47 = .ok (.if_icmp .eq 11, 3) := by decide +kernel
theorem dX9_readsCaller_50 : decode cX9_readsCaller 50 = .ok (.iload_n 3, 1) := by decide +kernel
theorem dX9_readsCaller_51 : decode cX9_readsCaller 51 = .ok (.bipush 107, 2) := by decide +kernel
theorem dX9_readsCaller_53 : decode cX9_readsCaller 53 = .ok (.if_icmp .eq 5, 3) := by decide +kernel
theorem dX9_readsCaller_56 : decode cX9_readsCaller 56 = .ok (.iconst 0, 1) := by decide +kernel
theorem dX9_readsCaller_57 : decode cX9_readsCaller 57 = .ok (.ireturn, 1) := by decide +kernel
theorem dX9_readsCaller_58 : decode cX9_readsCaller 58 = .ok (.aload_n 0, 1) := by decide +kernel
theorem dX9_readsCaller_59 : decode cX9_readsCaller 59 = .ok (.dup, 1) := by decide +kernel
theorem dX9_readsCaller_60 : decode cX9_readsCaller 60 = .ok (.getfield 90, 3) := by decide +kernel
theorem dX9_readsCaller_63 : decode cX9_readsCaller 63 = .ok (.iconst 1, 1) := by decide +kernel
theorem dX9_readsCaller_64 : decode cX9_readsCaller 64 = .ok (.iadd, 1) := by decide +kernel
theorem dX9_readsCaller_65 : decode cX9_readsCaller 65 = .ok (.putfield 90, 3) := by decide +kernel
theorem dX9_readsCaller_68 : decode cX9_readsCaller 68 = .ok (.iconst 1, 1) := by decide +kernel
theorem dX9_readsCaller_69 : decode cX9_readsCaller 69 = .ok (.istore 4, 2) := by decide +kernel
theorem dX9_readsCaller_71 : decode cX9_readsCaller 71 = .ok (.iconst 0, 1) := by decide +kernel
theorem dX9_readsCaller_72 : decode cX9_readsCaller 72 = .ok (.istore 5, 2) := by decide +kernel
theorem dX9_readsCaller_74 : decode cX9_readsCaller 74 = .ok (.iload 5, 2) := by decide +kernel
theorem dX9_readsCaller_76 : decode cX9_readsCaller 76 = .ok (.aload_n 0, 1) := by decide +kernel
theorem dX9_readsCaller_77 : decode cX9_readsCaller 77 = .ok (.getfield 99, 3) := by decide +kernel
theorem dX9_readsCaller_80 : decode cX9_readsCaller 80 = .ok (.if_icmp .ge 24, 3) := by decide +kernel
theorem dX9_readsCaller_83 : decode cX9_readsCaller 83 = .ok (.iload 4, 2) := by decide +kernel
theorem dX9_readsCaller_85 : decode cX9_readsCaller 85 = .ok (.ifCond .eq 19, 3) := by decide +kernel
theorem dX9_readsCaller_88 : decode cX9_readsCaller 88 = .ok (.aload_n 0, 1) := by decide +kernel
theorem dX9_readsCaller_89 : decode cX9_readsCaller 89 = .ok (.iload_n 1, 1) := by decide +kernel
theorem dX9_readsCaller_90 : decode cX9_readsCaller 90 = .ok (.iload_n 2, 1) := by decide +kernel
theorem dX9_readsCaller_91 : decode cX9_readsCaller 91 = .ok (.iload 5, 2) := by decide +kernel
theorem dX9_readsCaller_93 : decode cX9_readsCaller 93 = .ok (.invokevirtual 105, 3) := by decide +kernel
theorem dX9_readsCaller_96 : decode cX9_readsCaller 96 = .ok (.istore 4, 2) := by decide +kernel
theorem dX9_readsCaller_98 : decode cX9_readsCaller 98 = .ok (.iinc 5 1, 3) := by decide +kernel
theorem dX9_readsCaller_101 : decode cX9_readsCaller 101 = .ok (.goto (-27), 3) := by decide +kernel
theorem dX9_readsCaller_104 : decode cX9_readsCaller 104 = .ok (.aload_n 0, 1) := by decide +kernel
theorem dX9_readsCaller_105 : decode cX9_readsCaller 105 = .ok (.getfield 16, 3) := by decide +kernel
theorem dX9_readsCaller_108 : decode cX9_readsCaller 108 = .ok (.aload_n 0, 1) := by decide +kernel
theorem dX9_readsCaller_109 : decode cX9_readsCaller 109 = .ok (.getfield 102, 3) := by decide +kernel
theorem dX9_readsCaller_112 : decode cX9_readsCaller 112 = .ok (.iload_n 3, 1) := by decide +kernel
theorem dX9_readsCaller_113 : decode cX9_readsCaller 113 = .ok (.bipush 112, 2) := by decide +kernel
theorem dX9_readsCaller_115 : decode cX9_readsCaller 115 = .ok (.if_icmp .ne 7, 3) := by decide +kernel
theorem dX9_readsCaller_118 : decode cX9_readsCaller 118 = .ok (.iconst 0, 1) := by decide +kernel
theorem dX9_readsCaller_119 : decode cX9_readsCaller 119 = .ok (.goto 14, 3) := by decide +kernel
theorem dX9_readsCaller_122 : decode cX9_readsCaller 122 = .ok (.iload_n 3, 1) := by decide +kernel
theorem dX9_readsCaller_123 : decode cX9_readsCaller 123 = .ok (.bipush 98, 2) := by decide +kernel
theorem dX9_readsCaller_125 : decode cX9_readsCaller 125 = .ok (.if_icmp .ne 7, 3) := by decide +kernel
theorem dX9_readsCaller_128 : decode cX9_readsCaller 128 = .ok (.iconst 1, 1) := by decide +kernel
theorem dX9_readsCaller_129 : decode cX9_readsCaller 129 = .ok (.goto 4, 3) := by decide +kernel
theorem dX9_readsCaller_132 : decode cX9_readsCaller 132 = .ok (.iconst 2, 1) := by decide +kernel
theorem dX9_readsCaller_133 : decode cX9_readsCaller 133 = .ok (.iastore, 1) := by decide +kernel
theorem dX9_readsCaller_134 : decode cX9_readsCaller 134 = .ok (.aload_n 0, 1) := by decide +kernel
theorem dX9_readsCaller_135 : decode cX9_readsCaller 135 = .ok (.dup, 1) := by decide +kernel
theorem dX9_readsCaller_136 : decode cX9_readsCaller 136 = .ok (.getfield 102, 3) := by decide +kernel
theorem dX9_readsCaller_139 : decode cX9_readsCaller 139 = .ok (.iload 4, 2) := by decide +kernel
theorem dX9_readsCaller_141 : decode cX9_readsCaller 141 = .ok (.ifCond .eq 7, 3) := by decide +kernel
theorem dX9_readsCaller_144 : decode cX9_readsCaller 144 = .ok (.iconst 1, 1) := by decide +kernel
theorem dX9_readsCaller_145 : decode cX9_readsCaller 145 = .ok (.goto 4, 3) := by decide +kernel
theorem dX9_readsCaller_148 : decode cX9_readsCaller 148 = .ok (.iconst 0, 1) := by decide +kernel
theorem dX9_readsCaller_149 : decode cX9_readsCaller 149 = .ok (.iadd, 1) := by decide +kernel
theorem dX9_readsCaller_150 : decode cX9_readsCaller 150 = .ok (.putfield 102, 3) := by decide +kernel
theorem dX9_readsCaller_153 : decode cX9_readsCaller 153 = .ok (.iload 4, 2) := by decide +kernel
theorem dX9_readsCaller_155 : decode cX9_readsCaller 155 = .ok (.ireturn, 1) := by decide +kernel
theorem dX9_readsCallers_0 : decode cX9_readsCallers 0 = .ok (.aload_n 0, 1) := by decide +kernel
theorem dX9_readsCallers_1 : decode cX9_readsCallers 1 = .ok (.iconst 0, 1) := by decide +kernel
theorem dX9_readsCallers_2 : decode cX9_readsCallers 2 = .ok (.putfield 90, 3) := by decide +kernel
theorem dX9_readsCallers_5 : decode cX9_readsCallers 5 = .ok (.aload_n 0, 1) := by decide +kernel
theorem dX9_readsCallers_6 : decode cX9_readsCallers 6 = .ok (.iconst 0, 1) := by decide +kernel
theorem dX9_readsCallers_7 : decode cX9_readsCallers 7 = .ok (.putfield 102, 3) := by decide +kernel
theorem dX9_readsCallers_10 : decode cX9_readsCallers 10 = .ok (.aload_n 0, 1) := by decide +kernel
theorem dX9_readsCallers_11 : decode cX9_readsCallers 11 = .ok (.iload_n 1, 1) := by decide +kernel
theorem dX9_readsCallers_12 : decode cX9_readsCallers 12 = .ok (.iload_n 2, 1) := by decide +kernel
theorem dX9_readsCallers_13 : decode cX9_readsCallers 13 = .ok (.invokevirtual 93, 3) := by decide +kernel
theorem dX9_readsCallers_16 : decode cX9_readsCallers 16 = .ok (.bipush 99, 2) := by decide +kernel
theorem dX9_readsCallers_18 : decode cX9_readsCallers 18 = .ok (.if_icmp .eq 5, 3) := by decide +kernel
theorem dX9_readsCallers_21 : decode cX9_readsCallers 21 = .ok (.iconst 0, 1) := by decide +kernel
theorem dX9_readsCallers_22 : decode cX9_readsCallers 22 = .ok (.ireturn, 1) := by decide +kernel
theorem dX9_readsCallers_23 : decode cX9_readsCallers 23 = .ok (.aload_n 0, 1) := by decide +kernel
theorem dX9_readsCallers_24 : decode cX9_readsCallers 24 = .ok (.dup, 1) := by decide +kernel
theorem dX9_readsCallers_25 : decode cX9_readsCallers 25 = .ok (.getfield 90, 3) := by decide +kernel
theorem dX9_readsCallers_28 : decode cX9_readsCallers 28 = .ok (.iconst 1, 1) := by decide +kernel
theorem dX9_readsCallers_29 : decode cX9_readsCallers 29 = .ok (.iadd, 1) := by decide +kernel
theorem dX9_readsCallers_30 : decode cX9_readsCallers 30 = .ok (.putfield 90, 3) := by decide +kernel
theorem dX9_readsCallers_33 : decode cX9_readsCallers 33 = .ok (.aload_n 0, 1) := by decide +kernel
theorem dX9_readsCallers_34 : decode cX9_readsCallers 34 = .ok (.aload_n 0, 1) := by decide +kernel
theorem dX9_readsCallers_35 : decode cX9_readsCallers 35 = .ok (.iload_n 1, 1) := by decide +kernel
theorem dX9_readsCallers_36 : decode cX9_readsCallers 36 = .ok (.iload_n 2, 1) := by decide +kernel
theorem dX9_readsCallers_37 : decode cX9_readsCallers 37 = .ok (.invokevirtual 93, 3) := by decide +kernel
theorem dX9_readsCallers_40 : decode cX9_readsCallers 40 = .ok (.bipush 48, 2) := by decide +kernel
theorem dX9_readsCallers_42 : decode cX9_readsCallers 42 = .ok (.isub, 1) := by decide +kernel
theorem dX9_readsCallers_43 : decode cX9_readsCallers 43 = .ok (.putfield 99, 3) := by decide +kernel
theorem dX9_readsCallers_46 : decode cX9_readsCallers 46 = .ok (.aload_n 0, 1) := by decide +kernel
theorem dX9_readsCallers_47 : decode cX9_readsCallers 47 = .ok (.getfield 99, 3) := by decide +kernel
theorem dX9_readsCallers_50 : decode cX9_readsCallers 50 = .ok (.i2l, 1) := by decide +kernel
theorem dX9_readsCallers_51 : decode cX9_readsCallers 51 = .ok (.ldc2_w 109, 3) := by decide +kernel
theorem dX9_readsCallers_54 : decode cX9_readsCallers 54 = .ok (.ldc2_w 111, 3) := by decide +kernel
theorem dX9_readsCallers_57 : decode cX9_readsCallers 57 = .ok (.invokestatic 83, 3) := by decide +kernel
theorem dX9_readsCallers_60 : decode cX9_readsCallers 60 = .ok (.ifCond .ne 5, 3) := by decide +kernel
theorem dX9_readsCallers_63 : decode cX9_readsCallers 63 = .ok (.iconst 0, 1) := by decide +kernel
theorem dX9_readsCallers_64 : decode cX9_readsCallers 64 = .ok (.ireturn, 1) := by decide +kernel
theorem dX9_readsCallers_65 : decode cX9_readsCallers 65 = .ok (.aload_n 0, 1) := by decide +kernel
theorem dX9_readsCallers_66 : decode cX9_readsCallers 66 = .ok (.dup, 1) := by decide +kernel
theorem dX9_readsCallers_67 : decode cX9_readsCallers 67 = .ok (.getfield 90, 3) := by decide +kernel
theorem dX9_readsCallers_70 : decode cX9_readsCallers 70 = .ok (.iconst 1, 1) := by decide +kernel
theorem dX9_readsCallers_71 : decode cX9_readsCallers 71 = .ok (.iadd, 1) := by decide +kernel
theorem dX9_readsCallers_72 : decode cX9_readsCallers 72 = .ok (.putfield 90, 3) := by decide +kernel
theorem dX9_readsCallers_75 : decode cX9_readsCallers 75 = .ok (.iconst 1, 1) := by decide +kernel
theorem dX9_readsCallers_76 : decode cX9_readsCallers 76 = .ok (.istore_n 3, 1) := by decide +kernel
theorem dX9_readsCallers_77 : decode cX9_readsCallers 77 = .ok (.iload_n 3, 1) := by decide +kernel
theorem dX9_readsCallers_78 : decode cX9_readsCallers 78 = .ok (.ifCond .eq 29, 3) := by decide +kernel
theorem dX9_readsCallers_81 : decode cX9_readsCallers 81 = .ok (.aload_n 0, 1) := by decide +kernel
theorem dX9_readsCallers_82 : decode cX9_readsCallers 82 = .ok (.getfield 102, 3) := by decide +kernel
theorem dX9_readsCallers_85 : decode cX9_readsCallers 85 = .ok (.iconst 1, 1) := by decide +kernel
theorem dX9_readsCallers_86 : decode cX9_readsCallers 86 = .ok (.if_icmp .lt 11, 3) := by decide +kernel
theorem dX9_readsCallers_89 : decode cX9_readsCallers 89 = .ok (.aload_n 0, 1) := by decide +kernel
theorem dX9_readsCallers_90 : decode cX9_readsCallers 90 = .ok (.getfield 90, 3) := by decide +kernel
theorem dX9_readsCallers_93 : decode cX9_readsCallers 93 = .ok (.iload_n 2, 1) := by decide +kernel
theorem dX9_readsCallers_94 : decode cX9_readsCallers 94 = .ok (.if_icmp .ge 13, 3) := by decide +kernel
theorem dX9_readsCallers_97 : decode cX9_readsCallers 97 = .ok (.aload_n 0, 1) := by decide +kernel
theorem dX9_readsCallers_98 : decode cX9_readsCallers 98 = .ok (.iload_n 1, 1) := by decide +kernel
theorem dX9_readsCallers_99 : decode cX9_readsCallers 99 = .ok (.iload_n 2, 1) := by decide +kernel
theorem dX9_readsCallers_100 : decode cX9_readsCallers 100 = .ok (.invokevirtual 113, 3) := by decide +kernel
theorem dX9_readsCallers_103 : decode cX9_readsCallers 103 = .ok (.istore_n 3, 1) := by decide +kernel
theorem dX9_readsCallers_104 : decode cX9_readsCallers 104 = .ok (.goto (-27), 3) := by decide +kernel
theorem dX9_readsCallers_107 : decode cX9_readsCallers 107 = .ok (.iload_n 3, 1) := by decide +kernel
theorem dX9_readsCallers_108 : decode cX9_readsCallers 108 = .ok (.ireturn, 1) := by decide +kernel
theorem dX9_cellsBarred_0 : decode cX9_cellsBarred 0 = .ok (.aload_n 0, 1) := by decide +kernel
theorem dX9_cellsBarred_1 : decode cX9_cellsBarred 1 = .ok (.getfield 58, 3) := by decide +kernel
theorem dX9_cellsBarred_4 : decode cX9_cellsBarred 4 = .ok (.iload_n 1, 1) := by decide +kernel
theorem dX9_cellsBarred_5 : decode cX9_cellsBarred 5 = .ok (.iaload, 1) := by decide +kernel
theorem dX9_cellsBarred_6 : decode cX9_cellsBarred 6 = .ok (.ifCond .lt 19, 3) := by decide +kernel
theorem dX9_cellsBarred_9 : decode cX9_cellsBarred 9 = .ok (.aload_n 0, 1) := by decide +kernel
theorem dX9_cellsBarred_10 : decode cX9_cellsBarred 10 = .ok (.getfield 61, 3) := by decide +kernel
theorem dX9_cellsBarred_13 : decode cX9_cellsBarred 13 = .ok (.iload_n 1, 1) := by decide +kernel
theorem dX9_cellsBarred_14 : decode cX9_cellsBarred 14 = .ok (.iaload, 1) := by decide +kernel
theorem dX9_cellsBarred_15 : decode cX9_cellsBarred 15 = .ok (.iload_n 2, 1) := by decide +kernel
theorem dX9_cellsBarred_16 : decode cX9_cellsBarred 16 = .ok (.if_icmp .eq 9, 3) := by decide +kernel
theorem dX9_cellsBarred_19 : decode cX9_cellsBarred 19 = .ok (.aload_n 0, 1) := by decide +kernel
theorem dX9_cellsBarred_20 : decode cX9_cellsBarred 20 = .ok (.iconst 2, 1) := by decide +kernel
theorem dX9_cellsBarred_21 : decode cX9_cellsBarred 21 = .ok (.invokevirtual 117, 3) := by decide +kernel
theorem dX9_cellsBarred_24 : decode cX9_cellsBarred 24 = .ok (.ireturn, 1) := by decide +kernel
theorem dX9_cellsBarred_25 : decode cX9_cellsBarred 25 = .ok (.aload_n 0, 1) := by decide +kernel
theorem dX9_cellsBarred_26 : decode cX9_cellsBarred 26 = .ok (.getfield 58, 3) := by decide +kernel
theorem dX9_cellsBarred_29 : decode cX9_cellsBarred 29 = .ok (.iload_n 1, 1) := by decide +kernel
theorem dX9_cellsBarred_30 : decode cX9_cellsBarred 30 = .ok (.iaload, 1) := by decide +kernel
theorem dX9_cellsBarred_31 : decode cX9_cellsBarred 31 = .ok (.ifCond .ge 9, 3) := by decide +kernel
theorem dX9_cellsBarred_34 : decode cX9_cellsBarred 34 = .ok (.aload_n 0, 1) := by decide +kernel
theorem dX9_cellsBarred_35 : decode cX9_cellsBarred 35 = .ok (.iconst 1, 1) := by decide +kernel
theorem dX9_cellsBarred_36 : decode cX9_cellsBarred 36 = .ok (.invokevirtual 117, 3) := by decide +kernel
theorem dX9_cellsBarred_39 : decode cX9_cellsBarred 39 = .ok (.ireturn, 1) := by decide +kernel
theorem dX9_cellsBarred_40 : decode cX9_cellsBarred 40 = .ok (.lload 4, 2) := by decide +kernel
theorem dX9_cellsBarred_42 : decode cX9_cellsBarred 42 = .ok (.lconst 0, 1) := by decide +kernel
theorem dX9_cellsBarred_43 : decode cX9_cellsBarred 43 = .ok (.lcmp, 1) := by decide +kernel
theorem dX9_cellsBarred_44 : decode cX9_cellsBarred 44 = .ok (.ifCond .ge 9, 3) := by decide +kernel
theorem dX9_cellsBarred_47 : decode cX9_cellsBarred 47 = .ok (.aload_n 0, 1) := by decide +kernel
theorem dX9_cellsBarred_48 : decode cX9_cellsBarred 48 = .ok (.iconst 4, 1) := by decide +kernel
theorem dX9_cellsBarred_49 : decode cX9_cellsBarred 49 = .ok (.invokevirtual 117, 3) := by decide +kernel
theorem dX9_cellsBarred_52 : decode cX9_cellsBarred 52 = .ok (.ireturn, 1) := by decide +kernel
theorem dX9_cellsBarred_53 : decode cX9_cellsBarred 53 = .ok (.iload_n 3, 1) := by decide +kernel
theorem dX9_cellsBarred_54 : decode cX9_cellsBarred 54 = .ok (.lload 4, 2) := by decide +kernel
theorem dX9_cellsBarred_56 : decode cX9_cellsBarred 56 = .ok (.aload_n 0, 1) := by decide +kernel
theorem dX9_cellsBarred_57 : decode cX9_cellsBarred 57 = .ok (.getfield 58, 3) := by decide +kernel
theorem dX9_cellsBarred_60 : decode cX9_cellsBarred 60 = .ok (.iload_n 1, 1) := by decide +kernel
theorem dX9_cellsBarred_61 : decode cX9_cellsBarred 61 = .ok (.iaload, 1) := by decide +kernel
theorem dX9_cellsBarred_62 : decode cX9_cellsBarred 62 = .ok (.invokestatic 121, 3) := by decide +kernel
theorem dX9_cellsBarred_65 : decode cX9_cellsBarred 65 = .ok (.ifCond .eq 11, 3) := by decide +kernel
theorem dX9_cellsBarred_68 : decode cX9_cellsBarred 68 = .ok (.aload_n 0, 1) := by decide +kernel
theorem dX9_cellsBarred_69 : decode cX9_cellsBarred 69 = .ok (.iconst 3, 1) := by decide +kernel
theorem dX9_cellsBarred_70 : decode cX9_cellsBarred 70 = .ok (.invokevirtual 117, 3) := by decide +kernel
theorem dX9_cellsBarred_73 : decode cX9_cellsBarred 73 = .ok (.goto 4, 3) := by decide +kernel
theorem dX9_cellsBarred_76 : decode cX9_cellsBarred 76 = .ok (.iconst 0, 1) := by decide +kernel
theorem dX9_cellsBarred_77 : decode cX9_cellsBarred 77 = .ok (.ireturn, 1) := by decide +kernel
theorem dX9_callers_0 : decode cX9_callers 0 = .ok (.iload_n 1, 1) := by decide +kernel
theorem dX9_callers_1 : decode cX9_callers 1 = .ok (.invokestatic 125, 3) := by decide +kernel
theorem dX9_callers_4 : decode cX9_callers 4 = .ok (.ifCond .eq 9, 3) := by decide +kernel
theorem dX9_callers_7 : decode cX9_callers 7 = .ok (.aload_n 0, 1) := by decide +kernel
theorem dX9_callers_8 : decode cX9_callers 8 = .ok (.iconst (-1), 1) := by decide +kernel
theorem dX9_callers_9 : decode cX9_callers 9 = .ok (.invokevirtual 129, 3) := by decide +kernel
theorem dX9_callers_12 : decode cX9_callers 12 = .ok (.ireturn, 1) := by decide +kernel
theorem dX9_callers_13 : decode cX9_callers 13 = .ok (.iload_n 2, 1) := by decide +kernel
theorem dX9_callers_14 : decode cX9_callers 14 = .ok (.i2l, 1) := by decide +kernel
theorem dX9_callers_15 : decode cX9_callers 15 = .ok (.lconst 0, 1) := by decide +kernel
theorem dX9_callers_16 : decode cX9_callers 16 = .ok (.ldc2_w 109, 3) := by decide +kernel
theorem dX9_callers_19 : decode cX9_callers 19 = .ok (.invokestatic 83, 3) := by decide +kernel
theorem dX9_callers_22 : decode cX9_callers 22 = .ok (.ifCond .ne 10, 3) := by decide +kernel
theorem dX9_callers_25 : decode cX9_callers 25 = .ok (.aload_n 0, 1) := by decide +kernel
theorem dX9_callers_26 : decode cX9_callers 26 = .ok (.bipush (-2), 2) := by decide +kernel
theorem dX9_callers_28 : decode cX9_callers 28 = .ok (.invokevirtual 129, 3) := by decide +kernel
theorem dX9_callers_31 : decode cX9_callers 31 = .ok (.ireturn, 1) := by decide +kernel
theorem dX9_callers_32 : decode cX9_callers 32 = .ok (.aload_n 0, 1) := by decide +kernel
theorem dX9_callers_33 : decode cX9_callers 33 = .ok (.iload_n 1, 1) := by decide +kernel
theorem dX9_callers_34 : decode cX9_callers 34 = .ok (.iload_n 2, 1) := by decide +kernel
theorem dX9_callers_35 : decode cX9_callers 35 = .ok (.iload_n 3, 1) := by decide +kernel
theorem dX9_callers_36 : decode cX9_callers 36 = .ok (.iload 4, 2) := by decide +kernel
theorem dX9_callers_38 : decode cX9_callers 38 = .ok (.i2l, 1) := by decide +kernel
theorem dX9_callers_39 : decode cX9_callers 39 = .ok (.invokevirtual 132, 3) := by decide +kernel
theorem dX9_callers_42 : decode cX9_callers 42 = .ok (.istore 5, 2) := by decide +kernel
theorem dX9_callers_44 : decode cX9_callers 44 = .ok (.iload 5, 2) := by decide +kernel
theorem dX9_callers_46 : decode cX9_callers 46 = .ok (.ifCond .ge 6, 3) := by decide +kernel
theorem dX9_callers_49 : decode cX9_callers 49 = .ok (.iload 5, 2) := by decide +kernel
theorem dX9_callers_51 : decode cX9_callers 51 = .ok (.ireturn, 1) := by decide +kernel
theorem dX9_callers_52 : decode cX9_callers 52 = .ok (.aload_n 0, 1) := by decide +kernel
theorem dX9_callers_53 : decode cX9_callers 53 = .ok (.bipush 60, 2) := by decide +kernel
theorem dX9_callers_55 : decode cX9_callers 55 = .ok (.iload_n 1, 1) := by decide +kernel
theorem dX9_callers_56 : decode cX9_callers 56 = .ok (.imul, 1) := by decide +kernel
theorem dX9_callers_57 : decode cX9_callers 57 = .ok (.iload_n 3, 1) := by decide +kernel
theorem dX9_callers_58 : decode cX9_callers 58 = .ok (.iadd, 1) := by decide +kernel
theorem dX9_callers_59 : decode cX9_callers 59 = .ok (.iload 4, 2) := by decide +kernel
theorem dX9_callers_61 : decode cX9_callers 61 = .ok (.invokevirtual 136, 3) := by decide +kernel
theorem dX9_callers_64 : decode cX9_callers 64 = .ok (.ifCond .ne 15, 3) := by decide +kernel
theorem dX9_callers_67 : decode cX9_callers 67 = .ok (.aload_n 0, 1) := by decide +kernel
theorem dX9_callers_68 : decode cX9_callers 68 = .ok (.bipush (-100), 2) := by decide +kernel
theorem dX9_callers_70 : decode cX9_callers 70 = .ok (.aload_n 0, 1) := by decide +kernel
theorem dX9_callers_71 : decode cX9_callers 71 = .ok (.getfield 90, 3) := by decide +kernel
theorem dX9_callers_74 : decode cX9_callers 74 = .ok (.isub, 1) := by decide +kernel
theorem dX9_callers_75 : decode cX9_callers 75 = .ok (.invokevirtual 129, 3) := by decide +kernel
theorem dX9_callers_78 : decode cX9_callers 78 = .ok (.ireturn, 1) := by decide +kernel
theorem dX9_callers_79 : decode cX9_callers 79 = .ok (.aload_n 0, 1) := by decide +kernel
theorem dX9_callers_80 : decode cX9_callers 80 = .ok (.aload_n 0, 1) := by decide +kernel
theorem dX9_callers_81 : decode cX9_callers 81 = .ok (.getfield 102, 3) := by decide +kernel
theorem dX9_callers_84 : decode cX9_callers 84 = .ok (.putfield 80, 3) := by decide +kernel
theorem dX9_callers_87 : decode cX9_callers 87 = .ok (.aload_n 0, 1) := by decide +kernel
theorem dX9_callers_88 : decode cX9_callers 88 = .ok (.aload_n 0, 1) := by decide +kernel
theorem dX9_callers_89 : decode cX9_callers 89 = .ok (.getfield 99, 3) := by decide +kernel
theorem dX9_callers_92 : decode cX9_callers 92 = .ok (.putfield 87, 3) := by decide +kernel
theorem dX9_callers_95 : decode cX9_callers 95 = .ok (.iconst 0, 1) := by decide +kernel
theorem dX9_callers_96 : decode cX9_callers 96 = .ok (.istore 6, 2) := by decide +kernel
theorem dX9_callers_98 : decode cX9_callers 98 = .ok (.iload 6, 2) := by decide +kernel
theorem dX9_callers_100 : decode cX9_callers 100 = .ok (.aload_n 0, 1) := by decide +kernel
theorem dX9_callers_101 : decode cX9_callers 101 = .ok (.getfield 80, 3) := by decide +kernel
theorem dX9_callers_104 : decode cX9_callers 104 = .ok (.if_icmp .ge 67, 3) := by decide +kernel
theorem dX9_callers_107 : decode cX9_callers 107 = .ok (.aload_n 0, 1) := by decide +kernel
theorem dX9_callers_108 : decode cX9_callers 108 = .ok (.getfield 7, 3) := by decide +kernel
theorem dX9_callers_111 : decode cX9_callers 111 = .ok (.iload 6, 2) := by decide +kernel
theorem dX9_callers_113 : decode cX9_callers 113 = .ok (.aload_n 0, 1) := by decide +kernel
theorem dX9_callers_114 : decode cX9_callers 114 = .ok (.getfield 16, 3) := by decide +kernel
theorem dX9_callers_117 : decode cX9_callers 117 = .ok (.iload 6, 2) := by decide +kernel
theorem dX9_callers_119 : decode cX9_callers 119 = .ok (.iaload, 1) := by decide +kernel
theorem dX9_callers_120 : decode cX9_callers 120 = .ok (.iastore, 1) := by decide +kernel
theorem dX9_callers_121 : decode cX9_callers 121 = .ok (.iconst 0, 1) := by decide +kernel
theorem dX9_callers_122 : decode cX9_callers 122 = .ok (.istore 7, 2) := by decide +kernel
theorem dX9_callers_124 : decode cX9_callers 124 = .ok (.iload 7, 2) := by decide +kernel
theorem dX9_callers_126 : decode cX9_callers 126 = .ok (.aload_n 0, 1) := by decide +kernel
theorem dX9_callers_127 : decode cX9_callers 127 = .ok (.getfield 87, 3) := by decide +kernel
theorem dX9_callers_130 : decode cX9_callers 130 = .ok (.if_icmp .ge 35, 3) := by decide +kernel
theorem dX9_callers_133 : decode cX9_callers 133 = .ok (.aload_n 0, 1) := by decide +kernel
theorem dX9_callers_134 : decode cX9_callers 134 = .ok (.getfield 13, 3) := by decide +kernel
theorem dX9_callers_137 : decode cX9_callers 137 = .ok (.bipush 6, 2) := by decide +kernel
theorem dX9_callers_139 : decode cX9_callers 139 = .ok (.iload 6, 2) := by decide +kernel
theorem dX9_callers_141 : decode cX9_callers 141 = .ok (.imul, 1) := by decide +kernel
theorem dX9_callers_142 : decode cX9_callers 142 = .ok (.iload 7, 2) := by decide +kernel
theorem dX9_callers_144 : decode cX9_callers 144 = .ok (.iadd, 1) := by decide +kernel
theorem dX9_callers_145 : decode cX9_callers 145 = .ok (.aload_n 0, 1) := by decide +kernel
theorem dX9_callers_146 : decode cX9_callers 146 = .ok (.getfield 19, 3) := by decide +kernel
theorem dX9_callers_149 : decode cX9_callers 149 = .ok (.bipush 6, 2) := by decide +kernel
theorem dX9_callers_151 : decode cX9_callers 151 = .ok (.iload 6, 2) := by decide +kernel
theorem dX9_callers_153 : decode cX9_callers 153 = .ok (.imul, 1) := by decide +kernel
theorem dX9_callers_154 : decode cX9_callers 154 = .ok (.iload 7, 2) := by decide +kernel
theorem dX9_callers_156 : decode cX9_callers 156 = .ok (.iadd, 1) := by decide +kernel
theorem dX9_callers_157 : decode cX9_callers 157 = .ok (.iaload, 1) := by decide +kernel
theorem dX9_callers_158 : decode cX9_callers 158 = .ok (.iastore, 1) := by decide +kernel
theorem dX9_callers_159 : decode cX9_callers 159 = .ok (.iinc 7 1, 3) := by decide +kernel
theorem dX9_callers_162 : decode cX9_callers 162 = .ok (.goto (-38), 3) := by decide +kernel
theorem dX9_callers_165 : decode cX9_callers 165 = .ok (.iinc 6 1, 3) := by decide +kernel
theorem dX9_callers_168 : decode cX9_callers 168 = .ok (.goto (-70), 3) := by decide +kernel
theorem dX9_callers_171 : decode cX9_callers 171 = .ok (.aload_n 0, 1) := by decide +kernel
theorem dX9_callers_172 : decode cX9_callers 172 = .ok (.iconst 0, 1) := by decide +kernel
theorem dX9_callers_173 : decode cX9_callers 173 = .ok (.putfield 139, 3) := by decide +kernel
theorem dX9_callers_176 : decode cX9_callers 176 = .ok (.aload_n 0, 1) := by decide +kernel
theorem dX9_callers_177 : decode cX9_callers 177 = .ok (.iconst 0, 1) := by decide +kernel
theorem dX9_callers_178 : decode cX9_callers 178 = .ok (.putfield 142, 3) := by decide +kernel
theorem dX9_callers_181 : decode cX9_callers 181 = .ok (.aload_n 0, 1) := by decide +kernel
theorem dX9_callers_182 : decode cX9_callers 182 = .ok (.aload_n 0, 1) := by decide +kernel
theorem dX9_callers_183 : decode cX9_callers 183 = .ok (.getfield 80, 3) := by decide +kernel
theorem dX9_callers_186 : decode cX9_callers 186 = .ok (.invokevirtual 129, 3) := by decide +kernel
theorem dX9_callers_189 : decode cX9_callers 189 = .ok (.ireturn, 1) := by decide +kernel
theorem dX9_pitch_0 : decode cX9_pitch 0 = .ok (.aload_n 0, 1) := by decide +kernel
theorem dX9_pitch_1 : decode cX9_pitch 1 = .ok (.getfield 13, 3) := by decide +kernel
theorem dX9_pitch_4 : decode cX9_pitch 4 = .ok (.bipush 6, 2) := by decide +kernel
theorem dX9_pitch_6 : decode cX9_pitch 6 = .ok (.iload_n 1, 1) := by decide +kernel
theorem dX9_pitch_7 : decode cX9_pitch 7 = .ok (.imul, 1) := by decide +kernel
theorem dX9_pitch_8 : decode cX9_pitch 8 = .ok (.iload_n 2, 1) := by decide +kernel
theorem dX9_pitch_9 : decode cX9_pitch 9 = .ok (.iadd, 1) := by decide +kernel
theorem dX9_pitch_10 : decode cX9_pitch 10 = .ok (.iaload, 1) := by decide +kernel
theorem dX9_pitch_11 : decode cX9_pitch 11 = .ok (.ireturn, 1) := by decide +kernel
theorem dX9_freeOf_0 : decode cX9_freeOf 0 = .ok (.iconst 0, 1) := by decide +kernel
theorem dX9_freeOf_1 : decode cX9_freeOf 1 = .ok (.istore_n 2, 1) := by decide +kernel
theorem dX9_freeOf_2 : decode cX9_freeOf 2 = .ok (.iconst 0, 1) := by decide +kernel
theorem dX9_freeOf_3 : decode cX9_freeOf 3 = .ok (.istore_n 3, 1) := by decide +kernel
theorem dX9_freeOf_4 : decode cX9_freeOf 4 = .ok (.iload_n 3, 1) := by decide +kernel
theorem dX9_freeOf_5 : decode cX9_freeOf 5 = .ok (.aload_n 0, 1) := by decide +kernel
theorem dX9_freeOf_6 : decode cX9_freeOf 6 = .ok (.getfield 87, 3) := by decide +kernel
theorem dX9_freeOf_9 : decode cX9_freeOf 9 = .ok (.if_icmp .ge 26, 3) := by decide +kernel
theorem dX9_freeOf_12 : decode cX9_freeOf 12 = .ok (.iload_n 2, 1) := by decide +kernel
theorem dX9_freeOf_13 : decode cX9_freeOf 13 = .ok (.aload_n 0, 1) := by decide +kernel
theorem dX9_freeOf_14 : decode cX9_freeOf 14 = .ok (.iload_n 1, 1) := by decide +kernel
theorem dX9_freeOf_15 : decode cX9_freeOf 15 = .ok (.iload_n 3, 1) := by decide +kernel
theorem dX9_freeOf_16 : decode cX9_freeOf 16 = .ok (.invokevirtual 145, 3) := by decide +kernel
theorem dX9_freeOf_19 : decode cX9_freeOf 19 = .ok (.ifCond .ge 7, 3) := by decide +kernel
theorem dX9_freeOf_22 : decode cX9_freeOf 22 = .ok (.iconst 1, 1) := by decide +kernel
theorem dX9_freeOf_23 : decode cX9_freeOf 23 = .ok (.goto 4, 3) := by decide +kernel
theorem dX9_freeOf_26 : decode cX9_freeOf 26 = .ok (.iconst 0, 1) := by decide +kernel
theorem dX9_freeOf_27 : decode cX9_freeOf 27 = .ok (.iadd, 1) := by decide +kernel
theorem dX9_freeOf_28 : decode cX9_freeOf 28 = .ok (.istore_n 2, 1) := by decide +kernel
theorem dX9_freeOf_29 : decode cX9_freeOf 29 = .ok (.iinc 3 1, 3) := by decide +kernel
theorem dX9_freeOf_32 : decode cX9_freeOf 32 = .ok (.goto (-28), 3) := by decide +kernel
theorem dX9_freeOf_35 : decode cX9_freeOf 35 = .ok (.iload_n 2, 1) := by decide +kernel
theorem dX9_freeOf_36 : decode cX9_freeOf 36 = .ok (.ireturn, 1) := by decide +kernel
theorem dX9_areUnlike_0 : decode cX9_areUnlike 0 = .ok (.iconst 0, 1) := by decide +kernel
theorem dX9_areUnlike_1 : decode cX9_areUnlike 1 = .ok (.istore_n 1, 1) := by decide +kernel
theorem dX9_areUnlike_2 : decode cX9_areUnlike 2 = .ok (.iconst 0, 1) := by decide +kernel
theorem dX9_areUnlike_3 : decode cX9_areUnlike 3 = .ok (.istore_n 2, 1) := by decide +kernel
theorem dX9_areUnlike_4 : decode cX9_areUnlike 4 = .ok (.iload_n 2, 1) := by decide +kernel
theorem dX9_areUnlike_5 : decode cX9_areUnlike 5 = .ok (.aload_n 0, 1) := by decide +kernel
theorem dX9_areUnlike_6 : decode cX9_areUnlike 6 = .ok (.getfield 87, 3) := by decide +kernel
theorem dX9_areUnlike_9 : decode cX9_areUnlike 9 = .ok (.if_icmp .ge 20, 3) := by decide +kernel
theorem dX9_areUnlike_12 : decode cX9_areUnlike 12 = .ok (.iload_n 1, 1) := by decide +kernel
theorem dX9_areUnlike_13 : decode cX9_areUnlike 13 = .ok (.iconst 1, 1) := by decide +kernel
theorem dX9_areUnlike_14 : decode cX9_areUnlike 14 = .ok (.aload_n 0, 1) := by decide +kernel
theorem dX9_areUnlike_15 : decode cX9_areUnlike 15 = .ok (.getfield 22, 3) := by decide +kernel
theorem dX9_areUnlike_18 : decode cX9_areUnlike 18 = .ok (.iload_n 2, 1) := by decide +kernel
theorem dX9_areUnlike_19 : decode cX9_areUnlike 19 = .ok (.iaload, 1) := by decide +kernel
theorem dX9_areUnlike_20 : decode cX9_areUnlike 20 = .ok (.ishl, 1) := by decide +kernel
theorem dX9_areUnlike_21 : decode cX9_areUnlike 21 = .ok (.ior, 1) := by decide +kernel
theorem dX9_areUnlike_22 : decode cX9_areUnlike 22 = .ok (.istore_n 1, 1) := by decide +kernel
theorem dX9_areUnlike_23 : decode cX9_areUnlike 23 = .ok (.iinc 2 1, 3) := by decide +kernel
theorem dX9_areUnlike_26 : decode cX9_areUnlike 26 = .ok (.goto (-22), 3) := by decide +kernel
theorem dX9_areUnlike_29 : decode cX9_areUnlike 29 = .ok (.iload_n 1, 1) := by decide +kernel
theorem dX9_areUnlike_30 : decode cX9_areUnlike 30 = .ok (.invokestatic 148, 3) := by decide +kernel
theorem dX9_areUnlike_33 : decode cX9_areUnlike 33 = .ok (.aload_n 0, 1) := by decide +kernel
theorem dX9_areUnlike_34 : decode cX9_areUnlike 34 = .ok (.getfield 87, 3) := by decide +kernel
theorem dX9_areUnlike_37 : decode cX9_areUnlike 37 = .ok (.if_icmp .ne 7, 3) := by decide +kernel
theorem dX9_areUnlike_40 : decode cX9_areUnlike 40 = .ok (.iconst 1, 1) := by decide +kernel
theorem dX9_areUnlike_41 : decode cX9_areUnlike 41 = .ok (.goto 4, 3) := by decide +kernel
theorem dX9_areUnlike_44 : decode cX9_areUnlike 44 = .ok (.iconst 0, 1) := by decide +kernel
theorem dX9_areUnlike_45 : decode cX9_areUnlike 45 = .ok (.ireturn, 1) := by decide +kernel
theorem dX9_isGood_0 : decode cX9_isGood 0 = .ok (.aload_n 0, 1) := by decide +kernel
theorem dX9_isGood_1 : decode cX9_isGood 1 = .ok (.invokevirtual 151, 3) := by decide +kernel
theorem dX9_isGood_4 : decode cX9_isGood 4 = .ok (.istore_n 1, 1) := by decide +kernel
theorem dX9_isGood_5 : decode cX9_isGood 5 = .ok (.iconst 1, 1) := by decide +kernel
theorem dX9_isGood_6 : decode cX9_isGood 6 = .ok (.istore_n 2, 1) := by decide +kernel
theorem dX9_isGood_7 : decode cX9_isGood 7 = .ok (.iload_n 2, 1) := by decide +kernel
theorem dX9_isGood_8 : decode cX9_isGood 8 = .ok (.aload_n 0, 1) := by decide +kernel
theorem dX9_isGood_9 : decode cX9_isGood 9 = .ok (.getfield 87, 3) := by decide +kernel
theorem dX9_isGood_12 : decode cX9_isGood 12 = .ok (.if_icmp .ge 81, 3) := by decide +kernel
theorem dX9_isGood_15 : decode cX9_isGood 15 = .ok (.iload_n 1, 1) := by decide +kernel
theorem dX9_isGood_16 : decode cX9_isGood 16 = .ok (.ifCond .eq 77, 3) := by decide +kernel
theorem dX9_isGood_19 : decode cX9_isGood 19 = .ok (.iconst 0, 1) := by decide +kernel
theorem dX9_isGood_20 : decode cX9_isGood 20 = .ok (.istore_n 3, 1) := by decide +kernel
theorem dX9_isGood_21 : decode cX9_isGood 21 = .ok (.iconst 0, 1) := by decide +kernel
theorem dX9_isGood_22 : decode cX9_isGood 22 = .ok (.istore 4, 2) := by decide +kernel
theorem dX9_isGood_24 : decode cX9_isGood 24 = .ok (.iload 4, 2) := by decide +kernel
theorem dX9_isGood_26 : decode cX9_isGood 26 = .ok (.iload_n 2, 1) := by decide +kernel
theorem dX9_isGood_27 : decode cX9_isGood 27 = .ok (.iadd, 1) := by decide +kernel
theorem dX9_isGood_28 : decode cX9_isGood 28 = .ok (.aload_n 0, 1) := by decide +kernel
theorem dX9_isGood_29 : decode cX9_isGood 29 = .ok (.getfield 87, 3) := by decide +kernel
theorem dX9_isGood_32 : decode cX9_isGood 32 = .ok (.if_icmp .ge 55, 3) := by decide +kernel
theorem dX9_isGood_35 : decode cX9_isGood 35 = .ok (.iconst 1, 1) := by decide +kernel
theorem dX9_isGood_36 : decode cX9_isGood 36 = .ok (.aload_n 0, 1) := by decide +kernel
theorem dX9_isGood_37 : decode cX9_isGood 37 = .ok (.getfield 22, 3) := by decide +kernel
theorem dX9_isGood_40 : decode cX9_isGood 40 = .ok (.iload 4, 2) := by decide +kernel
theorem dX9_isGood_42 : decode cX9_isGood 42 = .ok (.iload_n 2, 1) := by decide +kernel
theorem dX9_isGood_43 : decode cX9_isGood 43 = .ok (.iadd, 1) := by decide +kernel
theorem dX9_isGood_44 : decode cX9_isGood 44 = .ok (.iaload, 1) := by decide +kernel
theorem dX9_isGood_45 : decode cX9_isGood 45 = .ok (.aload_n 0, 1) := by decide +kernel
theorem dX9_isGood_46 : decode cX9_isGood 46 = .ok (.getfield 22, 3) := by decide +kernel
theorem dX9_isGood_49 : decode cX9_isGood 49 = .ok (.iload 4, 2) := by decide +kernel
theorem dX9_isGood_51 : decode cX9_isGood 51 = .ok (.iaload, 1) := by decide +kernel
theorem dX9_isGood_52 : decode cX9_isGood 52 = .ok (.isub, 1) := by decide +kernel
theorem dX9_isGood_53 : decode cX9_isGood 53 = .ok (.bipush 6, 2) := by decide +kernel
theorem dX9_isGood_55 : decode cX9_isGood 55 = .ok (.iadd, 1) := by decide +kernel
theorem dX9_isGood_56 : decode cX9_isGood 56 = .ok (.ishl, 1) := by decide +kernel
theorem dX9_isGood_57 : decode cX9_isGood 57 = .ok (.istore 5, 2) := by decide +kernel
theorem dX9_isGood_59 : decode cX9_isGood 59 = .ok (.iload_n 1, 1) := by decide +kernel
theorem dX9_isGood_60 : decode cX9_isGood 60 = .ok (.ifCond .eq 14, 3) := by decide +kernel
theorem dX9_isGood_63 : decode cX9_isGood 63 = .ok (.iload_n 3, 1) := by decide +kernel
theorem dX9_isGood_64 : decode cX9_isGood 64 = .ok (.iload 5, 2) := by decide +kernel
theorem dX9_isGood_66 : decode cX9_isGood 66 = .ok (.iand, 1) := by decide +kernel
theorem dX9_isGood_67 : decode cX9_isGood 67 = .ok (.ifCond .ne 7, 3) := by decide +kernel
theorem dX9_isGood_70 : decode cX9_isGood 70 = .ok (.iconst 1, 1) := by decide +kernel
theorem dX9_isGood_71 : decode cX9_isGood 71 = .ok (.goto 4, 3) := by decide +kernel
theorem dX9_isGood_74 : decode cX9_isGood 74 = .ok (.iconst 0, 1) := by decide +kernel
theorem dX9_isGood_75 : decode cX9_isGood 75 = .ok (.istore_n 1, 1) := by decide +kernel
theorem dX9_isGood_76 : decode cX9_isGood 76 = .ok (.iload_n 3, 1) := by decide +kernel
theorem dX9_isGood_77 : decode cX9_isGood 77 = .ok (.iload 5, 2) := by decide +kernel
theorem dX9_isGood_79 : decode cX9_isGood 79 = .ok (.ior, 1) := by decide +kernel
theorem dX9_isGood_80 : decode cX9_isGood 80 = .ok (.istore_n 3, 1) := by decide +kernel
theorem dX9_isGood_81 : decode cX9_isGood 81 = .ok (.iinc 4 1, 3) := by decide +kernel
theorem dX9_isGood_84 : decode cX9_isGood 84 = .ok (.goto (-60), 3) := by decide +kernel
theorem dX9_isGood_87 : decode cX9_isGood 87 = .ok (.iinc 2 1, 3) := by decide +kernel
theorem dX9_isGood_90 : decode cX9_isGood 90 = .ok (.goto (-83), 3) := by decide +kernel
theorem dX9_isGood_93 : decode cX9_isGood 93 = .ok (.iload_n 1, 1) := by decide +kernel
theorem dX9_isGood_94 : decode cX9_isGood 94 = .ok (.ireturn, 1) := by decide +kernel
theorem dX9_triesFirst_0 : decode cX9_triesFirst 0 = .ok (.iconst 0, 1) := by decide +kernel
theorem dX9_triesFirst_1 : decode cX9_triesFirst 1 = .ok (.istore_n 1, 1) := by decide +kernel
theorem dX9_triesFirst_2 : decode cX9_triesFirst 2 = .ok (.iload_n 1, 1) := by decide +kernel
theorem dX9_triesFirst_3 : decode cX9_triesFirst 3 = .ok (.bipush 6, 2) := by decide +kernel
theorem dX9_triesFirst_5 : decode cX9_triesFirst 5 = .ok (.if_icmp .ge 16, 3) := by decide +kernel
theorem dX9_triesFirst_8 : decode cX9_triesFirst 8 = .ok (.aload_n 0, 1) := by decide +kernel
theorem dX9_triesFirst_9 : decode cX9_triesFirst 9 = .ok (.getfield 22, 3) := by decide +kernel
theorem dX9_triesFirst_12 : decode cX9_triesFirst 12 = .ok (.iload_n 1, 1) := by decide +kernel
theorem dX9_triesFirst_13 : decode cX9_triesFirst 13 = .ok (.iconst 0, 1) := by decide +kernel
theorem dX9_triesFirst_14 : decode cX9_triesFirst 14 = .ok (.iastore, 1) := by decide +kernel
theorem dX9_triesFirst_15 : decode cX9_triesFirst 15 = .ok (.iinc 1 1, 3) := by decide +kernel
theorem dX9_triesFirst_18 : decode cX9_triesFirst 18 = .ok (.goto (-16), 3) := by decide +kernel
theorem dX9_triesFirst_21 : decode cX9_triesFirst 21 = .ok (.return_, 1) := by decide +kernel
theorem dX9_triesNext_0 : decode cX9_triesNext 0 = .ok (.aload_n 0, 1) := by decide +kernel
theorem dX9_triesNext_1 : decode cX9_triesNext 1 = .ok (.getfield 87, 3) := by decide +kernel
theorem dX9_triesNext_4 : decode cX9_triesNext 4 = .ok (.iconst 1, 1) := by decide +kernel
theorem dX9_triesNext_5 : decode cX9_triesNext 5 = .ok (.isub, 1) := by decide +kernel
theorem dX9_triesNext_6 : decode cX9_triesNext 6 = .ok (.istore_n 1, 1) := by decide +kernel
theorem dX9_triesNext_7 : decode cX9_triesNext 7 = .ok (.iload_n 1, 1) := by decide +kernel
theorem dX9_triesNext_8 : decode cX9_triesNext 8 = .ok (.ifCond .lt 31, 3) := by decide +kernel
theorem dX9_triesNext_11 : decode cX9_triesNext 11 = .ok (.aload_n 0, 1) := by decide +kernel
theorem dX9_triesNext_12 : decode cX9_triesNext 12 = .ok (.getfield 22, 3) := by decide +kernel
theorem dX9_triesNext_15 : decode cX9_triesNext 15 = .ok (.iload_n 1, 1) := by decide +kernel
theorem dX9_triesNext_16 : decode cX9_triesNext 16 = .ok (.iaload, 1) := by decide +kernel
theorem dX9_triesNext_17 : decode cX9_triesNext 17 = .ok (.aload_n 0, 1) := by decide +kernel
theorem dX9_triesNext_18 : decode cX9_triesNext 18 = .ok (.getfield 87, 3) := by decide +kernel
theorem dX9_triesNext_21 : decode cX9_triesNext 21 = .ok (.iconst 1, 1) := by decide +kernel
theorem dX9_triesNext_22 : decode cX9_triesNext 22 = .ok (.isub, 1) := by decide +kernel
theorem dX9_triesNext_23 : decode cX9_triesNext 23 = .ok (.if_icmp .ne 16, 3) := by decide +kernel
theorem dX9_triesNext_26 : decode cX9_triesNext 26 = .ok (.aload_n 0, 1) := by decide +kernel
theorem dX9_triesNext_27 : decode cX9_triesNext 27 = .ok (.getfield 22, 3) := by decide +kernel
theorem dX9_triesNext_30 : decode cX9_triesNext 30 = .ok (.iload_n 1, 1) := by decide +kernel
theorem dX9_triesNext_31 : decode cX9_triesNext 31 = .ok (.iconst 0, 1) := by decide +kernel
theorem dX9_triesNext_32 : decode cX9_triesNext 32 = .ok (.iastore, 1) := by decide +kernel
theorem dX9_triesNext_33 : decode cX9_triesNext 33 = .ok (.iinc 1 (-1), 3) := by decide +kernel
theorem dX9_triesNext_36 : decode cX9_triesNext 36 = .ok (.goto (-29), 3) := by decide +kernel
theorem dX9_triesNext_39 : decode cX9_triesNext 39 = .ok (.iload_n 1, 1) := by decide +kernel
theorem dX9_triesNext_40 : decode cX9_triesNext 40 = .ok (.ifCond .ge 5, 3) := by decide +kernel
theorem dX9_triesNext_43 : decode cX9_triesNext 43 = .ok (.iconst 0, 1) := by decide +kernel
theorem dX9_triesNext_44 : decode cX9_triesNext 44 = .ok (.ireturn, 1) := by decide +kernel
theorem dX9_triesNext_45 : decode cX9_triesNext 45 = .ok (.aload_n 0, 1) := by decide +kernel
theorem dX9_triesNext_46 : decode cX9_triesNext 46 = .ok (.getfield 22, 3) := by decide +kernel
theorem dX9_triesNext_49 : decode cX9_triesNext 49 = .ok (.iload_n 1, 1) := by decide +kernel
theorem dX9_triesNext_50 : decode cX9_triesNext 50 = .ok (.dup2, 1) := by decide +kernel
theorem dX9_triesNext_51 : decode cX9_triesNext 51 = .ok (.iaload, 1) := by decide +kernel
theorem dX9_triesNext_52 : decode cX9_triesNext 52 = .ok (.iconst 1, 1) := by decide +kernel
theorem dX9_triesNext_53 : decode cX9_triesNext 53 = .ok (.iadd, 1) := by decide +kernel
theorem dX9_triesNext_54 : decode cX9_triesNext 54 = .ok (.iastore, 1) := by decide +kernel
theorem dX9_triesNext_55 : decode cX9_triesNext 55 = .ok (.iconst 1, 1) := by decide +kernel
theorem dX9_triesNext_56 : decode cX9_triesNext 56 = .ok (.ireturn, 1) := by decide +kernel
theorem dX9_hasThoseOf_0 : decode cX9_hasThoseOf 0 = .ok (.iconst 1, 1) := by decide +kernel
theorem dX9_hasThoseOf_1 : decode cX9_hasThoseOf 1 = .ok (.istore_n 2, 1) := by decide +kernel
theorem dX9_hasThoseOf_2 : decode cX9_hasThoseOf 2 = .ok (.iconst 0, 1) := by decide +kernel
theorem dX9_hasThoseOf_3 : decode cX9_hasThoseOf 3 = .ok (.istore_n 3, 1) := by decide +kernel
theorem dX9_hasThoseOf_4 : decode cX9_hasThoseOf 4 = .ok (.iload_n 3, 1) := by decide +kernel
theorem dX9_hasThoseOf_5 : decode cX9_hasThoseOf 5 = .ok (.aload_n 0, 1) := by decide +kernel
theorem dX9_hasThoseOf_6 : decode cX9_hasThoseOf 6 = .ok (.getfield 87, 3) := by decide +kernel
theorem dX9_hasThoseOf_9 : decode cX9_hasThoseOf 9 = .ok (.if_icmp .ge 43, 3) := by decide +kernel
theorem dX9_hasThoseOf_12 : decode cX9_hasThoseOf 12 = .ok (.iload_n 2, 1) := by decide +kernel
theorem dX9_hasThoseOf_13 : decode cX9_hasThoseOf 13 = .ok (.ifCond .eq 31, 3) := by decide +kernel
theorem dX9_hasThoseOf_16 : decode cX9_hasThoseOf 16 = .ok (.aload_n 0, 1) := by decide +kernel
theorem dX9_hasThoseOf_17 : decode cX9_hasThoseOf 17 = .ok (.iload_n 1, 1) := by decide +kernel
theorem dX9_hasThoseOf_18 : decode cX9_hasThoseOf 18 = .ok (.iload_n 3, 1) := by decide +kernel
theorem dX9_hasThoseOf_19 : decode cX9_hasThoseOf 19 = .ok (.invokevirtual 145, 3) := by decide +kernel
theorem dX9_hasThoseOf_22 : decode cX9_hasThoseOf 22 = .ok (.ifCond .lt 18, 3) := by decide +kernel
theorem dX9_hasThoseOf_25 : decode cX9_hasThoseOf 25 = .ok (.aload_n 0, 1) := by decide +kernel
theorem dX9_hasThoseOf_26 : decode cX9_hasThoseOf 26 = .ok (.iload_n 1, 1) := by decide +kernel
theorem dX9_hasThoseOf_27 : decode cX9_hasThoseOf 27 = .ok (.iload_n 3, 1) := by decide +kernel
theorem dX9_hasThoseOf_28 : decode cX9_hasThoseOf 28 = .ok (.invokevirtual 145, 3) := by decide +kernel
theorem dX9_hasThoseOf_31 : decode cX9_hasThoseOf 31 = .ok (.aload_n 0, 1) := by decide +kernel
theorem dX9_hasThoseOf_32 : decode cX9_hasThoseOf 32 = .ok (.getfield 22, 3) := by decide +kernel
theorem dX9_hasThoseOf_35 : decode cX9_hasThoseOf 35 = .ok (.iload_n 3, 1) := by decide +kernel
theorem dX9_hasThoseOf_36 : decode cX9_hasThoseOf 36 = .ok (.iaload, 1) := by decide +kernel
theorem dX9_hasThoseOf_37 : decode cX9_hasThoseOf 37 = .ok (.if_icmp .ne 7, 3) := by decide +kernel
theorem dX9_hasThoseOf_40 : decode cX9_hasThoseOf 40 = .ok (.iconst 1, 1) := by decide +kernel
theorem dX9_hasThoseOf_41 : decode cX9_hasThoseOf 41 = .ok (.goto 4, 3) := by decide +kernel
theorem dX9_hasThoseOf_44 : decode cX9_hasThoseOf 44 = .ok (.iconst 0, 1) := by decide +kernel
theorem dX9_hasThoseOf_45 : decode cX9_hasThoseOf 45 = .ok (.istore_n 2, 1) := by decide +kernel
theorem dX9_hasThoseOf_46 : decode cX9_hasThoseOf 46 = .ok (.iinc 3 1, 3) := by decide +kernel
theorem dX9_hasThoseOf_49 : decode cX9_hasThoseOf 49 = .ok (.goto (-45), 3) := by decide +kernel
theorem dX9_hasThoseOf_52 : decode cX9_hasThoseOf 52 = .ok (.iload_n 2, 1) := by decide +kernel
theorem dX9_hasThoseOf_53 : decode cX9_hasThoseOf 53 = .ok (.ireturn, 1) := by decide +kernel
theorem dX9_triesThoseOf_0 : decode cX9_triesThoseOf 0 = .ok (.iconst 0, 1) := by decide +kernel
theorem dX9_triesThoseOf_1 : decode cX9_triesThoseOf 1 = .ok (.istore_n 2, 1) := by decide +kernel
theorem dX9_triesThoseOf_2 : decode cX9_triesThoseOf 2 = .ok (.iload_n 2, 1) := by decide +kernel
theorem dX9_triesThoseOf_3 : decode cX9_triesThoseOf 3 = .ok (.aload_n 0, 1) := by decide +kernel
theorem dX9_triesThoseOf_4 : decode cX9_triesThoseOf 4 = .ok (.getfield 87, 3) := by decide +kernel
theorem dX9_triesThoseOf_7 : decode cX9_triesThoseOf 7 = .ok (.if_icmp .ge 21, 3) := by decide +kernel
theorem dX9_triesThoseOf_10 : decode cX9_triesThoseOf 10 = .ok (.aload_n 0, 1) := by decide +kernel
theorem dX9_triesThoseOf_11 : decode cX9_triesThoseOf 11 = .ok (.getfield 22, 3) := by decide +kernel
theorem dX9_triesThoseOf_14 : decode cX9_triesThoseOf 14 = .ok (.iload_n 2, 1) := by decide +kernel
theorem dX9_triesThoseOf_15 : decode cX9_triesThoseOf 15 = .ok (.aload_n 0, 1) := by decide +kernel
theorem dX9_triesThoseOf_16 : decode cX9_triesThoseOf 16 = .ok (.iload_n 1, 1) := by decide +kernel
theorem dX9_triesThoseOf_17 : decode cX9_triesThoseOf 17 = .ok (.iload_n 2, 1) := by decide +kernel
theorem dX9_triesThoseOf_18 : decode cX9_triesThoseOf 18 = .ok (.invokevirtual 145, 3) := by decide +kernel
theorem dX9_triesThoseOf_21 : decode cX9_triesThoseOf 21 = .ok (.iastore, 1) := by decide +kernel
theorem dX9_triesThoseOf_22 : decode cX9_triesThoseOf 22 = .ok (.iinc 2 1, 3) := by decide +kernel
theorem dX9_triesThoseOf_25 : decode cX9_triesThoseOf 25 = .ok (.goto (-23), 3) := by decide +kernel
theorem dX9_triesThoseOf_28 : decode cX9_triesThoseOf 28 = .ok (.return_, 1) := by decide +kernel
theorem dX9_goodNow_0 : decode cX9_goodNow 0 = .ok (.aload_n 0, 1) := by decide +kernel
theorem dX9_goodNow_1 : decode cX9_goodNow 1 = .ok (.iload_n 1, 1) := by decide +kernel
theorem dX9_goodNow_2 : decode cX9_goodNow 2 = .ok (.invokevirtual 155, 3) := by decide +kernel
theorem dX9_goodNow_5 : decode cX9_goodNow 5 = .ok (.ifCond .le 5, 3) := by decide +kernel
theorem dX9_goodNow_8 : decode cX9_goodNow 8 = .ok (.iconst 0, 1) := by decide +kernel
theorem dX9_goodNow_9 : decode cX9_goodNow 9 = .ok (.ireturn, 1) := by decide +kernel
theorem dX9_goodNow_10 : decode cX9_goodNow 10 = .ok (.aload_n 0, 1) := by decide +kernel
theorem dX9_goodNow_11 : decode cX9_goodNow 11 = .ok (.iload_n 1, 1) := by decide +kernel
theorem dX9_goodNow_12 : decode cX9_goodNow 12 = .ok (.invokevirtual 158, 3) := by decide +kernel
theorem dX9_goodNow_15 : decode cX9_goodNow 15 = .ok (.aload_n 0, 1) := by decide +kernel
theorem dX9_goodNow_16 : decode cX9_goodNow 16 = .ok (.invokevirtual 162, 3) := by decide +kernel
theorem dX9_goodNow_19 : decode cX9_goodNow 19 = .ok (.ifCond .eq 7, 3) := by decide +kernel
theorem dX9_goodNow_22 : decode cX9_goodNow 22 = .ok (.iconst 1, 1) := by decide +kernel
theorem dX9_goodNow_23 : decode cX9_goodNow 23 = .ok (.goto 4, 3) := by decide +kernel
theorem dX9_goodNow_26 : decode cX9_goodNow 26 = .ok (.iconst 0, 1) := by decide +kernel
theorem dX9_goodNow_27 : decode cX9_goodNow 27 = .ok (.ireturn, 1) := by decide +kernel
theorem dX9_ofCaller_0 : decode cX9_ofCaller 0 = .ok (.aload_n 0, 1) := by decide +kernel
theorem dX9_ofCaller_1 : decode cX9_ofCaller 1 = .ok (.iload_n 1, 1) := by decide +kernel
theorem dX9_ofCaller_2 : decode cX9_ofCaller 2 = .ok (.invokevirtual 165, 3) := by decide +kernel
theorem dX9_ofCaller_5 : decode cX9_ofCaller 5 = .ok (.ifCond .eq 5, 3) := by decide +kernel
theorem dX9_ofCaller_8 : decode cX9_ofCaller 8 = .ok (.iconst (-1), 1) := by decide +kernel
theorem dX9_ofCaller_9 : decode cX9_ofCaller 9 = .ok (.ireturn, 1) := by decide +kernel
theorem dX9_ofCaller_10 : decode cX9_ofCaller 10 = .ok (.iload_n 2, 1) := by decide +kernel
theorem dX9_ofCaller_11 : decode cX9_ofCaller 11 = .ok (.i2l, 1) := by decide +kernel
theorem dX9_ofCaller_12 : decode cX9_ofCaller 12 = .ok (.ldc2_w 168, 3) := by decide +kernel
theorem dX9_ofCaller_15 : decode cX9_ofCaller 15 = .ok (.ldc2_w 170, 3) := by decide +kernel
theorem dX9_ofCaller_18 : decode cX9_ofCaller 18 = .ok (.invokestatic 83, 3) := by decide +kernel
theorem dX9_ofCaller_21 : decode cX9_ofCaller 21 = .ok (.ifCond .eq 41, 3) := by decide +kernel
theorem dX9_ofCaller_24 : decode cX9_ofCaller 24 = .ok (.aload_n 0, 1) := by decide +kernel
theorem dX9_ofCaller_25 : decode cX9_ofCaller 25 = .ok (.iload_n 2, 1) := by decide +kernel
theorem dX9_ofCaller_26 : decode cX9_ofCaller 26 = .ok (.bipush 10, 2) := by decide +kernel
theorem dX9_ofCaller_28 : decode cX9_ofCaller 28 = .ok (.isub, 1) := by decide +kernel
theorem dX9_ofCaller_29 : decode cX9_ofCaller 29 = .ok (.invokevirtual 172, 3) := by decide +kernel
theorem dX9_ofCaller_32 : decode cX9_ofCaller 32 = .ok (.ifCond .ne 15, 3) := by decide +kernel
theorem dX9_ofCaller_35 : decode cX9_ofCaller 35 = .ok (.aload_n 0, 1) := by decide +kernel
theorem dX9_ofCaller_36 : decode cX9_ofCaller 36 = .ok (.iload_n 1, 1) := by decide +kernel
theorem dX9_ofCaller_37 : decode cX9_ofCaller 37 = .ok (.iload_n 2, 1) := by decide +kernel
theorem dX9_ofCaller_38 : decode cX9_ofCaller 38 = .ok (.bipush 10, 2) := by decide +kernel
theorem dX9_ofCaller_40 : decode cX9_ofCaller 40 = .ok (.isub, 1) := by decide +kernel
theorem dX9_ofCaller_41 : decode cX9_ofCaller 41 = .ok (.invokevirtual 145, 3) := by decide +kernel
theorem dX9_ofCaller_44 : decode cX9_ofCaller 44 = .ok (.ifCond .ge 8, 3) := by decide +kernel
theorem dX9_ofCaller_47 : decode cX9_ofCaller 47 = .ok (.bipush (-9), 2) := by decide +kernel
theorem dX9_ofCaller_49 : decode cX9_ofCaller 49 = .ok (.goto 12, 3) := by decide +kernel
theorem dX9_ofCaller_52 : decode cX9_ofCaller 52 = .ok (.aload_n 0, 1) := by decide +kernel
theorem dX9_ofCaller_53 : decode cX9_ofCaller 53 = .ok (.iload_n 1, 1) := by decide +kernel
theorem dX9_ofCaller_54 : decode cX9_ofCaller 54 = .ok (.iload_n 2, 1) := by decide +kernel
theorem dX9_ofCaller_55 : decode cX9_ofCaller 55 = .ok (.bipush 10, 2) := by decide +kernel
theorem dX9_ofCaller_57 : decode cX9_ofCaller 57 = .ok (.isub, 1) := by decide +kernel
theorem dX9_ofCaller_58 : decode cX9_ofCaller 58 = .ok (.invokevirtual 145, 3) := by decide +kernel
theorem dX9_ofCaller_61 : decode cX9_ofCaller 61 = .ok (.ireturn, 1) := by decide +kernel
theorem dX9_ofCaller_62 : decode cX9_ofCaller 62 = .ok (.iload_n 2, 1) := by decide +kernel
theorem dX9_ofCaller_63 : decode cX9_ofCaller 63 = .ok (.tableswitch 44 0 2 #[25, 32, 38], 25) := by decide +kernel
theorem dX9_ofCaller_88 : decode cX9_ofCaller 88 = .ok (.aload_n 0, 1) := by decide +kernel
theorem dX9_ofCaller_89 : decode cX9_ofCaller 89 = .ok (.getfield 7, 3) := by decide +kernel
theorem dX9_ofCaller_92 : decode cX9_ofCaller 92 = .ok (.iload_n 1, 1) := by decide +kernel
theorem dX9_ofCaller_93 : decode cX9_ofCaller 93 = .ok (.iaload, 1) := by decide +kernel
theorem dX9_ofCaller_94 : decode cX9_ofCaller 94 = .ok (.ireturn, 1) := by decide +kernel
theorem dX9_ofCaller_95 : decode cX9_ofCaller 95 = .ok (.aload_n 0, 1) := by decide +kernel
theorem dX9_ofCaller_96 : decode cX9_ofCaller 96 = .ok (.iload_n 1, 1) := by decide +kernel
theorem dX9_ofCaller_97 : decode cX9_ofCaller 97 = .ok (.invokevirtual 155, 3) := by decide +kernel
theorem dX9_ofCaller_100 : decode cX9_ofCaller 100 = .ok (.ireturn, 1) := by decide +kernel
theorem dX9_ofCaller_101 : decode cX9_ofCaller 101 = .ok (.aload_n 0, 1) := by decide +kernel
theorem dX9_ofCaller_102 : decode cX9_ofCaller 102 = .ok (.iload_n 1, 1) := by decide +kernel
theorem dX9_ofCaller_103 : decode cX9_ofCaller 103 = .ok (.invokevirtual 175, 3) := by decide +kernel
theorem dX9_ofCaller_106 : decode cX9_ofCaller 106 = .ok (.ireturn, 1) := by decide +kernel
theorem dX9_ofCaller_107 : decode cX9_ofCaller 107 = .ok (.bipush (-2), 2) := by decide +kernel
theorem dX9_ofCaller_109 : decode cX9_ofCaller 109 = .ok (.ireturn, 1) := by decide +kernel
theorem dX9_tune_0 : decode cX9_tune 0 = .ok (.aload_n 0, 1) := by decide +kernel
theorem dX9_tune_1 : decode cX9_tune 1 = .ok (.iload_n 1, 1) := by decide +kernel
theorem dX9_tune_2 : decode cX9_tune 2 = .ok (.invokevirtual 165, 3) := by decide +kernel
theorem dX9_tune_5 : decode cX9_tune 5 = .ok (.ifCond .ne 11, 3) := by decide +kernel
theorem dX9_tune_8 : decode cX9_tune 8 = .ok (.aload_n 0, 1) := by decide +kernel
theorem dX9_tune_9 : decode cX9_tune 9 = .ok (.iload_n 2, 1) := by decide +kernel
theorem dX9_tune_10 : decode cX9_tune 10 = .ok (.invokevirtual 172, 3) := by decide +kernel
theorem dX9_tune_13 : decode cX9_tune 13 = .ok (.ifCond .eq 5, 3) := by decide +kernel
theorem dX9_tune_16 : decode cX9_tune 16 = .ok (.iconst (-1), 1) := by decide +kernel
theorem dX9_tune_17 : decode cX9_tune 17 = .ok (.ireturn, 1) := by decide +kernel
theorem dX9_tune_18 : decode cX9_tune 18 = .ok (.iload_n 3, 1) := by decide +kernel
theorem dX9_tune_19 : decode cX9_tune 19 = .ok (.i2l, 1) := by decide +kernel
theorem dX9_tune_20 : decode cX9_tune 20 = .ok (.ldc2_w 178, 3) := by decide +kernel
theorem dX9_tune_23 : decode cX9_tune 23 = .ok (.aload_n 0, 1) := by decide +kernel
theorem dX9_tune_24 : decode cX9_tune 24 = .ok (.getfield 87, 3) := by decide +kernel
theorem dX9_tune_27 : decode cX9_tune 27 = .ok (.i2l, 1) := by decide +kernel
theorem dX9_tune_28 : decode cX9_tune 28 = .ok (.lconst 1, 1) := by decide +kernel
theorem dX9_tune_29 : decode cX9_tune 29 = .ok (.lsub, 1) := by decide +kernel
theorem dX9_tune_30 : decode cX9_tune 30 = .ok (.invokestatic 83, 3) := by decide +kernel
theorem dX9_tune_33 : decode cX9_tune 33 = .ok (.ifCond .ne 6, 3) := by decide +kernel
theorem dX9_tune_36 : decode cX9_tune 36 = .ok (.bipush (-2), 2) := by decide +kernel
theorem dX9_tune_38 : decode cX9_tune 38 = .ok (.ireturn, 1) := by decide +kernel
theorem dX9_tune_39 : decode cX9_tune 39 = .ok (.aload_n 0, 1) := by decide +kernel
theorem dX9_tune_40 : decode cX9_tune 40 = .ok (.iload_n 1, 1) := by decide +kernel
theorem dX9_tune_41 : decode cX9_tune 41 = .ok (.iload_n 2, 1) := by decide +kernel
theorem dX9_tune_42 : decode cX9_tune 42 = .ok (.invokevirtual 145, 3) := by decide +kernel
theorem dX9_tune_45 : decode cX9_tune 45 = .ok (.istore 4, 2) := by decide +kernel
theorem dX9_tune_47 : decode cX9_tune 47 = .ok (.aload_n 0, 1) := by decide +kernel
theorem dX9_tune_48 : decode cX9_tune 48 = .ok (.getfield 13, 3) := by decide +kernel
theorem dX9_tune_51 : decode cX9_tune 51 = .ok (.bipush 6, 2) := by decide +kernel
theorem dX9_tune_53 : decode cX9_tune 53 = .ok (.iload_n 1, 1) := by decide +kernel
theorem dX9_tune_54 : decode cX9_tune 54 = .ok (.imul, 1) := by decide +kernel
theorem dX9_tune_55 : decode cX9_tune 55 = .ok (.iload_n 2, 1) := by decide +kernel
theorem dX9_tune_56 : decode cX9_tune 56 = .ok (.iadd, 1) := by decide +kernel
theorem dX9_tune_57 : decode cX9_tune 57 = .ok (.iload_n 3, 1) := by decide +kernel
theorem dX9_tune_58 : decode cX9_tune 58 = .ok (.ifCond .ge 8, 3) := by decide +kernel
theorem dX9_tune_61 : decode cX9_tune 61 = .ok (.bipush (-9), 2) := by decide +kernel
theorem dX9_tune_63 : decode cX9_tune 63 = .ok (.goto 4, 3) := by decide +kernel
theorem dX9_tune_66 : decode cX9_tune 66 = .ok (.iload_n 3, 1) := by decide +kernel
theorem dX9_tune_67 : decode cX9_tune 67 = .ok (.iastore, 1) := by decide +kernel
theorem dX9_tune_68 : decode cX9_tune 68 = .ok (.iload 4, 2) := by decide +kernel
theorem dX9_tune_70 : decode cX9_tune 70 = .ok (.ireturn, 1) := by decide +kernel
theorem dX9_counts_0 : decode cX9_counts 0 = .ok (.iload_n 2, 1) := by decide +kernel
theorem dX9_counts_1 : decode cX9_counts 1 = .ok (.i2l, 1) := by decide +kernel
theorem dX9_counts_2 : decode cX9_counts 2 = .ok (.iload_n 3, 1) := by decide +kernel
theorem dX9_counts_3 : decode cX9_counts 3 = .ok (.i2l, 1) := by decide +kernel
theorem dX9_counts_4 : decode cX9_counts 4 = .ok (.lsub, 1) := by decide +kernel
theorem dX9_counts_5 : decode cX9_counts 5 = .ok (.ldc2_w 178, 3) := by decide +kernel
theorem dX9_counts_8 : decode cX9_counts 8 = .ok (.lconst 1, 1) := by decide +kernel
theorem dX9_counts_9 : decode cX9_counts 9 = .ok (.invokestatic 83, 3) := by decide +kernel
theorem dX9_counts_12 : decode cX9_counts 12 = .ok (.istore 4, 2) := by decide +kernel
theorem dX9_counts_14 : decode cX9_counts 14 = .ok (.aload_n 0, 1) := by decide +kernel
theorem dX9_counts_15 : decode cX9_counts 15 = .ok (.getfield 7, 3) := by decide +kernel
theorem dX9_counts_18 : decode cX9_counts 18 = .ok (.iload_n 1, 1) := by decide +kernel
theorem dX9_counts_19 : decode cX9_counts 19 = .ok (.iaload, 1) := by decide +kernel
theorem dX9_counts_20 : decode cX9_counts 20 = .ok (.ifCond .ne 16, 3) := by decide +kernel
theorem dX9_counts_23 : decode cX9_counts 23 = .ok (.iload_n 2, 1) := by decide +kernel
theorem dX9_counts_24 : decode cX9_counts 24 = .ok (.iload_n 3, 1) := by decide +kernel
theorem dX9_counts_25 : decode cX9_counts 25 = .ok (.if_icmp .ne 7, 3) := by decide +kernel
theorem dX9_counts_28 : decode cX9_counts 28 = .ok (.iconst 1, 1) := by decide +kernel
theorem dX9_counts_29 : decode cX9_counts 29 = .ok (.goto 49, 3) := by decide +kernel
theorem dX9_counts_32 : decode cX9_counts 32 = .ok (.iconst 0, 1) := by decide +kernel
theorem dX9_counts_33 : decode cX9_counts 33 = .ok (.goto 45, 3) := by decide +kernel
theorem dX9_counts_36 : decode cX9_counts 36 = .ok (.aload_n 0, 1) := by decide +kernel
theorem dX9_counts_37 : decode cX9_counts 37 = .ok (.getfield 7, 3) := by decide +kernel
theorem dX9_counts_40 : decode cX9_counts 40 = .ok (.iload_n 1, 1) := by decide +kernel
theorem dX9_counts_41 : decode cX9_counts 41 = .ok (.iaload, 1) := by decide +kernel
theorem dX9_counts_42 : decode cX9_counts 42 = .ok (.iconst 1, 1) := by decide +kernel
theorem dX9_counts_43 : decode cX9_counts 43 = .ok (.if_icmp .ne 16, 3) := by decide +kernel
theorem dX9_counts_46 : decode cX9_counts 46 = .ok (.iload 4, 2) := by decide +kernel
theorem dX9_counts_48 : decode cX9_counts 48 = .ok (.ifCond .eq 7, 3) := by decide +kernel
theorem dX9_counts_51 : decode cX9_counts 51 = .ok (.iconst 1, 1) := by decide +kernel
theorem dX9_counts_52 : decode cX9_counts 52 = .ok (.goto 26, 3) := by decide +kernel
theorem dX9_counts_55 : decode cX9_counts 55 = .ok (.iconst 0, 1) := by decide +kernel
theorem dX9_counts_56 : decode cX9_counts 56 = .ok (.goto 22, 3) := by decide +kernel
theorem dX9_counts_59 : decode cX9_counts 59 = .ok (.iload_n 2, 1) := by decide +kernel
theorem dX9_counts_60 : decode cX9_counts 60 = .ok (.iload_n 3, 1) := by decide +kernel
theorem dX9_counts_61 : decode cX9_counts 61 = .ok (.if_icmp .ne 7, 3) := by decide +kernel
theorem dX9_counts_64 : decode cX9_counts 64 = .ok (.iconst 2, 1) := by decide +kernel
theorem dX9_counts_65 : decode cX9_counts 65 = .ok (.goto 13, 3) := by decide +kernel
theorem dX9_counts_68 : decode cX9_counts 68 = .ok (.iload 4, 2) := by decide +kernel
theorem dX9_counts_70 : decode cX9_counts 70 = .ok (.ifCond .eq 7, 3) := by decide +kernel
theorem dX9_counts_73 : decode cX9_counts 73 = .ok (.iconst 1, 1) := by decide +kernel
theorem dX9_counts_74 : decode cX9_counts 74 = .ok (.goto 4, 3) := by decide +kernel
theorem dX9_counts_77 : decode cX9_counts 77 = .ok (.iconst 0, 1) := by decide +kernel
theorem dX9_counts_78 : decode cX9_counts 78 = .ok (.ireturn, 1) := by decide +kernel
theorem dX9_heardBy_0 : decode cX9_heardBy 0 = .ok (.iconst 0, 1) := by decide +kernel
theorem dX9_heardBy_1 : decode cX9_heardBy 1 = .ok (.istore 5, 2) := by decide +kernel
theorem dX9_heardBy_3 : decode cX9_heardBy 3 = .ok (.iconst 0, 1) := by decide +kernel
theorem dX9_heardBy_4 : decode cX9_heardBy 4 = .ok (.istore 6, 2) := by decide +kernel
theorem dX9_heardBy_6 : decode cX9_heardBy 6 = .ok (.iload 6, 2) := by decide +kernel
theorem dX9_heardBy_8 : decode cX9_heardBy 8 = .ok (.aload_n 0, 1) := by decide +kernel
theorem dX9_heardBy_9 : decode cX9_heardBy 9 = .ok (.getfield 87, 3) := by decide +kernel
theorem dX9_heardBy_12 : decode cX9_heardBy 12 = .ok (.if_icmp .ge 87, 3) := by decide +kernel
theorem dX9_heardBy_15 : decode cX9_heardBy 15 = .ok (.aload_n 0, 1) := by decide +kernel
theorem dX9_heardBy_16 : decode cX9_heardBy 16 = .ok (.iload 6, 2) := by decide +kernel
theorem dX9_heardBy_18 : decode cX9_heardBy 18 = .ok (.iload_n 3, 1) := by decide +kernel
theorem dX9_heardBy_19 : decode cX9_heardBy 19 = .ok (.iadd, 1) := by decide +kernel
theorem dX9_heardBy_20 : decode cX9_heardBy 20 = .ok (.invokevirtual 172, 3) := by decide +kernel
theorem dX9_heardBy_23 : decode cX9_heardBy 23 = .ok (.ifCond .ne 29, 3) := by decide +kernel
theorem dX9_heardBy_26 : decode cX9_heardBy 26 = .ok (.aload_n 0, 1) := by decide +kernel
theorem dX9_heardBy_27 : decode cX9_heardBy 27 = .ok (.iload_n 2, 1) := by decide +kernel
theorem dX9_heardBy_28 : decode cX9_heardBy 28 = .ok (.iload 6, 2) := by decide +kernel
theorem dX9_heardBy_30 : decode cX9_heardBy 30 = .ok (.invokevirtual 145, 3) := by decide +kernel
theorem dX9_heardBy_33 : decode cX9_heardBy 33 = .ok (.ifCond .lt 19, 3) := by decide +kernel
theorem dX9_heardBy_36 : decode cX9_heardBy 36 = .ok (.aload_n 0, 1) := by decide +kernel
theorem dX9_heardBy_37 : decode cX9_heardBy 37 = .ok (.iload_n 1, 1) := by decide +kernel
theorem dX9_heardBy_38 : decode cX9_heardBy 38 = .ok (.iload 6, 2) := by decide +kernel
theorem dX9_heardBy_40 : decode cX9_heardBy 40 = .ok (.iload_n 3, 1) := by decide +kernel
theorem dX9_heardBy_41 : decode cX9_heardBy 41 = .ok (.iadd, 1) := by decide +kernel
theorem dX9_heardBy_42 : decode cX9_heardBy 42 = .ok (.invokevirtual 145, 3) := by decide +kernel
theorem dX9_heardBy_45 : decode cX9_heardBy 45 = .ok (.ifCond .lt 7, 3) := by decide +kernel
theorem dX9_heardBy_48 : decode cX9_heardBy 48 = .ok (.iconst 1, 1) := by decide +kernel
theorem dX9_heardBy_49 : decode cX9_heardBy 49 = .ok (.goto 4, 3) := by decide +kernel
theorem dX9_heardBy_52 : decode cX9_heardBy 52 = .ok (.iconst 0, 1) := by decide +kernel
theorem dX9_heardBy_53 : decode cX9_heardBy 53 = .ok (.istore 7, 2) := by decide +kernel
theorem dX9_heardBy_55 : decode cX9_heardBy 55 = .ok (.iload 5, 2) := by decide +kernel
theorem dX9_heardBy_57 : decode cX9_heardBy 57 = .ok (.iload 7, 2) := by decide +kernel
theorem dX9_heardBy_59 : decode cX9_heardBy 59 = .ok (.ifCond .eq 30, 3) := by decide +kernel
theorem dX9_heardBy_62 : decode cX9_heardBy 62 = .ok (.aload_n 0, 1) := by decide +kernel
theorem dX9_heardBy_63 : decode cX9_heardBy 63 = .ok (.iload_n 1, 1) := by decide +kernel
theorem dX9_heardBy_64 : decode cX9_heardBy 64 = .ok (.aload_n 0, 1) := by decide +kernel
theorem dX9_heardBy_65 : decode cX9_heardBy 65 = .ok (.iload_n 1, 1) := by decide +kernel
theorem dX9_heardBy_66 : decode cX9_heardBy 66 = .ok (.iload 6, 2) := by decide +kernel
theorem dX9_heardBy_68 : decode cX9_heardBy 68 = .ok (.iload_n 3, 1) := by decide +kernel
theorem dX9_heardBy_69 : decode cX9_heardBy 69 = .ok (.iadd, 1) := by decide +kernel
theorem dX9_heardBy_70 : decode cX9_heardBy 70 = .ok (.invokevirtual 145, 3) := by decide +kernel
theorem dX9_heardBy_73 : decode cX9_heardBy 73 = .ok (.aload_n 0, 1) := by decide +kernel
theorem dX9_heardBy_74 : decode cX9_heardBy 74 = .ok (.iload_n 2, 1) := by decide +kernel
theorem dX9_heardBy_75 : decode cX9_heardBy 75 = .ok (.iload 6, 2) := by decide +kernel
theorem dX9_heardBy_77 : decode cX9_heardBy 77 = .ok (.invokevirtual 145, 3) := by decide +kernel
theorem dX9_heardBy_80 : decode cX9_heardBy 80 = .ok (.iload 4, 2) := by decide +kernel
theorem dX9_heardBy_82 : decode cX9_heardBy 82 = .ok (.iadd, 1) := by decide +kernel
theorem dX9_heardBy_83 : decode cX9_heardBy 83 = .ok (.invokevirtual 180, 3) := by decide +kernel
theorem dX9_heardBy_86 : decode cX9_heardBy 86 = .ok (.goto 4, 3) := by decide +kernel
theorem dX9_heardBy_89 : decode cX9_heardBy 89 = .ok (.iconst 0, 1) := by decide +kernel
theorem dX9_heardBy_90 : decode cX9_heardBy 90 = .ok (.iadd, 1) := by decide +kernel
theorem dX9_heardBy_91 : decode cX9_heardBy 91 = .ok (.istore 5, 2) := by decide +kernel
theorem dX9_heardBy_93 : decode cX9_heardBy 93 = .ok (.iinc 6 1, 3) := by decide +kernel
theorem dX9_heardBy_96 : decode cX9_heardBy 96 = .ok (.goto (-90), 3) := by decide +kernel
theorem dX9_heardBy_99 : decode cX9_heardBy 99 = .ok (.iload 5, 2) := by decide +kernel
theorem dX9_heardBy_101 : decode cX9_heardBy 101 = .ok (.ireturn, 1) := by decide +kernel
theorem dX9_isShift_0 : decode cX9_isShift 0 = .ok (.iload_n 0, 1) := by decide +kernel
theorem dX9_isShift_1 : decode cX9_isShift 1 = .ok (.i2l, 1) := by decide +kernel
theorem dX9_isShift_2 : decode cX9_isShift 2 = .ok (.ldc2_w 184, 3) := by decide +kernel
theorem dX9_isShift_5 : decode cX9_isShift 5 = .ok (.ldc2_w 186, 3) := by decide +kernel
theorem dX9_isShift_8 : decode cX9_isShift 8 = .ok (.invokestatic 83, 3) := by decide +kernel
theorem dX9_isShift_11 : decode cX9_isShift 11 = .ok (.ireturn, 1) := by decide +kernel
theorem dX9_hears_0 : decode cX9_hears 0 = .ok (.aload_n 0, 1) := by decide +kernel
theorem dX9_hears_1 : decode cX9_hears 1 = .ok (.iload_n 1, 1) := by decide +kernel
theorem dX9_hears_2 : decode cX9_hears 2 = .ok (.invokevirtual 165, 3) := by decide +kernel
theorem dX9_hears_5 : decode cX9_hears 5 = .ok (.ifCond .ne 11, 3) := by decide +kernel
theorem dX9_hears_8 : decode cX9_hears 8 = .ok (.aload_n 0, 1) := by decide +kernel
theorem dX9_hears_9 : decode cX9_hears 9 = .ok (.iload_n 2, 1) := by decide +kernel
theorem dX9_hears_10 : decode cX9_hears 10 = .ok (.invokevirtual 165, 3) := by decide +kernel
theorem dX9_hears_13 : decode cX9_hears 13 = .ok (.ifCond .eq 5, 3) := by decide +kernel
theorem dX9_hears_16 : decode cX9_hears 16 = .ok (.iconst (-1), 1) := by decide +kernel
theorem dX9_hears_17 : decode cX9_hears 17 = .ok (.ireturn, 1) := by decide +kernel
theorem dX9_hears_18 : decode cX9_hears 18 = .ok (.iload_n 3, 1) := by decide +kernel
theorem dX9_hears_19 : decode cX9_hears 19 = .ok (.invokestatic 188, 3) := by decide +kernel
theorem dX9_hears_22 : decode cX9_hears 22 = .ok (.ifCond .eq 23, 3) := by decide +kernel
theorem dX9_hears_25 : decode cX9_hears 25 = .ok (.iload 4, 2) := by decide +kernel
theorem dX9_hears_27 : decode cX9_hears 27 = .ok (.invokestatic 188, 3) := by decide +kernel
theorem dX9_hears_30 : decode cX9_hears 30 = .ok (.ifCond .eq 15, 3) := by decide +kernel
theorem dX9_hears_33 : decode cX9_hears 33 = .ok (.aload_n 0, 1) := by decide +kernel
theorem dX9_hears_34 : decode cX9_hears 34 = .ok (.iload_n 1, 1) := by decide +kernel
theorem dX9_hears_35 : decode cX9_hears 35 = .ok (.iload_n 2, 1) := by decide +kernel
theorem dX9_hears_36 : decode cX9_hears 36 = .ok (.iload_n 3, 1) := by decide +kernel
theorem dX9_hears_37 : decode cX9_hears 37 = .ok (.iload 4, 2) := by decide +kernel
theorem dX9_hears_39 : decode cX9_hears 39 = .ok (.invokevirtual 191, 3) := by decide +kernel
theorem dX9_hears_42 : decode cX9_hears 42 = .ok (.goto 5, 3) := by decide +kernel
theorem dX9_hears_45 : decode cX9_hears 45 = .ok (.bipush (-2), 2) := by decide +kernel
theorem dX9_hears_47 : decode cX9_hears 47 = .ok (.ireturn, 1) := by decide +kernel
theorem dX9_sends_0 : decode cX9_sends 0 = .ok (.aload_n 0, 1) := by decide +kernel
theorem dX9_sends_1 : decode cX9_sends 1 = .ok (.getfield 139, 3) := by decide +kernel
theorem dX9_sends_4 : decode cX9_sends 4 = .ok (.bipush 8, 2) := by decide +kernel
theorem dX9_sends_6 : decode cX9_sends 6 = .ok (.if_icmp .ne 5, 3) := by decide +kernel
theorem dX9_sends_9 : decode cX9_sends 9 = .ok (.iconst 0, 1) := by decide +kernel
theorem dX9_sends_10 : decode cX9_sends 10 = .ok (.ireturn, 1) := by decide +kernel
theorem dX9_sends_11 : decode cX9_sends 11 = .ok (.aload_n 0, 1) := by decide +kernel
theorem dX9_sends_12 : decode cX9_sends 12 = .ok (.getfield 25, 3) := by decide +kernel
theorem dX9_sends_15 : decode cX9_sends 15 = .ok (.aload_n 0, 1) := by decide +kernel
theorem dX9_sends_16 : decode cX9_sends 16 = .ok (.getfield 139, 3) := by decide +kernel
theorem dX9_sends_19 : decode cX9_sends 19 = .ok (.iload_n 1, 1) := by decide +kernel
theorem dX9_sends_20 : decode cX9_sends 20 = .ok (.iastore, 1) := by decide +kernel
theorem dX9_sends_21 : decode cX9_sends 21 = .ok (.aload_n 0, 1) := by decide +kernel
theorem dX9_sends_22 : decode cX9_sends 22 = .ok (.getfield 28, 3) := by decide +kernel
theorem dX9_sends_25 : decode cX9_sends 25 = .ok (.aload_n 0, 1) := by decide +kernel
theorem dX9_sends_26 : decode cX9_sends 26 = .ok (.getfield 139, 3) := by decide +kernel
theorem dX9_sends_29 : decode cX9_sends 29 = .ok (.iload_n 2, 1) := by decide +kernel
theorem dX9_sends_30 : decode cX9_sends 30 = .ok (.iastore, 1) := by decide +kernel
theorem dX9_sends_31 : decode cX9_sends 31 = .ok (.aload_n 0, 1) := by decide +kernel
theorem dX9_sends_32 : decode cX9_sends 32 = .ok (.getfield 31, 3) := by decide +kernel
theorem dX9_sends_35 : decode cX9_sends 35 = .ok (.aload_n 0, 1) := by decide +kernel
theorem dX9_sends_36 : decode cX9_sends 36 = .ok (.getfield 139, 3) := by decide +kernel
theorem dX9_sends_39 : decode cX9_sends 39 = .ok (.iload_n 3, 1) := by decide +kernel
theorem dX9_sends_40 : decode cX9_sends 40 = .ok (.iastore, 1) := by decide +kernel
theorem dX9_sends_41 : decode cX9_sends 41 = .ok (.aload_n 0, 1) := by decide +kernel
theorem dX9_sends_42 : decode cX9_sends 42 = .ok (.dup, 1) := by decide +kernel
theorem dX9_sends_43 : decode cX9_sends 43 = .ok (.getfield 139, 3) := by decide +kernel
theorem dX9_sends_46 : decode cX9_sends 46 = .ok (.iconst 1, 1) := by decide +kernel
theorem dX9_sends_47 : decode cX9_sends 47 = .ok (.iadd, 1) := by decide +kernel
theorem dX9_sends_48 : decode cX9_sends 48 = .ok (.putfield 139, 3) := by decide +kernel
theorem dX9_sends_51 : decode cX9_sends 51 = .ok (.iconst 1, 1) := by decide +kernel
theorem dX9_sends_52 : decode cX9_sends 52 = .ok (.ireturn, 1) := by decide +kernel
theorem dX9_send_0 : decode cX9_send 0 = .ok (.aload_n 0, 1) := by decide +kernel
theorem dX9_send_1 : decode cX9_send 1 = .ok (.iload_n 1, 1) := by decide +kernel
theorem dX9_send_2 : decode cX9_send 2 = .ok (.invokevirtual 165, 3) := by decide +kernel
theorem dX9_send_5 : decode cX9_send 5 = .ok (.ifCond .eq 5, 3) := by decide +kernel
theorem dX9_send_8 : decode cX9_send 8 = .ok (.iconst (-1), 1) := by decide +kernel
theorem dX9_send_9 : decode cX9_send 9 = .ok (.ireturn, 1) := by decide +kernel
theorem dX9_send_10 : decode cX9_send 10 = .ok (.iload_n 2, 1) := by decide +kernel
theorem dX9_send_11 : decode cX9_send 11 = .ok (.i2l, 1) := by decide +kernel
theorem dX9_send_12 : decode cX9_send 12 = .ok (.lconst 0, 1) := by decide +kernel
theorem dX9_send_13 : decode cX9_send 13 = .ok (.ldc2_w 195, 3) := by decide +kernel
theorem dX9_send_16 : decode cX9_send 16 = .ok (.invokestatic 83, 3) := by decide +kernel
theorem dX9_send_19 : decode cX9_send 19 = .ok (.ifCond .eq 15, 3) := by decide +kernel
theorem dX9_send_22 : decode cX9_send 22 = .ok (.iload_n 3, 1) := by decide +kernel
theorem dX9_send_23 : decode cX9_send 23 = .ok (.i2l, 1) := by decide +kernel
theorem dX9_send_24 : decode cX9_send 24 = .ok (.lconst 0, 1) := by decide +kernel
theorem dX9_send_25 : decode cX9_send 25 = .ok (.ldc2_w 186, 3) := by decide +kernel
theorem dX9_send_28 : decode cX9_send 28 = .ok (.invokestatic 83, 3) := by decide +kernel
theorem dX9_send_31 : decode cX9_send 31 = .ok (.ifCond .ne 6, 3) := by decide +kernel
theorem dX9_send_34 : decode cX9_send 34 = .ok (.bipush (-2), 2) := by decide +kernel
theorem dX9_send_36 : decode cX9_send 36 = .ok (.ireturn, 1) := by decide +kernel
theorem dX9_send_37 : decode cX9_send 37 = .ok (.aload_n 0, 1) := by decide +kernel
theorem dX9_send_38 : decode cX9_send 38 = .ok (.iload_n 1, 1) := by decide +kernel
theorem dX9_send_39 : decode cX9_send 39 = .ok (.iload_n 2, 1) := by decide +kernel
theorem dX9_send_40 : decode cX9_send 40 = .ok (.iload_n 3, 1) := by decide +kernel
theorem dX9_send_41 : decode cX9_send 41 = .ok (.invokevirtual 197, 3) := by decide +kernel
theorem dX9_send_44 : decode cX9_send 44 = .ok (.ifCond .eq 12, 3) := by decide +kernel
theorem dX9_send_47 : decode cX9_send 47 = .ok (.aload_n 0, 1) := by decide +kernel
theorem dX9_send_48 : decode cX9_send 48 = .ok (.getfield 139, 3) := by decide +kernel
theorem dX9_send_51 : decode cX9_send 51 = .ok (.iconst 1, 1) := by decide +kernel
theorem dX9_send_52 : decode cX9_send 52 = .ok (.isub, 1) := by decide +kernel
theorem dX9_send_53 : decode cX9_send 53 = .ok (.goto 5, 3) := by decide +kernel
theorem dX9_send_56 : decode cX9_send 56 = .ok (.bipush (-4), 2) := by decide +kernel
theorem dX9_send_58 : decode cX9_send 58 = .ok (.ireturn, 1) := by decide +kernel
theorem dX9_unsend_0 : decode cX9_unsend 0 = .ok (.iload_n 1, 1) := by decide +kernel
theorem dX9_unsend_1 : decode cX9_unsend 1 = .ok (.i2l, 1) := by decide +kernel
theorem dX9_unsend_2 : decode cX9_unsend 2 = .ok (.lconst 0, 1) := by decide +kernel
theorem dX9_unsend_3 : decode cX9_unsend 3 = .ok (.aload_n 0, 1) := by decide +kernel
theorem dX9_unsend_4 : decode cX9_unsend 4 = .ok (.getfield 139, 3) := by decide +kernel
theorem dX9_unsend_7 : decode cX9_unsend 7 = .ok (.i2l, 1) := by decide +kernel
theorem dX9_unsend_8 : decode cX9_unsend 8 = .ok (.invokestatic 83, 3) := by decide +kernel
theorem dX9_unsend_11 : decode cX9_unsend 11 = .ok (.ifCond .ne 6, 3) := by decide +kernel
theorem dX9_unsend_14 : decode cX9_unsend 14 = .ok (.bipush (-2), 2) := by decide +kernel
theorem dX9_unsend_16 : decode cX9_unsend 16 = .ok (.ireturn, 1) := by decide +kernel
theorem dX9_unsend_17 : decode cX9_unsend 17 = .ok (.aload_n 0, 1) := by decide +kernel
theorem dX9_unsend_18 : decode cX9_unsend 18 = .ok (.dup, 1) := by decide +kernel
theorem dX9_unsend_19 : decode cX9_unsend 19 = .ok (.getfield 139, 3) := by decide +kernel
theorem dX9_unsend_22 : decode cX9_unsend 22 = .ok (.iload_n 1, 1) := by decide +kernel
theorem dX9_unsend_23 : decode cX9_unsend 23 = .ok (.isub, 1) := by decide +kernel
theorem dX9_unsend_24 : decode cX9_unsend 24 = .ok (.putfield 139, 3) := by decide +kernel
theorem dX9_unsend_27 : decode cX9_unsend 27 = .ok (.aload_n 0, 1) := by decide +kernel
theorem dX9_unsend_28 : decode cX9_unsend 28 = .ok (.getfield 139, 3) := by decide +kernel
theorem dX9_unsend_31 : decode cX9_unsend 31 = .ok (.ireturn, 1) := by decide +kernel
theorem dX9_isMoment_0 : decode cX9_isMoment 0 = .ok (.iload_n 0, 1) := by decide +kernel
theorem dX9_isMoment_1 : decode cX9_isMoment 1 = .ok (.i2l, 1) := by decide +kernel
theorem dX9_isMoment_2 : decode cX9_isMoment 2 = .ok (.lconst 0, 1) := by decide +kernel
theorem dX9_isMoment_3 : decode cX9_isMoment 3 = .ok (.ldc2_w 200, 3) := by decide +kernel
theorem dX9_isMoment_6 : decode cX9_isMoment 6 = .ok (.invokestatic 83, 3) := by decide +kernel
theorem dX9_isMoment_9 : decode cX9_isMoment 9 = .ok (.ireturn, 1) := by decide +kernel
theorem dX9_airOf_0 : decode cX9_airOf 0 = .ok (.iconst 0, 1) := by decide +kernel
theorem dX9_airOf_1 : decode cX9_airOf 1 = .ok (.istore_n 2, 1) := by decide +kernel
theorem dX9_airOf_2 : decode cX9_airOf 2 = .ok (.iconst 0, 1) := by decide +kernel
theorem dX9_airOf_3 : decode cX9_airOf 3 = .ok (.istore_n 3, 1) := by decide +kernel
theorem dX9_airOf_4 : decode cX9_airOf 4 = .ok (.iload_n 3, 1) := by decide +kernel
theorem dX9_airOf_5 : decode cX9_airOf 5 = .ok (.aload_n 0, 1) := by decide +kernel
theorem dX9_airOf_6 : decode cX9_airOf 6 = .ok (.getfield 139, 3) := by decide +kernel
theorem dX9_airOf_9 : decode cX9_airOf 9 = .ok (.if_icmp .ge 71, 3) := by decide +kernel
theorem dX9_airOf_12 : decode cX9_airOf 12 = .ok (.iload_n 1, 1) := by decide +kernel
theorem dX9_airOf_13 : decode cX9_airOf 13 = .ok (.aload_n 0, 1) := by decide +kernel
theorem dX9_airOf_14 : decode cX9_airOf 14 = .ok (.getfield 28, 3) := by decide +kernel
theorem dX9_airOf_17 : decode cX9_airOf 17 = .ok (.iload_n 3, 1) := by decide +kernel
theorem dX9_airOf_18 : decode cX9_airOf 18 = .ok (.iaload, 1) := by decide +kernel
theorem dX9_airOf_19 : decode cX9_airOf 19 = .ok (.isub, 1) := by decide +kernel
theorem dX9_airOf_20 : decode cX9_airOf 20 = .ok (.istore 4, 2) := by decide +kernel
theorem dX9_airOf_22 : decode cX9_airOf 22 = .ok (.iload_n 2, 1) := by decide +kernel
theorem dX9_airOf_23 : decode cX9_airOf 23 = .ok (.aload_n 0, 1) := by decide +kernel
theorem dX9_airOf_24 : decode cX9_airOf 24 = .ok (.iload 4, 2) := by decide +kernel
theorem dX9_airOf_26 : decode cX9_airOf 26 = .ok (.invokevirtual 172, 3) := by decide +kernel
theorem dX9_airOf_29 : decode cX9_airOf 29 = .ok (.ifCond .ne 42, 3) := by decide +kernel
theorem dX9_airOf_32 : decode cX9_airOf 32 = .ok (.aload_n 0, 1) := by decide +kernel
theorem dX9_airOf_33 : decode cX9_airOf 33 = .ok (.aload_n 0, 1) := by decide +kernel
theorem dX9_airOf_34 : decode cX9_airOf 34 = .ok (.getfield 25, 3) := by decide +kernel
theorem dX9_airOf_37 : decode cX9_airOf 37 = .ok (.iload_n 3, 1) := by decide +kernel
theorem dX9_airOf_38 : decode cX9_airOf 38 = .ok (.iaload, 1) := by decide +kernel
theorem dX9_airOf_39 : decode cX9_airOf 39 = .ok (.iload 4, 2) := by decide +kernel
theorem dX9_airOf_41 : decode cX9_airOf 41 = .ok (.invokevirtual 145, 3) := by decide +kernel
theorem dX9_airOf_44 : decode cX9_airOf 44 = .ok (.ifCond .lt 27, 3) := by decide +kernel
theorem dX9_airOf_47 : decode cX9_airOf 47 = .ok (.iconst 1, 1) := by decide +kernel
theorem dX9_airOf_48 : decode cX9_airOf 48 = .ok (.aload_n 0, 1) := by decide +kernel
theorem dX9_airOf_49 : decode cX9_airOf 49 = .ok (.aload_n 0, 1) := by decide +kernel
theorem dX9_airOf_50 : decode cX9_airOf 50 = .ok (.getfield 25, 3) := by decide +kernel
theorem dX9_airOf_53 : decode cX9_airOf 53 = .ok (.iload_n 3, 1) := by decide +kernel
theorem dX9_airOf_54 : decode cX9_airOf 54 = .ok (.iaload, 1) := by decide +kernel
theorem dX9_airOf_55 : decode cX9_airOf 55 = .ok (.iload 4, 2) := by decide +kernel
theorem dX9_airOf_57 : decode cX9_airOf 57 = .ok (.invokevirtual 145, 3) := by decide +kernel
theorem dX9_airOf_60 : decode cX9_airOf 60 = .ok (.aload_n 0, 1) := by decide +kernel
theorem dX9_airOf_61 : decode cX9_airOf 61 = .ok (.getfield 31, 3) := by decide +kernel
theorem dX9_airOf_64 : decode cX9_airOf 64 = .ok (.iload_n 3, 1) := by decide +kernel
theorem dX9_airOf_65 : decode cX9_airOf 65 = .ok (.iaload, 1) := by decide +kernel
theorem dX9_airOf_66 : decode cX9_airOf 66 = .ok (.iadd, 1) := by decide +kernel
theorem dX9_airOf_67 : decode cX9_airOf 67 = .ok (.ishl, 1) := by decide +kernel
theorem dX9_airOf_68 : decode cX9_airOf 68 = .ok (.goto 4, 3) := by decide +kernel
theorem dX9_airOf_71 : decode cX9_airOf 71 = .ok (.iconst 0, 1) := by decide +kernel
theorem dX9_airOf_72 : decode cX9_airOf 72 = .ok (.ior, 1) := by decide +kernel
theorem dX9_airOf_73 : decode cX9_airOf 73 = .ok (.istore_n 2, 1) := by decide +kernel
theorem dX9_airOf_74 : decode cX9_airOf 74 = .ok (.iinc 3 1, 3) := by decide +kernel
theorem dX9_airOf_77 : decode cX9_airOf 77 = .ok (.goto (-73), 3) := by decide +kernel
theorem dX9_airOf_80 : decode cX9_airOf 80 = .ok (.iload_n 2, 1) := by decide +kernel
theorem dX9_airOf_81 : decode cX9_airOf 81 = .ok (.ireturn, 1) := by decide +kernel
theorem dX9_air_0 : decode cX9_air 0 = .ok (.iload_n 1, 1) := by decide +kernel
theorem dX9_air_1 : decode cX9_air 1 = .ok (.invokestatic 202, 3) := by decide +kernel
theorem dX9_air_4 : decode cX9_air 4 = .ok (.ifCond .ne 6, 3) := by decide +kernel
theorem dX9_air_7 : decode cX9_air 7 = .ok (.bipush (-2), 2) := by decide +kernel
theorem dX9_air_9 : decode cX9_air 9 = .ok (.ireturn, 1) := by decide +kernel
theorem dX9_air_10 : decode cX9_air 10 = .ok (.aload_n 0, 1) := by decide +kernel
theorem dX9_air_11 : decode cX9_air 11 = .ok (.getfield 80, 3) := by decide +kernel
theorem dX9_air_14 : decode cX9_air 14 = .ok (.ifCond .ne 8, 3) := by decide +kernel
theorem dX9_air_17 : decode cX9_air 17 = .ok (.bipush (-3), 2) := by decide +kernel
theorem dX9_air_19 : decode cX9_air 19 = .ok (.goto 8, 3) := by decide +kernel
theorem dX9_air_22 : decode cX9_air 22 = .ok (.aload_n 0, 1) := by decide +kernel
theorem dX9_air_23 : decode cX9_air 23 = .ok (.iload_n 1, 1) := by decide +kernel
theorem dX9_air_24 : decode cX9_air 24 = .ok (.invokevirtual 205, 3) := by decide +kernel
theorem dX9_air_27 : decode cX9_air 27 = .ok (.ireturn, 1) := by decide +kernel
theorem dX9_countsOfAll_0 : decode cX9_countsOfAll 0 = .ok (.iconst 0, 1) := by decide +kernel
theorem dX9_countsOfAll_1 : decode cX9_countsOfAll 1 = .ok (.istore 4, 2) := by decide +kernel
theorem dX9_countsOfAll_3 : decode cX9_countsOfAll 3 = .ok (.iconst 0, 1) := by decide +kernel
theorem dX9_countsOfAll_4 : decode cX9_countsOfAll 4 = .ok (.istore 5, 2) := by decide +kernel
theorem dX9_countsOfAll_6 : decode cX9_countsOfAll 6 = .ok (.iload 5, 2) := by decide +kernel
theorem dX9_countsOfAll_8 : decode cX9_countsOfAll 8 = .ok (.bipush 12, 2) := by decide +kernel
theorem dX9_countsOfAll_10 : decode cX9_countsOfAll 10 = .ok (.if_icmp .ge 49, 3) := by decide +kernel
theorem dX9_countsOfAll_13 : decode cX9_countsOfAll 13 = .ok (.iload_n 3, 1) := by decide +kernel
theorem dX9_countsOfAll_14 : decode cX9_countsOfAll 14 = .ok (.iload 5, 2) := by decide +kernel
theorem dX9_countsOfAll_16 : decode cX9_countsOfAll 16 = .ok (.ishr, 1) := by decide +kernel
theorem dX9_countsOfAll_17 : decode cX9_countsOfAll 17 = .ok (.iconst 1, 1) := by decide +kernel
theorem dX9_countsOfAll_18 : decode cX9_countsOfAll 18 = .ok (.iand, 1) := by decide +kernel
theorem dX9_countsOfAll_19 : decode cX9_countsOfAll 19 = .ok (.iconst 1, 1) := by decide +kernel
theorem dX9_countsOfAll_20 : decode cX9_countsOfAll 20 = .ok (.if_icmp .ne 14, 3) := by decide +kernel
theorem dX9_countsOfAll_23 : decode cX9_countsOfAll 23 = .ok (.aload_n 0, 1) := by decide +kernel
theorem dX9_countsOfAll_24 : decode cX9_countsOfAll 24 = .ok (.iload_n 1, 1) := by decide +kernel
theorem dX9_countsOfAll_25 : decode cX9_countsOfAll 25 = .ok (.iload_n 2, 1) := by decide +kernel
theorem dX9_countsOfAll_26 : decode cX9_countsOfAll 26 = .ok (.iload 5, 2) := by decide +kernel
theorem dX9_countsOfAll_28 : decode cX9_countsOfAll 28 = .ok (.invokevirtual 180, 3) := by decide +kernel
theorem dX9_countsOfAll_31 : decode cX9_countsOfAll 31 = .ok (.goto 4, 3) := by decide +kernel
theorem dX9_countsOfAll_34 : decode cX9_countsOfAll 34 = .ok (.iconst 0, 1) := by decide +kernel
theorem dX9_countsOfAll_35 : decode cX9_countsOfAll 35 = .ok (.istore 6, 2) := by decide +kernel
theorem dX9_countsOfAll_37 : decode cX9_countsOfAll 37 = .ok (.iload 6, 2) := by decide +kernel
theorem dX9_countsOfAll_39 : decode cX9_countsOfAll 39 = .ok (.iload 4, 2) := by decide +kernel
theorem dX9_countsOfAll_41 : decode cX9_countsOfAll 41 = .ok (.if_icmp .le 8, 3) := by decide +kernel
theorem dX9_countsOfAll_44 : decode cX9_countsOfAll 44 = .ok (.iload 6, 2) := by decide +kernel
theorem dX9_countsOfAll_46 : decode cX9_countsOfAll 46 = .ok (.goto 5, 3) := by decide +kernel
theorem dX9_countsOfAll_49 : decode cX9_countsOfAll 49 = .ok (.iload 4, 2) := by decide +kernel
theorem dX9_countsOfAll_51 : decode cX9_countsOfAll 51 = .ok (.istore 4, 2) := by decide +kernel
theorem dX9_countsOfAll_53 : decode cX9_countsOfAll 53 = .ok (.iinc 5 1, 3) := by decide +kernel
theorem dX9_countsOfAll_56 : decode cX9_countsOfAll 56 = .ok (.goto (-50), 3) := by decide +kernel
theorem dX9_countsOfAll_59 : decode cX9_countsOfAll 59 = .ok (.iload 4, 2) := by decide +kernel
theorem dX9_countsOfAll_61 : decode cX9_countsOfAll 61 = .ok (.ireturn, 1) := by decide +kernel
theorem dX9_listensTo_0 : decode cX9_listensTo 0 = .ok (.iconst 0, 1) := by decide +kernel
theorem dX9_listensTo_1 : decode cX9_listensTo 1 = .ok (.istore_n 3, 1) := by decide +kernel
theorem dX9_listensTo_2 : decode cX9_listensTo 2 = .ok (.iconst 0, 1) := by decide +kernel
theorem dX9_listensTo_3 : decode cX9_listensTo 3 = .ok (.istore 4, 2) := by decide +kernel
theorem dX9_listensTo_5 : decode cX9_listensTo 5 = .ok (.iload 4, 2) := by decide +kernel
theorem dX9_listensTo_7 : decode cX9_listensTo 7 = .ok (.aload_n 0, 1) := by decide +kernel
theorem dX9_listensTo_8 : decode cX9_listensTo 8 = .ok (.getfield 87, 3) := by decide +kernel
theorem dX9_listensTo_11 : decode cX9_listensTo 11 = .ok (.if_icmp .ge 56, 3) := by decide +kernel
theorem dX9_listensTo_14 : decode cX9_listensTo 14 = .ok (.iload_n 3, 1) := by decide +kernel
theorem dX9_listensTo_15 : decode cX9_listensTo 15 = .ok (.aload_n 0, 1) := by decide +kernel
theorem dX9_listensTo_16 : decode cX9_listensTo 16 = .ok (.iload_n 1, 1) := by decide +kernel
theorem dX9_listensTo_17 : decode cX9_listensTo 17 = .ok (.iload 4, 2) := by decide +kernel
theorem dX9_listensTo_19 : decode cX9_listensTo 19 = .ok (.invokevirtual 145, 3) := by decide +kernel
theorem dX9_listensTo_22 : decode cX9_listensTo 22 = .ok (.ifCond .lt 13, 3) := by decide +kernel
theorem dX9_listensTo_25 : decode cX9_listensTo 25 = .ok (.iload_n 2, 1) := by decide +kernel
theorem dX9_listensTo_26 : decode cX9_listensTo 26 = .ok (.iload 4, 2) := by decide +kernel
theorem dX9_listensTo_28 : decode cX9_listensTo 28 = .ok (.iadd, 1) := by decide +kernel
theorem dX9_listensTo_29 : decode cX9_listensTo 29 = .ok (.invokestatic 202, 3) := by decide +kernel
theorem dX9_listensTo_32 : decode cX9_listensTo 32 = .ok (.ifCond .ne 7, 3) := by decide +kernel
theorem dX9_listensTo_35 : decode cX9_listensTo 35 = .ok (.iconst 0, 1) := by decide +kernel
theorem dX9_listensTo_36 : decode cX9_listensTo 36 = .ok (.goto 23, 3) := by decide +kernel
theorem dX9_listensTo_39 : decode cX9_listensTo 39 = .ok (.aload_n 0, 1) := by decide +kernel
theorem dX9_listensTo_40 : decode cX9_listensTo 40 = .ok (.iload_n 1, 1) := by decide +kernel
theorem dX9_listensTo_41 : decode cX9_listensTo 41 = .ok (.aload_n 0, 1) := by decide +kernel
theorem dX9_listensTo_42 : decode cX9_listensTo 42 = .ok (.iload_n 1, 1) := by decide +kernel
theorem dX9_listensTo_43 : decode cX9_listensTo 43 = .ok (.iload 4, 2) := by decide +kernel
theorem dX9_listensTo_45 : decode cX9_listensTo 45 = .ok (.invokevirtual 145, 3) := by decide +kernel
theorem dX9_listensTo_48 : decode cX9_listensTo 48 = .ok (.aload_n 0, 1) := by decide +kernel
theorem dX9_listensTo_49 : decode cX9_listensTo 49 = .ok (.iload_n 2, 1) := by decide +kernel
theorem dX9_listensTo_50 : decode cX9_listensTo 50 = .ok (.iload 4, 2) := by decide +kernel
theorem dX9_listensTo_52 : decode cX9_listensTo 52 = .ok (.iadd, 1) := by decide +kernel
theorem dX9_listensTo_53 : decode cX9_listensTo 53 = .ok (.invokevirtual 205, 3) := by decide +kernel
theorem dX9_listensTo_56 : decode cX9_listensTo 56 = .ok (.invokevirtual 208, 3) := by decide +kernel
theorem dX9_listensTo_59 : decode cX9_listensTo 59 = .ok (.iadd, 1) := by decide +kernel
theorem dX9_listensTo_60 : decode cX9_listensTo 60 = .ok (.istore_n 3, 1) := by decide +kernel
theorem dX9_listensTo_61 : decode cX9_listensTo 61 = .ok (.iinc 4 1, 3) := by decide +kernel
theorem dX9_listensTo_64 : decode cX9_listensTo 64 = .ok (.goto (-59), 3) := by decide +kernel
theorem dX9_listensTo_67 : decode cX9_listensTo 67 = .ok (.iload_n 3, 1) := by decide +kernel
theorem dX9_listensTo_68 : decode cX9_listensTo 68 = .ok (.ireturn, 1) := by decide +kernel
theorem dX9_listen_0 : decode cX9_listen 0 = .ok (.aload_n 0, 1) := by decide +kernel
theorem dX9_listen_1 : decode cX9_listen 1 = .ok (.iload_n 1, 1) := by decide +kernel
theorem dX9_listen_2 : decode cX9_listen 2 = .ok (.invokevirtual 165, 3) := by decide +kernel
theorem dX9_listen_5 : decode cX9_listen 5 = .ok (.ifCond .eq 5, 3) := by decide +kernel
theorem dX9_listen_8 : decode cX9_listen 8 = .ok (.iconst (-1), 1) := by decide +kernel
theorem dX9_listen_9 : decode cX9_listen 9 = .ok (.ireturn, 1) := by decide +kernel
theorem dX9_listen_10 : decode cX9_listen 10 = .ok (.iload_n 2, 1) := by decide +kernel
theorem dX9_listen_11 : decode cX9_listen 11 = .ok (.invokestatic 202, 3) := by decide +kernel
theorem dX9_listen_14 : decode cX9_listen 14 = .ok (.ifCond .eq 12, 3) := by decide +kernel
theorem dX9_listen_17 : decode cX9_listen 17 = .ok (.aload_n 0, 1) := by decide +kernel
theorem dX9_listen_18 : decode cX9_listen 18 = .ok (.iload_n 1, 1) := by decide +kernel
theorem dX9_listen_19 : decode cX9_listen 19 = .ok (.iload_n 2, 1) := by decide +kernel
theorem dX9_listen_20 : decode cX9_listen 20 = .ok (.invokevirtual 211, 3) := by decide +kernel
theorem dX9_listen_23 : decode cX9_listen 23 = .ok (.goto 5, 3) := by decide +kernel
theorem dX9_listen_26 : decode cX9_listen 26 = .ok (.bipush (-2), 2) := by decide +kernel
theorem dX9_listen_28 : decode cX9_listen 28 = .ok (.ireturn, 1) := by decide +kernel
theorem dX9_loudestOf_0 : decode cX9_loudestOf 0 = .ok (.iconst 0, 1) := by decide +kernel
theorem dX9_loudestOf_1 : decode cX9_loudestOf 1 = .ok (.istore_n 2, 1) := by decide +kernel
theorem dX9_loudestOf_2 : decode cX9_loudestOf 2 = .ok (.iconst 1, 1) := by decide +kernel
theorem dX9_loudestOf_3 : decode cX9_loudestOf 3 = .ok (.istore_n 3, 1) := by decide +kernel
theorem dX9_loudestOf_4 : decode cX9_loudestOf 4 = .ok (.iload_n 3, 1) := by decide +kernel
theorem dX9_loudestOf_5 : decode cX9_loudestOf 5 = .ok (.bipush 26, 2) := by decide +kernel
theorem dX9_loudestOf_7 : decode cX9_loudestOf 7 = .ok (.if_icmp .ge 30, 3) := by decide +kernel
theorem dX9_loudestOf_10 : decode cX9_loudestOf 10 = .ok (.aload_n 0, 1) := by decide +kernel
theorem dX9_loudestOf_11 : decode cX9_loudestOf 11 = .ok (.iload_n 1, 1) := by decide +kernel
theorem dX9_loudestOf_12 : decode cX9_loudestOf 12 = .ok (.iload_n 3, 1) := by decide +kernel
theorem dX9_loudestOf_13 : decode cX9_loudestOf 13 = .ok (.invokevirtual 211, 3) := by decide +kernel
theorem dX9_loudestOf_16 : decode cX9_loudestOf 16 = .ok (.aload_n 0, 1) := by decide +kernel
theorem dX9_loudestOf_17 : decode cX9_loudestOf 17 = .ok (.iload_n 1, 1) := by decide +kernel
theorem dX9_loudestOf_18 : decode cX9_loudestOf 18 = .ok (.iload_n 2, 1) := by decide +kernel
theorem dX9_loudestOf_19 : decode cX9_loudestOf 19 = .ok (.invokevirtual 211, 3) := by decide +kernel
theorem dX9_loudestOf_22 : decode cX9_loudestOf 22 = .ok (.if_icmp .le 7, 3) := by decide +kernel
theorem dX9_loudestOf_25 : decode cX9_loudestOf 25 = .ok (.iload_n 3, 1) := by decide +kernel
theorem dX9_loudestOf_26 : decode cX9_loudestOf 26 = .ok (.goto 4, 3) := by decide +kernel
theorem dX9_loudestOf_29 : decode cX9_loudestOf 29 = .ok (.iload_n 2, 1) := by decide +kernel
theorem dX9_loudestOf_30 : decode cX9_loudestOf 30 = .ok (.istore_n 2, 1) := by decide +kernel
theorem dX9_loudestOf_31 : decode cX9_loudestOf 31 = .ok (.iinc 3 1, 3) := by decide +kernel
theorem dX9_loudestOf_34 : decode cX9_loudestOf 34 = .ok (.goto (-30), 3) := by decide +kernel
theorem dX9_loudestOf_37 : decode cX9_loudestOf 37 = .ok (.iload_n 2, 1) := by decide +kernel
theorem dX9_loudestOf_38 : decode cX9_loudestOf 38 = .ok (.ireturn, 1) := by decide +kernel
theorem dX9_loudest_0 : decode cX9_loudest 0 = .ok (.aload_n 0, 1) := by decide +kernel
theorem dX9_loudest_1 : decode cX9_loudest 1 = .ok (.iload_n 1, 1) := by decide +kernel
theorem dX9_loudest_2 : decode cX9_loudest 2 = .ok (.invokevirtual 165, 3) := by decide +kernel
theorem dX9_loudest_5 : decode cX9_loudest 5 = .ok (.ifCond .eq 5, 3) := by decide +kernel
theorem dX9_loudest_8 : decode cX9_loudest 8 = .ok (.iconst (-1), 1) := by decide +kernel
theorem dX9_loudest_9 : decode cX9_loudest 9 = .ok (.ireturn, 1) := by decide +kernel
theorem dX9_loudest_10 : decode cX9_loudest 10 = .ok (.iload_n 2, 1) := by decide +kernel
theorem dX9_loudest_11 : decode cX9_loudest 11 = .ok (.i2l, 1) := by decide +kernel
theorem dX9_loudest_12 : decode cX9_loudest 12 = .ok (.lconst 0, 1) := by decide +kernel
theorem dX9_loudest_13 : decode cX9_loudest 13 = .ok (.lconst 1, 1) := by decide +kernel
theorem dX9_loudest_14 : decode cX9_loudest 14 = .ok (.invokestatic 83, 3) := by decide +kernel
theorem dX9_loudest_17 : decode cX9_loudest 17 = .ok (.ifCond .ne 6, 3) := by decide +kernel
theorem dX9_loudest_20 : decode cX9_loudest 20 = .ok (.bipush (-2), 2) := by decide +kernel
theorem dX9_loudest_22 : decode cX9_loudest 22 = .ok (.ireturn, 1) := by decide +kernel
theorem dX9_loudest_23 : decode cX9_loudest 23 = .ok (.aload_n 0, 1) := by decide +kernel
theorem dX9_loudest_24 : decode cX9_loudest 24 = .ok (.iload_n 1, 1) := by decide +kernel
theorem dX9_loudest_25 : decode cX9_loudest 25 = .ok (.invokevirtual 214, 3) := by decide +kernel
theorem dX9_loudest_28 : decode cX9_loudest 28 = .ok (.istore_n 3, 1) := by decide +kernel
theorem dX9_loudest_29 : decode cX9_loudest 29 = .ok (.iload_n 2, 1) := by decide +kernel
theorem dX9_loudest_30 : decode cX9_loudest 30 = .ok (.ifCond .ne 7, 3) := by decide +kernel
theorem dX9_loudest_33 : decode cX9_loudest 33 = .ok (.iload_n 3, 1) := by decide +kernel
theorem dX9_loudest_34 : decode cX9_loudest 34 = .ok (.goto 9, 3) := by decide +kernel
theorem dX9_loudest_37 : decode cX9_loudest 37 = .ok (.aload_n 0, 1) := by decide +kernel
theorem dX9_loudest_38 : decode cX9_loudest 38 = .ok (.iload_n 1, 1) := by decide +kernel
theorem dX9_loudest_39 : decode cX9_loudest 39 = .ok (.iload_n 3, 1) := by decide +kernel
theorem dX9_loudest_40 : decode cX9_loudest 40 = .ok (.invokevirtual 211, 3) := by decide +kernel
theorem dX9_loudest_43 : decode cX9_loudest 43 = .ok (.ireturn, 1) := by decide +kernel
theorem dX9_isAsTold_0 : decode cX9_isAsTold 0 = .ok (.iload_n 1, 1) := by decide +kernel
theorem dX9_isAsTold_1 : decode cX9_isAsTold 1 = .ok (.bipush 9, 2) := by decide +kernel
theorem dX9_isAsTold_3 : decode cX9_isAsTold 3 = .ok (.if_icmp .ne 15, 3) := by decide +kernel
theorem dX9_isAsTold_6 : decode cX9_isAsTold 6 = .ok (.iload_n 0, 1) := by decide +kernel
theorem dX9_isAsTold_7 : decode cX9_isAsTold 7 = .ok (.i2l, 1) := by decide +kernel
theorem dX9_isAsTold_8 : decode cX9_isAsTold 8 = .ok (.lconst 0, 1) := by decide +kernel
theorem dX9_isAsTold_9 : decode cX9_isAsTold 9 = .ok (.ldc2_w 217, 3) := by decide +kernel
theorem dX9_isAsTold_12 : decode cX9_isAsTold 12 = .ok (.invokestatic 83, 3) := by decide +kernel
theorem dX9_isAsTold_15 : decode cX9_isAsTold 15 = .ok (.goto 32, 3) := by decide +kernel
theorem dX9_isAsTold_18 : decode cX9_isAsTold 18 = .ok (.iload_n 1, 1) := by decide +kernel
theorem dX9_isAsTold_19 : decode cX9_isAsTold 19 = .ok (.i2l, 1) := by decide +kernel
theorem dX9_isAsTold_20 : decode cX9_isAsTold 20 = .ok (.lconst 0, 1) := by decide +kernel
theorem dX9_isAsTold_21 : decode cX9_isAsTold 21 = .ok (.ldc2_w 219, 3) := by decide +kernel
theorem dX9_isAsTold_24 : decode cX9_isAsTold 24 = .ok (.invokestatic 83, 3) := by decide +kernel
theorem dX9_isAsTold_27 : decode cX9_isAsTold 27 = .ok (.ifCond .eq 19, 3) := by decide +kernel
theorem dX9_isAsTold_30 : decode cX9_isAsTold 30 = .ok (.iload_n 0, 1) := by decide +kernel
theorem dX9_isAsTold_31 : decode cX9_isAsTold 31 = .ok (.i2l, 1) := by decide +kernel
theorem dX9_isAsTold_32 : decode cX9_isAsTold 32 = .ok (.lconst 0, 1) := by decide +kernel
theorem dX9_isAsTold_33 : decode cX9_isAsTold 33 = .ok (.ldc2_w 195, 3) := by decide +kernel
theorem dX9_isAsTold_36 : decode cX9_isAsTold 36 = .ok (.invokestatic 83, 3) := by decide +kernel
theorem dX9_isAsTold_39 : decode cX9_isAsTold 39 = .ok (.ifCond .eq 7, 3) := by decide +kernel
theorem dX9_isAsTold_42 : decode cX9_isAsTold 42 = .ok (.iconst 1, 1) := by decide +kernel
theorem dX9_isAsTold_43 : decode cX9_isAsTold 43 = .ok (.goto 4, 3) := by decide +kernel
theorem dX9_isAsTold_46 : decode cX9_isAsTold 46 = .ok (.iconst 0, 1) := by decide +kernel
theorem dX9_isAsTold_47 : decode cX9_isAsTold 47 = .ok (.ireturn, 1) := by decide +kernel
theorem dX9_doesPair_0 : decode cX9_doesPair 0 = .ok (.iload_n 2, 1) := by decide +kernel
theorem dX9_doesPair_1 : decode cX9_doesPair 1 = .ok (.bipush 9, 2) := by decide +kernel
theorem dX9_doesPair_3 : decode cX9_doesPair 3 = .ok (.if_icmp .ne 37, 3) := by decide +kernel
theorem dX9_doesPair_6 : decode cX9_doesPair 6 = .ok (.iload_n 1, 1) := by decide +kernel
theorem dX9_doesPair_7 : decode cX9_doesPair 7 = .ok (.aload_n 0, 1) := by decide +kernel
theorem dX9_doesPair_8 : decode cX9_doesPair 8 = .ok (.getfield 139, 3) := by decide +kernel
theorem dX9_doesPair_11 : decode cX9_doesPair 11 = .ok (.if_icmp .gt 7, 3) := by decide +kernel
theorem dX9_doesPair_14 : decode cX9_doesPair 14 = .ok (.iconst 1, 1) := by decide +kernel
theorem dX9_doesPair_15 : decode cX9_doesPair 15 = .ok (.goto 4, 3) := by decide +kernel
theorem dX9_doesPair_18 : decode cX9_doesPair 18 = .ok (.iconst 0, 1) := by decide +kernel
theorem dX9_doesPair_19 : decode cX9_doesPair 19 = .ok (.istore_n 3, 1) := by decide +kernel
theorem dX9_doesPair_20 : decode cX9_doesPair 20 = .ok (.aload_n 0, 1) := by decide +kernel
theorem dX9_doesPair_21 : decode cX9_doesPair 21 = .ok (.dup, 1) := by decide +kernel
theorem dX9_doesPair_22 : decode cX9_doesPair 22 = .ok (.getfield 139, 3) := by decide +kernel
theorem dX9_doesPair_25 : decode cX9_doesPair 25 = .ok (.iload_n 3, 1) := by decide +kernel
theorem dX9_doesPair_26 : decode cX9_doesPair 26 = .ok (.ifCond .eq 7, 3) := by decide +kernel
theorem dX9_doesPair_29 : decode cX9_doesPair 29 = .ok (.iload_n 1, 1) := by decide +kernel
theorem dX9_doesPair_30 : decode cX9_doesPair 30 = .ok (.goto 4, 3) := by decide +kernel
theorem dX9_doesPair_33 : decode cX9_doesPair 33 = .ok (.iconst 0, 1) := by decide +kernel
theorem dX9_doesPair_34 : decode cX9_doesPair 34 = .ok (.isub, 1) := by decide +kernel
theorem dX9_doesPair_35 : decode cX9_doesPair 35 = .ok (.putfield 139, 3) := by decide +kernel
theorem dX9_doesPair_38 : decode cX9_doesPair 38 = .ok (.iload_n 3, 1) := by decide +kernel
theorem dX9_doesPair_39 : decode cX9_doesPair 39 = .ok (.ireturn, 1) := by decide +kernel
theorem dX9_doesPair_40 : decode cX9_doesPair 40 = .ok (.aload_n 0, 1) := by decide +kernel
theorem dX9_doesPair_41 : decode cX9_doesPair 41 = .ok (.iload_n 2, 1) := by decide +kernel
theorem dX9_doesPair_42 : decode cX9_doesPair 42 = .ok (.invokevirtual 165, 3) := by decide +kernel
theorem dX9_doesPair_45 : decode cX9_doesPair 45 = .ok (.ifCond .ne 17, 3) := by decide +kernel
theorem dX9_doesPair_48 : decode cX9_doesPair 48 = .ok (.aload_n 0, 1) := by decide +kernel
theorem dX9_doesPair_49 : decode cX9_doesPair 49 = .ok (.iload_n 2, 1) := by decide +kernel
theorem dX9_doesPair_50 : decode cX9_doesPair 50 = .ok (.iload_n 1, 1) := by decide +kernel
theorem dX9_doesPair_51 : decode cX9_doesPair 51 = .ok (.iconst 0, 1) := by decide +kernel
theorem dX9_doesPair_52 : decode cX9_doesPair 52 = .ok (.invokevirtual 197, 3) := by decide +kernel
theorem dX9_doesPair_55 : decode cX9_doesPair 55 = .ok (.ifCond .eq 7, 3) := by decide +kernel
theorem dX9_doesPair_58 : decode cX9_doesPair 58 = .ok (.iconst 1, 1) := by decide +kernel
theorem dX9_doesPair_59 : decode cX9_doesPair 59 = .ok (.goto 4, 3) := by decide +kernel
theorem dX9_doesPair_62 : decode cX9_doesPair 62 = .ok (.iconst 0, 1) := by decide +kernel
theorem dX9_doesPair_63 : decode cX9_doesPair 63 = .ok (.ireturn, 1) := by decide +kernel
theorem dX9_firstOfTwo_0 : decode cX9_firstOfTwo 0 = .ok (.bipush (-9), 2) := by decide +kernel
theorem dX9_firstOfTwo_2 : decode cX9_firstOfTwo 2 = .ok (.istore_n 1, 1) := by decide +kernel
theorem dX9_firstOfTwo_3 : decode cX9_firstOfTwo 3 = .ok (.bipush 25, 2) := by decide +kernel
theorem dX9_firstOfTwo_5 : decode cX9_firstOfTwo 5 = .ok (.istore_n 2, 1) := by decide +kernel
theorem dX9_firstOfTwo_6 : decode cX9_firstOfTwo 6 = .ok (.iload_n 2, 1) := by decide +kernel
theorem dX9_firstOfTwo_7 : decode cX9_firstOfTwo 7 = .ok (.ifCond .lt 27, 3) := by decide +kernel
theorem dX9_firstOfTwo_10 : decode cX9_firstOfTwo 10 = .ok (.aload_n 0, 1) := by decide +kernel
theorem dX9_firstOfTwo_11 : decode cX9_firstOfTwo 11 = .ok (.iload_n 2, 1) := by decide +kernel
theorem dX9_firstOfTwo_12 : decode cX9_firstOfTwo 12 = .ok (.invokevirtual 205, 3) := by decide +kernel
theorem dX9_firstOfTwo_15 : decode cX9_firstOfTwo 15 = .ok (.invokestatic 148, 3) := by decide +kernel
theorem dX9_firstOfTwo_18 : decode cX9_firstOfTwo 18 = .ok (.iconst 1, 1) := by decide +kernel
theorem dX9_firstOfTwo_19 : decode cX9_firstOfTwo 19 = .ok (.if_icmp .le 7, 3) := by decide +kernel
theorem dX9_firstOfTwo_22 : decode cX9_firstOfTwo 22 = .ok (.iload_n 2, 1) := by decide +kernel
theorem dX9_firstOfTwo_23 : decode cX9_firstOfTwo 23 = .ok (.goto 4, 3) := by decide +kernel
theorem dX9_firstOfTwo_26 : decode cX9_firstOfTwo 26 = .ok (.iload_n 1, 1) := by decide +kernel
theorem dX9_firstOfTwo_27 : decode cX9_firstOfTwo 27 = .ok (.istore_n 1, 1) := by decide +kernel
theorem dX9_firstOfTwo_28 : decode cX9_firstOfTwo 28 = .ok (.iinc 2 (-1), 3) := by decide +kernel
theorem dX9_firstOfTwo_31 : decode cX9_firstOfTwo 31 = .ok (.goto (-25), 3) := by decide +kernel
theorem dX9_firstOfTwo_34 : decode cX9_firstOfTwo 34 = .ok (.iload_n 1, 1) := by decide +kernel
theorem dX9_firstOfTwo_35 : decode cX9_firstOfTwo 35 = .ok (.ireturn, 1) := by decide +kernel
theorem dX9_lastThatSounds_0 : decode cX9_lastThatSounds 0 = .ok (.bipush (-9), 2) := by decide +kernel
theorem dX9_lastThatSounds_2 : decode cX9_lastThatSounds 2 = .ok (.istore_n 1, 1) := by decide +kernel
theorem dX9_lastThatSounds_3 : decode cX9_lastThatSounds 3 = .ok (.iconst 0, 1) := by decide +kernel
theorem dX9_lastThatSounds_4 : decode cX9_lastThatSounds 4 = .ok (.istore_n 2, 1) := by decide +kernel
theorem dX9_lastThatSounds_5 : decode cX9_lastThatSounds 5 = .ok (.iload_n 2, 1) := by decide +kernel
theorem dX9_lastThatSounds_6 : decode cX9_lastThatSounds 6 = .ok (.bipush 26, 2) := by decide +kernel
theorem dX9_lastThatSounds_8 : decode cX9_lastThatSounds 8 = .ok (.if_icmp .ge 23, 3) := by decide +kernel
theorem dX9_lastThatSounds_11 : decode cX9_lastThatSounds 11 = .ok (.aload_n 0, 1) := by decide +kernel
theorem dX9_lastThatSounds_12 : decode cX9_lastThatSounds 12 = .ok (.iload_n 2, 1) := by decide +kernel
theorem dX9_lastThatSounds_13 : decode cX9_lastThatSounds 13 = .ok (.invokevirtual 205, 3) := by decide +kernel
theorem dX9_lastThatSounds_16 : decode cX9_lastThatSounds 16 = .ok (.ifCond .eq 7, 3) := by decide +kernel
theorem dX9_lastThatSounds_19 : decode cX9_lastThatSounds 19 = .ok (.iload_n 2, 1) := by decide +kernel
theorem dX9_lastThatSounds_20 : decode cX9_lastThatSounds 20 = .ok (.goto 4, 3) := by decide +kernel
theorem dX9_lastThatSounds_23 : decode cX9_lastThatSounds 23 = .ok (.iload_n 1, 1) := by decide +kernel
theorem dX9_lastThatSounds_24 : decode cX9_lastThatSounds 24 = .ok (.istore_n 1, 1) := by decide +kernel
theorem dX9_lastThatSounds_25 : decode cX9_lastThatSounds 25 = .ok (.iinc 2 1, 3) := by decide +kernel
theorem dX9_lastThatSounds_28 : decode cX9_lastThatSounds 28 = .ok (.goto (-23), 3) := by decide +kernel
theorem dX9_lastThatSounds_31 : decode cX9_lastThatSounds 31 = .ok (.iload_n 1, 1) := by decide +kernel
theorem dX9_lastThatSounds_32 : decode cX9_lastThatSounds 32 = .ok (.ireturn, 1) := by decide +kernel
theorem dX9_manyThatSound_0 : decode cX9_manyThatSound 0 = .ok (.iconst 0, 1) := by decide +kernel
theorem dX9_manyThatSound_1 : decode cX9_manyThatSound 1 = .ok (.istore_n 1, 1) := by decide +kernel
theorem dX9_manyThatSound_2 : decode cX9_manyThatSound 2 = .ok (.iconst 0, 1) := by decide +kernel
theorem dX9_manyThatSound_3 : decode cX9_manyThatSound 3 = .ok (.istore_n 2, 1) := by decide +kernel
theorem dX9_manyThatSound_4 : decode cX9_manyThatSound 4 = .ok (.iload_n 2, 1) := by decide +kernel
theorem dX9_manyThatSound_5 : decode cX9_manyThatSound 5 = .ok (.bipush 26, 2) := by decide +kernel
theorem dX9_manyThatSound_7 : decode cX9_manyThatSound 7 = .ok (.if_icmp .ge 25, 3) := by decide +kernel
theorem dX9_manyThatSound_10 : decode cX9_manyThatSound 10 = .ok (.iload_n 1, 1) := by decide +kernel
theorem dX9_manyThatSound_11 : decode cX9_manyThatSound 11 = .ok (.aload_n 0, 1) := by decide +kernel
theorem dX9_manyThatSound_12 : decode cX9_manyThatSound 12 = .ok (.iload_n 2, 1) := by decide +kernel
theorem dX9_manyThatSound_13 : decode cX9_manyThatSound 13 = .ok (.invokevirtual 205, 3) := by decide +kernel
theorem dX9_manyThatSound_16 : decode cX9_manyThatSound 16 = .ok (.ifCond .eq 7, 3) := by decide +kernel
theorem dX9_manyThatSound_19 : decode cX9_manyThatSound 19 = .ok (.iconst 1, 1) := by decide +kernel
theorem dX9_manyThatSound_20 : decode cX9_manyThatSound 20 = .ok (.goto 4, 3) := by decide +kernel
theorem dX9_manyThatSound_23 : decode cX9_manyThatSound 23 = .ok (.iconst 0, 1) := by decide +kernel
theorem dX9_manyThatSound_24 : decode cX9_manyThatSound 24 = .ok (.iadd, 1) := by decide +kernel
theorem dX9_manyThatSound_25 : decode cX9_manyThatSound 25 = .ok (.istore_n 1, 1) := by decide +kernel
theorem dX9_manyThatSound_26 : decode cX9_manyThatSound 26 = .ok (.iinc 2 1, 3) := by decide +kernel
theorem dX9_manyThatSound_29 : decode cX9_manyThatSound 29 = .ok (.goto (-25), 3) := by decide +kernel
theorem dX9_manyThatSound_32 : decode cX9_manyThatSound 32 = .ok (.iload_n 1, 1) := by decide +kernel
theorem dX9_manyThatSound_33 : decode cX9_manyThatSound 33 = .ok (.ireturn, 1) := by decide +kernel
theorem dX9_dayOf_0 : decode cX9_dayOf 0 = .ok (.bipush (-9), 2) := by decide +kernel
theorem dX9_dayOf_2 : decode cX9_dayOf 2 = .ok (.istore 4, 2) := by decide +kernel
theorem dX9_dayOf_4 : decode cX9_dayOf 4 = .ok (.iconst 0, 1) := by decide +kernel
theorem dX9_dayOf_5 : decode cX9_dayOf 5 = .ok (.istore 5, 2) := by decide +kernel
theorem dX9_dayOf_7 : decode cX9_dayOf 7 = .ok (.iload 5, 2) := by decide +kernel
theorem dX9_dayOf_9 : decode cX9_dayOf 9 = .ok (.iload_n 2, 1) := by decide +kernel
theorem dX9_dayOf_10 : decode cX9_dayOf 10 = .ok (.if_icmp .ge 54, 3) := by decide +kernel
theorem dX9_dayOf_13 : decode cX9_dayOf 13 = .ok (.iload 4, 2) := by decide +kernel
theorem dX9_dayOf_15 : decode cX9_dayOf 15 = .ok (.ifCond .ge 49, 3) := by decide +kernel
theorem dX9_dayOf_18 : decode cX9_dayOf 18 = .ok (.aload_n 0, 1) := by decide +kernel
theorem dX9_dayOf_19 : decode cX9_dayOf 19 = .ok (.aload_n 0, 1) := by decide +kernel
theorem dX9_dayOf_20 : decode cX9_dayOf 20 = .ok (.getfield 64, 3) := by decide +kernel
theorem dX9_dayOf_23 : decode cX9_dayOf 23 = .ok (.iload_n 1, 1) := by decide +kernel
theorem dX9_dayOf_24 : decode cX9_dayOf 24 = .ok (.iconst 2, 1) := by decide +kernel
theorem dX9_dayOf_25 : decode cX9_dayOf 25 = .ok (.iload 5, 2) := by decide +kernel
theorem dX9_dayOf_27 : decode cX9_dayOf 27 = .ok (.imul, 1) := by decide +kernel
theorem dX9_dayOf_28 : decode cX9_dayOf 28 = .ok (.iadd, 1) := by decide +kernel
theorem dX9_dayOf_29 : decode cX9_dayOf 29 = .ok (.iaload, 1) := by decide +kernel
theorem dX9_dayOf_30 : decode cX9_dayOf 30 = .ok (.aload_n 0, 1) := by decide +kernel
theorem dX9_dayOf_31 : decode cX9_dayOf 31 = .ok (.getfield 64, 3) := by decide +kernel
theorem dX9_dayOf_34 : decode cX9_dayOf 34 = .ok (.iload_n 1, 1) := by decide +kernel
theorem dX9_dayOf_35 : decode cX9_dayOf 35 = .ok (.iconst 2, 1) := by decide +kernel
theorem dX9_dayOf_36 : decode cX9_dayOf 36 = .ok (.iload 5, 2) := by decide +kernel
theorem dX9_dayOf_38 : decode cX9_dayOf 38 = .ok (.imul, 1) := by decide +kernel
theorem dX9_dayOf_39 : decode cX9_dayOf 39 = .ok (.iadd, 1) := by decide +kernel
theorem dX9_dayOf_40 : decode cX9_dayOf 40 = .ok (.iconst 1, 1) := by decide +kernel
theorem dX9_dayOf_41 : decode cX9_dayOf 41 = .ok (.iadd, 1) := by decide +kernel
theorem dX9_dayOf_42 : decode cX9_dayOf 42 = .ok (.iaload, 1) := by decide +kernel
theorem dX9_dayOf_43 : decode cX9_dayOf 43 = .ok (.invokevirtual 221, 3) := by decide +kernel
theorem dX9_dayOf_46 : decode cX9_dayOf 46 = .ok (.ifCond .eq 8, 3) := by decide +kernel
theorem dX9_dayOf_49 : decode cX9_dayOf 49 = .ok (.bipush (-9), 2) := by decide +kernel
theorem dX9_dayOf_51 : decode cX9_dayOf 51 = .ok (.goto 5, 3) := by decide +kernel
theorem dX9_dayOf_54 : decode cX9_dayOf 54 = .ok (.iload 5, 2) := by decide +kernel
theorem dX9_dayOf_56 : decode cX9_dayOf 56 = .ok (.istore 4, 2) := by decide +kernel
theorem dX9_dayOf_58 : decode cX9_dayOf 58 = .ok (.iinc 5 1, 3) := by decide +kernel
theorem dX9_dayOf_61 : decode cX9_dayOf 61 = .ok (.goto (-54), 3) := by decide +kernel
theorem dX9_dayOf_64 : decode cX9_dayOf 64 = .ok (.iload_n 3, 1) := by decide +kernel
theorem dX9_dayOf_65 : decode cX9_dayOf 65 = .ok (.iconst 1, 1) := by decide +kernel
theorem dX9_dayOf_66 : decode cX9_dayOf 66 = .ok (.if_icmp .ne 6, 3) := by decide +kernel
theorem dX9_dayOf_69 : decode cX9_dayOf 69 = .ok (.iload 4, 2) := by decide +kernel
theorem dX9_dayOf_71 : decode cX9_dayOf 71 = .ok (.ireturn, 1) := by decide +kernel
theorem dX9_dayOf_72 : decode cX9_dayOf 72 = .ok (.iload 4, 2) := by decide +kernel
theorem dX9_dayOf_74 : decode cX9_dayOf 74 = .ok (.ifCond .lt 9, 3) := by decide +kernel
theorem dX9_dayOf_77 : decode cX9_dayOf 77 = .ok (.bipush (-100), 2) := by decide +kernel
theorem dX9_dayOf_79 : decode cX9_dayOf 79 = .ok (.iload 4, 2) := by decide +kernel
theorem dX9_dayOf_81 : decode cX9_dayOf 81 = .ok (.isub, 1) := by decide +kernel
theorem dX9_dayOf_82 : decode cX9_dayOf 82 = .ok (.ireturn, 1) := by decide +kernel
theorem dX9_dayOf_83 : decode cX9_dayOf 83 = .ok (.iload_n 3, 1) := by decide +kernel
theorem dX9_dayOf_84 : decode cX9_dayOf 84 = .ok (.bipush 10, 2) := by decide +kernel
theorem dX9_dayOf_86 : decode cX9_dayOf 86 = .ok (.if_icmp .lt 36, 3) := by decide +kernel
theorem dX9_dayOf_89 : decode cX9_dayOf 89 = .ok (.aload_n 0, 1) := by decide +kernel
theorem dX9_dayOf_90 : decode cX9_dayOf 90 = .ok (.iload_n 3, 1) := by decide +kernel
theorem dX9_dayOf_91 : decode cX9_dayOf 91 = .ok (.bipush 10, 2) := by decide +kernel
theorem dX9_dayOf_93 : decode cX9_dayOf 93 = .ok (.isub, 1) := by decide +kernel
theorem dX9_dayOf_94 : decode cX9_dayOf 94 = .ok (.invokevirtual 165, 3) := by decide +kernel
theorem dX9_dayOf_97 : decode cX9_dayOf 97 = .ok (.ifCond .eq 8, 3) := by decide +kernel
theorem dX9_dayOf_100 : decode cX9_dayOf 100 = .ok (.bipush (-9), 2) := by decide +kernel
theorem dX9_dayOf_102 : decode cX9_dayOf 102 = .ok (.goto 19, 3) := by decide +kernel
theorem dX9_dayOf_105 : decode cX9_dayOf 105 = .ok (.aload_n 0, 1) := by decide +kernel
theorem dX9_dayOf_106 : decode cX9_dayOf 106 = .ok (.iload_n 3, 1) := by decide +kernel
theorem dX9_dayOf_107 : decode cX9_dayOf 107 = .ok (.bipush 10, 2) := by decide +kernel
theorem dX9_dayOf_109 : decode cX9_dayOf 109 = .ok (.isub, 1) := by decide +kernel
theorem dX9_dayOf_110 : decode cX9_dayOf 110 = .ok (.aload_n 0, 1) := by decide +kernel
theorem dX9_dayOf_111 : decode cX9_dayOf 111 = .ok (.iload_n 3, 1) := by decide +kernel
theorem dX9_dayOf_112 : decode cX9_dayOf 112 = .ok (.bipush 10, 2) := by decide +kernel
theorem dX9_dayOf_114 : decode cX9_dayOf 114 = .ok (.isub, 1) := by decide +kernel
theorem dX9_dayOf_115 : decode cX9_dayOf 115 = .ok (.invokevirtual 214, 3) := by decide +kernel
theorem dX9_dayOf_118 : decode cX9_dayOf 118 = .ok (.invokevirtual 211, 3) := by decide +kernel
theorem dX9_dayOf_121 : decode cX9_dayOf 121 = .ok (.ireturn, 1) := by decide +kernel
theorem dX9_dayOf_122 : decode cX9_dayOf 122 = .ok (.iload_n 3, 1) := by decide +kernel
theorem dX9_dayOf_123 : decode cX9_dayOf 123 = .ok (.ifCond .ne 10, 3) := by decide +kernel
theorem dX9_dayOf_126 : decode cX9_dayOf 126 = .ok (.aload_n 0, 1) := by decide +kernel
theorem dX9_dayOf_127 : decode cX9_dayOf 127 = .ok (.getfield 139, 3) := by decide +kernel
theorem dX9_dayOf_130 : decode cX9_dayOf 130 = .ok (.goto 31, 3) := by decide +kernel
theorem dX9_dayOf_133 : decode cX9_dayOf 133 = .ok (.iload_n 3, 1) := by decide +kernel
theorem dX9_dayOf_134 : decode cX9_dayOf 134 = .ok (.iconst 2, 1) := by decide +kernel
theorem dX9_dayOf_135 : decode cX9_dayOf 135 = .ok (.if_icmp .ne 10, 3) := by decide +kernel
theorem dX9_dayOf_138 : decode cX9_dayOf 138 = .ok (.aload_n 0, 1) := by decide +kernel
theorem dX9_dayOf_139 : decode cX9_dayOf 139 = .ok (.invokevirtual 224, 3) := by decide +kernel
theorem dX9_dayOf_142 : decode cX9_dayOf 142 = .ok (.goto 19, 3) := by decide +kernel
theorem dX9_dayOf_145 : decode cX9_dayOf 145 = .ok (.iload_n 3, 1) := by decide +kernel
theorem dX9_dayOf_146 : decode cX9_dayOf 146 = .ok (.iconst 3, 1) := by decide +kernel
theorem dX9_dayOf_147 : decode cX9_dayOf 147 = .ok (.if_icmp .ne 10, 3) := by decide +kernel
theorem dX9_dayOf_150 : decode cX9_dayOf 150 = .ok (.aload_n 0, 1) := by decide +kernel
theorem dX9_dayOf_151 : decode cX9_dayOf 151 = .ok (.invokevirtual 228, 3) := by decide +kernel
theorem dX9_dayOf_154 : decode cX9_dayOf 154 = .ok (.goto 7, 3) := by decide +kernel
theorem dX9_dayOf_157 : decode cX9_dayOf 157 = .ok (.aload_n 0, 1) := by decide +kernel
theorem dX9_dayOf_158 : decode cX9_dayOf 158 = .ok (.invokevirtual 231, 3) := by decide +kernel
theorem dX9_dayOf_161 : decode cX9_dayOf 161 = .ok (.ireturn, 1) := by decide +kernel
theorem dX9_day_0 : decode cX9_day 0 = .ok (.iload_n 1, 1) := by decide +kernel
theorem dX9_day_1 : decode cX9_day 1 = .ok (.invokestatic 125, 3) := by decide +kernel
theorem dX9_day_4 : decode cX9_day 4 = .ok (.ifCond .eq 9, 3) := by decide +kernel
theorem dX9_day_7 : decode cX9_day 7 = .ok (.aload_n 0, 1) := by decide +kernel
theorem dX9_day_8 : decode cX9_day 8 = .ok (.iconst (-1), 1) := by decide +kernel
theorem dX9_day_9 : decode cX9_day 9 = .ok (.invokevirtual 129, 3) := by decide +kernel
theorem dX9_day_12 : decode cX9_day 12 = .ok (.ireturn, 1) := by decide +kernel
theorem dX9_day_13 : decode cX9_day 13 = .ok (.iload_n 2, 1) := by decide +kernel
theorem dX9_day_14 : decode cX9_day 14 = .ok (.i2l, 1) := by decide +kernel
theorem dX9_day_15 : decode cX9_day 15 = .ok (.lconst 0, 1) := by decide +kernel
theorem dX9_day_16 : decode cX9_day 16 = .ok (.ldc2_w 109, 3) := by decide +kernel
theorem dX9_day_19 : decode cX9_day 19 = .ok (.invokestatic 83, 3) := by decide +kernel
theorem dX9_day_22 : decode cX9_day 22 = .ok (.ifCond .eq 44, 3) := by decide +kernel
theorem dX9_day_25 : decode cX9_day 25 = .ok (.iload 4, 2) := by decide +kernel
theorem dX9_day_27 : decode cX9_day 27 = .ok (.i2l, 1) := by decide +kernel
theorem dX9_day_28 : decode cX9_day 28 = .ok (.lconst 0, 1) := by decide +kernel
theorem dX9_day_29 : decode cX9_day 29 = .ok (.ldc2_w 195, 3) := by decide +kernel
theorem dX9_day_32 : decode cX9_day 32 = .ok (.invokestatic 83, 3) := by decide +kernel
theorem dX9_day_35 : decode cX9_day 35 = .ok (.ifCond .eq 31, 3) := by decide +kernel
theorem dX9_day_38 : decode cX9_day 38 = .ok (.iload 5, 2) := by decide +kernel
theorem dX9_day_40 : decode cX9_day 40 = .ok (.i2l, 1) := by decide +kernel
theorem dX9_day_41 : decode cX9_day 41 = .ok (.lconst 0, 1) := by decide +kernel
theorem dX9_day_42 : decode cX9_day 42 = .ok (.ldc2_w 234, 3) := by decide +kernel
theorem dX9_day_45 : decode cX9_day 45 = .ok (.invokestatic 83, 3) := by decide +kernel
theorem dX9_day_48 : decode cX9_day 48 = .ok (.ifCond .ne 25, 3) := by decide +kernel
theorem dX9_day_51 : decode cX9_day 51 = .ok (.iload 5, 2) := by decide +kernel
theorem dX9_day_53 : decode cX9_day 53 = .ok (.i2l, 1) := by decide +kernel
theorem dX9_day_54 : decode cX9_day 54 = .ok (.ldc2_w 168, 3) := by decide +kernel
theorem dX9_day_57 : decode cX9_day 57 = .ok (.ldc2_w 236, 3) := by decide +kernel
theorem dX9_day_60 : decode cX9_day 60 = .ok (.invokestatic 83, 3) := by decide +kernel
theorem dX9_day_63 : decode cX9_day 63 = .ok (.ifCond .ne 10, 3) := by decide +kernel
theorem dX9_day_66 : decode cX9_day 66 = .ok (.aload_n 0, 1) := by decide +kernel
theorem dX9_day_67 : decode cX9_day 67 = .ok (.bipush (-2), 2) := by decide +kernel
theorem dX9_day_69 : decode cX9_day 69 = .ok (.invokevirtual 129, 3) := by decide +kernel
theorem dX9_day_72 : decode cX9_day 72 = .ok (.ireturn, 1) := by decide +kernel
theorem dX9_day_73 : decode cX9_day 73 = .ok (.aload_n 0, 1) := by decide +kernel
theorem dX9_day_74 : decode cX9_day 74 = .ok (.getfield 80, 3) := by decide +kernel
theorem dX9_day_77 : decode cX9_day 77 = .ok (.ifCond .ne 10, 3) := by decide +kernel
theorem dX9_day_80 : decode cX9_day 80 = .ok (.aload_n 0, 1) := by decide +kernel
theorem dX9_day_81 : decode cX9_day 81 = .ok (.bipush (-3), 2) := by decide +kernel
theorem dX9_day_83 : decode cX9_day 83 = .ok (.invokevirtual 129, 3) := by decide +kernel
theorem dX9_day_86 : decode cX9_day 86 = .ok (.ireturn, 1) := by decide +kernel
theorem dX9_day_87 : decode cX9_day 87 = .ok (.aload_n 0, 1) := by decide +kernel
theorem dX9_day_88 : decode cX9_day 88 = .ok (.iload_n 1, 1) := by decide +kernel
theorem dX9_day_89 : decode cX9_day 89 = .ok (.iload_n 2, 1) := by decide +kernel
theorem dX9_day_90 : decode cX9_day 90 = .ok (.iload_n 3, 1) := by decide +kernel
theorem dX9_day_91 : decode cX9_day 91 = .ok (.ldc2_w 109, 3) := by decide +kernel
theorem dX9_day_94 : decode cX9_day 94 = .ok (.iload 4, 2) := by decide +kernel
theorem dX9_day_96 : decode cX9_day 96 = .ok (.i2l, 1) := by decide +kernel
theorem dX9_day_97 : decode cX9_day 97 = .ok (.lmul, 1) := by decide +kernel
theorem dX9_day_98 : decode cX9_day 98 = .ok (.invokevirtual 132, 3) := by decide +kernel
theorem dX9_day_101 : decode cX9_day 101 = .ok (.istore 6, 2) := by decide +kernel
theorem dX9_day_103 : decode cX9_day 103 = .ok (.iload 6, 2) := by decide +kernel
theorem dX9_day_105 : decode cX9_day 105 = .ok (.ifCond .ge 6, 3) := by decide +kernel
theorem dX9_day_108 : decode cX9_day 108 = .ok (.iload 6, 2) := by decide +kernel
theorem dX9_day_110 : decode cX9_day 110 = .ok (.ireturn, 1) := by decide +kernel
theorem dX9_day_111 : decode cX9_day 111 = .ok (.bipush 60, 2) := by decide +kernel
theorem dX9_day_113 : decode cX9_day 113 = .ok (.iload_n 1, 1) := by decide +kernel
theorem dX9_day_114 : decode cX9_day 114 = .ok (.imul, 1) := by decide +kernel
theorem dX9_day_115 : decode cX9_day 115 = .ok (.iload_n 3, 1) := by decide +kernel
theorem dX9_day_116 : decode cX9_day 116 = .ok (.iadd, 1) := by decide +kernel
theorem dX9_day_117 : decode cX9_day 117 = .ok (.istore 7, 2) := by decide +kernel
theorem dX9_day_119 : decode cX9_day 119 = .ok (.iconst 0, 1) := by decide +kernel
theorem dX9_day_120 : decode cX9_day 120 = .ok (.istore 8, 2) := by decide +kernel
theorem dX9_day_122 : decode cX9_day 122 = .ok (.iload 8, 2) := by decide +kernel
theorem dX9_day_124 : decode cX9_day 124 = .ok (.iload 4, 2) := by decide +kernel
theorem dX9_day_126 : decode cX9_day 126 = .ok (.if_icmp .ge 48, 3) := by decide +kernel
theorem dX9_day_129 : decode cX9_day 129 = .ok (.aload_n 0, 1) := by decide +kernel
theorem dX9_day_130 : decode cX9_day 130 = .ok (.getfield 64, 3) := by decide +kernel
theorem dX9_day_133 : decode cX9_day 133 = .ok (.iload 7, 2) := by decide +kernel
theorem dX9_day_135 : decode cX9_day 135 = .ok (.iconst 2, 1) := by decide +kernel
theorem dX9_day_136 : decode cX9_day 136 = .ok (.iload 8, 2) := by decide +kernel
theorem dX9_day_138 : decode cX9_day 138 = .ok (.imul, 1) := by decide +kernel
theorem dX9_day_139 : decode cX9_day 139 = .ok (.iadd, 1) := by decide +kernel
theorem dX9_day_140 : decode cX9_day 140 = .ok (.iaload, 1) := by decide +kernel
theorem dX9_day_141 : decode cX9_day 141 = .ok (.aload_n 0, 1) := by decide +kernel
theorem dX9_day_142 : decode cX9_day 142 = .ok (.getfield 64, 3) := by decide +kernel
theorem dX9_day_145 : decode cX9_day 145 = .ok (.iload 7, 2) := by decide +kernel
theorem dX9_day_147 : decode cX9_day 147 = .ok (.iconst 2, 1) := by decide +kernel
theorem dX9_day_148 : decode cX9_day 148 = .ok (.iload 8, 2) := by decide +kernel
theorem dX9_day_150 : decode cX9_day 150 = .ok (.imul, 1) := by decide +kernel
theorem dX9_day_151 : decode cX9_day 151 = .ok (.iadd, 1) := by decide +kernel
theorem dX9_day_152 : decode cX9_day 152 = .ok (.iconst 1, 1) := by decide +kernel
theorem dX9_day_153 : decode cX9_day 153 = .ok (.iadd, 1) := by decide +kernel
theorem dX9_day_154 : decode cX9_day 154 = .ok (.iaload, 1) := by decide +kernel
theorem dX9_day_155 : decode cX9_day 155 = .ok (.invokestatic 238, 3) := by decide +kernel
theorem dX9_day_158 : decode cX9_day 158 = .ok (.ifCond .ne 10, 3) := by decide +kernel
theorem dX9_day_161 : decode cX9_day 161 = .ok (.aload_n 0, 1) := by decide +kernel
theorem dX9_day_162 : decode cX9_day 162 = .ok (.bipush (-2), 2) := by decide +kernel
theorem dX9_day_164 : decode cX9_day 164 = .ok (.invokevirtual 129, 3) := by decide +kernel
theorem dX9_day_167 : decode cX9_day 167 = .ok (.ireturn, 1) := by decide +kernel
theorem dX9_day_168 : decode cX9_day 168 = .ok (.iinc 8 1, 3) := by decide +kernel
theorem dX9_day_171 : decode cX9_day 171 = .ok (.goto (-49), 3) := by decide +kernel
theorem dX9_day_174 : decode cX9_day 174 = .ok (.aload_n 0, 1) := by decide +kernel
theorem dX9_day_175 : decode cX9_day 175 = .ok (.aload_n 0, 1) := by decide +kernel
theorem dX9_day_176 : decode cX9_day 176 = .ok (.getfield 139, 3) := by decide +kernel
theorem dX9_day_179 : decode cX9_day 179 = .ok (.putfield 241, 3) := by decide +kernel
theorem dX9_day_182 : decode cX9_day 182 = .ok (.iconst 0, 1) := by decide +kernel
theorem dX9_day_183 : decode cX9_day 183 = .ok (.istore 8, 2) := by decide +kernel
theorem dX9_day_185 : decode cX9_day 185 = .ok (.iload 8, 2) := by decide +kernel
theorem dX9_day_187 : decode cX9_day 187 = .ok (.bipush 8, 2) := by decide +kernel
theorem dX9_day_189 : decode cX9_day 189 = .ok (.if_icmp .ge 51, 3) := by decide +kernel
theorem dX9_day_192 : decode cX9_day 192 = .ok (.aload_n 0, 1) := by decide +kernel
theorem dX9_day_193 : decode cX9_day 193 = .ok (.getfield 34, 3) := by decide +kernel
theorem dX9_day_196 : decode cX9_day 196 = .ok (.iload 8, 2) := by decide +kernel
theorem dX9_day_198 : decode cX9_day 198 = .ok (.aload_n 0, 1) := by decide +kernel
theorem dX9_day_199 : decode cX9_day 199 = .ok (.getfield 25, 3) := by decide +kernel
theorem dX9_day_202 : decode cX9_day 202 = .ok (.iload 8, 2) := by decide +kernel
theorem dX9_day_204 : decode cX9_day 204 = .ok (.iaload, 1) := by decide +kernel
theorem dX9_day_205 : decode cX9_day 205 = .ok (.iastore, 1) := by decide +kernel
theorem dX9_day_206 : decode cX9_day 206 = .ok (.aload_n 0, 1) := by decide +kernel
theorem dX9_day_207 : decode cX9_day 207 = .ok (.getfield 37, 3) := by decide +kernel
theorem dX9_day_210 : decode cX9_day 210 = .ok (.iload 8, 2) := by decide +kernel
theorem dX9_day_212 : decode cX9_day 212 = .ok (.aload_n 0, 1) := by decide +kernel
theorem dX9_day_213 : decode cX9_day 213 = .ok (.getfield 28, 3) := by decide +kernel
theorem dX9_day_216 : decode cX9_day 216 = .ok (.iload 8, 2) := by decide +kernel
theorem dX9_day_218 : decode cX9_day 218 = .ok (.iaload, 1) := by decide +kernel
theorem dX9_day_219 : decode cX9_day 219 = .ok (.iastore, 1) := by decide +kernel
theorem dX9_day_220 : decode cX9_day 220 = .ok (.aload_n 0, 1) := by decide +kernel
theorem dX9_day_221 : decode cX9_day 221 = .ok (.getfield 40, 3) := by decide +kernel
theorem dX9_day_224 : decode cX9_day 224 = .ok (.iload 8, 2) := by decide +kernel
theorem dX9_day_226 : decode cX9_day 226 = .ok (.aload_n 0, 1) := by decide +kernel
theorem dX9_day_227 : decode cX9_day 227 = .ok (.getfield 31, 3) := by decide +kernel
theorem dX9_day_230 : decode cX9_day 230 = .ok (.iload 8, 2) := by decide +kernel
theorem dX9_day_232 : decode cX9_day 232 = .ok (.iaload, 1) := by decide +kernel
theorem dX9_day_233 : decode cX9_day 233 = .ok (.iastore, 1) := by decide +kernel
theorem dX9_day_234 : decode cX9_day 234 = .ok (.iinc 8 1, 3) := by decide +kernel
theorem dX9_day_237 : decode cX9_day 237 = .ok (.goto (-52), 3) := by decide +kernel
theorem dX9_day_240 : decode cX9_day 240 = .ok (.aload_n 0, 1) := by decide +kernel
theorem dX9_day_241 : decode cX9_day 241 = .ok (.iload 7, 2) := by decide +kernel
theorem dX9_day_243 : decode cX9_day 243 = .ok (.iload 4, 2) := by decide +kernel
theorem dX9_day_245 : decode cX9_day 245 = .ok (.iload 5, 2) := by decide +kernel
theorem dX9_day_247 : decode cX9_day 247 = .ok (.invokevirtual 244, 3) := by decide +kernel
theorem dX9_day_250 : decode cX9_day 250 = .ok (.istore 8, 2) := by decide +kernel
theorem dX9_day_252 : decode cX9_day 252 = .ok (.aload_n 0, 1) := by decide +kernel
theorem dX9_day_253 : decode cX9_day 253 = .ok (.aload_n 0, 1) := by decide +kernel
theorem dX9_day_254 : decode cX9_day 254 = .ok (.getfield 241, 3) := by decide +kernel
theorem dX9_day_257 : decode cX9_day 257 = .ok (.putfield 139, 3) := by decide +kernel
theorem dX9_day_260 : decode cX9_day 260 = .ok (.iconst 0, 1) := by decide +kernel
theorem dX9_day_261 : decode cX9_day 261 = .ok (.istore 9, 2) := by decide +kernel
theorem dX9_day_263 : decode cX9_day 263 = .ok (.iload 9, 2) := by decide +kernel
theorem dX9_day_265 : decode cX9_day 265 = .ok (.bipush 8, 2) := by decide +kernel
theorem dX9_day_267 : decode cX9_day 267 = .ok (.if_icmp .ge 51, 3) := by decide +kernel
theorem dX9_day_270 : decode cX9_day 270 = .ok (.aload_n 0, 1) := by decide +kernel
theorem dX9_day_271 : decode cX9_day 271 = .ok (.getfield 25, 3) := by decide +kernel
theorem dX9_day_274 : decode cX9_day 274 = .ok (.iload 9, 2) := by decide +kernel
theorem dX9_day_276 : decode cX9_day 276 = .ok (.aload_n 0, 1) := by decide +kernel
theorem dX9_day_277 : decode cX9_day 277 = .ok (.getfield 34, 3) := by decide +kernel
theorem dX9_day_280 : decode cX9_day 280 = .ok (.iload 9, 2) := by decide +kernel
theorem dX9_day_282 : decode cX9_day 282 = .ok (.iaload, 1) := by decide +kernel
theorem dX9_day_283 : decode cX9_day 283 = .ok (.iastore, 1) := by decide +kernel
theorem dX9_day_284 : decode cX9_day 284 = .ok (.aload_n 0, 1) := by decide +kernel
theorem dX9_day_285 : decode cX9_day 285 = .ok (.getfield 28, 3) := by decide +kernel
theorem dX9_day_288 : decode cX9_day 288 = .ok (.iload 9, 2) := by decide +kernel
theorem dX9_day_290 : decode cX9_day 290 = .ok (.aload_n 0, 1) := by decide +kernel
theorem dX9_day_291 : decode cX9_day 291 = .ok (.getfield 37, 3) := by decide +kernel
theorem dX9_day_294 : decode cX9_day 294 = .ok (.iload 9, 2) := by decide +kernel
theorem dX9_day_296 : decode cX9_day 296 = .ok (.iaload, 1) := by decide +kernel
theorem dX9_day_297 : decode cX9_day 297 = .ok (.iastore, 1) := by decide +kernel
theorem dX9_day_298 : decode cX9_day 298 = .ok (.aload_n 0, 1) := by decide +kernel
theorem dX9_day_299 : decode cX9_day 299 = .ok (.getfield 31, 3) := by decide +kernel
theorem dX9_day_302 : decode cX9_day 302 = .ok (.iload 9, 2) := by decide +kernel
theorem dX9_day_304 : decode cX9_day 304 = .ok (.aload_n 0, 1) := by decide +kernel
theorem dX9_day_305 : decode cX9_day 305 = .ok (.getfield 40, 3) := by decide +kernel
theorem dX9_day_308 : decode cX9_day 308 = .ok (.iload 9, 2) := by decide +kernel
theorem dX9_day_310 : decode cX9_day 310 = .ok (.iaload, 1) := by decide +kernel
theorem dX9_day_311 : decode cX9_day 311 = .ok (.iastore, 1) := by decide +kernel
theorem dX9_day_312 : decode cX9_day 312 = .ok (.iinc 9 1, 3) := by decide +kernel
theorem dX9_day_315 : decode cX9_day 315 = .ok (.goto (-52), 3) := by decide +kernel
theorem dX9_day_318 : decode cX9_day 318 = .ok (.aload_n 0, 1) := by decide +kernel
theorem dX9_day_319 : decode cX9_day 319 = .ok (.iload 8, 2) := by decide +kernel
theorem dX9_day_321 : decode cX9_day 321 = .ok (.invokevirtual 129, 3) := by decide +kernel
theorem dX9_day_324 : decode cX9_day 324 = .ok (.ireturn, 1) := by decide +kernel
theorem dX9_peaks_0 : decode cX9_peaks 0 = .ok (.aload_n 0, 1) := by decide +kernel
theorem dX9_peaks_1 : decode cX9_peaks 1 = .ok (.iconst (-1), 1) := by decide +kernel
theorem dX9_peaks_2 : decode cX9_peaks 2 = .ok (.putfield 247, 3) := by decide +kernel
theorem dX9_peaks_5 : decode cX9_peaks 5 = .ok (.bipush (-5), 2) := by decide +kernel
theorem dX9_peaks_7 : decode cX9_peaks 7 = .ok (.istore_n 2, 1) := by decide +kernel
theorem dX9_peaks_8 : decode cX9_peaks 8 = .ok (.iload_n 2, 1) := by decide +kernel
theorem dX9_peaks_9 : decode cX9_peaks 9 = .ok (.iconst 5, 1) := by decide +kernel
theorem dX9_peaks_10 : decode cX9_peaks 10 = .ok (.if_icmp .gt 70, 3) := by decide +kernel
theorem dX9_peaks_13 : decode cX9_peaks 13 = .ok (.bipush (-5), 2) := by decide +kernel
theorem dX9_peaks_15 : decode cX9_peaks 15 = .ok (.istore_n 3, 1) := by decide +kernel
theorem dX9_peaks_16 : decode cX9_peaks 16 = .ok (.iload_n 3, 1) := by decide +kernel
theorem dX9_peaks_17 : decode cX9_peaks 17 = .ok (.iconst 5, 1) := by decide +kernel
theorem dX9_peaks_18 : decode cX9_peaks 18 = .ok (.if_icmp .gt 56, 3) := by decide +kernel
theorem dX9_peaks_21 : decode cX9_peaks 21 = .ok (.iload_n 2, 1) := by decide +kernel
theorem dX9_peaks_22 : decode cX9_peaks 22 = .ok (.ifCond .ne 11, 3) := by decide +kernel
theorem dX9_peaks_25 : decode cX9_peaks 25 = .ok (.iload_n 3, 1) := by decide +kernel
theorem dX9_peaks_26 : decode cX9_peaks 26 = .ok (.ifCond .ne 7, 3) := by decide +kernel
theorem dX9_peaks_29 : decode cX9_peaks 29 = .ok (.iconst (-1), 1) := by decide +kernel
theorem dX9_peaks_30 : decode cX9_peaks 30 = .ok (.goto 11, 3) := by decide +kernel
theorem dX9_peaks_33 : decode cX9_peaks 33 = .ok (.aload_n 0, 1) := by decide +kernel
theorem dX9_peaks_34 : decode cX9_peaks 34 = .ok (.iload_n 1, 1) := by decide +kernel
theorem dX9_peaks_35 : decode cX9_peaks 35 = .ok (.iload_n 1, 1) := by decide +kernel
theorem dX9_peaks_36 : decode cX9_peaks 36 = .ok (.iload_n 2, 1) := by decide +kernel
theorem dX9_peaks_37 : decode cX9_peaks 37 = .ok (.iload_n 3, 1) := by decide +kernel
theorem dX9_peaks_38 : decode cX9_peaks 38 = .ok (.invokevirtual 191, 3) := by decide +kernel
theorem dX9_peaks_41 : decode cX9_peaks 41 = .ok (.istore 4, 2) := by decide +kernel
theorem dX9_peaks_43 : decode cX9_peaks 43 = .ok (.iload 4, 2) := by decide +kernel
theorem dX9_peaks_45 : decode cX9_peaks 45 = .ok (.aload_n 0, 1) := by decide +kernel
theorem dX9_peaks_46 : decode cX9_peaks 46 = .ok (.getfield 247, 3) := by decide +kernel
theorem dX9_peaks_49 : decode cX9_peaks 49 = .ok (.if_icmp .le 19, 3) := by decide +kernel
theorem dX9_peaks_52 : decode cX9_peaks 52 = .ok (.aload_n 0, 1) := by decide +kernel
theorem dX9_peaks_53 : decode cX9_peaks 53 = .ok (.iload 4, 2) := by decide +kernel
theorem dX9_peaks_55 : decode cX9_peaks 55 = .ok (.putfield 247, 3) := by decide +kernel
theorem dX9_peaks_58 : decode cX9_peaks 58 = .ok (.aload_n 0, 1) := by decide +kernel
theorem dX9_peaks_59 : decode cX9_peaks 59 = .ok (.iload_n 2, 1) := by decide +kernel
theorem dX9_peaks_60 : decode cX9_peaks 60 = .ok (.putfield 250, 3) := by decide +kernel
theorem dX9_peaks_63 : decode cX9_peaks 63 = .ok (.aload_n 0, 1) := by decide +kernel
theorem dX9_peaks_64 : decode cX9_peaks 64 = .ok (.iload_n 3, 1) := by decide +kernel
theorem dX9_peaks_65 : decode cX9_peaks 65 = .ok (.putfield 253, 3) := by decide +kernel
theorem dX9_peaks_68 : decode cX9_peaks 68 = .ok (.iinc 3 1, 3) := by decide +kernel
theorem dX9_peaks_71 : decode cX9_peaks 71 = .ok (.goto (-55), 3) := by decide +kernel
theorem dX9_peaks_74 : decode cX9_peaks 74 = .ok (.iinc 2 1, 3) := by decide +kernel
theorem dX9_peaks_77 : decode cX9_peaks 77 = .ok (.goto (-69), 3) := by decide +kernel
theorem dX9_peaks_80 : decode cX9_peaks 80 = .ok (.return_, 1) := by decide +kernel
theorem dX9_peak_0 : decode cX9_peak 0 = .ok (.aload_n 0, 1) := by decide +kernel
theorem dX9_peak_1 : decode cX9_peak 1 = .ok (.iload_n 1, 1) := by decide +kernel
theorem dX9_peak_2 : decode cX9_peak 2 = .ok (.invokevirtual 165, 3) := by decide +kernel
theorem dX9_peak_5 : decode cX9_peak 5 = .ok (.ifCond .eq 5, 3) := by decide +kernel
theorem dX9_peak_8 : decode cX9_peak 8 = .ok (.iconst (-1), 1) := by decide +kernel
theorem dX9_peak_9 : decode cX9_peak 9 = .ok (.ireturn, 1) := by decide +kernel
theorem dX9_peak_10 : decode cX9_peak 10 = .ok (.iload_n 2, 1) := by decide +kernel
theorem dX9_peak_11 : decode cX9_peak 11 = .ok (.i2l, 1) := by decide +kernel
theorem dX9_peak_12 : decode cX9_peak 12 = .ok (.lconst 0, 1) := by decide +kernel
theorem dX9_peak_13 : decode cX9_peak 13 = .ok (.ldc2_w 109, 3) := by decide +kernel
theorem dX9_peak_16 : decode cX9_peak 16 = .ok (.invokestatic 83, 3) := by decide +kernel
theorem dX9_peak_19 : decode cX9_peak 19 = .ok (.ifCond .ne 6, 3) := by decide +kernel
theorem dX9_peak_22 : decode cX9_peak 22 = .ok (.bipush (-2), 2) := by decide +kernel
theorem dX9_peak_24 : decode cX9_peak 24 = .ok (.ireturn, 1) := by decide +kernel
theorem dX9_peak_25 : decode cX9_peak 25 = .ok (.aload_n 0, 1) := by decide +kernel
theorem dX9_peak_26 : decode cX9_peak 26 = .ok (.iload_n 1, 1) := by decide +kernel
theorem dX9_peak_27 : decode cX9_peak 27 = .ok (.invokevirtual 256, 3) := by decide +kernel
theorem dX9_peak_30 : decode cX9_peak 30 = .ok (.iload_n 2, 1) := by decide +kernel
theorem dX9_peak_31 : decode cX9_peak 31 = .ok (.ifCond .ne 10, 3) := by decide +kernel
theorem dX9_peak_34 : decode cX9_peak 34 = .ok (.aload_n 0, 1) := by decide +kernel
theorem dX9_peak_35 : decode cX9_peak 35 = .ok (.getfield 247, 3) := by decide +kernel
theorem dX9_peak_38 : decode cX9_peak 38 = .ok (.goto 19, 3) := by decide +kernel
theorem dX9_peak_41 : decode cX9_peak 41 = .ok (.iload_n 2, 1) := by decide +kernel
theorem dX9_peak_42 : decode cX9_peak 42 = .ok (.iconst 1, 1) := by decide +kernel
theorem dX9_peak_43 : decode cX9_peak 43 = .ok (.if_icmp .ne 10, 3) := by decide +kernel
theorem dX9_peak_46 : decode cX9_peak 46 = .ok (.aload_n 0, 1) := by decide +kernel
theorem dX9_peak_47 : decode cX9_peak 47 = .ok (.getfield 250, 3) := by decide +kernel
theorem dX9_peak_50 : decode cX9_peak 50 = .ok (.goto 7, 3) := by decide +kernel
theorem dX9_peak_53 : decode cX9_peak 53 = .ok (.aload_n 0, 1) := by decide +kernel
theorem dX9_peak_54 : decode cX9_peak 54 = .ok (.getfield 253, 3) := by decide +kernel
theorem dX9_peak_57 : decode cX9_peak 57 = .ok (.ireturn, 1) := by decide +kernel
theorem dX9_clash_0 : decode cX9_clash 0 = .ok (.aload_n 0, 1) := by decide +kernel
theorem dX9_clash_1 : decode cX9_clash 1 = .ok (.iload_n 1, 1) := by decide +kernel
theorem dX9_clash_2 : decode cX9_clash 2 = .ok (.invokevirtual 165, 3) := by decide +kernel
theorem dX9_clash_5 : decode cX9_clash 5 = .ok (.ifCond .ne 11, 3) := by decide +kernel
theorem dX9_clash_8 : decode cX9_clash 8 = .ok (.aload_n 0, 1) := by decide +kernel
theorem dX9_clash_9 : decode cX9_clash 9 = .ok (.iload_n 2, 1) := by decide +kernel
theorem dX9_clash_10 : decode cX9_clash 10 = .ok (.invokevirtual 165, 3) := by decide +kernel
theorem dX9_clash_13 : decode cX9_clash 13 = .ok (.ifCond .eq 5, 3) := by decide +kernel
theorem dX9_clash_16 : decode cX9_clash 16 = .ok (.iconst (-1), 1) := by decide +kernel
theorem dX9_clash_17 : decode cX9_clash 17 = .ok (.ireturn, 1) := by decide +kernel
theorem dX9_clash_18 : decode cX9_clash 18 = .ok (.iconst 0, 1) := by decide +kernel
theorem dX9_clash_19 : decode cX9_clash 19 = .ok (.istore_n 3, 1) := by decide +kernel
theorem dX9_clash_20 : decode cX9_clash 20 = .ok (.bipush (-5), 2) := by decide +kernel
theorem dX9_clash_22 : decode cX9_clash 22 = .ok (.istore 4, 2) := by decide +kernel
theorem dX9_clash_24 : decode cX9_clash 24 = .ok (.iload 4, 2) := by decide +kernel
theorem dX9_clash_26 : decode cX9_clash 26 = .ok (.iconst 5, 1) := by decide +kernel
theorem dX9_clash_27 : decode cX9_clash 27 = .ok (.if_icmp .gt 50, 3) := by decide +kernel
theorem dX9_clash_30 : decode cX9_clash 30 = .ok (.bipush (-5), 2) := by decide +kernel
theorem dX9_clash_32 : decode cX9_clash 32 = .ok (.istore 5, 2) := by decide +kernel
theorem dX9_clash_34 : decode cX9_clash 34 = .ok (.iload 5, 2) := by decide +kernel
theorem dX9_clash_36 : decode cX9_clash 36 = .ok (.iconst 5, 1) := by decide +kernel
theorem dX9_clash_37 : decode cX9_clash 37 = .ok (.if_icmp .gt 34, 3) := by decide +kernel
theorem dX9_clash_40 : decode cX9_clash 40 = .ok (.aload_n 0, 1) := by decide +kernel
theorem dX9_clash_41 : decode cX9_clash 41 = .ok (.iload_n 1, 1) := by decide +kernel
theorem dX9_clash_42 : decode cX9_clash 42 = .ok (.iload_n 2, 1) := by decide +kernel
theorem dX9_clash_43 : decode cX9_clash 43 = .ok (.iload 4, 2) := by decide +kernel
theorem dX9_clash_45 : decode cX9_clash 45 = .ok (.iload 5, 2) := by decide +kernel
theorem dX9_clash_47 : decode cX9_clash 47 = .ok (.invokevirtual 191, 3) := by decide +kernel
theorem dX9_clash_50 : decode cX9_clash 50 = .ok (.istore 6, 2) := by decide +kernel
theorem dX9_clash_52 : decode cX9_clash 52 = .ok (.iload 6, 2) := by decide +kernel
theorem dX9_clash_54 : decode cX9_clash 54 = .ok (.iload_n 3, 1) := by decide +kernel
theorem dX9_clash_55 : decode cX9_clash 55 = .ok (.if_icmp .le 8, 3) := by decide +kernel
theorem dX9_clash_58 : decode cX9_clash 58 = .ok (.iload 6, 2) := by decide +kernel
theorem dX9_clash_60 : decode cX9_clash 60 = .ok (.goto 4, 3) := by decide +kernel
theorem dX9_clash_63 : decode cX9_clash 63 = .ok (.iload_n 3, 1) := by decide +kernel
theorem dX9_clash_64 : decode cX9_clash 64 = .ok (.istore_n 3, 1) := by decide +kernel
theorem dX9_clash_65 : decode cX9_clash 65 = .ok (.iinc 5 1, 3) := by decide +kernel
theorem dX9_clash_68 : decode cX9_clash 68 = .ok (.goto (-34), 3) := by decide +kernel
theorem dX9_clash_71 : decode cX9_clash 71 = .ok (.iinc 4 1, 3) := by decide +kernel
theorem dX9_clash_74 : decode cX9_clash 74 = .ok (.goto (-50), 3) := by decide +kernel
theorem dX9_clash_77 : decode cX9_clash 77 = .ok (.iload_n 3, 1) := by decide +kernel
theorem dX9_clash_78 : decode cX9_clash 78 = .ok (.ireturn, 1) := by decide +kernel
theorem dX9_rows_0 : decode cX9_rows 0 = .ok (.aload_n 0, 1) := by decide +kernel
theorem dX9_rows_1 : decode cX9_rows 1 = .ok (.getfield 80, 3) := by decide +kernel
theorem dX9_rows_4 : decode cX9_rows 4 = .ok (.ifCond .ne 6, 3) := by decide +kernel
theorem dX9_rows_7 : decode cX9_rows 7 = .ok (.bipush (-3), 2) := by decide +kernel
theorem dX9_rows_9 : decode cX9_rows 9 = .ok (.ireturn, 1) := by decide +kernel
theorem dX9_rows_10 : decode cX9_rows 10 = .ok (.iconst 0, 1) := by decide +kernel
theorem dX9_rows_11 : decode cX9_rows 11 = .ok (.istore_n 1, 1) := by decide +kernel
theorem dX9_rows_12 : decode cX9_rows 12 = .ok (.aload_n 0, 1) := by decide +kernel
theorem dX9_rows_13 : decode cX9_rows 13 = .ok (.invokevirtual 259, 3) := by decide +kernel
theorem dX9_rows_16 : decode cX9_rows 16 = .ok (.iconst 1, 1) := by decide +kernel
theorem dX9_rows_17 : decode cX9_rows 17 = .ok (.istore_n 2, 1) := by decide +kernel
theorem dX9_rows_18 : decode cX9_rows 18 = .ok (.iload_n 2, 1) := by decide +kernel
theorem dX9_rows_19 : decode cX9_rows 19 = .ok (.ifCond .eq 26, 3) := by decide +kernel
theorem dX9_rows_22 : decode cX9_rows 22 = .ok (.iload_n 1, 1) := by decide +kernel
theorem dX9_rows_23 : decode cX9_rows 23 = .ok (.aload_n 0, 1) := by decide +kernel
theorem dX9_rows_24 : decode cX9_rows 24 = .ok (.invokevirtual 162, 3) := by decide +kernel
theorem dX9_rows_27 : decode cX9_rows 27 = .ok (.ifCond .eq 7, 3) := by decide +kernel
theorem dX9_rows_30 : decode cX9_rows 30 = .ok (.iconst 1, 1) := by decide +kernel
theorem dX9_rows_31 : decode cX9_rows 31 = .ok (.goto 4, 3) := by decide +kernel
theorem dX9_rows_34 : decode cX9_rows 34 = .ok (.iconst 0, 1) := by decide +kernel
theorem dX9_rows_35 : decode cX9_rows 35 = .ok (.iadd, 1) := by decide +kernel
theorem dX9_rows_36 : decode cX9_rows 36 = .ok (.istore_n 1, 1) := by decide +kernel
theorem dX9_rows_37 : decode cX9_rows 37 = .ok (.aload_n 0, 1) := by decide +kernel
theorem dX9_rows_38 : decode cX9_rows 38 = .ok (.invokevirtual 262, 3) := by decide +kernel
theorem dX9_rows_41 : decode cX9_rows 41 = .ok (.istore_n 2, 1) := by decide +kernel
theorem dX9_rows_42 : decode cX9_rows 42 = .ok (.goto (-24), 3) := by decide +kernel
theorem dX9_rows_45 : decode cX9_rows 45 = .ok (.iload_n 1, 1) := by decide +kernel
theorem dX9_rows_46 : decode cX9_rows 46 = .ok (.ireturn, 1) := by decide +kernel
theorem dX9_ways_0 : decode cX9_ways 0 = .ok (.aload_n 0, 1) := by decide +kernel
theorem dX9_ways_1 : decode cX9_ways 1 = .ok (.iload_n 1, 1) := by decide +kernel
theorem dX9_ways_2 : decode cX9_ways 2 = .ok (.invokevirtual 165, 3) := by decide +kernel
theorem dX9_ways_5 : decode cX9_ways 5 = .ok (.ifCond .eq 5, 3) := by decide +kernel
theorem dX9_ways_8 : decode cX9_ways 8 = .ok (.iconst (-1), 1) := by decide +kernel
theorem dX9_ways_9 : decode cX9_ways 9 = .ok (.ireturn, 1) := by decide +kernel
theorem dX9_ways_10 : decode cX9_ways 10 = .ok (.iload_n 2, 1) := by decide +kernel
theorem dX9_ways_11 : decode cX9_ways 11 = .ok (.i2l, 1) := by decide +kernel
theorem dX9_ways_12 : decode cX9_ways 12 = .ok (.ldc2_w 178, 3) := by decide +kernel
theorem dX9_ways_15 : decode cX9_ways 15 = .ok (.ldc2_w 186, 3) := by decide +kernel
theorem dX9_ways_18 : decode cX9_ways 18 = .ok (.invokestatic 83, 3) := by decide +kernel
theorem dX9_ways_21 : decode cX9_ways 21 = .ok (.ifCond .ne 6, 3) := by decide +kernel
theorem dX9_ways_24 : decode cX9_ways 24 = .ok (.bipush (-2), 2) := by decide +kernel
theorem dX9_ways_26 : decode cX9_ways 26 = .ok (.ireturn, 1) := by decide +kernel
theorem dX9_ways_27 : decode cX9_ways 27 = .ok (.iconst 0, 1) := by decide +kernel
theorem dX9_ways_28 : decode cX9_ways 28 = .ok (.istore_n 3, 1) := by decide +kernel
theorem dX9_ways_29 : decode cX9_ways 29 = .ok (.bipush (-9), 2) := by decide +kernel
theorem dX9_ways_31 : decode cX9_ways 31 = .ok (.istore 4, 2) := by decide +kernel
theorem dX9_ways_33 : decode cX9_ways 33 = .ok (.aload_n 0, 1) := by decide +kernel
theorem dX9_ways_34 : decode cX9_ways 34 = .ok (.invokevirtual 259, 3) := by decide +kernel
theorem dX9_ways_37 : decode cX9_ways 37 = .ok (.iconst 1, 1) := by decide +kernel
theorem dX9_ways_38 : decode cX9_ways 38 = .ok (.istore 5, 2) := by decide +kernel
theorem dX9_ways_40 : decode cX9_ways 40 = .ok (.iload 5, 2) := by decide +kernel
theorem dX9_ways_42 : decode cX9_ways 42 = .ok (.ifCond .eq 81, 3) := by decide +kernel
theorem dX9_ways_45 : decode cX9_ways 45 = .ok (.aload_n 0, 1) := by decide +kernel
theorem dX9_ways_46 : decode cX9_ways 46 = .ok (.iload_n 1, 1) := by decide +kernel
theorem dX9_ways_47 : decode cX9_ways 47 = .ok (.invokevirtual 265, 3) := by decide +kernel
theorem dX9_ways_50 : decode cX9_ways 50 = .ok (.ifCond .eq 14, 3) := by decide +kernel
theorem dX9_ways_53 : decode cX9_ways 53 = .ok (.aload_n 0, 1) := by decide +kernel
theorem dX9_ways_54 : decode cX9_ways 54 = .ok (.invokevirtual 162, 3) := by decide +kernel
theorem dX9_ways_57 : decode cX9_ways 57 = .ok (.ifCond .eq 7, 3) := by decide +kernel
theorem dX9_ways_60 : decode cX9_ways 60 = .ok (.iconst 1, 1) := by decide +kernel
theorem dX9_ways_61 : decode cX9_ways 61 = .ok (.goto 4, 3) := by decide +kernel
theorem dX9_ways_64 : decode cX9_ways 64 = .ok (.iconst 0, 1) := by decide +kernel
theorem dX9_ways_65 : decode cX9_ways 65 = .ok (.istore 6, 2) := by decide +kernel
theorem dX9_ways_67 : decode cX9_ways 67 = .ok (.iload 6, 2) := by decide +kernel
theorem dX9_ways_69 : decode cX9_ways 69 = .ok (.ifCond .eq 28, 3) := by decide +kernel
theorem dX9_ways_72 : decode cX9_ways 72 = .ok (.iload_n 3, 1) := by decide +kernel
theorem dX9_ways_73 : decode cX9_ways 73 = .ok (.ifCond .ne 24, 3) := by decide +kernel
theorem dX9_ways_76 : decode cX9_ways 76 = .ok (.iload_n 2, 1) := by decide +kernel
theorem dX9_ways_77 : decode cX9_ways 77 = .ok (.ifCond .lt 20, 3) := by decide +kernel
theorem dX9_ways_80 : decode cX9_ways 80 = .ok (.aload_n 0, 1) := by decide +kernel
theorem dX9_ways_81 : decode cX9_ways 81 = .ok (.iload_n 2, 1) := by decide +kernel
theorem dX9_ways_82 : decode cX9_ways 82 = .ok (.invokevirtual 172, 3) := by decide +kernel
theorem dX9_ways_85 : decode cX9_ways 85 = .ok (.ifCond .ne 12, 3) := by decide +kernel
theorem dX9_ways_88 : decode cX9_ways 88 = .ok (.aload_n 0, 1) := by decide +kernel
theorem dX9_ways_89 : decode cX9_ways 89 = .ok (.getfield 22, 3) := by decide +kernel
theorem dX9_ways_92 : decode cX9_ways 92 = .ok (.iload_n 2, 1) := by decide +kernel
theorem dX9_ways_93 : decode cX9_ways 93 = .ok (.iaload, 1) := by decide +kernel
theorem dX9_ways_94 : decode cX9_ways 94 = .ok (.goto 5, 3) := by decide +kernel
theorem dX9_ways_97 : decode cX9_ways 97 = .ok (.iload 4, 2) := by decide +kernel
theorem dX9_ways_99 : decode cX9_ways 99 = .ok (.istore 4, 2) := by decide +kernel
theorem dX9_ways_101 : decode cX9_ways 101 = .ok (.iload_n 3, 1) := by decide +kernel
theorem dX9_ways_102 : decode cX9_ways 102 = .ok (.iload 6, 2) := by decide +kernel
theorem dX9_ways_104 : decode cX9_ways 104 = .ok (.ifCond .eq 7, 3) := by decide +kernel
theorem dX9_ways_107 : decode cX9_ways 107 = .ok (.iconst 1, 1) := by decide +kernel
theorem dX9_ways_108 : decode cX9_ways 108 = .ok (.goto 4, 3) := by decide +kernel
theorem dX9_ways_111 : decode cX9_ways 111 = .ok (.iconst 0, 1) := by decide +kernel
theorem dX9_ways_112 : decode cX9_ways 112 = .ok (.iadd, 1) := by decide +kernel
theorem dX9_ways_113 : decode cX9_ways 113 = .ok (.istore_n 3, 1) := by decide +kernel
theorem dX9_ways_114 : decode cX9_ways 114 = .ok (.aload_n 0, 1) := by decide +kernel
theorem dX9_ways_115 : decode cX9_ways 115 = .ok (.invokevirtual 262, 3) := by decide +kernel
theorem dX9_ways_118 : decode cX9_ways 118 = .ok (.istore 5, 2) := by decide +kernel
theorem dX9_ways_120 : decode cX9_ways 120 = .ok (.goto (-80), 3) := by decide +kernel
theorem dX9_ways_123 : decode cX9_ways 123 = .ok (.iload_n 2, 1) := by decide +kernel
theorem dX9_ways_124 : decode cX9_ways 124 = .ok (.ifCond .ge 7, 3) := by decide +kernel
theorem dX9_ways_127 : decode cX9_ways 127 = .ok (.iload_n 3, 1) := by decide +kernel
theorem dX9_ways_128 : decode cX9_ways 128 = .ok (.goto 5, 3) := by decide +kernel
theorem dX9_ways_131 : decode cX9_ways 131 = .ok (.iload 4, 2) := by decide +kernel
theorem dX9_ways_133 : decode cX9_ways 133 = .ok (.ireturn, 1) := by decide +kernel
theorem dX9_next_0 : decode cX9_next 0 = .ok (.aload_n 0, 1) := by decide +kernel
theorem dX9_next_1 : decode cX9_next 1 = .ok (.iload_n 1, 1) := by decide +kernel
theorem dX9_next_2 : decode cX9_next 2 = .ok (.invokevirtual 165, 3) := by decide +kernel
theorem dX9_next_5 : decode cX9_next 5 = .ok (.ifCond .eq 5, 3) := by decide +kernel
theorem dX9_next_8 : decode cX9_next 8 = .ok (.iconst (-1), 1) := by decide +kernel
theorem dX9_next_9 : decode cX9_next 9 = .ok (.ireturn, 1) := by decide +kernel
theorem dX9_next_10 : decode cX9_next 10 = .ok (.iload_n 2, 1) := by decide +kernel
theorem dX9_next_11 : decode cX9_next 11 = .ok (.i2l, 1) := by decide +kernel
theorem dX9_next_12 : decode cX9_next 12 = .ok (.lconst 0, 1) := by decide +kernel
theorem dX9_next_13 : decode cX9_next 13 = .ok (.ldc2_w 186, 3) := by decide +kernel
theorem dX9_next_16 : decode cX9_next 16 = .ok (.invokestatic 83, 3) := by decide +kernel
theorem dX9_next_19 : decode cX9_next 19 = .ok (.ifCond .ne 6, 3) := by decide +kernel
theorem dX9_next_22 : decode cX9_next 22 = .ok (.bipush (-2), 2) := by decide +kernel
theorem dX9_next_24 : decode cX9_next 24 = .ok (.ireturn, 1) := by decide +kernel
theorem dX9_next_25 : decode cX9_next 25 = .ok (.aload_n 0, 1) := by decide +kernel
theorem dX9_next_26 : decode cX9_next 26 = .ok (.iload_n 1, 1) := by decide +kernel
theorem dX9_next_27 : decode cX9_next 27 = .ok (.invokevirtual 155, 3) := by decide +kernel
theorem dX9_next_30 : decode cX9_next 30 = .ok (.ifCond .le 6, 3) := by decide +kernel
theorem dX9_next_33 : decode cX9_next 33 = .ok (.bipush (-3), 2) := by decide +kernel
theorem dX9_next_35 : decode cX9_next 35 = .ok (.ireturn, 1) := by decide +kernel
theorem dX9_next_36 : decode cX9_next 36 = .ok (.aload_n 0, 1) := by decide +kernel
theorem dX9_next_37 : decode cX9_next 37 = .ok (.iload_n 1, 1) := by decide +kernel
theorem dX9_next_38 : decode cX9_next 38 = .ok (.invokevirtual 158, 3) := by decide +kernel
theorem dX9_next_41 : decode cX9_next 41 = .ok (.aload_n 0, 1) := by decide +kernel
theorem dX9_next_42 : decode cX9_next 42 = .ok (.invokevirtual 262, 3) := by decide +kernel
theorem dX9_next_45 : decode cX9_next 45 = .ok (.istore_n 3, 1) := by decide +kernel
theorem dX9_next_46 : decode cX9_next 46 = .ok (.iload_n 3, 1) := by decide +kernel
theorem dX9_next_47 : decode cX9_next 47 = .ok (.ifCond .eq 18, 3) := by decide +kernel
theorem dX9_next_50 : decode cX9_next 50 = .ok (.aload_n 0, 1) := by decide +kernel
theorem dX9_next_51 : decode cX9_next 51 = .ok (.invokevirtual 162, 3) := by decide +kernel
theorem dX9_next_54 : decode cX9_next 54 = .ok (.ifCond .ne 11, 3) := by decide +kernel
theorem dX9_next_57 : decode cX9_next 57 = .ok (.aload_n 0, 1) := by decide +kernel
theorem dX9_next_58 : decode cX9_next 58 = .ok (.invokevirtual 262, 3) := by decide +kernel
theorem dX9_next_61 : decode cX9_next 61 = .ok (.istore_n 3, 1) := by decide +kernel
theorem dX9_next_62 : decode cX9_next 62 = .ok (.goto (-16), 3) := by decide +kernel
theorem dX9_next_65 : decode cX9_next 65 = .ok (.iload_n 3, 1) := by decide +kernel
theorem dX9_next_66 : decode cX9_next 66 = .ok (.ifCond .eq 20, 3) := by decide +kernel
theorem dX9_next_69 : decode cX9_next 69 = .ok (.aload_n 0, 1) := by decide +kernel
theorem dX9_next_70 : decode cX9_next 70 = .ok (.iload_n 2, 1) := by decide +kernel
theorem dX9_next_71 : decode cX9_next 71 = .ok (.invokevirtual 172, 3) := by decide +kernel
theorem dX9_next_74 : decode cX9_next 74 = .ok (.ifCond .ne 12, 3) := by decide +kernel
theorem dX9_next_77 : decode cX9_next 77 = .ok (.aload_n 0, 1) := by decide +kernel
theorem dX9_next_78 : decode cX9_next 78 = .ok (.getfield 22, 3) := by decide +kernel
theorem dX9_next_81 : decode cX9_next 81 = .ok (.iload_n 2, 1) := by decide +kernel
theorem dX9_next_82 : decode cX9_next 82 = .ok (.iaload, 1) := by decide +kernel
theorem dX9_next_83 : decode cX9_next 83 = .ok (.goto 5, 3) := by decide +kernel
theorem dX9_next_86 : decode cX9_next 86 = .ok (.bipush (-9), 2) := by decide +kernel
theorem dX9_next_88 : decode cX9_next 88 = .ok (.ireturn, 1) := by decide +kernel
theorem dX9_reading_0 : decode cX9_reading 0 = .ok (.aload_n 0, 1) := by decide +kernel
theorem dX9_reading_1 : decode cX9_reading 1 = .ok (.iload_n 1, 1) := by decide +kernel
theorem dX9_reading_2 : decode cX9_reading 2 = .ok (.invokevirtual 165, 3) := by decide +kernel
theorem dX9_reading_5 : decode cX9_reading 5 = .ok (.ifCond .ne 11, 3) := by decide +kernel
theorem dX9_reading_8 : decode cX9_reading 8 = .ok (.aload_n 0, 1) := by decide +kernel
theorem dX9_reading_9 : decode cX9_reading 9 = .ok (.iload_n 2, 1) := by decide +kernel
theorem dX9_reading_10 : decode cX9_reading 10 = .ok (.invokevirtual 165, 3) := by decide +kernel
theorem dX9_reading_13 : decode cX9_reading 13 = .ok (.ifCond .eq 5, 3) := by decide +kernel
theorem dX9_reading_16 : decode cX9_reading 16 = .ok (.iconst (-1), 1) := by decide +kernel
theorem dX9_reading_17 : decode cX9_reading 17 = .ok (.ireturn, 1) := by decide +kernel
theorem dX9_reading_18 : decode cX9_reading 18 = .ok (.iload_n 3, 1) := by decide +kernel
theorem dX9_reading_19 : decode cX9_reading 19 = .ok (.invokestatic 188, 3) := by decide +kernel
theorem dX9_reading_22 : decode cX9_reading 22 = .ok (.ifCond .eq 24, 3) := by decide +kernel
theorem dX9_reading_25 : decode cX9_reading 25 = .ok (.iload 4, 2) := by decide +kernel
theorem dX9_reading_27 : decode cX9_reading 27 = .ok (.invokestatic 188, 3) := by decide +kernel
theorem dX9_reading_30 : decode cX9_reading 30 = .ok (.ifCond .eq 16, 3) := by decide +kernel
theorem dX9_reading_33 : decode cX9_reading 33 = .ok (.iload 5, 2) := by decide +kernel
theorem dX9_reading_35 : decode cX9_reading 35 = .ok (.i2l, 1) := by decide +kernel
theorem dX9_reading_36 : decode cX9_reading 36 = .ok (.lconst 0, 1) := by decide +kernel
theorem dX9_reading_37 : decode cX9_reading 37 = .ok (.ldc2_w 195, 3) := by decide +kernel
theorem dX9_reading_40 : decode cX9_reading 40 = .ok (.invokestatic 83, 3) := by decide +kernel
theorem dX9_reading_43 : decode cX9_reading 43 = .ok (.ifCond .ne 6, 3) := by decide +kernel
theorem dX9_reading_46 : decode cX9_reading 46 = .ok (.bipush (-2), 2) := by decide +kernel
theorem dX9_reading_48 : decode cX9_reading 48 = .ok (.ireturn, 1) := by decide +kernel
theorem dX9_reading_49 : decode cX9_reading 49 = .ok (.aload_n 0, 1) := by decide +kernel
theorem dX9_reading_50 : decode cX9_reading 50 = .ok (.getfield 142, 3) := by decide +kernel
theorem dX9_reading_53 : decode cX9_reading 53 = .ok (.bipush 8, 2) := by decide +kernel
theorem dX9_reading_55 : decode cX9_reading 55 = .ok (.if_icmp .ne 6, 3) := by decide +kernel
theorem dX9_reading_58 : decode cX9_reading 58 = .ok (.bipush (-4), 2) := by decide +kernel
theorem dX9_reading_60 : decode cX9_reading 60 = .ok (.ireturn, 1) := by decide +kernel
theorem dX9_reading_61 : decode cX9_reading 61 = .ok (.aload_n 0, 1) := by decide +kernel
theorem dX9_reading_62 : decode cX9_reading 62 = .ok (.getfield 43, 3) := by decide +kernel
theorem dX9_reading_65 : decode cX9_reading 65 = .ok (.aload_n 0, 1) := by decide +kernel
theorem dX9_reading_66 : decode cX9_reading 66 = .ok (.getfield 142, 3) := by decide +kernel
theorem dX9_reading_69 : decode cX9_reading 69 = .ok (.iload_n 1, 1) := by decide +kernel
theorem dX9_reading_70 : decode cX9_reading 70 = .ok (.iastore, 1) := by decide +kernel
theorem dX9_reading_71 : decode cX9_reading 71 = .ok (.aload_n 0, 1) := by decide +kernel
theorem dX9_reading_72 : decode cX9_reading 72 = .ok (.getfield 46, 3) := by decide +kernel
theorem dX9_reading_75 : decode cX9_reading 75 = .ok (.aload_n 0, 1) := by decide +kernel
theorem dX9_reading_76 : decode cX9_reading 76 = .ok (.getfield 142, 3) := by decide +kernel
theorem dX9_reading_79 : decode cX9_reading 79 = .ok (.iload_n 2, 1) := by decide +kernel
theorem dX9_reading_80 : decode cX9_reading 80 = .ok (.iastore, 1) := by decide +kernel
theorem dX9_reading_81 : decode cX9_reading 81 = .ok (.aload_n 0, 1) := by decide +kernel
theorem dX9_reading_82 : decode cX9_reading 82 = .ok (.getfield 49, 3) := by decide +kernel
theorem dX9_reading_85 : decode cX9_reading 85 = .ok (.aload_n 0, 1) := by decide +kernel
theorem dX9_reading_86 : decode cX9_reading 86 = .ok (.getfield 142, 3) := by decide +kernel
theorem dX9_reading_89 : decode cX9_reading 89 = .ok (.iload_n 3, 1) := by decide +kernel
theorem dX9_reading_90 : decode cX9_reading 90 = .ok (.iastore, 1) := by decide +kernel
theorem dX9_reading_91 : decode cX9_reading 91 = .ok (.aload_n 0, 1) := by decide +kernel
theorem dX9_reading_92 : decode cX9_reading 92 = .ok (.getfield 52, 3) := by decide +kernel
theorem dX9_reading_95 : decode cX9_reading 95 = .ok (.aload_n 0, 1) := by decide +kernel
theorem dX9_reading_96 : decode cX9_reading 96 = .ok (.getfield 142, 3) := by decide +kernel
theorem dX9_reading_99 : decode cX9_reading 99 = .ok (.iload 4, 2) := by decide +kernel
theorem dX9_reading_101 : decode cX9_reading 101 = .ok (.iastore, 1) := by decide +kernel
theorem dX9_reading_102 : decode cX9_reading 102 = .ok (.aload_n 0, 1) := by decide +kernel
theorem dX9_reading_103 : decode cX9_reading 103 = .ok (.getfield 55, 3) := by decide +kernel
theorem dX9_reading_106 : decode cX9_reading 106 = .ok (.aload_n 0, 1) := by decide +kernel
theorem dX9_reading_107 : decode cX9_reading 107 = .ok (.getfield 142, 3) := by decide +kernel
theorem dX9_reading_110 : decode cX9_reading 110 = .ok (.iload 5, 2) := by decide +kernel
theorem dX9_reading_112 : decode cX9_reading 112 = .ok (.iastore, 1) := by decide +kernel
theorem dX9_reading_113 : decode cX9_reading 113 = .ok (.aload_n 0, 1) := by decide +kernel
theorem dX9_reading_114 : decode cX9_reading 114 = .ok (.dup, 1) := by decide +kernel
theorem dX9_reading_115 : decode cX9_reading 115 = .ok (.getfield 142, 3) := by decide +kernel
theorem dX9_reading_118 : decode cX9_reading 118 = .ok (.iconst 1, 1) := by decide +kernel
theorem dX9_reading_119 : decode cX9_reading 119 = .ok (.iadd, 1) := by decide +kernel
theorem dX9_reading_120 : decode cX9_reading 120 = .ok (.putfield 142, 3) := by decide +kernel
theorem dX9_reading_123 : decode cX9_reading 123 = .ok (.aload_n 0, 1) := by decide +kernel
theorem dX9_reading_124 : decode cX9_reading 124 = .ok (.getfield 142, 3) := by decide +kernel
theorem dX9_reading_127 : decode cX9_reading 127 = .ok (.iconst 1, 1) := by decide +kernel
theorem dX9_reading_128 : decode cX9_reading 128 = .ok (.isub, 1) := by decide +kernel
theorem dX9_reading_129 : decode cX9_reading 129 = .ok (.ireturn, 1) := by decide +kernel
theorem dX9_back_0 : decode cX9_back 0 = .ok (.iload_n 1, 1) := by decide +kernel
theorem dX9_back_1 : decode cX9_back 1 = .ok (.i2l, 1) := by decide +kernel
theorem dX9_back_2 : decode cX9_back 2 = .ok (.lconst 0, 1) := by decide +kernel
theorem dX9_back_3 : decode cX9_back 3 = .ok (.aload_n 0, 1) := by decide +kernel
theorem dX9_back_4 : decode cX9_back 4 = .ok (.getfield 142, 3) := by decide +kernel
theorem dX9_back_7 : decode cX9_back 7 = .ok (.i2l, 1) := by decide +kernel
theorem dX9_back_8 : decode cX9_back 8 = .ok (.invokestatic 83, 3) := by decide +kernel
theorem dX9_back_11 : decode cX9_back 11 = .ok (.ifCond .ne 6, 3) := by decide +kernel
theorem dX9_back_14 : decode cX9_back 14 = .ok (.bipush (-2), 2) := by decide +kernel
theorem dX9_back_16 : decode cX9_back 16 = .ok (.ireturn, 1) := by decide +kernel
theorem dX9_back_17 : decode cX9_back 17 = .ok (.aload_n 0, 1) := by decide +kernel
theorem dX9_back_18 : decode cX9_back 18 = .ok (.dup, 1) := by decide +kernel
theorem dX9_back_19 : decode cX9_back 19 = .ok (.getfield 142, 3) := by decide +kernel
theorem dX9_back_22 : decode cX9_back 22 = .ok (.iload_n 1, 1) := by decide +kernel
theorem dX9_back_23 : decode cX9_back 23 = .ok (.isub, 1) := by decide +kernel
theorem dX9_back_24 : decode cX9_back 24 = .ok (.putfield 142, 3) := by decide +kernel
theorem dX9_back_27 : decode cX9_back 27 = .ok (.aload_n 0, 1) := by decide +kernel
theorem dX9_back_28 : decode cX9_back 28 = .ok (.getfield 142, 3) := by decide +kernel
theorem dX9_back_31 : decode cX9_back 31 = .ok (.ireturn, 1) := by decide +kernel
theorem dX9_areSo_0 : decode cX9_areSo 0 = .ok (.iconst 1, 1) := by decide +kernel
theorem dX9_areSo_1 : decode cX9_areSo 1 = .ok (.istore_n 1, 1) := by decide +kernel
theorem dX9_areSo_2 : decode cX9_areSo 2 = .ok (.iconst 0, 1) := by decide +kernel
theorem dX9_areSo_3 : decode cX9_areSo 3 = .ok (.istore_n 2, 1) := by decide +kernel
theorem dX9_areSo_4 : decode cX9_areSo 4 = .ok (.iload_n 2, 1) := by decide +kernel
theorem dX9_areSo_5 : decode cX9_areSo 5 = .ok (.aload_n 0, 1) := by decide +kernel
theorem dX9_areSo_6 : decode cX9_areSo 6 = .ok (.getfield 142, 3) := by decide +kernel
theorem dX9_areSo_9 : decode cX9_areSo 9 = .ok (.if_icmp .ge 56, 3) := by decide +kernel
theorem dX9_areSo_12 : decode cX9_areSo 12 = .ok (.iload_n 1, 1) := by decide +kernel
theorem dX9_areSo_13 : decode cX9_areSo 13 = .ok (.ifCond .eq 44, 3) := by decide +kernel
theorem dX9_areSo_16 : decode cX9_areSo 16 = .ok (.aload_n 0, 1) := by decide +kernel
theorem dX9_areSo_17 : decode cX9_areSo 17 = .ok (.aload_n 0, 1) := by decide +kernel
theorem dX9_areSo_18 : decode cX9_areSo 18 = .ok (.getfield 43, 3) := by decide +kernel
theorem dX9_areSo_21 : decode cX9_areSo 21 = .ok (.iload_n 2, 1) := by decide +kernel
theorem dX9_areSo_22 : decode cX9_areSo 22 = .ok (.iaload, 1) := by decide +kernel
theorem dX9_areSo_23 : decode cX9_areSo 23 = .ok (.aload_n 0, 1) := by decide +kernel
theorem dX9_areSo_24 : decode cX9_areSo 24 = .ok (.getfield 46, 3) := by decide +kernel
theorem dX9_areSo_27 : decode cX9_areSo 27 = .ok (.iload_n 2, 1) := by decide +kernel
theorem dX9_areSo_28 : decode cX9_areSo 28 = .ok (.iaload, 1) := by decide +kernel
theorem dX9_areSo_29 : decode cX9_areSo 29 = .ok (.aload_n 0, 1) := by decide +kernel
theorem dX9_areSo_30 : decode cX9_areSo 30 = .ok (.getfield 49, 3) := by decide +kernel
theorem dX9_areSo_33 : decode cX9_areSo 33 = .ok (.iload_n 2, 1) := by decide +kernel
theorem dX9_areSo_34 : decode cX9_areSo 34 = .ok (.iaload, 1) := by decide +kernel
theorem dX9_areSo_35 : decode cX9_areSo 35 = .ok (.aload_n 0, 1) := by decide +kernel
theorem dX9_areSo_36 : decode cX9_areSo 36 = .ok (.getfield 52, 3) := by decide +kernel
theorem dX9_areSo_39 : decode cX9_areSo 39 = .ok (.iload_n 2, 1) := by decide +kernel
theorem dX9_areSo_40 : decode cX9_areSo 40 = .ok (.iaload, 1) := by decide +kernel
theorem dX9_areSo_41 : decode cX9_areSo 41 = .ok (.invokevirtual 191, 3) := by decide +kernel
theorem dX9_areSo_44 : decode cX9_areSo 44 = .ok (.aload_n 0, 1) := by decide +kernel
theorem dX9_areSo_45 : decode cX9_areSo 45 = .ok (.getfield 55, 3) := by decide +kernel
theorem dX9_areSo_48 : decode cX9_areSo 48 = .ok (.iload_n 2, 1) := by decide +kernel
theorem dX9_areSo_49 : decode cX9_areSo 49 = .ok (.iaload, 1) := by decide +kernel
theorem dX9_areSo_50 : decode cX9_areSo 50 = .ok (.if_icmp .ne 7, 3) := by decide +kernel
theorem dX9_areSo_53 : decode cX9_areSo 53 = .ok (.iconst 1, 1) := by decide +kernel
theorem dX9_areSo_54 : decode cX9_areSo 54 = .ok (.goto 4, 3) := by decide +kernel
theorem dX9_areSo_57 : decode cX9_areSo 57 = .ok (.iconst 0, 1) := by decide +kernel
theorem dX9_areSo_58 : decode cX9_areSo 58 = .ok (.istore_n 1, 1) := by decide +kernel
theorem dX9_areSo_59 : decode cX9_areSo 59 = .ok (.iinc 2 1, 3) := by decide +kernel
theorem dX9_areSo_62 : decode cX9_areSo 62 = .ok (.goto (-58), 3) := by decide +kernel
theorem dX9_areSo_65 : decode cX9_areSo 65 = .ok (.iload_n 1, 1) := by decide +kernel
theorem dX9_areSo_66 : decode cX9_areSo 66 = .ok (.ireturn, 1) := by decide +kernel
theorem dX9_kinds_0 : decode cX9_kinds 0 = .ok (.aload_n 0, 1) := by decide +kernel
theorem dX9_kinds_1 : decode cX9_kinds 1 = .ok (.iload_n 1, 1) := by decide +kernel
theorem dX9_kinds_2 : decode cX9_kinds 2 = .ok (.invokevirtual 165, 3) := by decide +kernel
theorem dX9_kinds_5 : decode cX9_kinds 5 = .ok (.ifCond .eq 5, 3) := by decide +kernel
theorem dX9_kinds_8 : decode cX9_kinds 8 = .ok (.iconst (-1), 1) := by decide +kernel
theorem dX9_kinds_9 : decode cX9_kinds 9 = .ok (.ireturn, 1) := by decide +kernel
theorem dX9_kinds_10 : decode cX9_kinds 10 = .ok (.aload_n 0, 1) := by decide +kernel
theorem dX9_kinds_11 : decode cX9_kinds 11 = .ok (.getfield 7, 3) := by decide +kernel
theorem dX9_kinds_14 : decode cX9_kinds 14 = .ok (.iload_n 1, 1) := by decide +kernel
theorem dX9_kinds_15 : decode cX9_kinds 15 = .ok (.iaload, 1) := by decide +kernel
theorem dX9_kinds_16 : decode cX9_kinds 16 = .ok (.istore_n 2, 1) := by decide +kernel
theorem dX9_kinds_17 : decode cX9_kinds 17 = .ok (.iconst 0, 1) := by decide +kernel
theorem dX9_kinds_18 : decode cX9_kinds 18 = .ok (.istore_n 3, 1) := by decide +kernel
theorem dX9_kinds_19 : decode cX9_kinds 19 = .ok (.iconst 0, 1) := by decide +kernel
theorem dX9_kinds_20 : decode cX9_kinds 20 = .ok (.istore 4, 2) := by decide +kernel
theorem dX9_kinds_22 : decode cX9_kinds 22 = .ok (.iload 4, 2) := by decide +kernel
theorem dX9_kinds_24 : decode cX9_kinds 24 = .ok (.iconst 3, 1) := by decide +kernel
theorem dX9_kinds_25 : decode cX9_kinds 25 = .ok (.if_icmp .ge 35, 3) := by decide +kernel
theorem dX9_kinds_28 : decode cX9_kinds 28 = .ok (.aload_n 0, 1) := by decide +kernel
theorem dX9_kinds_29 : decode cX9_kinds 29 = .ok (.getfield 7, 3) := by decide +kernel
theorem dX9_kinds_32 : decode cX9_kinds 32 = .ok (.iload_n 1, 1) := by decide +kernel
theorem dX9_kinds_33 : decode cX9_kinds 33 = .ok (.iload 4, 2) := by decide +kernel
theorem dX9_kinds_35 : decode cX9_kinds 35 = .ok (.iastore, 1) := by decide +kernel
theorem dX9_kinds_36 : decode cX9_kinds 36 = .ok (.iload_n 3, 1) := by decide +kernel
theorem dX9_kinds_37 : decode cX9_kinds 37 = .ok (.aload_n 0, 1) := by decide +kernel
theorem dX9_kinds_38 : decode cX9_kinds 38 = .ok (.invokevirtual 268, 3) := by decide +kernel
theorem dX9_kinds_41 : decode cX9_kinds 41 = .ok (.ifCond .eq 10, 3) := by decide +kernel
theorem dX9_kinds_44 : decode cX9_kinds 44 = .ok (.iconst 1, 1) := by decide +kernel
theorem dX9_kinds_45 : decode cX9_kinds 45 = .ok (.iload 4, 2) := by decide +kernel
theorem dX9_kinds_47 : decode cX9_kinds 47 = .ok (.ishl, 1) := by decide +kernel
theorem dX9_kinds_48 : decode cX9_kinds 48 = .ok (.goto 4, 3) := by decide +kernel
theorem dX9_kinds_51 : decode cX9_kinds 51 = .ok (.iconst 0, 1) := by decide +kernel
theorem dX9_kinds_52 : decode cX9_kinds 52 = .ok (.ior, 1) := by decide +kernel
theorem dX9_kinds_53 : decode cX9_kinds 53 = .ok (.istore_n 3, 1) := by decide +kernel
theorem dX9_kinds_54 : decode cX9_kinds 54 = .ok (.iinc 4 1, 3) := by decide +kernel
theorem dX9_kinds_57 : decode cX9_kinds 57 = .ok (.goto (-35), 3) := by decide +kernel
theorem dX9_kinds_60 : decode cX9_kinds 60 = .ok (.aload_n 0, 1) := by decide +kernel
theorem dX9_kinds_61 : decode cX9_kinds 61 = .ok (.getfield 7, 3) := by decide +kernel
theorem dX9_kinds_64 : decode cX9_kinds 64 = .ok (.iload_n 1, 1) := by decide +kernel
theorem dX9_kinds_65 : decode cX9_kinds 65 = .ok (.iload_n 2, 1) := by decide +kernel
theorem dX9_kinds_66 : decode cX9_kinds 66 = .ok (.iastore, 1) := by decide +kernel
theorem dX9_kinds_67 : decode cX9_kinds 67 = .ok (.iload_n 3, 1) := by decide +kernel
theorem dX9_kinds_68 : decode cX9_kinds 68 = .ok (.ireturn, 1) := by decide +kernel
theorem dX9_pitches_0 : decode cX9_pitches 0 = .ok (.aload_n 0, 1) := by decide +kernel
theorem dX9_pitches_1 : decode cX9_pitches 1 = .ok (.iload_n 1, 1) := by decide +kernel
theorem dX9_pitches_2 : decode cX9_pitches 2 = .ok (.invokevirtual 165, 3) := by decide +kernel
theorem dX9_pitches_5 : decode cX9_pitches 5 = .ok (.ifCond .ne 11, 3) := by decide +kernel
theorem dX9_pitches_8 : decode cX9_pitches 8 = .ok (.aload_n 0, 1) := by decide +kernel
theorem dX9_pitches_9 : decode cX9_pitches 9 = .ok (.iload_n 2, 1) := by decide +kernel
theorem dX9_pitches_10 : decode cX9_pitches 10 = .ok (.invokevirtual 172, 3) := by decide +kernel
theorem dX9_pitches_13 : decode cX9_pitches 13 = .ok (.ifCond .eq 5, 3) := by decide +kernel
theorem dX9_pitches_16 : decode cX9_pitches 16 = .ok (.iconst (-1), 1) := by decide +kernel
theorem dX9_pitches_17 : decode cX9_pitches 17 = .ok (.ireturn, 1) := by decide +kernel
theorem dX9_pitches_18 : decode cX9_pitches 18 = .ok (.bipush 6, 2) := by decide +kernel
theorem dX9_pitches_20 : decode cX9_pitches 20 = .ok (.iload_n 1, 1) := by decide +kernel
theorem dX9_pitches_21 : decode cX9_pitches 21 = .ok (.imul, 1) := by decide +kernel
theorem dX9_pitches_22 : decode cX9_pitches 22 = .ok (.iload_n 2, 1) := by decide +kernel
theorem dX9_pitches_23 : decode cX9_pitches 23 = .ok (.iadd, 1) := by decide +kernel
theorem dX9_pitches_24 : decode cX9_pitches 24 = .ok (.istore_n 3, 1) := by decide +kernel
theorem dX9_pitches_25 : decode cX9_pitches 25 = .ok (.aload_n 0, 1) := by decide +kernel
theorem dX9_pitches_26 : decode cX9_pitches 26 = .ok (.getfield 13, 3) := by decide +kernel
theorem dX9_pitches_29 : decode cX9_pitches 29 = .ok (.iload_n 3, 1) := by decide +kernel
theorem dX9_pitches_30 : decode cX9_pitches 30 = .ok (.iaload, 1) := by decide +kernel
theorem dX9_pitches_31 : decode cX9_pitches 31 = .ok (.istore 4, 2) := by decide +kernel
theorem dX9_pitches_33 : decode cX9_pitches 33 = .ok (.iconst 0, 1) := by decide +kernel
theorem dX9_pitches_34 : decode cX9_pitches 34 = .ok (.istore 5, 2) := by decide +kernel
theorem dX9_pitches_36 : decode cX9_pitches 36 = .ok (.iconst 0, 1) := by decide +kernel
theorem dX9_pitches_37 : decode cX9_pitches 37 = .ok (.istore 6, 2) := by decide +kernel
theorem dX9_pitches_39 : decode cX9_pitches 39 = .ok (.iload 6, 2) := by decide +kernel
theorem dX9_pitches_41 : decode cX9_pitches 41 = .ok (.aload_n 0, 1) := by decide +kernel
theorem dX9_pitches_42 : decode cX9_pitches 42 = .ok (.getfield 87, 3) := by decide +kernel
theorem dX9_pitches_45 : decode cX9_pitches 45 = .ok (.if_icmp .ge 37, 3) := by decide +kernel
theorem dX9_pitches_48 : decode cX9_pitches 48 = .ok (.aload_n 0, 1) := by decide +kernel
theorem dX9_pitches_49 : decode cX9_pitches 49 = .ok (.getfield 13, 3) := by decide +kernel
theorem dX9_pitches_52 : decode cX9_pitches 52 = .ok (.iload_n 3, 1) := by decide +kernel
theorem dX9_pitches_53 : decode cX9_pitches 53 = .ok (.iload 6, 2) := by decide +kernel
theorem dX9_pitches_55 : decode cX9_pitches 55 = .ok (.iastore, 1) := by decide +kernel
theorem dX9_pitches_56 : decode cX9_pitches 56 = .ok (.iload 5, 2) := by decide +kernel
theorem dX9_pitches_58 : decode cX9_pitches 58 = .ok (.aload_n 0, 1) := by decide +kernel
theorem dX9_pitches_59 : decode cX9_pitches 59 = .ok (.invokevirtual 268, 3) := by decide +kernel
theorem dX9_pitches_62 : decode cX9_pitches 62 = .ok (.ifCond .eq 10, 3) := by decide +kernel
theorem dX9_pitches_65 : decode cX9_pitches 65 = .ok (.iconst 1, 1) := by decide +kernel
theorem dX9_pitches_66 : decode cX9_pitches 66 = .ok (.iload 6, 2) := by decide +kernel
theorem dX9_pitches_68 : decode cX9_pitches 68 = .ok (.ishl, 1) := by decide +kernel
theorem dX9_pitches_69 : decode cX9_pitches 69 = .ok (.goto 4, 3) := by decide +kernel
theorem dX9_pitches_72 : decode cX9_pitches 72 = .ok (.iconst 0, 1) := by decide +kernel
theorem dX9_pitches_73 : decode cX9_pitches 73 = .ok (.ior, 1) := by decide +kernel
theorem dX9_pitches_74 : decode cX9_pitches 74 = .ok (.istore 5, 2) := by decide +kernel
theorem dX9_pitches_76 : decode cX9_pitches 76 = .ok (.iinc 6 1, 3) := by decide +kernel
theorem dX9_pitches_79 : decode cX9_pitches 79 = .ok (.goto (-40), 3) := by decide +kernel
theorem dX9_pitches_82 : decode cX9_pitches 82 = .ok (.aload_n 0, 1) := by decide +kernel
theorem dX9_pitches_83 : decode cX9_pitches 83 = .ok (.getfield 13, 3) := by decide +kernel
theorem dX9_pitches_86 : decode cX9_pitches 86 = .ok (.iload_n 3, 1) := by decide +kernel
theorem dX9_pitches_87 : decode cX9_pitches 87 = .ok (.iload 4, 2) := by decide +kernel
theorem dX9_pitches_89 : decode cX9_pitches 89 = .ok (.iastore, 1) := by decide +kernel
theorem dX9_pitches_90 : decode cX9_pitches 90 = .ok (.iload 5, 2) := by decide +kernel
theorem dX9_pitches_92 : decode cX9_pitches 92 = .ok (.ireturn, 1) := by decide +kernel
theorem dX9_odds_0 : decode cX9_odds 0 = .ok (.aload_n 0, 1) := by decide +kernel
theorem dX9_odds_1 : decode cX9_odds 1 = .ok (.iload_n 1, 1) := by decide +kernel
theorem dX9_odds_2 : decode cX9_odds 2 = .ok (.invokevirtual 165, 3) := by decide +kernel
theorem dX9_odds_5 : decode cX9_odds 5 = .ok (.ifCond .ne 25, 3) := by decide +kernel
theorem dX9_odds_8 : decode cX9_odds 8 = .ok (.iload_n 2, 1) := by decide +kernel
theorem dX9_odds_9 : decode cX9_odds 9 = .ok (.i2l, 1) := by decide +kernel
theorem dX9_odds_10 : decode cX9_odds 10 = .ok (.lconst 0, 1) := by decide +kernel
theorem dX9_odds_11 : decode cX9_odds 11 = .ok (.ldc2_w 195, 3) := by decide +kernel
theorem dX9_odds_14 : decode cX9_odds 14 = .ok (.invokestatic 83, 3) := by decide +kernel
theorem dX9_odds_17 : decode cX9_odds 17 = .ok (.ifCond .eq 13, 3) := by decide +kernel
theorem dX9_odds_20 : decode cX9_odds 20 = .ok (.iload_n 3, 1) := by decide +kernel
theorem dX9_odds_21 : decode cX9_odds 21 = .ok (.i2l, 1) := by decide +kernel
theorem dX9_odds_22 : decode cX9_odds 22 = .ok (.lconst 0, 1) := by decide +kernel
theorem dX9_odds_23 : decode cX9_odds 23 = .ok (.lconst 1, 1) := by decide +kernel
theorem dX9_odds_24 : decode cX9_odds 24 = .ok (.invokestatic 83, 3) := by decide +kernel
theorem dX9_odds_27 : decode cX9_odds 27 = .ok (.ifCond .ne 7, 3) := by decide +kernel
theorem dX9_odds_30 : decode cX9_odds 30 = .ok (.invokestatic 76, 3) := by decide +kernel
theorem dX9_odds_33 : decode cX9_odds 33 = .ok (.lreturn, 1) := by decide +kernel
theorem dX9_odds_34 : decode cX9_odds 34 = .ok (.iconst 0, 1) := by decide +kernel
theorem dX9_odds_35 : decode cX9_odds 35 = .ok (.istore 4, 2) := by decide +kernel
theorem dX9_odds_37 : decode cX9_odds 37 = .ok (.bipush (-5), 2) := by decide +kernel
theorem dX9_odds_39 : decode cX9_odds 39 = .ok (.istore 5, 2) := by decide +kernel
theorem dX9_odds_41 : decode cX9_odds 41 = .ok (.iload 5, 2) := by decide +kernel
theorem dX9_odds_43 : decode cX9_odds 43 = .ok (.iconst 5, 1) := by decide +kernel
theorem dX9_odds_44 : decode cX9_odds 44 = .ok (.if_icmp .gt 59, 3) := by decide +kernel
theorem dX9_odds_47 : decode cX9_odds 47 = .ok (.bipush (-5), 2) := by decide +kernel
theorem dX9_odds_49 : decode cX9_odds 49 = .ok (.istore 6, 2) := by decide +kernel
theorem dX9_odds_51 : decode cX9_odds 51 = .ok (.iload 6, 2) := by decide +kernel
theorem dX9_odds_53 : decode cX9_odds 53 = .ok (.iconst 5, 1) := by decide +kernel
theorem dX9_odds_54 : decode cX9_odds 54 = .ok (.if_icmp .gt 43, 3) := by decide +kernel
theorem dX9_odds_57 : decode cX9_odds 57 = .ok (.iload 4, 2) := by decide +kernel
theorem dX9_odds_59 : decode cX9_odds 59 = .ok (.iload 5, 2) := by decide +kernel
theorem dX9_odds_61 : decode cX9_odds 61 = .ok (.ifCond .ne 8, 3) := by decide +kernel
theorem dX9_odds_64 : decode cX9_odds 64 = .ok (.iload 6, 2) := by decide +kernel
theorem dX9_odds_66 : decode cX9_odds 66 = .ok (.ifCond .eq 21, 3) := by decide +kernel
theorem dX9_odds_69 : decode cX9_odds 69 = .ok (.aload_n 0, 1) := by decide +kernel
theorem dX9_odds_70 : decode cX9_odds 70 = .ok (.iload_n 1, 1) := by decide +kernel
theorem dX9_odds_71 : decode cX9_odds 71 = .ok (.iload_n 1, 1) := by decide +kernel
theorem dX9_odds_72 : decode cX9_odds 72 = .ok (.iload 5, 2) := by decide +kernel
theorem dX9_odds_74 : decode cX9_odds 74 = .ok (.iload 6, 2) := by decide +kernel
theorem dX9_odds_76 : decode cX9_odds 76 = .ok (.invokevirtual 191, 3) := by decide +kernel
theorem dX9_odds_79 : decode cX9_odds 79 = .ok (.iload_n 2, 1) := by decide +kernel
theorem dX9_odds_80 : decode cX9_odds 80 = .ok (.if_icmp .lt 7, 3) := by decide +kernel
theorem dX9_odds_83 : decode cX9_odds 83 = .ok (.iconst 1, 1) := by decide +kernel
theorem dX9_odds_84 : decode cX9_odds 84 = .ok (.goto 4, 3) := by decide +kernel
theorem dX9_odds_87 : decode cX9_odds 87 = .ok (.iconst 0, 1) := by decide +kernel
theorem dX9_odds_88 : decode cX9_odds 88 = .ok (.iadd, 1) := by decide +kernel
theorem dX9_odds_89 : decode cX9_odds 89 = .ok (.istore 4, 2) := by decide +kernel
theorem dX9_odds_91 : decode cX9_odds 91 = .ok (.iinc 6 1, 3) := by decide +kernel
theorem dX9_odds_94 : decode cX9_odds 94 = .ok (.goto (-43), 3) := by decide +kernel
theorem dX9_odds_97 : decode cX9_odds 97 = .ok (.iinc 5 1, 3) := by decide +kernel
theorem dX9_odds_100 : decode cX9_odds 100 = .ok (.goto (-59), 3) := by decide +kernel
theorem dX9_odds_103 : decode cX9_odds 103 = .ok (.iload 4, 2) := by decide +kernel
theorem dX9_odds_105 : decode cX9_odds 105 = .ok (.i2l, 1) := by decide +kernel
theorem dX9_odds_106 : decode cX9_odds 106 = .ok (.ldc2_w 271, 3) := by decide +kernel
theorem dX9_odds_109 : decode cX9_odds 109 = .ok (.iload_n 3, 1) := by decide +kernel
theorem dX9_odds_110 : decode cX9_odds 110 = .ok (.invokestatic 273, 3) := by decide +kernel
theorem dX9_odds_113 : decode cX9_odds 113 = .ok (.lreturn, 1) := by decide +kernel
theorem dX9_noSheet_0 : decode cX9_noSheet 0 = .ok (.iload_n 0, 1) := by decide +kernel
theorem dX9_noSheet_1 : decode cX9_noSheet 1 = .ok (.i2l, 1) := by decide +kernel
theorem dX9_noSheet_2 : decode cX9_noSheet 2 = .ok (.lconst 0, 1) := by decide +kernel
theorem dX9_noSheet_3 : decode cX9_noSheet 3 = .ok (.ldc2_w 219, 3) := by decide +kernel
theorem dX9_noSheet_6 : decode cX9_noSheet 6 = .ok (.invokestatic 83, 3) := by decide +kernel
theorem dX9_noSheet_9 : decode cX9_noSheet 9 = .ok (.ifCond .ne 7, 3) := by decide +kernel
theorem dX9_noSheet_12 : decode cX9_noSheet 12 = .ok (.iconst 1, 1) := by decide +kernel
theorem dX9_noSheet_13 : decode cX9_noSheet 13 = .ok (.goto 4, 3) := by decide +kernel
theorem dX9_noSheet_16 : decode cX9_noSheet 16 = .ok (.iconst 0, 1) := by decide +kernel
theorem dX9_noSheet_17 : decode cX9_noSheet 17 = .ok (.ireturn, 1) := by decide +kernel
theorem dX9_sheet_0 : decode cX9_sheet 0 = .ok (.iload_n 1, 1) := by decide +kernel
theorem dX9_sheet_1 : decode cX9_sheet 1 = .ok (.invokestatic 125, 3) := by decide +kernel
theorem dX9_sheet_4 : decode cX9_sheet 4 = .ok (.ifCond .eq 9, 3) := by decide +kernel
theorem dX9_sheet_7 : decode cX9_sheet 7 = .ok (.aload_n 0, 1) := by decide +kernel
theorem dX9_sheet_8 : decode cX9_sheet 8 = .ok (.iconst (-1), 1) := by decide +kernel
theorem dX9_sheet_9 : decode cX9_sheet 9 = .ok (.invokevirtual 129, 3) := by decide +kernel
theorem dX9_sheet_12 : decode cX9_sheet 12 = .ok (.ireturn, 1) := by decide +kernel
theorem dX9_sheet_13 : decode cX9_sheet 13 = .ok (.iload_n 2, 1) := by decide +kernel
theorem dX9_sheet_14 : decode cX9_sheet 14 = .ok (.i2l, 1) := by decide +kernel
theorem dX9_sheet_15 : decode cX9_sheet 15 = .ok (.lconst 0, 1) := by decide +kernel
theorem dX9_sheet_16 : decode cX9_sheet 16 = .ok (.ldc2_w 109, 3) := by decide +kernel
theorem dX9_sheet_19 : decode cX9_sheet 19 = .ok (.invokestatic 83, 3) := by decide +kernel
theorem dX9_sheet_22 : decode cX9_sheet 22 = .ok (.ifCond .eq 9, 3) := by decide +kernel
theorem dX9_sheet_25 : decode cX9_sheet 25 = .ok (.iload_n 3, 1) := by decide +kernel
theorem dX9_sheet_26 : decode cX9_sheet 26 = .ok (.bipush 60, 2) := by decide +kernel
theorem dX9_sheet_28 : decode cX9_sheet 28 = .ok (.if_icmp .le 10, 3) := by decide +kernel
theorem dX9_sheet_31 : decode cX9_sheet 31 = .ok (.aload_n 0, 1) := by decide +kernel
theorem dX9_sheet_32 : decode cX9_sheet 32 = .ok (.bipush (-2), 2) := by decide +kernel
theorem dX9_sheet_34 : decode cX9_sheet 34 = .ok (.invokevirtual 129, 3) := by decide +kernel
theorem dX9_sheet_37 : decode cX9_sheet 37 = .ok (.ireturn, 1) := by decide +kernel
theorem dX9_sheet_38 : decode cX9_sheet 38 = .ok (.iload_n 3, 1) := by decide +kernel
theorem dX9_sheet_39 : decode cX9_sheet 39 = .ok (.ifCond .ge 9, 3) := by decide +kernel
theorem dX9_sheet_42 : decode cX9_sheet 42 = .ok (.aload_n 0, 1) := by decide +kernel
theorem dX9_sheet_43 : decode cX9_sheet 43 = .ok (.iconst 4, 1) := by decide +kernel
theorem dX9_sheet_44 : decode cX9_sheet 44 = .ok (.invokevirtual 117, 3) := by decide +kernel
theorem dX9_sheet_47 : decode cX9_sheet 47 = .ok (.ireturn, 1) := by decide +kernel
theorem dX9_sheet_48 : decode cX9_sheet 48 = .ok (.aload_n 0, 1) := by decide +kernel
theorem dX9_sheet_49 : decode cX9_sheet 49 = .ok (.getfield 58, 3) := by decide +kernel
theorem dX9_sheet_52 : decode cX9_sheet 52 = .ok (.iload_n 1, 1) := by decide +kernel
theorem dX9_sheet_53 : decode cX9_sheet 53 = .ok (.iload_n 3, 1) := by decide +kernel
theorem dX9_sheet_54 : decode cX9_sheet 54 = .ok (.iastore, 1) := by decide +kernel
theorem dX9_sheet_55 : decode cX9_sheet 55 = .ok (.aload_n 0, 1) := by decide +kernel
theorem dX9_sheet_56 : decode cX9_sheet 56 = .ok (.getfield 61, 3) := by decide +kernel
theorem dX9_sheet_59 : decode cX9_sheet 59 = .ok (.iload_n 1, 1) := by decide +kernel
theorem dX9_sheet_60 : decode cX9_sheet 60 = .ok (.iload_n 2, 1) := by decide +kernel
theorem dX9_sheet_61 : decode cX9_sheet 61 = .ok (.iastore, 1) := by decide +kernel
theorem dX9_sheet_62 : decode cX9_sheet 62 = .ok (.iconst 0, 1) := by decide +kernel
theorem dX9_sheet_63 : decode cX9_sheet 63 = .ok (.istore 4, 2) := by decide +kernel
theorem dX9_sheet_65 : decode cX9_sheet 65 = .ok (.iload 4, 2) := by decide +kernel
theorem dX9_sheet_67 : decode cX9_sheet 67 = .ok (.iload_n 3, 1) := by decide +kernel
theorem dX9_sheet_68 : decode cX9_sheet 68 = .ok (.if_icmp .ge 22, 3) := by decide +kernel
theorem dX9_sheet_71 : decode cX9_sheet 71 = .ok (.aload_n 0, 1) := by decide +kernel
theorem dX9_sheet_72 : decode cX9_sheet 72 = .ok (.getfield 64, 3) := by decide +kernel
theorem dX9_sheet_75 : decode cX9_sheet 75 = .ok (.bipush 60, 2) := by decide +kernel
theorem dX9_sheet_77 : decode cX9_sheet 77 = .ok (.iload_n 1, 1) := by decide +kernel
theorem dX9_sheet_78 : decode cX9_sheet 78 = .ok (.imul, 1) := by decide +kernel
theorem dX9_sheet_79 : decode cX9_sheet 79 = .ok (.iload 4, 2) := by decide +kernel
theorem dX9_sheet_81 : decode cX9_sheet 81 = .ok (.iadd, 1) := by decide +kernel
theorem dX9_sheet_82 : decode cX9_sheet 82 = .ok (.iconst 0, 1) := by decide +kernel
theorem dX9_sheet_83 : decode cX9_sheet 83 = .ok (.iastore, 1) := by decide +kernel
theorem dX9_sheet_84 : decode cX9_sheet 84 = .ok (.iinc 4 1, 3) := by decide +kernel
theorem dX9_sheet_87 : decode cX9_sheet 87 = .ok (.goto (-22), 3) := by decide +kernel
theorem dX9_sheet_90 : decode cX9_sheet 90 = .ok (.aload_n 0, 1) := by decide +kernel
theorem dX9_sheet_91 : decode cX9_sheet 91 = .ok (.iconst 1, 1) := by decide +kernel
theorem dX9_sheet_92 : decode cX9_sheet 92 = .ok (.invokevirtual 129, 3) := by decide +kernel
theorem dX9_sheet_95 : decode cX9_sheet 95 = .ok (.ireturn, 1) := by decide +kernel
theorem dX9_lose_0 : decode cX9_lose 0 = .ok (.iload_n 1, 1) := by decide +kernel
theorem dX9_lose_1 : decode cX9_lose 1 = .ok (.invokestatic 125, 3) := by decide +kernel
theorem dX9_lose_4 : decode cX9_lose 4 = .ok (.ifCond .eq 5, 3) := by decide +kernel
theorem dX9_lose_7 : decode cX9_lose 7 = .ok (.iconst (-1), 1) := by decide +kernel
theorem dX9_lose_8 : decode cX9_lose 8 = .ok (.ireturn, 1) := by decide +kernel
theorem dX9_lose_9 : decode cX9_lose 9 = .ok (.aload_n 0, 1) := by decide +kernel
theorem dX9_lose_10 : decode cX9_lose 10 = .ok (.getfield 58, 3) := by decide +kernel
theorem dX9_lose_13 : decode cX9_lose 13 = .ok (.iload_n 1, 1) := by decide +kernel
theorem dX9_lose_14 : decode cX9_lose 14 = .ok (.iaload, 1) := by decide +kernel
theorem dX9_lose_15 : decode cX9_lose 15 = .ok (.ifCond .ge 7, 3) := by decide +kernel
theorem dX9_lose_18 : decode cX9_lose 18 = .ok (.iconst 0, 1) := by decide +kernel
theorem dX9_lose_19 : decode cX9_lose 19 = .ok (.goto 4, 3) := by decide +kernel
theorem dX9_lose_22 : decode cX9_lose 22 = .ok (.iconst 1, 1) := by decide +kernel
theorem dX9_lose_23 : decode cX9_lose 23 = .ok (.istore_n 2, 1) := by decide +kernel
theorem dX9_lose_24 : decode cX9_lose 24 = .ok (.aload_n 0, 1) := by decide +kernel
theorem dX9_lose_25 : decode cX9_lose 25 = .ok (.getfield 58, 3) := by decide +kernel
theorem dX9_lose_28 : decode cX9_lose 28 = .ok (.iload_n 1, 1) := by decide +kernel
theorem dX9_lose_29 : decode cX9_lose 29 = .ok (.iconst (-1), 1) := by decide +kernel
theorem dX9_lose_30 : decode cX9_lose 30 = .ok (.iastore, 1) := by decide +kernel
theorem dX9_lose_31 : decode cX9_lose 31 = .ok (.iload_n 2, 1) := by decide +kernel
theorem dX9_lose_32 : decode cX9_lose 32 = .ok (.ireturn, 1) := by decide +kernel
theorem dX9_noCell_0 : decode cX9_noCell 0 = .ok (.aload_n 0, 1) := by decide +kernel
theorem dX9_noCell_1 : decode cX9_noCell 1 = .ok (.getfield 58, 3) := by decide +kernel
theorem dX9_noCell_4 : decode cX9_noCell 4 = .ok (.iload_n 1, 1) := by decide +kernel
theorem dX9_noCell_5 : decode cX9_noCell 5 = .ok (.iaload, 1) := by decide +kernel
theorem dX9_noCell_6 : decode cX9_noCell 6 = .ok (.ifCond .ge 7, 3) := by decide +kernel
theorem dX9_noCell_9 : decode cX9_noCell 9 = .ok (.iconst 1, 1) := by decide +kernel
theorem dX9_noCell_10 : decode cX9_noCell 10 = .ok (.goto 26, 3) := by decide +kernel
theorem dX9_noCell_13 : decode cX9_noCell 13 = .ok (.iload_n 2, 1) := by decide +kernel
theorem dX9_noCell_14 : decode cX9_noCell 14 = .ok (.i2l, 1) := by decide +kernel
theorem dX9_noCell_15 : decode cX9_noCell 15 = .ok (.lconst 0, 1) := by decide +kernel
theorem dX9_noCell_16 : decode cX9_noCell 16 = .ok (.aload_n 0, 1) := by decide +kernel
theorem dX9_noCell_17 : decode cX9_noCell 17 = .ok (.getfield 58, 3) := by decide +kernel
theorem dX9_noCell_20 : decode cX9_noCell 20 = .ok (.iload_n 1, 1) := by decide +kernel
theorem dX9_noCell_21 : decode cX9_noCell 21 = .ok (.iaload, 1) := by decide +kernel
theorem dX9_noCell_22 : decode cX9_noCell 22 = .ok (.i2l, 1) := by decide +kernel
theorem dX9_noCell_23 : decode cX9_noCell 23 = .ok (.lconst 1, 1) := by decide +kernel
theorem dX9_noCell_24 : decode cX9_noCell 24 = .ok (.lsub, 1) := by decide +kernel
theorem dX9_noCell_25 : decode cX9_noCell 25 = .ok (.invokestatic 83, 3) := by decide +kernel
theorem dX9_noCell_28 : decode cX9_noCell 28 = .ok (.ifCond .eq 7, 3) := by decide +kernel
theorem dX9_noCell_31 : decode cX9_noCell 31 = .ok (.iconst 0, 1) := by decide +kernel
theorem dX9_noCell_32 : decode cX9_noCell 32 = .ok (.goto 4, 3) := by decide +kernel
theorem dX9_noCell_35 : decode cX9_noCell 35 = .ok (.iconst 3, 1) := by decide +kernel
theorem dX9_noCell_36 : decode cX9_noCell 36 = .ok (.ireturn, 1) := by decide +kernel
theorem dX9_put_0 : decode cX9_put 0 = .ok (.iload_n 1, 1) := by decide +kernel
theorem dX9_put_1 : decode cX9_put 1 = .ok (.invokestatic 125, 3) := by decide +kernel
theorem dX9_put_4 : decode cX9_put 4 = .ok (.ifCond .eq 9, 3) := by decide +kernel
theorem dX9_put_7 : decode cX9_put 7 = .ok (.aload_n 0, 1) := by decide +kernel
theorem dX9_put_8 : decode cX9_put 8 = .ok (.iconst (-1), 1) := by decide +kernel
theorem dX9_put_9 : decode cX9_put 9 = .ok (.invokevirtual 129, 3) := by decide +kernel
theorem dX9_put_12 : decode cX9_put 12 = .ok (.ireturn, 1) := by decide +kernel
theorem dX9_put_13 : decode cX9_put 13 = .ok (.aload_n 0, 1) := by decide +kernel
theorem dX9_put_14 : decode cX9_put 14 = .ok (.iload_n 1, 1) := by decide +kernel
theorem dX9_put_15 : decode cX9_put 15 = .ok (.iload_n 2, 1) := by decide +kernel
theorem dX9_put_16 : decode cX9_put 16 = .ok (.invokevirtual 277, 3) := by decide +kernel
theorem dX9_put_19 : decode cX9_put 19 = .ok (.ifCond .le 14, 3) := by decide +kernel
theorem dX9_put_22 : decode cX9_put 22 = .ok (.aload_n 0, 1) := by decide +kernel
theorem dX9_put_23 : decode cX9_put 23 = .ok (.aload_n 0, 1) := by decide +kernel
theorem dX9_put_24 : decode cX9_put 24 = .ok (.iload_n 1, 1) := by decide +kernel
theorem dX9_put_25 : decode cX9_put 25 = .ok (.iload_n 2, 1) := by decide +kernel
theorem dX9_put_26 : decode cX9_put 26 = .ok (.invokevirtual 277, 3) := by decide +kernel
theorem dX9_put_29 : decode cX9_put 29 = .ok (.invokevirtual 117, 3) := by decide +kernel
theorem dX9_put_32 : decode cX9_put 32 = .ok (.ireturn, 1) := by decide +kernel
theorem dX9_put_33 : decode cX9_put 33 = .ok (.aload_n 0, 1) := by decide +kernel
theorem dX9_put_34 : decode cX9_put 34 = .ok (.getfield 64, 3) := by decide +kernel
theorem dX9_put_37 : decode cX9_put 37 = .ok (.bipush 60, 2) := by decide +kernel
theorem dX9_put_39 : decode cX9_put 39 = .ok (.iload_n 1, 1) := by decide +kernel
theorem dX9_put_40 : decode cX9_put 40 = .ok (.imul, 1) := by decide +kernel
theorem dX9_put_41 : decode cX9_put 41 = .ok (.iload_n 2, 1) := by decide +kernel
theorem dX9_put_42 : decode cX9_put 42 = .ok (.iadd, 1) := by decide +kernel
theorem dX9_put_43 : decode cX9_put 43 = .ok (.aload_n 0, 1) := by decide +kernel
theorem dX9_put_44 : decode cX9_put 44 = .ok (.getfield 61, 3) := by decide +kernel
theorem dX9_put_47 : decode cX9_put 47 = .ok (.iload_n 1, 1) := by decide +kernel
theorem dX9_put_48 : decode cX9_put 48 = .ok (.iaload, 1) := by decide +kernel
theorem dX9_put_49 : decode cX9_put 49 = .ok (.ifCond .ne 8, 3) := by decide +kernel
theorem dX9_put_52 : decode cX9_put 52 = .ok (.iload_n 3, 1) := by decide +kernel
theorem dX9_put_53 : decode cX9_put 53 = .ok (.i2b, 1) := by decide +kernel
theorem dX9_put_54 : decode cX9_put 54 = .ok (.goto 19, 3) := by decide +kernel
theorem dX9_put_57 : decode cX9_put 57 = .ok (.aload_n 0, 1) := by decide +kernel
theorem dX9_put_58 : decode cX9_put 58 = .ok (.getfield 61, 3) := by decide +kernel
theorem dX9_put_61 : decode cX9_put 61 = .ok (.iload_n 1, 1) := by decide +kernel
theorem dX9_put_62 : decode cX9_put 62 = .ok (.iaload, 1) := by decide +kernel
theorem dX9_put_63 : decode cX9_put 63 = .ok (.iconst 1, 1) := by decide +kernel
theorem dX9_put_64 : decode cX9_put 64 = .ok (.if_icmp .ne 8, 3) := by decide +kernel
theorem dX9_put_67 : decode cX9_put 67 = .ok (.iload_n 3, 1) := by decide +kernel
theorem dX9_put_68 : decode cX9_put 68 = .ok (.i2s, 1) := by decide +kernel
theorem dX9_put_69 : decode cX9_put 69 = .ok (.goto 4, 3) := by decide +kernel
theorem dX9_put_72 : decode cX9_put 72 = .ok (.iload_n 3, 1) := by decide +kernel
theorem dX9_put_73 : decode cX9_put 73 = .ok (.iastore, 1) := by decide +kernel
theorem dX9_put_74 : decode cX9_put 74 = .ok (.aload_n 0, 1) := by decide +kernel
theorem dX9_put_75 : decode cX9_put 75 = .ok (.iconst 1, 1) := by decide +kernel
theorem dX9_put_76 : decode cX9_put 76 = .ok (.invokevirtual 129, 3) := by decide +kernel
theorem dX9_put_79 : decode cX9_put 79 = .ok (.ireturn, 1) := by decide +kernel
theorem dX9_cell_0 : decode cX9_cell 0 = .ok (.aload_n 0, 1) := by decide +kernel
theorem dX9_cell_1 : decode cX9_cell 1 = .ok (.iconst 0, 1) := by decide +kernel
theorem dX9_cell_2 : decode cX9_cell 2 = .ok (.putfield 72, 3) := by decide +kernel
theorem dX9_cell_5 : decode cX9_cell 5 = .ok (.iload_n 1, 1) := by decide +kernel
theorem dX9_cell_6 : decode cX9_cell 6 = .ok (.invokestatic 125, 3) := by decide +kernel
theorem dX9_cell_9 : decode cX9_cell 9 = .ok (.ifCond .ne 15, 3) := by decide +kernel
theorem dX9_cell_12 : decode cX9_cell 12 = .ok (.iload_n 3, 1) := by decide +kernel
theorem dX9_cell_13 : decode cX9_cell 13 = .ok (.i2l, 1) := by decide +kernel
theorem dX9_cell_14 : decode cX9_cell 14 = .ok (.lconst 0, 1) := by decide +kernel
theorem dX9_cell_15 : decode cX9_cell 15 = .ok (.ldc2_w 109, 3) := by decide +kernel
theorem dX9_cell_18 : decode cX9_cell 18 = .ok (.invokestatic 83, 3) := by decide +kernel
theorem dX9_cell_21 : decode cX9_cell 21 = .ok (.ifCond .ne 7, 3) := by decide +kernel
theorem dX9_cell_24 : decode cX9_cell 24 = .ok (.invokestatic 76, 3) := by decide +kernel
theorem dX9_cell_27 : decode cX9_cell 27 = .ok (.lreturn, 1) := by decide +kernel
theorem dX9_cell_28 : decode cX9_cell 28 = .ok (.aload_n 0, 1) := by decide +kernel
theorem dX9_cell_29 : decode cX9_cell 29 = .ok (.getfield 58, 3) := by decide +kernel
theorem dX9_cell_32 : decode cX9_cell 32 = .ok (.iload_n 1, 1) := by decide +kernel
theorem dX9_cell_33 : decode cX9_cell 33 = .ok (.iaload, 1) := by decide +kernel
theorem dX9_cell_34 : decode cX9_cell 34 = .ok (.ifCond .lt 19, 3) := by decide +kernel
theorem dX9_cell_37 : decode cX9_cell 37 = .ok (.aload_n 0, 1) := by decide +kernel
theorem dX9_cell_38 : decode cX9_cell 38 = .ok (.getfield 61, 3) := by decide +kernel
theorem dX9_cell_41 : decode cX9_cell 41 = .ok (.iload_n 1, 1) := by decide +kernel
theorem dX9_cell_42 : decode cX9_cell 42 = .ok (.iaload, 1) := by decide +kernel
theorem dX9_cell_43 : decode cX9_cell 43 = .ok (.iload_n 3, 1) := by decide +kernel
theorem dX9_cell_44 : decode cX9_cell 44 = .ok (.if_icmp .eq 9, 3) := by decide +kernel
theorem dX9_cell_47 : decode cX9_cell 47 = .ok (.aload_n 0, 1) := by decide +kernel
theorem dX9_cell_48 : decode cX9_cell 48 = .ok (.iconst 2, 1) := by decide +kernel
theorem dX9_cell_49 : decode cX9_cell 49 = .ok (.invokevirtual 280, 3) := by decide +kernel
theorem dX9_cell_52 : decode cX9_cell 52 = .ok (.lreturn, 1) := by decide +kernel
theorem dX9_cell_53 : decode cX9_cell 53 = .ok (.aload_n 0, 1) := by decide +kernel
theorem dX9_cell_54 : decode cX9_cell 54 = .ok (.iload_n 1, 1) := by decide +kernel
theorem dX9_cell_55 : decode cX9_cell 55 = .ok (.iload_n 2, 1) := by decide +kernel
theorem dX9_cell_56 : decode cX9_cell 56 = .ok (.invokevirtual 277, 3) := by decide +kernel
theorem dX9_cell_59 : decode cX9_cell 59 = .ok (.ifCond .le 16, 3) := by decide +kernel
theorem dX9_cell_62 : decode cX9_cell 62 = .ok (.aload_n 0, 1) := by decide +kernel
theorem dX9_cell_63 : decode cX9_cell 63 = .ok (.aload_n 0, 1) := by decide +kernel
theorem dX9_cell_64 : decode cX9_cell 64 = .ok (.iload_n 1, 1) := by decide +kernel
theorem dX9_cell_65 : decode cX9_cell 65 = .ok (.iload_n 2, 1) := by decide +kernel
theorem dX9_cell_66 : decode cX9_cell 66 = .ok (.invokevirtual 277, 3) := by decide +kernel
theorem dX9_cell_69 : decode cX9_cell 69 = .ok (.invokevirtual 280, 3) := by decide +kernel
theorem dX9_cell_72 : decode cX9_cell 72 = .ok (.goto 15, 3) := by decide +kernel
theorem dX9_cell_75 : decode cX9_cell 75 = .ok (.aload_n 0, 1) := by decide +kernel
theorem dX9_cell_76 : decode cX9_cell 76 = .ok (.getfield 64, 3) := by decide +kernel
theorem dX9_cell_79 : decode cX9_cell 79 = .ok (.bipush 60, 2) := by decide +kernel
theorem dX9_cell_81 : decode cX9_cell 81 = .ok (.iload_n 1, 1) := by decide +kernel
theorem dX9_cell_82 : decode cX9_cell 82 = .ok (.imul, 1) := by decide +kernel
theorem dX9_cell_83 : decode cX9_cell 83 = .ok (.iload_n 2, 1) := by decide +kernel
theorem dX9_cell_84 : decode cX9_cell 84 = .ok (.iadd, 1) := by decide +kernel
theorem dX9_cell_85 : decode cX9_cell 85 = .ok (.iaload, 1) := by decide +kernel
theorem dX9_cell_86 : decode cX9_cell 86 = .ok (.i2l, 1) := by decide +kernel
theorem dX9_cell_87 : decode cX9_cell 87 = .ok (.lreturn, 1) := by decide +kernel
theorem dX9_isBeyond_0 : decode cX9_isBeyond 0 = .ok (.iload_n 0, 1) := by decide +kernel
theorem dX9_isBeyond_1 : decode cX9_isBeyond 1 = .ok (.ifCond .lt 19, 3) := by decide +kernel
theorem dX9_isBeyond_4 : decode cX9_isBeyond 4 = .ok (.lload_n 1, 1) := by decide +kernel
theorem dX9_isBeyond_5 : decode cX9_isBeyond 5 = .ok (.lconst 0, 1) := by decide +kernel
theorem dX9_isBeyond_6 : decode cX9_isBeyond 6 = .ok (.lcmp, 1) := by decide +kernel
theorem dX9_isBeyond_7 : decode cX9_isBeyond 7 = .ok (.ifCond .lt 13, 3) := by decide +kernel
theorem dX9_isBeyond_10 : decode cX9_isBeyond 10 = .ok (.iload_n 0, 1) := by decide +kernel
theorem dX9_isBeyond_11 : decode cX9_isBeyond 11 = .ok (.i2l, 1) := by decide +kernel
theorem dX9_isBeyond_12 : decode cX9_isBeyond 12 = .ok (.lload_n 1, 1) := by decide +kernel
theorem dX9_isBeyond_13 : decode cX9_isBeyond 13 = .ok (.ladd, 1) := by decide +kernel
theorem dX9_isBeyond_14 : decode cX9_isBeyond 14 = .ok (.iload_n 3, 1) := by decide +kernel
theorem dX9_isBeyond_15 : decode cX9_isBeyond 15 = .ok (.i2l, 1) := by decide +kernel
theorem dX9_isBeyond_16 : decode cX9_isBeyond 16 = .ok (.lcmp, 1) := by decide +kernel
theorem dX9_isBeyond_17 : decode cX9_isBeyond 17 = .ok (.ifCond .le 7, 3) := by decide +kernel
theorem dX9_isBeyond_20 : decode cX9_isBeyond 20 = .ok (.iconst 1, 1) := by decide +kernel
theorem dX9_isBeyond_21 : decode cX9_isBeyond 21 = .ok (.goto 4, 3) := by decide +kernel
theorem dX9_isBeyond_24 : decode cX9_isBeyond 24 = .ok (.iconst 0, 1) := by decide +kernel
theorem dX9_isBeyond_25 : decode cX9_isBeyond 25 = .ok (.ireturn, 1) := by decide +kernel
theorem dX9_copy_0 : decode cX9_copy 0 = .ok (.iload_n 1, 1) := by decide +kernel
theorem dX9_copy_1 : decode cX9_copy 1 = .ok (.invokestatic 125, 3) := by decide +kernel
theorem dX9_copy_4 : decode cX9_copy 4 = .ok (.ifCond .ne 10, 3) := by decide +kernel
theorem dX9_copy_7 : decode cX9_copy 7 = .ok (.iload_n 3, 1) := by decide +kernel
theorem dX9_copy_8 : decode cX9_copy 8 = .ok (.invokestatic 125, 3) := by decide +kernel
theorem dX9_copy_11 : decode cX9_copy 11 = .ok (.ifCond .eq 9, 3) := by decide +kernel
theorem dX9_copy_14 : decode cX9_copy 14 = .ok (.aload_n 0, 1) := by decide +kernel
theorem dX9_copy_15 : decode cX9_copy 15 = .ok (.iconst (-1), 1) := by decide +kernel
theorem dX9_copy_16 : decode cX9_copy 16 = .ok (.invokevirtual 129, 3) := by decide +kernel
theorem dX9_copy_19 : decode cX9_copy 19 = .ok (.ireturn, 1) := by decide +kernel
theorem dX9_copy_20 : decode cX9_copy 20 = .ok (.aload_n 0, 1) := by decide +kernel
theorem dX9_copy_21 : decode cX9_copy 21 = .ok (.getfield 58, 3) := by decide +kernel
theorem dX9_copy_24 : decode cX9_copy 24 = .ok (.iload_n 1, 1) := by decide +kernel
theorem dX9_copy_25 : decode cX9_copy 25 = .ok (.iaload, 1) := by decide +kernel
theorem dX9_copy_26 : decode cX9_copy 26 = .ok (.ifCond .lt 12, 3) := by decide +kernel
theorem dX9_copy_29 : decode cX9_copy 29 = .ok (.aload_n 0, 1) := by decide +kernel
theorem dX9_copy_30 : decode cX9_copy 30 = .ok (.getfield 58, 3) := by decide +kernel
theorem dX9_copy_33 : decode cX9_copy 33 = .ok (.iload_n 3, 1) := by decide +kernel
theorem dX9_copy_34 : decode cX9_copy 34 = .ok (.iaload, 1) := by decide +kernel
theorem dX9_copy_35 : decode cX9_copy 35 = .ok (.ifCond .ge 9, 3) := by decide +kernel
theorem dX9_copy_38 : decode cX9_copy 38 = .ok (.aload_n 0, 1) := by decide +kernel
theorem dX9_copy_39 : decode cX9_copy 39 = .ok (.iconst 1, 1) := by decide +kernel
theorem dX9_copy_40 : decode cX9_copy 40 = .ok (.invokevirtual 117, 3) := by decide +kernel
theorem dX9_copy_43 : decode cX9_copy 43 = .ok (.ireturn, 1) := by decide +kernel
theorem dX9_copy_44 : decode cX9_copy 44 = .ok (.aload_n 0, 1) := by decide +kernel
theorem dX9_copy_45 : decode cX9_copy 45 = .ok (.getfield 61, 3) := by decide +kernel
theorem dX9_copy_48 : decode cX9_copy 48 = .ok (.iload_n 1, 1) := by decide +kernel
theorem dX9_copy_49 : decode cX9_copy 49 = .ok (.iaload, 1) := by decide +kernel
theorem dX9_copy_50 : decode cX9_copy 50 = .ok (.aload_n 0, 1) := by decide +kernel
theorem dX9_copy_51 : decode cX9_copy 51 = .ok (.getfield 61, 3) := by decide +kernel
theorem dX9_copy_54 : decode cX9_copy 54 = .ok (.iload_n 3, 1) := by decide +kernel
theorem dX9_copy_55 : decode cX9_copy 55 = .ok (.iaload, 1) := by decide +kernel
theorem dX9_copy_56 : decode cX9_copy 56 = .ok (.if_icmp .eq 9, 3) := by decide +kernel
theorem dX9_copy_59 : decode cX9_copy 59 = .ok (.aload_n 0, 1) := by decide +kernel
theorem dX9_copy_60 : decode cX9_copy 60 = .ok (.iconst 2, 1) := by decide +kernel
theorem dX9_copy_61 : decode cX9_copy 61 = .ok (.invokevirtual 117, 3) := by decide +kernel
theorem dX9_copy_64 : decode cX9_copy 64 = .ok (.ireturn, 1) := by decide +kernel
theorem dX9_copy_65 : decode cX9_copy 65 = .ok (.iload_n 2, 1) := by decide +kernel
theorem dX9_copy_66 : decode cX9_copy 66 = .ok (.iload 5, 2) := by decide +kernel
theorem dX9_copy_68 : decode cX9_copy 68 = .ok (.i2l, 1) := by decide +kernel
theorem dX9_copy_69 : decode cX9_copy 69 = .ok (.aload_n 0, 1) := by decide +kernel
theorem dX9_copy_70 : decode cX9_copy 70 = .ok (.getfield 58, 3) := by decide +kernel
theorem dX9_copy_73 : decode cX9_copy 73 = .ok (.iload_n 1, 1) := by decide +kernel
theorem dX9_copy_74 : decode cX9_copy 74 = .ok (.iaload, 1) := by decide +kernel
theorem dX9_copy_75 : decode cX9_copy 75 = .ok (.invokestatic 121, 3) := by decide +kernel
theorem dX9_copy_78 : decode cX9_copy 78 = .ok (.ifCond .ne 20, 3) := by decide +kernel
theorem dX9_copy_81 : decode cX9_copy 81 = .ok (.iload 4, 2) := by decide +kernel
theorem dX9_copy_83 : decode cX9_copy 83 = .ok (.iload 5, 2) := by decide +kernel
theorem dX9_copy_85 : decode cX9_copy 85 = .ok (.i2l, 1) := by decide +kernel
theorem dX9_copy_86 : decode cX9_copy 86 = .ok (.aload_n 0, 1) := by decide +kernel
theorem dX9_copy_87 : decode cX9_copy 87 = .ok (.getfield 58, 3) := by decide +kernel
theorem dX9_copy_90 : decode cX9_copy 90 = .ok (.iload_n 3, 1) := by decide +kernel
theorem dX9_copy_91 : decode cX9_copy 91 = .ok (.iaload, 1) := by decide +kernel
theorem dX9_copy_92 : decode cX9_copy 92 = .ok (.invokestatic 121, 3) := by decide +kernel
theorem dX9_copy_95 : decode cX9_copy 95 = .ok (.ifCond .eq 9, 3) := by decide +kernel
theorem dX9_copy_98 : decode cX9_copy 98 = .ok (.aload_n 0, 1) := by decide +kernel
theorem dX9_copy_99 : decode cX9_copy 99 = .ok (.iconst 3, 1) := by decide +kernel
theorem dX9_copy_100 : decode cX9_copy 100 = .ok (.invokevirtual 117, 3) := by decide +kernel
theorem dX9_copy_103 : decode cX9_copy 103 = .ok (.ireturn, 1) := by decide +kernel
theorem dX9_copy_104 : decode cX9_copy 104 = .ok (.iconst 0, 1) := by decide +kernel
theorem dX9_copy_105 : decode cX9_copy 105 = .ok (.istore 6, 2) := by decide +kernel
theorem dX9_copy_107 : decode cX9_copy 107 = .ok (.iload 6, 2) := by decide +kernel
theorem dX9_copy_109 : decode cX9_copy 109 = .ok (.iload 5, 2) := by decide +kernel
theorem dX9_copy_111 : decode cX9_copy 111 = .ok (.if_icmp .ge 30, 3) := by decide +kernel
theorem dX9_copy_114 : decode cX9_copy 114 = .ok (.aload_n 0, 1) := by decide +kernel
theorem dX9_copy_115 : decode cX9_copy 115 = .ok (.getfield 67, 3) := by decide +kernel
theorem dX9_copy_118 : decode cX9_copy 118 = .ok (.iload 6, 2) := by decide +kernel
theorem dX9_copy_120 : decode cX9_copy 120 = .ok (.aload_n 0, 1) := by decide +kernel
theorem dX9_copy_121 : decode cX9_copy 121 = .ok (.getfield 64, 3) := by decide +kernel
theorem dX9_copy_124 : decode cX9_copy 124 = .ok (.bipush 60, 2) := by decide +kernel
theorem dX9_copy_126 : decode cX9_copy 126 = .ok (.iload_n 1, 1) := by decide +kernel
theorem dX9_copy_127 : decode cX9_copy 127 = .ok (.imul, 1) := by decide +kernel
theorem dX9_copy_128 : decode cX9_copy 128 = .ok (.iload_n 2, 1) := by decide +kernel
theorem dX9_copy_129 : decode cX9_copy 129 = .ok (.iadd, 1) := by decide +kernel
theorem dX9_copy_130 : decode cX9_copy 130 = .ok (.iload 6, 2) := by decide +kernel
theorem dX9_copy_132 : decode cX9_copy 132 = .ok (.iadd, 1) := by decide +kernel
theorem dX9_copy_133 : decode cX9_copy 133 = .ok (.iaload, 1) := by decide +kernel
theorem dX9_copy_134 : decode cX9_copy 134 = .ok (.iastore, 1) := by decide +kernel
theorem dX9_copy_135 : decode cX9_copy 135 = .ok (.iinc 6 1, 3) := by decide +kernel
theorem dX9_copy_138 : decode cX9_copy 138 = .ok (.goto (-31), 3) := by decide +kernel
theorem dX9_copy_141 : decode cX9_copy 141 = .ok (.iconst 0, 1) := by decide +kernel
theorem dX9_copy_142 : decode cX9_copy 142 = .ok (.istore 6, 2) := by decide +kernel
theorem dX9_copy_144 : decode cX9_copy 144 = .ok (.iload 6, 2) := by decide +kernel
theorem dX9_copy_146 : decode cX9_copy 146 = .ok (.iload 5, 2) := by decide +kernel
theorem dX9_copy_148 : decode cX9_copy 148 = .ok (.if_icmp .ge 31, 3) := by decide +kernel
theorem dX9_copy_151 : decode cX9_copy 151 = .ok (.aload_n 0, 1) := by decide +kernel
theorem dX9_copy_152 : decode cX9_copy 152 = .ok (.getfield 64, 3) := by decide +kernel
theorem dX9_copy_155 : decode cX9_copy 155 = .ok (.bipush 60, 2) := by decide +kernel
theorem dX9_copy_157 : decode cX9_copy 157 = .ok (.iload_n 3, 1) := by decide +kernel
theorem dX9_copy_158 : decode cX9_copy 158 = .ok (.imul, 1) := by decide +kernel
theorem dX9_copy_159 : decode cX9_copy 159 = .ok (.iload 4, 2) := by decide +kernel
theorem dX9_copy_161 : decode cX9_copy 161 = .ok (.iadd, 1) := by decide +kernel
theorem dX9_copy_162 : decode cX9_copy 162 = .ok (.iload 6, 2) := by decide +kernel
theorem dX9_copy_164 : decode cX9_copy 164 = .ok (.iadd, 1) := by decide +kernel
theorem dX9_copy_165 : decode cX9_copy 165 = .ok (.aload_n 0, 1) := by decide +kernel
theorem dX9_copy_166 : decode cX9_copy 166 = .ok (.getfield 67, 3) := by decide +kernel
theorem dX9_copy_169 : decode cX9_copy 169 = .ok (.iload 6, 2) := by decide +kernel
theorem dX9_copy_171 : decode cX9_copy 171 = .ok (.iaload, 1) := by decide +kernel
theorem dX9_copy_172 : decode cX9_copy 172 = .ok (.iastore, 1) := by decide +kernel
theorem dX9_copy_173 : decode cX9_copy 173 = .ok (.iinc 6 1, 3) := by decide +kernel
theorem dX9_copy_176 : decode cX9_copy 176 = .ok (.goto (-32), 3) := by decide +kernel
theorem dX9_copy_179 : decode cX9_copy 179 = .ok (.aload_n 0, 1) := by decide +kernel
theorem dX9_copy_180 : decode cX9_copy 180 = .ok (.iload 5, 2) := by decide +kernel
theorem dX9_copy_182 : decode cX9_copy 182 = .ok (.invokevirtual 129, 3) := by decide +kernel
theorem dX9_copy_185 : decode cX9_copy 185 = .ok (.ireturn, 1) := by decide +kernel
theorem dX9_traced_0 : decode cX9_traced 0 = .ok (.aload_n 0, 1) := by decide +kernel
theorem dX9_traced_1 : decode cX9_traced 1 = .ok (.bipush 31, 2) := by decide +kernel
theorem dX9_traced_3 : decode cX9_traced 3 = .ok (.aload_n 0, 1) := by decide +kernel
theorem dX9_traced_4 : decode cX9_traced 4 = .ok (.getfield 284, 3) := by decide +kernel
theorem dX9_traced_7 : decode cX9_traced 7 = .ok (.imul, 1) := by decide +kernel
theorem dX9_traced_8 : decode cX9_traced 8 = .ok (.iload_n 1, 1) := by decide +kernel
theorem dX9_traced_9 : decode cX9_traced 9 = .ok (.iadd, 1) := by decide +kernel
theorem dX9_traced_10 : decode cX9_traced 10 = .ok (.putfield 284, 3) := by decide +kernel
theorem dX9_traced_13 : decode cX9_traced 13 = .ok (.return_, 1) := by decide +kernel
theorem dX9_tell_0 : decode cX9_tell 0 = .ok (.aload_n 0, 1) := by decide +kernel
theorem dX9_tell_1 : decode cX9_tell 1 = .ok (.iload_n 1, 1) := by decide +kernel
theorem dX9_tell_2 : decode cX9_tell 2 = .ok (.invokevirtual 165, 3) := by decide +kernel
theorem dX9_tell_5 : decode cX9_tell 5 = .ok (.ifCond .eq 5, 3) := by decide +kernel
theorem dX9_tell_8 : decode cX9_tell 8 = .ok (.iconst (-1), 1) := by decide +kernel
theorem dX9_tell_9 : decode cX9_tell 9 = .ok (.ireturn, 1) := by decide +kernel
theorem dX9_tell_10 : decode cX9_tell 10 = .ok (.aload_n 0, 1) := by decide +kernel
theorem dX9_tell_11 : decode cX9_tell 11 = .ok (.getfield 7, 3) := by decide +kernel
theorem dX9_tell_14 : decode cX9_tell 14 = .ok (.iload_n 1, 1) := by decide +kernel
theorem dX9_tell_15 : decode cX9_tell 15 = .ok (.iaload, 1) := by decide +kernel
theorem dX9_tell_16 : decode cX9_tell 16 = .ok (.istore_n 2, 1) := by decide +kernel
theorem dX9_tell_17 : decode cX9_tell 17 = .ok (.iload_n 2, 1) := by decide +kernel
theorem dX9_tell_18 : decode cX9_tell 18 = .ok (.iconst 2, 1) := by decide +kernel
theorem dX9_tell_19 : decode cX9_tell 19 = .ok (.if_icmp .ne 8, 3) := by decide +kernel
theorem dX9_tell_22 : decode cX9_tell 22 = .ok (.aload_n 0, 1) := by decide +kernel
theorem dX9_tell_23 : decode cX9_tell 23 = .ok (.iconst 3, 1) := by decide +kernel
theorem dX9_tell_24 : decode cX9_tell 24 = .ok (.invokevirtual 287, 3) := by decide +kernel
theorem dX9_tell_27 : decode cX9_tell 27 = .ok (.iload_n 2, 1) := by decide +kernel
theorem dX9_tell_28 : decode cX9_tell 28 = .ok (.ifCond .le 8, 3) := by decide +kernel
theorem dX9_tell_31 : decode cX9_tell 31 = .ok (.aload_n 0, 1) := by decide +kernel
theorem dX9_tell_32 : decode cX9_tell 32 = .ok (.iconst 2, 1) := by decide +kernel
theorem dX9_tell_33 : decode cX9_tell 33 = .ok (.invokevirtual 287, 3) := by decide +kernel
theorem dX9_tell_36 : decode cX9_tell 36 = .ok (.aload_n 0, 1) := by decide +kernel
theorem dX9_tell_37 : decode cX9_tell 37 = .ok (.iconst 1, 1) := by decide +kernel
theorem dX9_tell_38 : decode cX9_tell 38 = .ok (.invokevirtual 287, 3) := by decide +kernel
theorem dX9_tell_41 : decode cX9_tell 41 = .ok (.iload_n 2, 1) := by decide +kernel
theorem dX9_tell_42 : decode cX9_tell 42 = .ok (.iconst 2, 1) := by decide +kernel
theorem dX9_tell_43 : decode cX9_tell 43 = .ok (.if_icmp .ne 8, 3) := by decide +kernel
theorem dX9_tell_46 : decode cX9_tell 46 = .ok (.aload_n 0, 1) := by decide +kernel
theorem dX9_tell_47 : decode cX9_tell 47 = .ok (.iconst 1, 1) := by decide +kernel
theorem dX9_tell_48 : decode cX9_tell 48 = .ok (.invokevirtual 287, 3) := by decide +kernel
theorem dX9_tell_51 : decode cX9_tell 51 = .ok (.aload_n 0, 1) := by decide +kernel
theorem dX9_tell_52 : decode cX9_tell 52 = .ok (.getfield 87, 3) := by decide +kernel
theorem dX9_tell_55 : decode cX9_tell 55 = .ok (.aload_n 0, 1) := by decide +kernel
theorem dX9_tell_56 : decode cX9_tell 56 = .ok (.iload_n 1, 1) := by decide +kernel
theorem dX9_tell_57 : decode cX9_tell 57 = .ok (.invokevirtual 155, 3) := by decide +kernel
theorem dX9_tell_60 : decode cX9_tell 60 = .ok (.isub, 1) := by decide +kernel
theorem dX9_tell_61 : decode cX9_tell 61 = .ok (.istore_n 3, 1) := by decide +kernel
theorem dX9_tell_62 : decode cX9_tell 62 = .ok (.iload_n 2, 1) := by decide +kernel
theorem dX9_tell_63 : decode cX9_tell 63 = .ok (.ifCond .ne 7, 3) := by decide +kernel
theorem dX9_tell_66 : decode cX9_tell 66 = .ok (.iload_n 3, 1) := by decide +kernel
theorem dX9_tell_67 : decode cX9_tell 67 = .ok (.goto 21, 3) := by decide +kernel
theorem dX9_tell_70 : decode cX9_tell 70 = .ok (.iload_n 2, 1) := by decide +kernel
theorem dX9_tell_71 : decode cX9_tell 71 = .ok (.iconst 1, 1) := by decide +kernel
theorem dX9_tell_72 : decode cX9_tell 72 = .ok (.if_icmp .ne 10, 3) := by decide +kernel
theorem dX9_tell_75 : decode cX9_tell 75 = .ok (.iload_n 3, 1) := by decide +kernel
theorem dX9_tell_76 : decode cX9_tell 76 = .ok (.bipush 100, 2) := by decide +kernel
theorem dX9_tell_78 : decode cX9_tell 78 = .ok (.iadd, 1) := by decide +kernel
theorem dX9_tell_79 : decode cX9_tell 79 = .ok (.goto 9, 3) := by decide +kernel
theorem dX9_tell_82 : decode cX9_tell 82 = .ok (.iconst 2, 1) := by decide +kernel
theorem dX9_tell_83 : decode cX9_tell 83 = .ok (.iload_n 3, 1) := by decide +kernel
theorem dX9_tell_84 : decode cX9_tell 84 = .ok (.imul, 1) := by decide +kernel
theorem dX9_tell_85 : decode cX9_tell 85 = .ok (.bipush 100, 2) := by decide +kernel
theorem dX9_tell_87 : decode cX9_tell 87 = .ok (.iadd, 1) := by decide +kernel
theorem dX9_tell_88 : decode cX9_tell 88 = .ok (.ireturn, 1) := by decide +kernel
theorem dX9_hail_0 : decode cX9_hail 0 = .ok (.aload_n 0, 1) := by decide +kernel
theorem dX9_hail_1 : decode cX9_hail 1 = .ok (.iload_n 1, 1) := by decide +kernel
theorem dX9_hail_2 : decode cX9_hail 2 = .ok (.invokevirtual 165, 3) := by decide +kernel
theorem dX9_hail_5 : decode cX9_hail 5 = .ok (.ifCond .eq 5, 3) := by decide +kernel
theorem dX9_hail_8 : decode cX9_hail 8 = .ok (.iconst (-1), 1) := by decide +kernel
theorem dX9_hail_9 : decode cX9_hail 9 = .ok (.ireturn, 1) := by decide +kernel
theorem dX9_hail_10 : decode cX9_hail 10 = .ok (.aload_n 0, 1) := by decide +kernel
theorem dX9_hail_11 : decode cX9_hail 11 = .ok (.aload_n 0, 1) := by decide +kernel
theorem dX9_hail_12 : decode cX9_hail 12 = .ok (.getfield 7, 3) := by decide +kernel
theorem dX9_hail_15 : decode cX9_hail 15 = .ok (.iload_n 1, 1) := by decide +kernel
theorem dX9_hail_16 : decode cX9_hail 16 = .ok (.iaload, 1) := by decide +kernel
theorem dX9_hail_17 : decode cX9_hail 17 = .ok (.iconst 2, 1) := by decide +kernel
theorem dX9_hail_18 : decode cX9_hail 18 = .ok (.if_icmp .ne 7, 3) := by decide +kernel
theorem dX9_hail_21 : decode cX9_hail 21 = .ok (.iconst 5, 1) := by decide +kernel
theorem dX9_hail_22 : decode cX9_hail 22 = .ok (.goto 4, 3) := by decide +kernel
theorem dX9_hail_25 : decode cX9_hail 25 = .ok (.iconst 4, 1) := by decide +kernel
theorem dX9_hail_26 : decode cX9_hail 26 = .ok (.invokevirtual 287, 3) := by decide +kernel
theorem dX9_hail_29 : decode cX9_hail 29 = .ok (.aload_n 0, 1) := by decide +kernel
theorem dX9_hail_30 : decode cX9_hail 30 = .ok (.getfield 7, 3) := by decide +kernel
theorem dX9_hail_33 : decode cX9_hail 33 = .ok (.iload_n 1, 1) := by decide +kernel
theorem dX9_hail_34 : decode cX9_hail 34 = .ok (.iaload, 1) := by decide +kernel
theorem dX9_hail_35 : decode cX9_hail 35 = .ok (.iconst 2, 1) := by decide +kernel
theorem dX9_hail_36 : decode cX9_hail 36 = .ok (.if_icmp .ne 8, 3) := by decide +kernel
theorem dX9_hail_39 : decode cX9_hail 39 = .ok (.bipush 60, 2) := by decide +kernel
theorem dX9_hail_41 : decode cX9_hail 41 = .ok (.goto 4, 3) := by decide +kernel
theorem dX9_hail_44 : decode cX9_hail 44 = .ok (.iload_n 1, 1) := by decide +kernel
theorem dX9_hail_45 : decode cX9_hail 45 = .ok (.ireturn, 1) := by decide +kernel
theorem dX9_as_0 : decode cX9_as 0 = .ok (.aload_n 0, 1) := by decide +kernel
theorem dX9_as_1 : decode cX9_as 1 = .ok (.iload_n 1, 1) := by decide +kernel
theorem dX9_as_2 : decode cX9_as 2 = .ok (.invokevirtual 165, 3) := by decide +kernel
theorem dX9_as_5 : decode cX9_as 5 = .ok (.ifCond .eq 9, 3) := by decide +kernel
theorem dX9_as_8 : decode cX9_as 8 = .ok (.aload_n 0, 1) := by decide +kernel
theorem dX9_as_9 : decode cX9_as 9 = .ok (.iconst (-1), 1) := by decide +kernel
theorem dX9_as_10 : decode cX9_as 10 = .ok (.invokevirtual 129, 3) := by decide +kernel
theorem dX9_as_13 : decode cX9_as 13 = .ok (.ireturn, 1) := by decide +kernel
theorem dX9_as_14 : decode cX9_as 14 = .ok (.iload_n 2, 1) := by decide +kernel
theorem dX9_as_15 : decode cX9_as 15 = .ok (.i2l, 1) := by decide +kernel
theorem dX9_as_16 : decode cX9_as 16 = .ok (.lconst 0, 1) := by decide +kernel
theorem dX9_as_17 : decode cX9_as 17 = .ok (.ldc2_w 109, 3) := by decide +kernel
theorem dX9_as_20 : decode cX9_as 20 = .ok (.invokestatic 83, 3) := by decide +kernel
theorem dX9_as_23 : decode cX9_as 23 = .ok (.ifCond .ne 10, 3) := by decide +kernel
theorem dX9_as_26 : decode cX9_as 26 = .ok (.aload_n 0, 1) := by decide +kernel
theorem dX9_as_27 : decode cX9_as 27 = .ok (.bipush (-2), 2) := by decide +kernel
theorem dX9_as_29 : decode cX9_as 29 = .ok (.invokevirtual 129, 3) := by decide +kernel
theorem dX9_as_32 : decode cX9_as 32 = .ok (.ireturn, 1) := by decide +kernel
theorem dX9_as_33 : decode cX9_as 33 = .ok (.aload_n 0, 1) := by decide +kernel
theorem dX9_as_34 : decode cX9_as 34 = .ok (.getfield 7, 3) := by decide +kernel
theorem dX9_as_37 : decode cX9_as 37 = .ok (.iload_n 1, 1) := by decide +kernel
theorem dX9_as_38 : decode cX9_as 38 = .ok (.iaload, 1) := by decide +kernel
theorem dX9_as_39 : decode cX9_as 39 = .ok (.iload_n 2, 1) := by decide +kernel
theorem dX9_as_40 : decode cX9_as 40 = .ok (.if_icmp .lt 11, 3) := by decide +kernel
theorem dX9_as_43 : decode cX9_as 43 = .ok (.aload_n 0, 1) := by decide +kernel
theorem dX9_as_44 : decode cX9_as 44 = .ok (.iconst 1, 1) := by decide +kernel
theorem dX9_as_45 : decode cX9_as 45 = .ok (.invokevirtual 129, 3) := by decide +kernel
theorem dX9_as_48 : decode cX9_as 48 = .ok (.goto 8, 3) := by decide +kernel
theorem dX9_as_51 : decode cX9_as 51 = .ok (.aload_n 0, 1) := by decide +kernel
theorem dX9_as_52 : decode cX9_as 52 = .ok (.iconst 2, 1) := by decide +kernel
theorem dX9_as_53 : decode cX9_as 53 = .ok (.invokevirtual 117, 3) := by decide +kernel
theorem dX9_as_56 : decode cX9_as 56 = .ok (.ireturn, 1) := by decide +kernel
theorem dX9_trace_0 : decode cX9_trace 0 = .ok (.aload_n 0, 1) := by decide +kernel
theorem dX9_trace_1 : decode cX9_trace 1 = .ok (.getfield 284, 3) := by decide +kernel
theorem dX9_trace_4 : decode cX9_trace 4 = .ok (.ireturn, 1) := by decide +kernel
theorem dX9_fault_0 : decode cX9_fault 0 = .ok (.aload_n 0, 1) := by decide +kernel
theorem dX9_fault_1 : decode cX9_fault 1 = .ok (.getfield 72, 3) := by decide +kernel
theorem dX9_fault_4 : decode cX9_fault 4 = .ok (.ireturn, 1) := by decide +kernel
theorem dX9_many_0 : decode cX9_many 0 = .ok (.iconst 0, 1) := by decide +kernel
theorem dX9_many_1 : decode cX9_many 1 = .ok (.istore_n 2, 1) := by decide +kernel
theorem dX9_many_2 : decode cX9_many 2 = .ok (.iconst 0, 1) := by decide +kernel
theorem dX9_many_3 : decode cX9_many 3 = .ok (.istore_n 3, 1) := by decide +kernel
theorem dX9_many_4 : decode cX9_many 4 = .ok (.iload_n 3, 1) := by decide +kernel
theorem dX9_many_5 : decode cX9_many 5 = .ok (.aload_n 0, 1) := by decide +kernel
theorem dX9_many_6 : decode cX9_many 6 = .ok (.getfield 80, 3) := by decide +kernel
theorem dX9_many_9 : decode cX9_many 9 = .ok (.if_icmp .ge 17, 3) := by decide +kernel
theorem dX9_many_12 : decode cX9_many 12 = .ok (.iload_n 2, 1) := by decide +kernel
theorem dX9_many_13 : decode cX9_many 13 = .ok (.aload_n 0, 1) := by decide +kernel
theorem dX9_many_14 : decode cX9_many 14 = .ok (.iload_n 3, 1) := by decide +kernel
theorem dX9_many_15 : decode cX9_many 15 = .ok (.invokevirtual 155, 3) := by decide +kernel
theorem dX9_many_18 : decode cX9_many 18 = .ok (.iadd, 1) := by decide +kernel
theorem dX9_many_19 : decode cX9_many 19 = .ok (.istore_n 2, 1) := by decide +kernel
theorem dX9_many_20 : decode cX9_many 20 = .ok (.iinc 3 1, 3) := by decide +kernel
theorem dX9_many_23 : decode cX9_many 23 = .ok (.goto (-19), 3) := by decide +kernel
theorem dX9_many_26 : decode cX9_many 26 = .ok (.iload_n 1, 1) := by decide +kernel
theorem dX9_many_27 : decode cX9_many 27 = .ok (.tableswitch 66 0 4 #[33, 38, 54, 59, 61], 33) := by decide +kernel
theorem dX9_many_60 : decode cX9_many 60 = .ok (.aload_n 0, 1) := by decide +kernel
theorem dX9_many_61 : decode cX9_many 61 = .ok (.getfield 80, 3) := by decide +kernel
theorem dX9_many_64 : decode cX9_many 64 = .ok (.ireturn, 1) := by decide +kernel
theorem dX9_many_65 : decode cX9_many 65 = .ok (.aload_n 0, 1) := by decide +kernel
theorem dX9_many_66 : decode cX9_many 66 = .ok (.getfield 80, 3) := by decide +kernel
theorem dX9_many_69 : decode cX9_many 69 = .ok (.ifCond .ne 7, 3) := by decide +kernel
theorem dX9_many_72 : decode cX9_many 72 = .ok (.iconst 0, 1) := by decide +kernel
theorem dX9_many_73 : decode cX9_many 73 = .ok (.goto 7, 3) := by decide +kernel
theorem dX9_many_76 : decode cX9_many 76 = .ok (.aload_n 0, 1) := by decide +kernel
theorem dX9_many_77 : decode cX9_many 77 = .ok (.getfield 87, 3) := by decide +kernel
theorem dX9_many_80 : decode cX9_many 80 = .ok (.ireturn, 1) := by decide +kernel
theorem dX9_many_81 : decode cX9_many 81 = .ok (.aload_n 0, 1) := by decide +kernel
theorem dX9_many_82 : decode cX9_many 82 = .ok (.getfield 139, 3) := by decide +kernel
theorem dX9_many_85 : decode cX9_many 85 = .ok (.ireturn, 1) := by decide +kernel
theorem dX9_many_86 : decode cX9_many 86 = .ok (.iload_n 2, 1) := by decide +kernel
theorem dX9_many_87 : decode cX9_many 87 = .ok (.ireturn, 1) := by decide +kernel
theorem dX9_many_88 : decode cX9_many 88 = .ok (.aload_n 0, 1) := by decide +kernel
theorem dX9_many_89 : decode cX9_many 89 = .ok (.getfield 142, 3) := by decide +kernel
theorem dX9_many_92 : decode cX9_many 92 = .ok (.ireturn, 1) := by decide +kernel
theorem dX9_many_93 : decode cX9_many 93 = .ok (.bipush (-2), 2) := by decide +kernel
theorem dX9_many_95 : decode cX9_many 95 = .ok (.ireturn, 1) := by decide +kernel
