theorem dX4_init_0 : decode cX4_init 0 = .ok (.aload_n 0, 1) := by decide +kernel
theorem dX4_init_1 : decode cX4_init 1 = .ok (.invokespecial 1, 3) := by decide +kernel
theorem dX4_init_4 : decode cX4_init 4 = .ok (.aload_n 0, 1) := by decide +kernel
theorem dX4_init_5 : decode cX4_init 5 = .ok (.iconst 4, 1) := by decide +kernel
theorem dX4_init_6 : decode cX4_init 6 = .ok (.newarray .int, 2) := by decide +kernel
theorem dX4_init_8 : decode cX4_init 8 = .ok (.putfield 7, 3) := by decide +kernel
theorem dX4_init_11 : decode cX4_init 11 = .ok (.aload_n 0, 1) := by decide +kernel
theorem dX4_init_12 : decode cX4_init 12 = .ok (.iconst 4, 1) := by decide +kernel
theorem dX4_init_13 : decode cX4_init 13 = .ok (.newarray .int, 2) := by decide +kernel
theorem dX4_init_15 : decode cX4_init 15 = .ok (.putfield 13, 3) := by decide +kernel
theorem dX4_init_18 : decode cX4_init 18 = .ok (.aload_n 0, 1) := by decide +kernel
theorem dX4_init_19 : decode cX4_init 19 = .ok (.iconst 4, 1) := by decide +kernel
theorem dX4_init_20 : decode cX4_init 20 = .ok (.newarray .int, 2) := by decide +kernel
theorem dX4_init_22 : decode cX4_init 22 = .ok (.putfield 16, 3) := by decide +kernel
theorem dX4_init_25 : decode cX4_init 25 = .ok (.aload_n 0, 1) := by decide +kernel
theorem dX4_init_26 : decode cX4_init 26 = .ok (.iconst 4, 1) := by decide +kernel
theorem dX4_init_27 : decode cX4_init 27 = .ok (.newarray .int, 2) := by decide +kernel
theorem dX4_init_29 : decode cX4_init 29 = .ok (.putfield 19, 3) := by decide +kernel
theorem dX4_init_32 : decode cX4_init 32 = .ok (.aload_n 0, 1) := by decide +kernel
theorem dX4_init_33 : decode cX4_init 33 = .ok (.bipush 16, 2) := by decide +kernel
theorem dX4_init_35 : decode cX4_init 35 = .ok (.newarray .int, 2) := by decide +kernel
theorem dX4_init_37 : decode cX4_init 37 = .ok (.putfield 22, 3) := by decide +kernel
theorem dX4_init_40 : decode cX4_init 40 = .ok (.aload_n 0, 1) := by decide +kernel
theorem dX4_init_41 : decode cX4_init 41 = .ok (.bipush 16, 2) := by decide +kernel
theorem dX4_init_43 : decode cX4_init 43 = .ok (.newarray .int, 2) := by decide +kernel
theorem dX4_init_45 : decode cX4_init 45 = .ok (.putfield 25, 3) := by decide +kernel
theorem dX4_init_48 : decode cX4_init 48 = .ok (.aload_n 0, 1) := by decide +kernel
theorem dX4_init_49 : decode cX4_init 49 = .ok (.iconst 4, 1) := by decide +kernel
theorem dX4_init_50 : decode cX4_init 50 = .ok (.newarray .int, 2) := by decide +kernel
theorem dX4_init_52 : decode cX4_init 52 = .ok (.putfield 28, 3) := by decide +kernel
theorem dX4_init_55 : decode cX4_init 55 = .ok (.aload_n 0, 1) := by decide +kernel
theorem dX4_init_56 : decode cX4_init 56 = .ok (.iconst 4, 1) := by decide +kernel
theorem dX4_init_57 : decode cX4_init 57 = .ok (.newarray .int, 2) := by decide +kernel
theorem dX4_init_59 : decode cX4_init 59 = .ok (.putfield 31, 3) := by decide +kernel
theorem dX4_init_62 : decode cX4_init 62 = .ok (.aload_n 0, 1) := by decide +kernel
theorem dX4_init_63 : decode cX4_init 63 = .ok (.bipush 16, 2) := by decide +kernel
theorem dX4_init_65 : decode cX4_init 65 = .ok (.newarray .int, 2) := by decide +kernel
theorem dX4_init_67 : decode cX4_init 67 = .ok (.putfield 34, 3) := by decide +kernel
theorem dX4_init_70 : decode cX4_init 70 = .ok (.aload_n 0, 1) := by decide +kernel
theorem dX4_init_71 : decode cX4_init 71 = .ok (.bipush 15, 2) := by decide +kernel
theorem dX4_init_73 : decode cX4_init 73 = .ok (.newarray .int, 2) := by decide +kernel
theorem dX4_init_75 : decode cX4_init 75 = .ok (.putfield 37, 3) := by decide +kernel
theorem dX4_init_78 : decode cX4_init 78 = .ok (.aload_n 0, 1) := by decide +kernel
theorem dX4_init_79 : decode cX4_init 79 = .ok (.bipush 15, 2) := by decide +kernel
theorem dX4_init_81 : decode cX4_init 81 = .ok (.newarray .int, 2) := by decide +kernel
theorem dX4_init_83 : decode cX4_init 83 = .ok (.putfield 40, 3) := by decide +kernel
theorem dX4_init_86 : decode cX4_init 86 = .ok (.aload_n 0, 1) := by decide +kernel
theorem dX4_init_87 : decode cX4_init 87 = .ok (.bipush 16, 2) := by decide +kernel
theorem dX4_init_89 : decode cX4_init 89 = .ok (.newarray .int, 2) := by decide +kernel
theorem dX4_init_91 : decode cX4_init 91 = .ok (.putfield 43, 3) := by decide +kernel
theorem dX4_init_94 : decode cX4_init 94 = .ok (.aload_n 0, 1) := by decide +kernel
theorem dX4_init_95 : decode cX4_init 95 = .ok (.iconst 4, 1) := by decide +kernel
theorem dX4_init_96 : decode cX4_init 96 = .ok (.newarray .int, 2) := by decide +kernel
theorem dX4_init_98 : decode cX4_init 98 = .ok (.putfield 46, 3) := by decide +kernel
theorem dX4_init_101 : decode cX4_init 101 = .ok (.aload_n 0, 1) := by decide +kernel
theorem dX4_init_102 : decode cX4_init 102 = .ok (.bipush 8, 2) := by decide +kernel
theorem dX4_init_104 : decode cX4_init 104 = .ok (.newarray .int, 2) := by decide +kernel
theorem dX4_init_106 : decode cX4_init 106 = .ok (.putfield 49, 3) := by decide +kernel
theorem dX4_init_109 : decode cX4_init 109 = .ok (.aload_n 0, 1) := by decide +kernel
theorem dX4_init_110 : decode cX4_init 110 = .ok (.bipush 8, 2) := by decide +kernel
theorem dX4_init_112 : decode cX4_init 112 = .ok (.newarray .int, 2) := by decide +kernel
theorem dX4_init_114 : decode cX4_init 114 = .ok (.putfield 52, 3) := by decide +kernel
theorem dX4_init_117 : decode cX4_init 117 = .ok (.aload_n 0, 1) := by decide +kernel
theorem dX4_init_118 : decode cX4_init 118 = .ok (.bipush 8, 2) := by decide +kernel
theorem dX4_init_120 : decode cX4_init 120 = .ok (.newarray .int, 2) := by decide +kernel
theorem dX4_init_122 : decode cX4_init 122 = .ok (.putfield 55, 3) := by decide +kernel
theorem dX4_init_125 : decode cX4_init 125 = .ok (.aload_n 0, 1) := by decide +kernel
theorem dX4_init_126 : decode cX4_init 126 = .ok (.bipush 17, 2) := by decide +kernel
theorem dX4_init_128 : decode cX4_init 128 = .ok (.newarray .long, 2) := by decide +kernel
theorem dX4_init_130 : decode cX4_init 130 = .ok (.putfield 58, 3) := by decide +kernel
theorem dX4_init_133 : decode cX4_init 133 = .ok (.aload_n 0, 1) := by decide +kernel
theorem dX4_init_134 : decode cX4_init 134 = .ok (.iconst 4, 1) := by decide +kernel
theorem dX4_init_135 : decode cX4_init 135 = .ok (.newarray .int, 2) := by decide +kernel
theorem dX4_init_137 : decode cX4_init 137 = .ok (.putfield 62, 3) := by decide +kernel
theorem dX4_init_140 : decode cX4_init 140 = .ok (.aload_n 0, 1) := by decide +kernel
theorem dX4_init_141 : decode cX4_init 141 = .ok (.iconst 4, 1) := by decide +kernel
theorem dX4_init_142 : decode cX4_init 142 = .ok (.newarray .int, 2) := by decide +kernel
theorem dX4_init_144 : decode cX4_init 144 = .ok (.putfield 65, 3) := by decide +kernel
theorem dX4_init_147 : decode cX4_init 147 = .ok (.aload_n 0, 1) := by decide +kernel
theorem dX4_init_148 : decode cX4_init 148 = .ok (.sipush 240, 3) := by decide +kernel
theorem dX4_init_151 : decode cX4_init 151 = .ok (.newarray .int, 2) := by decide +kernel
theorem dX4_init_153 : decode cX4_init 153 = .ok (.putfield 68, 3) := by decide +kernel
theorem dX4_init_156 : decode cX4_init 156 = .ok (.aload_n 0, 1) := by decide +kernel
theorem dX4_init_157 : decode cX4_init 157 = .ok (.bipush 60, 2) := by decide +kernel
theorem dX4_init_159 : decode cX4_init 159 = .ok (.newarray .int, 2) := by decide +kernel
theorem dX4_init_161 : decode cX4_init 161 = .ok (.putfield 71, 3) := by decide +kernel
theorem dX4_init_164 : decode cX4_init 164 = .ok (.iconst 0, 1) := by decide +kernel
theorem dX4_init_165 : decode cX4_init 165 = .ok (.istore_n 1, 1) := by decide +kernel
theorem dX4_init_166 : decode cX4_init 166 = .ok (.iload_n 1, 1) := by decide +kernel
theorem dX4_init_167 : decode cX4_init 167 = .ok (.iconst 4, 1) := by decide +kernel
theorem dX4_init_168 : decode cX4_init 168 = .ok (.if_icmp .ge 16, 3) := by decide +kernel
theorem dX4_init_171 : decode cX4_init 171 = .ok (.aload_n 0, 1) := by decide +kernel
theorem dX4_init_172 : decode cX4_init 172 = .ok (.getfield 62, 3) := by decide +kernel
theorem dX4_init_175 : decode cX4_init 175 = .ok (.iload_n 1, 1) := by decide +kernel
theorem dX4_init_176 : decode cX4_init 176 = .ok (.iconst (-1), 1) := by decide +kernel
theorem dX4_init_177 : decode cX4_init 177 = .ok (.iastore, 1) := by decide +kernel
theorem dX4_init_178 : decode cX4_init 178 = .ok (.iinc 1 1, 3) := by decide +kernel
theorem dX4_init_181 : decode cX4_init 181 = .ok (.goto (-15), 3) := by decide +kernel
theorem dX4_init_184 : decode cX4_init 184 = .ok (.return_, 1) := by decide +kernel
theorem dX4_in_0 : decode cX4_in 0 = .ok (.lload_n 0, 1) := by decide +kernel
theorem dX4_in_1 : decode cX4_in 1 = .ok (.lload_n 2, 1) := by decide +kernel
theorem dX4_in_2 : decode cX4_in 2 = .ok (.lcmp, 1) := by decide +kernel
theorem dX4_in_3 : decode cX4_in 3 = .ok (.ifCond .lt 14, 3) := by decide +kernel
theorem dX4_in_6 : decode cX4_in 6 = .ok (.lload_n 0, 1) := by decide +kernel
theorem dX4_in_7 : decode cX4_in 7 = .ok (.lload 4, 2) := by decide +kernel
theorem dX4_in_9 : decode cX4_in 9 = .ok (.lcmp, 1) := by decide +kernel
theorem dX4_in_10 : decode cX4_in 10 = .ok (.ifCond .gt 7, 3) := by decide +kernel
theorem dX4_in_13 : decode cX4_in 13 = .ok (.iconst 1, 1) := by decide +kernel
theorem dX4_in_14 : decode cX4_in 14 = .ok (.goto 4, 3) := by decide +kernel
theorem dX4_in_17 : decode cX4_in 17 = .ok (.iconst 0, 1) := by decide +kernel
theorem dX4_in_18 : decode cX4_in 18 = .ok (.ireturn, 1) := by decide +kernel
theorem dX4_lost_0 : decode cX4_lost 0 = .ok (.ldc2_w 74, 3) := by decide +kernel
theorem dX4_lost_3 : decode cX4_lost 3 = .ok (.lreturn, 1) := by decide +kernel
theorem dX4_bits_0 : decode cX4_bits 0 = .ok (.iconst 0, 1) := by decide +kernel
theorem dX4_bits_1 : decode cX4_bits 1 = .ok (.istore_n 1, 1) := by decide +kernel
theorem dX4_bits_2 : decode cX4_bits 2 = .ok (.iload_n 0, 1) := by decide +kernel
theorem dX4_bits_3 : decode cX4_bits 3 = .ok (.istore_n 2, 1) := by decide +kernel
theorem dX4_bits_4 : decode cX4_bits 4 = .ok (.iload_n 2, 1) := by decide +kernel
theorem dX4_bits_5 : decode cX4_bits 5 = .ok (.ifCond .le 16, 3) := by decide +kernel
theorem dX4_bits_8 : decode cX4_bits 8 = .ok (.iload_n 1, 1) := by decide +kernel
theorem dX4_bits_9 : decode cX4_bits 9 = .ok (.iload_n 2, 1) := by decide +kernel
theorem dX4_bits_10 : decode cX4_bits 10 = .ok (.iconst 1, 1) := by decide +kernel
theorem dX4_bits_11 : decode cX4_bits 11 = .ok (.iand, 1) := by decide +kernel
theorem dX4_bits_12 : decode cX4_bits 12 = .ok (.iadd, 1) := by decide +kernel
theorem dX4_bits_13 : decode cX4_bits 13 = .ok (.istore_n 1, 1) := by decide +kernel
theorem dX4_bits_14 : decode cX4_bits 14 = .ok (.iload_n 2, 1) := by decide +kernel
theorem dX4_bits_15 : decode cX4_bits 15 = .ok (.iconst 1, 1) := by decide +kernel
theorem dX4_bits_16 : decode cX4_bits 16 = .ok (.ishr, 1) := by decide +kernel
theorem dX4_bits_17 : decode cX4_bits 17 = .ok (.istore_n 2, 1) := by decide +kernel
theorem dX4_bits_18 : decode cX4_bits 18 = .ok (.goto (-14), 3) := by decide +kernel
theorem dX4_bits_21 : decode cX4_bits 21 = .ok (.iload_n 1, 1) := by decide +kernel
theorem dX4_bits_22 : decode cX4_bits 22 = .ok (.ireturn, 1) := by decide +kernel
theorem dX4_share_0 : decode cX4_share 0 = .ok (.lload_n 0, 1) := by decide +kernel
theorem dX4_share_1 : decode cX4_share 1 = .ok (.lstore 5, 2) := by decide +kernel
theorem dX4_share_3 : decode cX4_share 3 = .ok (.lload_n 2, 1) := by decide +kernel
theorem dX4_share_4 : decode cX4_share 4 = .ok (.lstore 7, 2) := by decide +kernel
theorem dX4_share_6 : decode cX4_share 6 = .ok (.lload 7, 2) := by decide +kernel
theorem dX4_share_8 : decode cX4_share 8 = .ok (.lconst 0, 1) := by decide +kernel
theorem dX4_share_9 : decode cX4_share 9 = .ok (.lcmp, 1) := by decide +kernel
theorem dX4_share_10 : decode cX4_share 10 = .ok (.ifCond .eq 21, 3) := by decide +kernel
theorem dX4_share_13 : decode cX4_share 13 = .ok (.lload 5, 2) := by decide +kernel
theorem dX4_share_15 : decode cX4_share 15 = .ok (.lload 7, 2) := by decide +kernel
theorem dX4_share_17 : decode cX4_share 17 = .ok (.lrem, 1) := by decide +kernel
theorem dX4_share_18 : decode cX4_share 18 = .ok (.lstore 9, 2) := by decide +kernel
theorem dX4_share_20 : decode cX4_share 20 = .ok (.lload 7, 2) := by decide +kernel
theorem dX4_share_22 : decode cX4_share 22 = .ok (.lstore 5, 2) := by decide +kernel
theorem dX4_share_24 : decode cX4_share 24 = .ok (.lload 9, 2) := by decide +kernel
theorem dX4_share_26 : decode cX4_share 26 = .ok (.lstore 7, 2) := by decide +kernel
theorem dX4_share_28 : decode cX4_share 28 = .ok (.goto (-22), 3) := by decide +kernel
theorem dX4_share_31 : decode cX4_share 31 = .ok (.iload 4, 2) := by decide +kernel
theorem dX4_share_33 : decode cX4_share 33 = .ok (.ifCond .ne 7, 3) := by decide +kernel
theorem dX4_share_36 : decode cX4_share 36 = .ok (.lload_n 0, 1) := by decide +kernel
theorem dX4_share_37 : decode cX4_share 37 = .ok (.goto 4, 3) := by decide +kernel
theorem dX4_share_40 : decode cX4_share 40 = .ok (.lload_n 2, 1) := by decide +kernel
theorem dX4_share_41 : decode cX4_share 41 = .ok (.lload 5, 2) := by decide +kernel
theorem dX4_share_43 : decode cX4_share 43 = .ok (.ldiv, 1) := by decide +kernel
theorem dX4_share_44 : decode cX4_share 44 = .ok (.lreturn, 1) := by decide +kernel
theorem dX4_refused_0 : decode cX4_refused 0 = .ok (.aload_n 0, 1) := by decide +kernel
theorem dX4_refused_1 : decode cX4_refused 1 = .ok (.iconst 0, 1) := by decide +kernel
theorem dX4_refused_2 : decode cX4_refused 2 = .ok (.putfield 76, 3) := by decide +kernel
theorem dX4_refused_5 : decode cX4_refused 5 = .ok (.iload_n 1, 1) := by decide +kernel
theorem dX4_refused_6 : decode cX4_refused 6 = .ok (.ireturn, 1) := by decide +kernel
theorem dX4_failed_0 : decode cX4_failed 0 = .ok (.aload_n 0, 1) := by decide +kernel
theorem dX4_failed_1 : decode cX4_failed 1 = .ok (.iload_n 1, 1) := by decide +kernel
theorem dX4_failed_2 : decode cX4_failed 2 = .ok (.putfield 76, 3) := by decide +kernel
theorem dX4_failed_5 : decode cX4_failed 5 = .ok (.bipush (-10), 2) := by decide +kernel
theorem dX4_failed_7 : decode cX4_failed 7 = .ok (.iload_n 1, 1) := by decide +kernel
theorem dX4_failed_8 : decode cX4_failed 8 = .ok (.isub, 1) := by decide +kernel
theorem dX4_failed_9 : decode cX4_failed 9 = .ok (.ireturn, 1) := by decide +kernel
theorem dX4_failedLong_0 : decode cX4_failedLong 0 = .ok (.aload_n 0, 1) := by decide +kernel
theorem dX4_failedLong_1 : decode cX4_failedLong 1 = .ok (.iload_n 1, 1) := by decide +kernel
theorem dX4_failedLong_2 : decode cX4_failedLong 2 = .ok (.putfield 76, 3) := by decide +kernel
theorem dX4_failedLong_5 : decode cX4_failedLong 5 = .ok (.invokestatic 80, 3) := by decide +kernel
theorem dX4_failedLong_8 : decode cX4_failedLong 8 = .ok (.lreturn, 1) := by decide +kernel
theorem dX4_noModule_0 : decode cX4_noModule 0 = .ok (.iload_n 1, 1) := by decide +kernel
theorem dX4_noModule_1 : decode cX4_noModule 1 = .ok (.i2l, 1) := by decide +kernel
theorem dX4_noModule_2 : decode cX4_noModule 2 = .ok (.lconst 0, 1) := by decide +kernel
theorem dX4_noModule_3 : decode cX4_noModule 3 = .ok (.aload_n 0, 1) := by decide +kernel
theorem dX4_noModule_4 : decode cX4_noModule 4 = .ok (.getfield 84, 3) := by decide +kernel
theorem dX4_noModule_7 : decode cX4_noModule 7 = .ok (.i2l, 1) := by decide +kernel
theorem dX4_noModule_8 : decode cX4_noModule 8 = .ok (.lconst 1, 1) := by decide +kernel
theorem dX4_noModule_9 : decode cX4_noModule 9 = .ok (.lsub, 1) := by decide +kernel
theorem dX4_noModule_10 : decode cX4_noModule 10 = .ok (.invokestatic 87, 3) := by decide +kernel
theorem dX4_noModule_13 : decode cX4_noModule 13 = .ok (.ifCond .ne 7, 3) := by decide +kernel
theorem dX4_noModule_16 : decode cX4_noModule 16 = .ok (.iconst 1, 1) := by decide +kernel
theorem dX4_noModule_17 : decode cX4_noModule 17 = .ok (.goto 4, 3) := by decide +kernel
theorem dX4_noModule_20 : decode cX4_noModule 20 = .ok (.iconst 0, 1) := by decide +kernel
theorem dX4_noModule_21 : decode cX4_noModule 21 = .ok (.ireturn, 1) := by decide +kernel
theorem dX4_noLamp_0 : decode cX4_noLamp 0 = .ok (.iload_n 1, 1) := by decide +kernel
theorem dX4_noLamp_1 : decode cX4_noLamp 1 = .ok (.i2l, 1) := by decide +kernel
theorem dX4_noLamp_2 : decode cX4_noLamp 2 = .ok (.lconst 0, 1) := by decide +kernel
theorem dX4_noLamp_3 : decode cX4_noLamp 3 = .ok (.aload_n 0, 1) := by decide +kernel
theorem dX4_noLamp_4 : decode cX4_noLamp 4 = .ok (.getfield 91, 3) := by decide +kernel
theorem dX4_noLamp_7 : decode cX4_noLamp 7 = .ok (.i2l, 1) := by decide +kernel
theorem dX4_noLamp_8 : decode cX4_noLamp 8 = .ok (.lconst 1, 1) := by decide +kernel
theorem dX4_noLamp_9 : decode cX4_noLamp 9 = .ok (.lsub, 1) := by decide +kernel
theorem dX4_noLamp_10 : decode cX4_noLamp 10 = .ok (.invokestatic 87, 3) := by decide +kernel
theorem dX4_noLamp_13 : decode cX4_noLamp 13 = .ok (.ifCond .ne 7, 3) := by decide +kernel
theorem dX4_noLamp_16 : decode cX4_noLamp 16 = .ok (.iconst 1, 1) := by decide +kernel
theorem dX4_noLamp_17 : decode cX4_noLamp 17 = .ok (.goto 4, 3) := by decide +kernel
theorem dX4_noLamp_20 : decode cX4_noLamp 20 = .ok (.iconst 0, 1) := by decide +kernel
theorem dX4_noLamp_21 : decode cX4_noLamp 21 = .ok (.ireturn, 1) := by decide +kernel
theorem dX4_codeAt_0 : decode cX4_codeAt 0 = .ok (.aload_n 0, 1) := by decide +kernel
theorem dX4_codeAt_1 : decode cX4_codeAt 1 = .ok (.getfield 94, 3) := by decide +kernel
theorem dX4_codeAt_4 : decode cX4_codeAt 4 = .ok (.iload_n 2, 1) := by decide +kernel
theorem dX4_codeAt_5 : decode cX4_codeAt 5 = .ok (.if_icmp .ge 17, 3) := by decide +kernel
theorem dX4_codeAt_8 : decode cX4_codeAt 8 = .ok (.aload_n 0, 1) := by decide +kernel
theorem dX4_codeAt_9 : decode cX4_codeAt 9 = .ok (.getfield 68, 3) := by decide +kernel
theorem dX4_codeAt_12 : decode cX4_codeAt 12 = .ok (.iload_n 1, 1) := by decide +kernel
theorem dX4_codeAt_13 : decode cX4_codeAt 13 = .ok (.aload_n 0, 1) := by decide +kernel
theorem dX4_codeAt_14 : decode cX4_codeAt 14 = .ok (.getfield 94, 3) := by decide +kernel
theorem dX4_codeAt_17 : decode cX4_codeAt 17 = .ok (.iadd, 1) := by decide +kernel
theorem dX4_codeAt_18 : decode cX4_codeAt 18 = .ok (.iaload, 1) := by decide +kernel
theorem dX4_codeAt_19 : decode cX4_codeAt 19 = .ok (.goto 5, 3) := by decide +kernel
theorem dX4_codeAt_22 : decode cX4_codeAt 22 = .ok (.bipush (-9), 2) := by decide +kernel
theorem dX4_codeAt_24 : decode cX4_codeAt 24 = .ok (.ireturn, 1) := by decide +kernel
theorem dX4_readsModule_0 : decode cX4_readsModule 0 = .ok (.aload_n 0, 1) := by decide +kernel
theorem dX4_readsModule_1 : decode cX4_readsModule 1 = .ok (.getfield 97, 3) := by decide +kernel
theorem dX4_readsModule_4 : decode cX4_readsModule 4 = .ok (.iconst 4, 1) := by decide +kernel
theorem dX4_readsModule_5 : decode cX4_readsModule 5 = .ok (.if_icmp .eq 14, 3) := by decide +kernel
theorem dX4_readsModule_8 : decode cX4_readsModule 8 = .ok (.aload_n 0, 1) := by decide +kernel
theorem dX4_readsModule_9 : decode cX4_readsModule 9 = .ok (.iload_n 1, 1) := by decide +kernel
theorem dX4_readsModule_10 : decode cX4_readsModule 10 = .ok (.iload_n 2, 1) := by decide +kernel
theorem dX4_readsModule_11 : decode cX4_readsModule 11 = .ok (.invokevirtual 100, 3) := by decide +kernel
theorem dX4_readsModule_14 : decode cX4_readsModule 14 = .ok (.bipush 59, 2) := by decide +kernel
theorem dX4_readsModule_16 : decode cX4_readsModule 16 = .ok (.if_icmp .eq 5, 3) := by decide +kernel
theorem dX4_readsModule_19 : decode cX4_readsModule 19 = .ok (.iconst 0, 1) := by decide +kernel
theorem dX4_readsModule_20 : decode cX4_readsModule 20 = .ok (.ireturn, 1) := by decide +kernel
theorem dX4_readsModule_21 : decode cX4_readsModule 21 = .ok (.aload_n 0, 1) := by decide +kernel
theorem dX4_readsModule_22 : decode cX4_readsModule 22 = .ok (.dup, 1) := by decide +kernel
theorem dX4_readsModule_23 : decode cX4_readsModule 23 = .ok (.getfield 94, 3) := by decide +kernel
theorem dX4_readsModule_26 : decode cX4_readsModule 26 = .ok (.iconst 1, 1) := by decide +kernel
theorem dX4_readsModule_27 : decode cX4_readsModule 27 = .ok (.iadd, 1) := by decide +kernel
theorem dX4_readsModule_28 : decode cX4_readsModule 28 = .ok (.putfield 94, 3) := by decide +kernel
theorem dX4_readsModule_31 : decode cX4_readsModule 31 = .ok (.aload_n 0, 1) := by decide +kernel
theorem dX4_readsModule_32 : decode cX4_readsModule 32 = .ok (.iload_n 1, 1) := by decide +kernel
theorem dX4_readsModule_33 : decode cX4_readsModule 33 = .ok (.iload_n 2, 1) := by decide +kernel
theorem dX4_readsModule_34 : decode cX4_readsModule 34 = .ok (.invokevirtual 100, 3) := by decide +kernel
theorem dX4_readsModule_37 : decode cX4_readsModule 37 = .ok (.istore_n 3, 1) := by decide +kernel
theorem dX4_readsModule_38 : decode cX4_readsModule 38 = .ok (.iload_n 3, 1) := by decide +kernel
theorem dX4_readsModule_39 : decode cX4_readsModule 39 = .ok (.bipush 112, 2) := by decide +kernel
theorem dX4_readsModule_41 : decode cX4_readsModule 41 = .ok (.if_icmp .eq 17, 3) := by decide +kernel
theorem dX4_readsModule_44 : decode cX4_readsModule 44 = .ok (.iload_n 3, 1) := by decide +kernel
theorem dX4_readsModule_45 : decode cX4_readsModule 45 = .ok (.bipush 104, 2) := by decide +kernel
theorem dX4_readsModule_47 : decode cX4_readsModule 47 = .ok (.if_icmp .eq 11, 3) := by decide +kernel
theorem dX4_readsModule_50 : decode cX4_readsModule 50 = .ok (.iload_n 3, 1) := by decide +kernel
theorem dX4_readsModule_51 : decode cX4_readsModule 51 = .ok (.bipush 98, 2) := by decide +kernel
theorem dX4_readsModule_53 : decode cX4_readsModule 53 = .ok (.if_icmp .eq 5, 3) := by decide +kernel
theorem dX4_readsModule_56 : decode cX4_readsModule 56 = .ok (.iconst 0, 1) := by decide +kernel
theorem dX4_readsModule_57 : decode cX4_readsModule 57 = .ok (.ireturn, 1) := by decide +kernel
theorem dX4_readsModule_58 : decode cX4_readsModule 58 = .ok (.aload_n 0, 1) := by decide +kernel
theorem dX4_readsModule_59 : decode cX4_readsModule 59 = .ok (.dup, 1) := by decide +kernel
theorem dX4_readsModule_60 : decode cX4_readsModule 60 = .ok (.getfield 94, 3) := by decide +kernel
theorem dX4_readsModule_63 : decode cX4_readsModule 63 = .ok (.iconst 1, 1) := by decide +kernel
theorem dX4_readsModule_64 : decode cX4_readsModule 64 = .ok (.iadd, 1) := by decide +kernel
theorem dX4_readsModule_65 : decode cX4_readsModule 65 = .ok (.putfield 94, 3) := by decide +kernel
theorem dX4_readsModule_68 : decode cX4_readsModule 68 = .ok (.aload_n 0, 1) := by decide +kernel
theorem dX4_readsModule_69 : decode cX4_readsModule 69 = .ok (.getfield 97, 3) := by decide +kernel
theorem dX4_readsModule_72 : decode cX4_readsModule 72 = .ok (.istore 4, 2) := by decide +kernel
theorem dX4_readsModule_74 : decode cX4_readsModule 74 = .ok (.aload_n 0, 1) := by decide +kernel
theorem dX4_readsModule_75 : decode cX4_readsModule 75 = .ok (.getfield 28, 3) := by decide +kernel
theorem dX4_readsModule_78 : decode cX4_readsModule 78 = .ok (.iload 4, 2) := by decide +kernel
theorem dX4_readsModule_80 : decode cX4_readsModule 80 = .ok (.iload_n 3, 1) := by decide +kernel
theorem dX4_readsModule_81 : decode cX4_readsModule 81 = .ok (.bipush 112, 2) := by decide +kernel
theorem dX4_readsModule_83 : decode cX4_readsModule 83 = .ok (.if_icmp .ne 7, 3) := by decide +kernel
theorem dX4_readsModule_86 : decode cX4_readsModule 86 = .ok (.iconst 0, 1) := by decide +kernel
theorem dX4_readsModule_87 : decode cX4_readsModule 87 = .ok (.goto 14, 3) := by decide +kernel
theorem dX4_readsModule_90 : decode cX4_readsModule 90 = .ok (.iload_n 3, 1) := by decide +kernel
theorem dX4_readsModule_91 : decode cX4_readsModule 91 = .ok (.bipush 104, 2) := by decide +kernel
theorem dX4_readsModule_93 : decode cX4_readsModule 93 = .ok (.if_icmp .ne 7, 3) := by decide +kernel
theorem dX4_readsModule_96 : decode cX4_readsModule 96 = .ok (.iconst 1, 1) := by decide +kernel
theorem dX4_readsModule_97 : decode cX4_readsModule 97 = .ok (.goto 4, 3) := by decide +kernel
theorem dX4_readsModule_100 : decode cX4_readsModule 100 = .ok (.iconst 2, 1) := by decide +kernel
theorem dX4_readsModule_101 : decode cX4_readsModule 101 = .ok (.iastore, 1) := by decide +kernel
theorem dX4_readsModule_102 : decode cX4_readsModule 102 = .ok (.aload_n 0, 1) := by decide +kernel
theorem dX4_readsModule_103 : decode cX4_readsModule 103 = .ok (.getfield 31, 3) := by decide +kernel
theorem dX4_readsModule_106 : decode cX4_readsModule 106 = .ok (.iload 4, 2) := by decide +kernel
theorem dX4_readsModule_108 : decode cX4_readsModule 108 = .ok (.iconst 0, 1) := by decide +kernel
theorem dX4_readsModule_109 : decode cX4_readsModule 109 = .ok (.iastore, 1) := by decide +kernel
theorem dX4_readsModule_110 : decode cX4_readsModule 110 = .ok (.aload_n 0, 1) := by decide +kernel
theorem dX4_readsModule_111 : decode cX4_readsModule 111 = .ok (.getfield 31, 3) := by decide +kernel
theorem dX4_readsModule_114 : decode cX4_readsModule 114 = .ok (.iload 4, 2) := by decide +kernel
theorem dX4_readsModule_116 : decode cX4_readsModule 116 = .ok (.iaload, 1) := by decide +kernel
theorem dX4_readsModule_117 : decode cX4_readsModule 117 = .ok (.iconst 4, 1) := by decide +kernel
theorem dX4_readsModule_118 : decode cX4_readsModule 118 = .ok (.if_icmp .ge 74, 3) := by decide +kernel
theorem dX4_readsModule_121 : decode cX4_readsModule 121 = .ok (.aload_n 0, 1) := by decide +kernel
theorem dX4_readsModule_122 : decode cX4_readsModule 122 = .ok (.iload_n 1, 1) := by decide +kernel
theorem dX4_readsModule_123 : decode cX4_readsModule 123 = .ok (.iload_n 2, 1) := by decide +kernel
theorem dX4_readsModule_124 : decode cX4_readsModule 124 = .ok (.invokevirtual 100, 3) := by decide +kernel
theorem dX4_readsModule_127 : decode cX4_readsModule 127 = .ok (.i2l, 1) := by decide +kernel
theorem dX4_readsModule_128 : decode cX4_readsModule 128 = .ok (.ldc2_w 104, 3) := by decide +kernel
theorem dX4_readsModule_131 : decode cX4_readsModule 131 = .ok (.ldc2_w 106, 3) := by decide +kernel
theorem dX4_readsModule_134 : decode cX4_readsModule 134 = .ok (.invokestatic 87, 3) := by decide +kernel
theorem dX4_readsModule_137 : decode cX4_readsModule 137 = .ok (.ifCond .eq 55, 3) := by decide +kernel
theorem dX4_readsModule_140 : decode cX4_readsModule 140 = .ok (.aload_n 0, 1) := by decide +kernel
theorem dX4_readsModule_141 : decode cX4_readsModule 141 = .ok (.getfield 34, 3) := by decide +kernel
theorem dX4_readsModule_144 : decode cX4_readsModule 144 = .ok (.aload_n 0, 1) := by decide +kernel
theorem dX4_readsModule_145 : decode cX4_readsModule 145 = .ok (.getfield 108, 3) := by decide +kernel
theorem dX4_readsModule_148 : decode cX4_readsModule 148 = .ok (.aload_n 0, 1) := by decide +kernel
theorem dX4_readsModule_149 : decode cX4_readsModule 149 = .ok (.iload_n 1, 1) := by decide +kernel
theorem dX4_readsModule_150 : decode cX4_readsModule 150 = .ok (.iload_n 2, 1) := by decide +kernel
theorem dX4_readsModule_151 : decode cX4_readsModule 151 = .ok (.invokevirtual 100, 3) := by decide +kernel
theorem dX4_readsModule_154 : decode cX4_readsModule 154 = .ok (.bipush 48, 2) := by decide +kernel
theorem dX4_readsModule_156 : decode cX4_readsModule 156 = .ok (.isub, 1) := by decide +kernel
theorem dX4_readsModule_157 : decode cX4_readsModule 157 = .ok (.iastore, 1) := by decide +kernel
theorem dX4_readsModule_158 : decode cX4_readsModule 158 = .ok (.aload_n 0, 1) := by decide +kernel
theorem dX4_readsModule_159 : decode cX4_readsModule 159 = .ok (.dup, 1) := by decide +kernel
theorem dX4_readsModule_160 : decode cX4_readsModule 160 = .ok (.getfield 108, 3) := by decide +kernel
theorem dX4_readsModule_163 : decode cX4_readsModule 163 = .ok (.iconst 1, 1) := by decide +kernel
theorem dX4_readsModule_164 : decode cX4_readsModule 164 = .ok (.iadd, 1) := by decide +kernel
theorem dX4_readsModule_165 : decode cX4_readsModule 165 = .ok (.putfield 108, 3) := by decide +kernel
theorem dX4_readsModule_168 : decode cX4_readsModule 168 = .ok (.aload_n 0, 1) := by decide +kernel
theorem dX4_readsModule_169 : decode cX4_readsModule 169 = .ok (.getfield 31, 3) := by decide +kernel
theorem dX4_readsModule_172 : decode cX4_readsModule 172 = .ok (.iload 4, 2) := by decide +kernel
theorem dX4_readsModule_174 : decode cX4_readsModule 174 = .ok (.dup2, 1) := by decide +kernel
theorem dX4_readsModule_175 : decode cX4_readsModule 175 = .ok (.iaload, 1) := by decide +kernel
theorem dX4_readsModule_176 : decode cX4_readsModule 176 = .ok (.iconst 1, 1) := by decide +kernel
theorem dX4_readsModule_177 : decode cX4_readsModule 177 = .ok (.iadd, 1) := by decide +kernel
theorem dX4_readsModule_178 : decode cX4_readsModule 178 = .ok (.iastore, 1) := by decide +kernel
theorem dX4_readsModule_179 : decode cX4_readsModule 179 = .ok (.aload_n 0, 1) := by decide +kernel
theorem dX4_readsModule_180 : decode cX4_readsModule 180 = .ok (.dup, 1) := by decide +kernel
theorem dX4_readsModule_181 : decode cX4_readsModule 181 = .ok (.getfield 94, 3) := by decide +kernel
theorem dX4_readsModule_184 : decode cX4_readsModule 184 = .ok (.iconst 1, 1) := by decide +kernel
theorem dX4_readsModule_185 : decode cX4_readsModule 185 = .ok (.iadd, 1) := by decide +kernel
theorem dX4_readsModule_186 : decode cX4_readsModule 186 = .ok (.putfield 94, 3) := by decide +kernel
theorem dX4_readsModule_189 : decode cX4_readsModule 189 = .ok (.goto (-79), 3) := by decide +kernel
theorem dX4_readsModule_192 : decode cX4_readsModule 192 = .ok (.aload_n 0, 1) := by decide +kernel
theorem dX4_readsModule_193 : decode cX4_readsModule 193 = .ok (.dup, 1) := by decide +kernel
theorem dX4_readsModule_194 : decode cX4_readsModule 194 = .ok (.getfield 97, 3) := by decide +kernel
theorem dX4_readsModule_197 : decode cX4_readsModule 197 = .ok (.iconst 1, 1) := by decide +kernel
theorem dX4_readsModule_198 : decode cX4_readsModule 198 = .ok (.iadd, 1) := by decide +kernel
theorem dX4_readsModule_199 : decode cX4_readsModule 199 = .ok (.putfield 97, 3) := by decide +kernel
theorem dX4_readsModule_202 : decode cX4_readsModule 202 = .ok (.aload_n 0, 1) := by decide +kernel
theorem dX4_readsModule_203 : decode cX4_readsModule 203 = .ok (.getfield 31, 3) := by decide +kernel
theorem dX4_readsModule_206 : decode cX4_readsModule 206 = .ok (.iload 4, 2) := by decide +kernel
theorem dX4_readsModule_208 : decode cX4_readsModule 208 = .ok (.iaload, 1) := by decide +kernel
theorem dX4_readsModule_209 : decode cX4_readsModule 209 = .ok (.ifCond .le 7, 3) := by decide +kernel
theorem dX4_readsModule_212 : decode cX4_readsModule 212 = .ok (.iconst 1, 1) := by decide +kernel
theorem dX4_readsModule_213 : decode cX4_readsModule 213 = .ok (.goto 4, 3) := by decide +kernel
theorem dX4_readsModule_216 : decode cX4_readsModule 216 = .ok (.iconst 0, 1) := by decide +kernel
theorem dX4_readsModule_217 : decode cX4_readsModule 217 = .ok (.ireturn, 1) := by decide +kernel
theorem dX4_readsWall_0 : decode cX4_readsWall 0 = .ok (.aload_n 0, 1) := by decide +kernel
theorem dX4_readsWall_1 : decode cX4_readsWall 1 = .ok (.iconst 0, 1) := by decide +kernel
theorem dX4_readsWall_2 : decode cX4_readsWall 2 = .ok (.putfield 94, 3) := by decide +kernel
theorem dX4_readsWall_5 : decode cX4_readsWall 5 = .ok (.aload_n 0, 1) := by decide +kernel
theorem dX4_readsWall_6 : decode cX4_readsWall 6 = .ok (.iconst 0, 1) := by decide +kernel
theorem dX4_readsWall_7 : decode cX4_readsWall 7 = .ok (.putfield 97, 3) := by decide +kernel
theorem dX4_readsWall_10 : decode cX4_readsWall 10 = .ok (.aload_n 0, 1) := by decide +kernel
theorem dX4_readsWall_11 : decode cX4_readsWall 11 = .ok (.iconst 0, 1) := by decide +kernel
theorem dX4_readsWall_12 : decode cX4_readsWall 12 = .ok (.putfield 108, 3) := by decide +kernel
theorem dX4_readsWall_15 : decode cX4_readsWall 15 = .ok (.aload_n 0, 1) := by decide +kernel
theorem dX4_readsWall_16 : decode cX4_readsWall 16 = .ok (.iload_n 1, 1) := by decide +kernel
theorem dX4_readsWall_17 : decode cX4_readsWall 17 = .ok (.iload_n 2, 1) := by decide +kernel
theorem dX4_readsWall_18 : decode cX4_readsWall 18 = .ok (.invokevirtual 100, 3) := by decide +kernel
theorem dX4_readsWall_21 : decode cX4_readsWall 21 = .ok (.bipush 119, 2) := by decide +kernel
theorem dX4_readsWall_23 : decode cX4_readsWall 23 = .ok (.if_icmp .eq 5, 3) := by decide +kernel
theorem dX4_readsWall_26 : decode cX4_readsWall 26 = .ok (.iconst 0, 1) := by decide +kernel
theorem dX4_readsWall_27 : decode cX4_readsWall 27 = .ok (.ireturn, 1) := by decide +kernel
theorem dX4_readsWall_28 : decode cX4_readsWall 28 = .ok (.aload_n 0, 1) := by decide +kernel
theorem dX4_readsWall_29 : decode cX4_readsWall 29 = .ok (.dup, 1) := by decide +kernel
theorem dX4_readsWall_30 : decode cX4_readsWall 30 = .ok (.getfield 94, 3) := by decide +kernel
theorem dX4_readsWall_33 : decode cX4_readsWall 33 = .ok (.iconst 1, 1) := by decide +kernel
theorem dX4_readsWall_34 : decode cX4_readsWall 34 = .ok (.iadd, 1) := by decide +kernel
theorem dX4_readsWall_35 : decode cX4_readsWall 35 = .ok (.putfield 94, 3) := by decide +kernel
theorem dX4_readsWall_38 : decode cX4_readsWall 38 = .ok (.aload_n 0, 1) := by decide +kernel
theorem dX4_readsWall_39 : decode cX4_readsWall 39 = .ok (.aload_n 0, 1) := by decide +kernel
theorem dX4_readsWall_40 : decode cX4_readsWall 40 = .ok (.iload_n 1, 1) := by decide +kernel
theorem dX4_readsWall_41 : decode cX4_readsWall 41 = .ok (.iload_n 2, 1) := by decide +kernel
theorem dX4_readsWall_42 : decode cX4_readsWall 42 = .ok (.invokevirtual 100, 3) := by decide +kernel
theorem dX4_readsWall_45 : decode cX4_readsWall 45 = .ok (.bipush 48, 2) := by decide +kernel
theorem dX4_readsWall_47 : decode cX4_readsWall 47 = .ok (.isub, 1) := by decide +kernel
theorem dX4_readsWall_48 : decode cX4_readsWall 48 = .ok (.putfield 111, 3) := by decide +kernel
theorem dX4_readsWall_51 : decode cX4_readsWall 51 = .ok (.aload_n 0, 1) := by decide +kernel
theorem dX4_readsWall_52 : decode cX4_readsWall 52 = .ok (.getfield 111, 3) := by decide +kernel
theorem dX4_readsWall_55 : decode cX4_readsWall 55 = .ok (.i2l, 1) := by decide +kernel
theorem dX4_readsWall_56 : decode cX4_readsWall 56 = .ok (.lconst 1, 1) := by decide +kernel
theorem dX4_readsWall_57 : decode cX4_readsWall 57 = .ok (.ldc2_w 114, 3) := by decide +kernel
theorem dX4_readsWall_60 : decode cX4_readsWall 60 = .ok (.invokestatic 87, 3) := by decide +kernel
theorem dX4_readsWall_63 : decode cX4_readsWall 63 = .ok (.ifCond .ne 5, 3) := by decide +kernel
theorem dX4_readsWall_66 : decode cX4_readsWall 66 = .ok (.iconst 0, 1) := by decide +kernel
theorem dX4_readsWall_67 : decode cX4_readsWall 67 = .ok (.ireturn, 1) := by decide +kernel
theorem dX4_readsWall_68 : decode cX4_readsWall 68 = .ok (.aload_n 0, 1) := by decide +kernel
theorem dX4_readsWall_69 : decode cX4_readsWall 69 = .ok (.dup, 1) := by decide +kernel
theorem dX4_readsWall_70 : decode cX4_readsWall 70 = .ok (.getfield 94, 3) := by decide +kernel
theorem dX4_readsWall_73 : decode cX4_readsWall 73 = .ok (.iconst 1, 1) := by decide +kernel
theorem dX4_readsWall_74 : decode cX4_readsWall 74 = .ok (.iadd, 1) := by decide +kernel
theorem dX4_readsWall_75 : decode cX4_readsWall 75 = .ok (.putfield 94, 3) := by decide +kernel
theorem dX4_readsWall_78 : decode cX4_readsWall 78 = .ok (.iconst 1, 1) := by decide +kernel
theorem dX4_readsWall_79 : decode cX4_readsWall 79 = .ok (.istore_n 3, 1) := by decide +kernel
theorem dX4_readsWall_80 : decode cX4_readsWall 80 = .ok (.iload_n 3, 1) := by decide +kernel
theorem dX4_readsWall_81 : decode cX4_readsWall 81 = .ok (.ifCond .eq 29, 3) := by decide +kernel
theorem dX4_readsWall_84 : decode cX4_readsWall 84 = .ok (.aload_n 0, 1) := by decide +kernel
theorem dX4_readsWall_85 : decode cX4_readsWall 85 = .ok (.getfield 97, 3) := by decide +kernel
theorem dX4_readsWall_88 : decode cX4_readsWall 88 = .ok (.iconst 1, 1) := by decide +kernel
theorem dX4_readsWall_89 : decode cX4_readsWall 89 = .ok (.if_icmp .lt 11, 3) := by decide +kernel
theorem dX4_readsWall_92 : decode cX4_readsWall 92 = .ok (.aload_n 0, 1) := by decide +kernel
theorem dX4_readsWall_93 : decode cX4_readsWall 93 = .ok (.getfield 94, 3) := by decide +kernel
theorem dX4_readsWall_96 : decode cX4_readsWall 96 = .ok (.iload_n 2, 1) := by decide +kernel
theorem dX4_readsWall_97 : decode cX4_readsWall 97 = .ok (.if_icmp .ge 13, 3) := by decide +kernel
theorem dX4_readsWall_100 : decode cX4_readsWall 100 = .ok (.aload_n 0, 1) := by decide +kernel
theorem dX4_readsWall_101 : decode cX4_readsWall 101 = .ok (.iload_n 1, 1) := by decide +kernel
theorem dX4_readsWall_102 : decode cX4_readsWall 102 = .ok (.iload_n 2, 1) := by decide +kernel
theorem dX4_readsWall_103 : decode cX4_readsWall 103 = .ok (.invokevirtual 116, 3) := by decide +kernel
theorem dX4_readsWall_106 : decode cX4_readsWall 106 = .ok (.istore_n 3, 1) := by decide +kernel
theorem dX4_readsWall_107 : decode cX4_readsWall 107 = .ok (.goto (-27), 3) := by decide +kernel
theorem dX4_readsWall_110 : decode cX4_readsWall 110 = .ok (.iload_n 3, 1) := by decide +kernel
theorem dX4_readsWall_111 : decode cX4_readsWall 111 = .ok (.ireturn, 1) := by decide +kernel
theorem dX4_cellsBarred_0 : decode cX4_cellsBarred 0 = .ok (.aload_n 0, 1) := by decide +kernel
theorem dX4_cellsBarred_1 : decode cX4_cellsBarred 1 = .ok (.getfield 62, 3) := by decide +kernel
theorem dX4_cellsBarred_4 : decode cX4_cellsBarred 4 = .ok (.iload_n 1, 1) := by decide +kernel
theorem dX4_cellsBarred_5 : decode cX4_cellsBarred 5 = .ok (.iaload, 1) := by decide +kernel
theorem dX4_cellsBarred_6 : decode cX4_cellsBarred 6 = .ok (.ifCond .lt 19, 3) := by decide +kernel
theorem dX4_cellsBarred_9 : decode cX4_cellsBarred 9 = .ok (.aload_n 0, 1) := by decide +kernel
theorem dX4_cellsBarred_10 : decode cX4_cellsBarred 10 = .ok (.getfield 65, 3) := by decide +kernel
theorem dX4_cellsBarred_13 : decode cX4_cellsBarred 13 = .ok (.iload_n 1, 1) := by decide +kernel
theorem dX4_cellsBarred_14 : decode cX4_cellsBarred 14 = .ok (.iaload, 1) := by decide +kernel
theorem dX4_cellsBarred_15 : decode cX4_cellsBarred 15 = .ok (.iload_n 2, 1) := by decide +kernel
theorem dX4_cellsBarred_16 : decode cX4_cellsBarred 16 = .ok (.if_icmp .eq 9, 3) := by decide +kernel
theorem dX4_cellsBarred_19 : decode cX4_cellsBarred 19 = .ok (.aload_n 0, 1) := by decide +kernel
theorem dX4_cellsBarred_20 : decode cX4_cellsBarred 20 = .ok (.iconst 2, 1) := by decide +kernel
theorem dX4_cellsBarred_21 : decode cX4_cellsBarred 21 = .ok (.invokevirtual 120, 3) := by decide +kernel
theorem dX4_cellsBarred_24 : decode cX4_cellsBarred 24 = .ok (.ireturn, 1) := by decide +kernel
theorem dX4_cellsBarred_25 : decode cX4_cellsBarred 25 = .ok (.aload_n 0, 1) := by decide +kernel
theorem dX4_cellsBarred_26 : decode cX4_cellsBarred 26 = .ok (.getfield 62, 3) := by decide +kernel
theorem dX4_cellsBarred_29 : decode cX4_cellsBarred 29 = .ok (.iload_n 1, 1) := by decide +kernel
theorem dX4_cellsBarred_30 : decode cX4_cellsBarred 30 = .ok (.iaload, 1) := by decide +kernel
theorem dX4_cellsBarred_31 : decode cX4_cellsBarred 31 = .ok (.ifCond .ge 9, 3) := by decide +kernel
theorem dX4_cellsBarred_34 : decode cX4_cellsBarred 34 = .ok (.aload_n 0, 1) := by decide +kernel
theorem dX4_cellsBarred_35 : decode cX4_cellsBarred 35 = .ok (.iconst 1, 1) := by decide +kernel
theorem dX4_cellsBarred_36 : decode cX4_cellsBarred 36 = .ok (.invokevirtual 120, 3) := by decide +kernel
theorem dX4_cellsBarred_39 : decode cX4_cellsBarred 39 = .ok (.ireturn, 1) := by decide +kernel
theorem dX4_cellsBarred_40 : decode cX4_cellsBarred 40 = .ok (.lload 4, 2) := by decide +kernel
theorem dX4_cellsBarred_42 : decode cX4_cellsBarred 42 = .ok (.lconst 0, 1) := by decide +kernel
theorem dX4_cellsBarred_43 : decode cX4_cellsBarred 43 = .ok (.lcmp, 1) := by decide +kernel
theorem dX4_cellsBarred_44 : decode cX4_cellsBarred 44 = .ok (.ifCond .ge 9, 3) := by decide +kernel
theorem dX4_cellsBarred_47 : decode cX4_cellsBarred 47 = .ok (.aload_n 0, 1) := by decide +kernel
theorem dX4_cellsBarred_48 : decode cX4_cellsBarred 48 = .ok (.iconst 4, 1) := by decide +kernel
theorem dX4_cellsBarred_49 : decode cX4_cellsBarred 49 = .ok (.invokevirtual 120, 3) := by decide +kernel
theorem dX4_cellsBarred_52 : decode cX4_cellsBarred 52 = .ok (.ireturn, 1) := by decide +kernel
theorem dX4_cellsBarred_53 : decode cX4_cellsBarred 53 = .ok (.iload_n 3, 1) := by decide +kernel
theorem dX4_cellsBarred_54 : decode cX4_cellsBarred 54 = .ok (.lload 4, 2) := by decide +kernel
theorem dX4_cellsBarred_56 : decode cX4_cellsBarred 56 = .ok (.aload_n 0, 1) := by decide +kernel
theorem dX4_cellsBarred_57 : decode cX4_cellsBarred 57 = .ok (.getfield 62, 3) := by decide +kernel
theorem dX4_cellsBarred_60 : decode cX4_cellsBarred 60 = .ok (.iload_n 1, 1) := by decide +kernel
theorem dX4_cellsBarred_61 : decode cX4_cellsBarred 61 = .ok (.iaload, 1) := by decide +kernel
theorem dX4_cellsBarred_62 : decode cX4_cellsBarred 62 = .ok (.invokestatic 124, 3) := by decide +kernel
theorem dX4_cellsBarred_65 : decode cX4_cellsBarred 65 = .ok (.ifCond .eq 11, 3) := by decide +kernel
theorem dX4_cellsBarred_68 : decode cX4_cellsBarred 68 = .ok (.aload_n 0, 1) := by decide +kernel
theorem dX4_cellsBarred_69 : decode cX4_cellsBarred 69 = .ok (.iconst 3, 1) := by decide +kernel
theorem dX4_cellsBarred_70 : decode cX4_cellsBarred 70 = .ok (.invokevirtual 120, 3) := by decide +kernel
theorem dX4_cellsBarred_73 : decode cX4_cellsBarred 73 = .ok (.goto 4, 3) := by decide +kernel
theorem dX4_cellsBarred_76 : decode cX4_cellsBarred 76 = .ok (.iconst 0, 1) := by decide +kernel
theorem dX4_cellsBarred_77 : decode cX4_cellsBarred 77 = .ok (.ireturn, 1) := by decide +kernel
theorem dX4_wall_0 : decode cX4_wall 0 = .ok (.iload_n 1, 1) := by decide +kernel
theorem dX4_wall_1 : decode cX4_wall 1 = .ok (.invokestatic 128, 3) := by decide +kernel
theorem dX4_wall_4 : decode cX4_wall 4 = .ok (.ifCond .eq 9, 3) := by decide +kernel
theorem dX4_wall_7 : decode cX4_wall 7 = .ok (.aload_n 0, 1) := by decide +kernel
theorem dX4_wall_8 : decode cX4_wall 8 = .ok (.iconst (-1), 1) := by decide +kernel
theorem dX4_wall_9 : decode cX4_wall 9 = .ok (.invokevirtual 132, 3) := by decide +kernel
theorem dX4_wall_12 : decode cX4_wall 12 = .ok (.ireturn, 1) := by decide +kernel
theorem dX4_wall_13 : decode cX4_wall 13 = .ok (.iload_n 2, 1) := by decide +kernel
theorem dX4_wall_14 : decode cX4_wall 14 = .ok (.i2l, 1) := by decide +kernel
theorem dX4_wall_15 : decode cX4_wall 15 = .ok (.lconst 0, 1) := by decide +kernel
theorem dX4_wall_16 : decode cX4_wall 16 = .ok (.ldc2_w 135, 3) := by decide +kernel
theorem dX4_wall_19 : decode cX4_wall 19 = .ok (.invokestatic 87, 3) := by decide +kernel
theorem dX4_wall_22 : decode cX4_wall 22 = .ok (.ifCond .ne 10, 3) := by decide +kernel
theorem dX4_wall_25 : decode cX4_wall 25 = .ok (.aload_n 0, 1) := by decide +kernel
theorem dX4_wall_26 : decode cX4_wall 26 = .ok (.bipush (-2), 2) := by decide +kernel
theorem dX4_wall_28 : decode cX4_wall 28 = .ok (.invokevirtual 132, 3) := by decide +kernel
theorem dX4_wall_31 : decode cX4_wall 31 = .ok (.ireturn, 1) := by decide +kernel
theorem dX4_wall_32 : decode cX4_wall 32 = .ok (.aload_n 0, 1) := by decide +kernel
theorem dX4_wall_33 : decode cX4_wall 33 = .ok (.iload_n 1, 1) := by decide +kernel
theorem dX4_wall_34 : decode cX4_wall 34 = .ok (.iload_n 2, 1) := by decide +kernel
theorem dX4_wall_35 : decode cX4_wall 35 = .ok (.iload_n 3, 1) := by decide +kernel
theorem dX4_wall_36 : decode cX4_wall 36 = .ok (.iload 4, 2) := by decide +kernel
theorem dX4_wall_38 : decode cX4_wall 38 = .ok (.i2l, 1) := by decide +kernel
theorem dX4_wall_39 : decode cX4_wall 39 = .ok (.invokevirtual 137, 3) := by decide +kernel
theorem dX4_wall_42 : decode cX4_wall 42 = .ok (.istore 5, 2) := by decide +kernel
theorem dX4_wall_44 : decode cX4_wall 44 = .ok (.iload 5, 2) := by decide +kernel
theorem dX4_wall_46 : decode cX4_wall 46 = .ok (.ifCond .ge 6, 3) := by decide +kernel
theorem dX4_wall_49 : decode cX4_wall 49 = .ok (.iload 5, 2) := by decide +kernel
theorem dX4_wall_51 : decode cX4_wall 51 = .ok (.ireturn, 1) := by decide +kernel
theorem dX4_wall_52 : decode cX4_wall 52 = .ok (.aload_n 0, 1) := by decide +kernel
theorem dX4_wall_53 : decode cX4_wall 53 = .ok (.bipush 60, 2) := by decide +kernel
theorem dX4_wall_55 : decode cX4_wall 55 = .ok (.iload_n 1, 1) := by decide +kernel
theorem dX4_wall_56 : decode cX4_wall 56 = .ok (.imul, 1) := by decide +kernel
theorem dX4_wall_57 : decode cX4_wall 57 = .ok (.iload_n 3, 1) := by decide +kernel
theorem dX4_wall_58 : decode cX4_wall 58 = .ok (.iadd, 1) := by decide +kernel
theorem dX4_wall_59 : decode cX4_wall 59 = .ok (.iload 4, 2) := by decide +kernel
theorem dX4_wall_61 : decode cX4_wall 61 = .ok (.invokevirtual 141, 3) := by decide +kernel
theorem dX4_wall_64 : decode cX4_wall 64 = .ok (.ifCond .ne 15, 3) := by decide +kernel
theorem dX4_wall_67 : decode cX4_wall 67 = .ok (.aload_n 0, 1) := by decide +kernel
theorem dX4_wall_68 : decode cX4_wall 68 = .ok (.bipush (-100), 2) := by decide +kernel
theorem dX4_wall_70 : decode cX4_wall 70 = .ok (.aload_n 0, 1) := by decide +kernel
theorem dX4_wall_71 : decode cX4_wall 71 = .ok (.getfield 94, 3) := by decide +kernel
theorem dX4_wall_74 : decode cX4_wall 74 = .ok (.isub, 1) := by decide +kernel
theorem dX4_wall_75 : decode cX4_wall 75 = .ok (.invokevirtual 132, 3) := by decide +kernel
theorem dX4_wall_78 : decode cX4_wall 78 = .ok (.ireturn, 1) := by decide +kernel
theorem dX4_wall_79 : decode cX4_wall 79 = .ok (.aload_n 0, 1) := by decide +kernel
theorem dX4_wall_80 : decode cX4_wall 80 = .ok (.aload_n 0, 1) := by decide +kernel
theorem dX4_wall_81 : decode cX4_wall 81 = .ok (.getfield 97, 3) := by decide +kernel
theorem dX4_wall_84 : decode cX4_wall 84 = .ok (.putfield 84, 3) := by decide +kernel
theorem dX4_wall_87 : decode cX4_wall 87 = .ok (.aload_n 0, 1) := by decide +kernel
theorem dX4_wall_88 : decode cX4_wall 88 = .ok (.aload_n 0, 1) := by decide +kernel
theorem dX4_wall_89 : decode cX4_wall 89 = .ok (.getfield 108, 3) := by decide +kernel
theorem dX4_wall_92 : decode cX4_wall 92 = .ok (.putfield 91, 3) := by decide +kernel
theorem dX4_wall_95 : decode cX4_wall 95 = .ok (.aload_n 0, 1) := by decide +kernel
theorem dX4_wall_96 : decode cX4_wall 96 = .ok (.aload_n 0, 1) := by decide +kernel
theorem dX4_wall_97 : decode cX4_wall 97 = .ok (.getfield 111, 3) := by decide +kernel
theorem dX4_wall_100 : decode cX4_wall 100 = .ok (.putfield 144, 3) := by decide +kernel
theorem dX4_wall_103 : decode cX4_wall 103 = .ok (.iconst 0, 1) := by decide +kernel
theorem dX4_wall_104 : decode cX4_wall 104 = .ok (.istore 6, 2) := by decide +kernel
theorem dX4_wall_106 : decode cX4_wall 106 = .ok (.iconst 0, 1) := by decide +kernel
theorem dX4_wall_107 : decode cX4_wall 107 = .ok (.istore 7, 2) := by decide +kernel
theorem dX4_wall_109 : decode cX4_wall 109 = .ok (.iload 7, 2) := by decide +kernel
theorem dX4_wall_111 : decode cX4_wall 111 = .ok (.aload_n 0, 1) := by decide +kernel
theorem dX4_wall_112 : decode cX4_wall 112 = .ok (.getfield 84, 3) := by decide +kernel
theorem dX4_wall_115 : decode cX4_wall 115 = .ok (.if_icmp .ge 101, 3) := by decide +kernel
theorem dX4_wall_118 : decode cX4_wall 118 = .ok (.aload_n 0, 1) := by decide +kernel
theorem dX4_wall_119 : decode cX4_wall 119 = .ok (.getfield 7, 3) := by decide +kernel
theorem dX4_wall_122 : decode cX4_wall 122 = .ok (.iload 7, 2) := by decide +kernel
theorem dX4_wall_124 : decode cX4_wall 124 = .ok (.aload_n 0, 1) := by decide +kernel
theorem dX4_wall_125 : decode cX4_wall 125 = .ok (.getfield 28, 3) := by decide +kernel
theorem dX4_wall_128 : decode cX4_wall 128 = .ok (.iload 7, 2) := by decide +kernel
theorem dX4_wall_130 : decode cX4_wall 130 = .ok (.iaload, 1) := by decide +kernel
theorem dX4_wall_131 : decode cX4_wall 131 = .ok (.iastore, 1) := by decide +kernel
theorem dX4_wall_132 : decode cX4_wall 132 = .ok (.aload_n 0, 1) := by decide +kernel
theorem dX4_wall_133 : decode cX4_wall 133 = .ok (.getfield 16, 3) := by decide +kernel
theorem dX4_wall_136 : decode cX4_wall 136 = .ok (.iload 7, 2) := by decide +kernel
theorem dX4_wall_138 : decode cX4_wall 138 = .ok (.aload_n 0, 1) := by decide +kernel
theorem dX4_wall_139 : decode cX4_wall 139 = .ok (.getfield 31, 3) := by decide +kernel
theorem dX4_wall_142 : decode cX4_wall 142 = .ok (.iload 7, 2) := by decide +kernel
theorem dX4_wall_144 : decode cX4_wall 144 = .ok (.iaload, 1) := by decide +kernel
theorem dX4_wall_145 : decode cX4_wall 145 = .ok (.iastore, 1) := by decide +kernel
theorem dX4_wall_146 : decode cX4_wall 146 = .ok (.aload_n 0, 1) := by decide +kernel
theorem dX4_wall_147 : decode cX4_wall 147 = .ok (.getfield 13, 3) := by decide +kernel
theorem dX4_wall_150 : decode cX4_wall 150 = .ok (.iload 7, 2) := by decide +kernel
theorem dX4_wall_152 : decode cX4_wall 152 = .ok (.iload 6, 2) := by decide +kernel
theorem dX4_wall_154 : decode cX4_wall 154 = .ok (.iastore, 1) := by decide +kernel
theorem dX4_wall_155 : decode cX4_wall 155 = .ok (.aload_n 0, 1) := by decide +kernel
theorem dX4_wall_156 : decode cX4_wall 156 = .ok (.getfield 19, 3) := by decide +kernel
theorem dX4_wall_159 : decode cX4_wall 159 = .ok (.iload 7, 2) := by decide +kernel
theorem dX4_wall_161 : decode cX4_wall 161 = .ok (.iconst 0, 1) := by decide +kernel
theorem dX4_wall_162 : decode cX4_wall 162 = .ok (.iastore, 1) := by decide +kernel
theorem dX4_wall_163 : decode cX4_wall 163 = .ok (.iconst 0, 1) := by decide +kernel
theorem dX4_wall_164 : decode cX4_wall 164 = .ok (.istore 8, 2) := by decide +kernel
theorem dX4_wall_166 : decode cX4_wall 166 = .ok (.iload 8, 2) := by decide +kernel
theorem dX4_wall_168 : decode cX4_wall 168 = .ok (.aload_n 0, 1) := by decide +kernel
theorem dX4_wall_169 : decode cX4_wall 169 = .ok (.getfield 16, 3) := by decide +kernel
theorem dX4_wall_172 : decode cX4_wall 172 = .ok (.iload 7, 2) := by decide +kernel
theorem dX4_wall_174 : decode cX4_wall 174 = .ok (.iaload, 1) := by decide +kernel
theorem dX4_wall_175 : decode cX4_wall 175 = .ok (.if_icmp .ge 35, 3) := by decide +kernel
theorem dX4_wall_178 : decode cX4_wall 178 = .ok (.aload_n 0, 1) := by decide +kernel
theorem dX4_wall_179 : decode cX4_wall 179 = .ok (.getfield 22, 3) := by decide +kernel
theorem dX4_wall_182 : decode cX4_wall 182 = .ok (.iload 6, 2) := by decide +kernel
theorem dX4_wall_184 : decode cX4_wall 184 = .ok (.aload_n 0, 1) := by decide +kernel
theorem dX4_wall_185 : decode cX4_wall 185 = .ok (.getfield 34, 3) := by decide +kernel
theorem dX4_wall_188 : decode cX4_wall 188 = .ok (.iload 6, 2) := by decide +kernel
theorem dX4_wall_190 : decode cX4_wall 190 = .ok (.iaload, 1) := by decide +kernel
theorem dX4_wall_191 : decode cX4_wall 191 = .ok (.iastore, 1) := by decide +kernel
theorem dX4_wall_192 : decode cX4_wall 192 = .ok (.aload_n 0, 1) := by decide +kernel
theorem dX4_wall_193 : decode cX4_wall 193 = .ok (.getfield 25, 3) := by decide +kernel
theorem dX4_wall_196 : decode cX4_wall 196 = .ok (.iload 6, 2) := by decide +kernel
theorem dX4_wall_198 : decode cX4_wall 198 = .ok (.iload 7, 2) := by decide +kernel
theorem dX4_wall_200 : decode cX4_wall 200 = .ok (.iastore, 1) := by decide +kernel
theorem dX4_wall_201 : decode cX4_wall 201 = .ok (.iinc 6 1, 3) := by decide +kernel
theorem dX4_wall_204 : decode cX4_wall 204 = .ok (.iinc 8 1, 3) := by decide +kernel
theorem dX4_wall_207 : decode cX4_wall 207 = .ok (.goto (-41), 3) := by decide +kernel
theorem dX4_wall_210 : decode cX4_wall 210 = .ok (.iinc 7 1, 3) := by decide +kernel
theorem dX4_wall_213 : decode cX4_wall 213 = .ok (.goto (-104), 3) := by decide +kernel
theorem dX4_wall_216 : decode cX4_wall 216 = .ok (.aload_n 0, 1) := by decide +kernel
theorem dX4_wall_217 : decode cX4_wall 217 = .ok (.iconst 0, 1) := by decide +kernel
theorem dX4_wall_218 : decode cX4_wall 218 = .ok (.putfield 147, 3) := by decide +kernel
theorem dX4_wall_221 : decode cX4_wall 221 = .ok (.aload_n 0, 1) := by decide +kernel
theorem dX4_wall_222 : decode cX4_wall 222 = .ok (.aload_n 0, 1) := by decide +kernel
theorem dX4_wall_223 : decode cX4_wall 223 = .ok (.getfield 84, 3) := by decide +kernel
theorem dX4_wall_226 : decode cX4_wall 226 = .ok (.invokevirtual 132, 3) := by decide +kernel
theorem dX4_wall_229 : decode cX4_wall 229 = .ok (.ireturn, 1) := by decide +kernel
theorem dX4_lightBy_0 : decode cX4_lightBy 0 = .ok (.iload_n 0, 1) := by decide +kernel
theorem dX4_lightBy_1 : decode cX4_lightBy 1 = .ok (.ifCond .ne 7, 3) := by decide +kernel
theorem dX4_lightBy_4 : decode cX4_lightBy 4 = .ok (.iload_n 1, 1) := by decide +kernel
theorem dX4_lightBy_5 : decode cX4_lightBy 5 = .ok (.goto 19, 3) := by decide +kernel
theorem dX4_lightBy_8 : decode cX4_lightBy 8 = .ok (.iload_n 0, 1) := by decide +kernel
theorem dX4_lightBy_9 : decode cX4_lightBy 9 = .ok (.iconst 1, 1) := by decide +kernel
theorem dX4_lightBy_10 : decode cX4_lightBy 10 = .ok (.if_icmp .ne 9, 3) := by decide +kernel
theorem dX4_lightBy_13 : decode cX4_lightBy 13 = .ok (.iload_n 1, 1) := by decide +kernel
theorem dX4_lightBy_14 : decode cX4_lightBy 14 = .ok (.iconst 2, 1) := by decide +kernel
theorem dX4_lightBy_15 : decode cX4_lightBy 15 = .ok (.idiv, 1) := by decide +kernel
theorem dX4_lightBy_16 : decode cX4_lightBy 16 = .ok (.goto 8, 3) := by decide +kernel
theorem dX4_lightBy_19 : decode cX4_lightBy 19 = .ok (.iload_n 1, 1) := by decide +kernel
theorem dX4_lightBy_20 : decode cX4_lightBy 20 = .ok (.iconst 2, 1) := by decide +kernel
theorem dX4_lightBy_21 : decode cX4_lightBy 21 = .ok (.idiv, 1) := by decide +kernel
theorem dX4_lightBy_22 : decode cX4_lightBy 22 = .ok (.iload_n 1, 1) := by decide +kernel
theorem dX4_lightBy_23 : decode cX4_lightBy 23 = .ok (.iadd, 1) := by decide +kernel
theorem dX4_lightBy_24 : decode cX4_lightBy 24 = .ok (.ireturn, 1) := by decide +kernel
theorem dX4_light_0 : decode cX4_light 0 = .ok (.aload_n 0, 1) := by decide +kernel
theorem dX4_light_1 : decode cX4_light 1 = .ok (.getfield 25, 3) := by decide +kernel
theorem dX4_light_4 : decode cX4_light 4 = .ok (.iload_n 1, 1) := by decide +kernel
theorem dX4_light_5 : decode cX4_light 5 = .ok (.iaload, 1) := by decide +kernel
theorem dX4_light_6 : decode cX4_light 6 = .ok (.istore_n 2, 1) := by decide +kernel
theorem dX4_light_7 : decode cX4_light 7 = .ok (.aload_n 0, 1) := by decide +kernel
theorem dX4_light_8 : decode cX4_light 8 = .ok (.getfield 19, 3) := by decide +kernel
theorem dX4_light_11 : decode cX4_light 11 = .ok (.iload_n 2, 1) := by decide +kernel
theorem dX4_light_12 : decode cX4_light 12 = .ok (.iaload, 1) := by decide +kernel
theorem dX4_light_13 : decode cX4_light 13 = .ok (.iconst 1, 1) := by decide +kernel
theorem dX4_light_14 : decode cX4_light 14 = .ok (.if_icmp .ne 7, 3) := by decide +kernel
theorem dX4_light_17 : decode cX4_light 17 = .ok (.iconst 0, 1) := by decide +kernel
theorem dX4_light_18 : decode cX4_light 18 = .ok (.goto 18, 3) := by decide +kernel
theorem dX4_light_21 : decode cX4_light 21 = .ok (.aload_n 0, 1) := by decide +kernel
theorem dX4_light_22 : decode cX4_light 22 = .ok (.getfield 7, 3) := by decide +kernel
theorem dX4_light_25 : decode cX4_light 25 = .ok (.iload_n 2, 1) := by decide +kernel
theorem dX4_light_26 : decode cX4_light 26 = .ok (.iaload, 1) := by decide +kernel
theorem dX4_light_27 : decode cX4_light 27 = .ok (.aload_n 0, 1) := by decide +kernel
theorem dX4_light_28 : decode cX4_light 28 = .ok (.getfield 22, 3) := by decide +kernel
theorem dX4_light_31 : decode cX4_light 31 = .ok (.iload_n 1, 1) := by decide +kernel
theorem dX4_light_32 : decode cX4_light 32 = .ok (.iaload, 1) := by decide +kernel
theorem dX4_light_33 : decode cX4_light 33 = .ok (.invokestatic 150, 3) := by decide +kernel
theorem dX4_light_36 : decode cX4_light 36 = .ok (.ireturn, 1) := by decide +kernel
theorem dX4_lightOfAll_0 : decode cX4_lightOfAll 0 = .ok (.iconst 0, 1) := by decide +kernel
theorem dX4_lightOfAll_1 : decode cX4_lightOfAll 1 = .ok (.istore_n 1, 1) := by decide +kernel
theorem dX4_lightOfAll_2 : decode cX4_lightOfAll 2 = .ok (.iconst 0, 1) := by decide +kernel
theorem dX4_lightOfAll_3 : decode cX4_lightOfAll 3 = .ok (.istore_n 2, 1) := by decide +kernel
theorem dX4_lightOfAll_4 : decode cX4_lightOfAll 4 = .ok (.iload_n 2, 1) := by decide +kernel
theorem dX4_lightOfAll_5 : decode cX4_lightOfAll 5 = .ok (.aload_n 0, 1) := by decide +kernel
theorem dX4_lightOfAll_6 : decode cX4_lightOfAll 6 = .ok (.getfield 91, 3) := by decide +kernel
theorem dX4_lightOfAll_9 : decode cX4_lightOfAll 9 = .ok (.if_icmp .ge 17, 3) := by decide +kernel
theorem dX4_lightOfAll_12 : decode cX4_lightOfAll 12 = .ok (.iload_n 1, 1) := by decide +kernel
theorem dX4_lightOfAll_13 : decode cX4_lightOfAll 13 = .ok (.aload_n 0, 1) := by decide +kernel
theorem dX4_lightOfAll_14 : decode cX4_lightOfAll 14 = .ok (.iload_n 2, 1) := by decide +kernel
theorem dX4_lightOfAll_15 : decode cX4_lightOfAll 15 = .ok (.invokevirtual 153, 3) := by decide +kernel
theorem dX4_lightOfAll_18 : decode cX4_lightOfAll 18 = .ok (.iadd, 1) := by decide +kernel
theorem dX4_lightOfAll_19 : decode cX4_lightOfAll 19 = .ok (.istore_n 1, 1) := by decide +kernel
theorem dX4_lightOfAll_20 : decode cX4_lightOfAll 20 = .ok (.iinc 2 1, 3) := by decide +kernel
theorem dX4_lightOfAll_23 : decode cX4_lightOfAll 23 = .ok (.goto (-19), 3) := by decide +kernel
theorem dX4_lightOfAll_26 : decode cX4_lightOfAll 26 = .ok (.iload_n 1, 1) := by decide +kernel
theorem dX4_lightOfAll_27 : decode cX4_lightOfAll 27 = .ok (.ireturn, 1) := by decide +kernel
theorem dX4_slicesOf_0 : decode cX4_slicesOf 0 = .ok (.iconst 1, 1) := by decide +kernel
theorem dX4_slicesOf_1 : decode cX4_slicesOf 1 = .ok (.iload_n 1, 1) := by decide +kernel
theorem dX4_slicesOf_2 : decode cX4_slicesOf 2 = .ok (.ishl, 1) := by decide +kernel
theorem dX4_slicesOf_3 : decode cX4_slicesOf 3 = .ok (.aload_n 0, 1) := by decide +kernel
theorem dX4_slicesOf_4 : decode cX4_slicesOf 4 = .ok (.getfield 144, 3) := by decide +kernel
theorem dX4_slicesOf_7 : decode cX4_slicesOf 7 = .ok (.iadd, 1) := by decide +kernel
theorem dX4_slicesOf_8 : decode cX4_slicesOf 8 = .ok (.iconst 1, 1) := by decide +kernel
theorem dX4_slicesOf_9 : decode cX4_slicesOf 9 = .ok (.isub, 1) := by decide +kernel
theorem dX4_slicesOf_10 : decode cX4_slicesOf 10 = .ok (.aload_n 0, 1) := by decide +kernel
theorem dX4_slicesOf_11 : decode cX4_slicesOf 11 = .ok (.getfield 144, 3) := by decide +kernel
theorem dX4_slicesOf_14 : decode cX4_slicesOf 14 = .ok (.idiv, 1) := by decide +kernel
theorem dX4_slicesOf_15 : decode cX4_slicesOf 15 = .ok (.ireturn, 1) := by decide +kernel
theorem dX4_frames_0 : decode cX4_frames 0 = .ok (.iconst 0, 1) := by decide +kernel
theorem dX4_frames_1 : decode cX4_frames 1 = .ok (.istore_n 1, 1) := by decide +kernel
theorem dX4_frames_2 : decode cX4_frames 2 = .ok (.iconst 0, 1) := by decide +kernel
theorem dX4_frames_3 : decode cX4_frames 3 = .ok (.istore_n 2, 1) := by decide +kernel
theorem dX4_frames_4 : decode cX4_frames 4 = .ok (.iload_n 2, 1) := by decide +kernel
theorem dX4_frames_5 : decode cX4_frames 5 = .ok (.bipush 8, 2) := by decide +kernel
theorem dX4_frames_7 : decode cX4_frames 7 = .ok (.if_icmp .ge 75, 3) := by decide +kernel
theorem dX4_frames_10 : decode cX4_frames 10 = .ok (.iconst 3, 1) := by decide +kernel
theorem dX4_frames_11 : decode cX4_frames 11 = .ok (.istore_n 3, 1) := by decide +kernel
theorem dX4_frames_12 : decode cX4_frames 12 = .ok (.iload_n 3, 1) := by decide +kernel
theorem dX4_frames_13 : decode cX4_frames 13 = .ok (.ifCond .lt 63, 3) := by decide +kernel
theorem dX4_frames_16 : decode cX4_frames 16 = .ok (.iconst 1, 1) := by decide +kernel
theorem dX4_frames_17 : decode cX4_frames 17 = .ok (.iload_n 3, 1) := by decide +kernel
theorem dX4_frames_18 : decode cX4_frames 18 = .ok (.ishl, 1) := by decide +kernel
theorem dX4_frames_19 : decode cX4_frames 19 = .ok (.iload_n 2, 1) := by decide +kernel
theorem dX4_frames_20 : decode cX4_frames 20 = .ok (.aload_n 0, 1) := by decide +kernel
theorem dX4_frames_21 : decode cX4_frames 21 = .ok (.getfield 144, 3) := by decide +kernel
theorem dX4_frames_24 : decode cX4_frames 24 = .ok (.imul, 1) := by decide +kernel
theorem dX4_frames_25 : decode cX4_frames 25 = .ok (.isub, 1) := by decide +kernel
theorem dX4_frames_26 : decode cX4_frames 26 = .ok (.istore 4, 2) := by decide +kernel
theorem dX4_frames_28 : decode cX4_frames 28 = .ok (.iconst 0, 1) := by decide +kernel
theorem dX4_frames_29 : decode cX4_frames 29 = .ok (.istore 5, 2) := by decide +kernel
theorem dX4_frames_31 : decode cX4_frames 31 = .ok (.iload 5, 2) := by decide +kernel
theorem dX4_frames_33 : decode cX4_frames 33 = .ok (.aload_n 0, 1) := by decide +kernel
theorem dX4_frames_34 : decode cX4_frames 34 = .ok (.getfield 144, 3) := by decide +kernel
theorem dX4_frames_37 : decode cX4_frames 37 = .ok (.if_icmp .ge 33, 3) := by decide +kernel
theorem dX4_frames_40 : decode cX4_frames 40 = .ok (.iload 5, 2) := by decide +kernel
theorem dX4_frames_42 : decode cX4_frames 42 = .ok (.iload 4, 2) := by decide +kernel
theorem dX4_frames_44 : decode cX4_frames 44 = .ok (.if_icmp .ge 26, 3) := by decide +kernel
theorem dX4_frames_47 : decode cX4_frames 47 = .ok (.aload_n 0, 1) := by decide +kernel
theorem dX4_frames_48 : decode cX4_frames 48 = .ok (.getfield 37, 3) := by decide +kernel
theorem dX4_frames_51 : decode cX4_frames 51 = .ok (.iload_n 1, 1) := by decide +kernel
theorem dX4_frames_52 : decode cX4_frames 52 = .ok (.iload_n 3, 1) := by decide +kernel
theorem dX4_frames_53 : decode cX4_frames 53 = .ok (.iastore, 1) := by decide +kernel
theorem dX4_frames_54 : decode cX4_frames 54 = .ok (.aload_n 0, 1) := by decide +kernel
theorem dX4_frames_55 : decode cX4_frames 55 = .ok (.getfield 40, 3) := by decide +kernel
theorem dX4_frames_58 : decode cX4_frames 58 = .ok (.iload_n 1, 1) := by decide +kernel
theorem dX4_frames_59 : decode cX4_frames 59 = .ok (.iload_n 2, 1) := by decide +kernel
theorem dX4_frames_60 : decode cX4_frames 60 = .ok (.iastore, 1) := by decide +kernel
theorem dX4_frames_61 : decode cX4_frames 61 = .ok (.iinc 1 1, 3) := by decide +kernel
theorem dX4_frames_64 : decode cX4_frames 64 = .ok (.iinc 5 1, 3) := by decide +kernel
theorem dX4_frames_67 : decode cX4_frames 67 = .ok (.goto (-36), 3) := by decide +kernel
theorem dX4_frames_70 : decode cX4_frames 70 = .ok (.iinc 3 (-1), 3) := by decide +kernel
theorem dX4_frames_73 : decode cX4_frames 73 = .ok (.goto (-61), 3) := by decide +kernel
theorem dX4_frames_76 : decode cX4_frames 76 = .ok (.iinc 2 1, 3) := by decide +kernel
theorem dX4_frames_79 : decode cX4_frames 79 = .ok (.goto (-75), 3) := by decide +kernel
theorem dX4_frames_82 : decode cX4_frames 82 = .ok (.return_, 1) := by decide +kernel
theorem dX4_litBy_0 : decode cX4_litBy 0 = .ok (.iconst 0, 1) := by decide +kernel
theorem dX4_litBy_1 : decode cX4_litBy 1 = .ok (.istore_n 2, 1) := by decide +kernel
theorem dX4_litBy_2 : decode cX4_litBy 2 = .ok (.iconst 0, 1) := by decide +kernel
theorem dX4_litBy_3 : decode cX4_litBy 3 = .ok (.istore_n 3, 1) := by decide +kernel
theorem dX4_litBy_4 : decode cX4_litBy 4 = .ok (.iload_n 3, 1) := by decide +kernel
theorem dX4_litBy_5 : decode cX4_litBy 5 = .ok (.bipush 15, 2) := by decide +kernel
theorem dX4_litBy_7 : decode cX4_litBy 7 = .ok (.if_icmp .ge 24, 3) := by decide +kernel
theorem dX4_litBy_10 : decode cX4_litBy 10 = .ok (.iload_n 2, 1) := by decide +kernel
theorem dX4_litBy_11 : decode cX4_litBy 11 = .ok (.iload_n 1, 1) := by decide +kernel
theorem dX4_litBy_12 : decode cX4_litBy 12 = .ok (.aload_n 0, 1) := by decide +kernel
theorem dX4_litBy_13 : decode cX4_litBy 13 = .ok (.getfield 37, 3) := by decide +kernel
theorem dX4_litBy_16 : decode cX4_litBy 16 = .ok (.iload_n 3, 1) := by decide +kernel
theorem dX4_litBy_17 : decode cX4_litBy 17 = .ok (.iaload, 1) := by decide +kernel
theorem dX4_litBy_18 : decode cX4_litBy 18 = .ok (.ishr, 1) := by decide +kernel
theorem dX4_litBy_19 : decode cX4_litBy 19 = .ok (.iconst 1, 1) := by decide +kernel
theorem dX4_litBy_20 : decode cX4_litBy 20 = .ok (.iand, 1) := by decide +kernel
theorem dX4_litBy_21 : decode cX4_litBy 21 = .ok (.iload_n 3, 1) := by decide +kernel
theorem dX4_litBy_22 : decode cX4_litBy 22 = .ok (.ishl, 1) := by decide +kernel
theorem dX4_litBy_23 : decode cX4_litBy 23 = .ok (.ior, 1) := by decide +kernel
theorem dX4_litBy_24 : decode cX4_litBy 24 = .ok (.istore_n 2, 1) := by decide +kernel
theorem dX4_litBy_25 : decode cX4_litBy 25 = .ok (.iinc 3 1, 3) := by decide +kernel
theorem dX4_litBy_28 : decode cX4_litBy 28 = .ok (.goto (-24), 3) := by decide +kernel
theorem dX4_litBy_31 : decode cX4_litBy 31 = .ok (.iload_n 2, 1) := by decide +kernel
theorem dX4_litBy_32 : decode cX4_litBy 32 = .ok (.ireturn, 1) := by decide +kernel
theorem dX4_litOf_0 : decode cX4_litOf 0 = .ok (.aload_n 0, 1) := by decide +kernel
theorem dX4_litOf_1 : decode cX4_litOf 1 = .ok (.aload_n 0, 1) := by decide +kernel
theorem dX4_litOf_2 : decode cX4_litOf 2 = .ok (.iload_n 1, 1) := by decide +kernel
theorem dX4_litOf_3 : decode cX4_litOf 3 = .ok (.invokevirtual 153, 3) := by decide +kernel
theorem dX4_litOf_6 : decode cX4_litOf 6 = .ok (.invokevirtual 156, 3) := by decide +kernel
theorem dX4_litOf_9 : decode cX4_litOf 9 = .ok (.ireturn, 1) := by decide +kernel
theorem dX4_darkOf_0 : decode cX4_darkOf 0 = .ok (.aload_n 0, 1) := by decide +kernel
theorem dX4_darkOf_1 : decode cX4_darkOf 1 = .ok (.iload_n 1, 1) := by decide +kernel
theorem dX4_darkOf_2 : decode cX4_darkOf 2 = .ok (.invokevirtual 159, 3) := by decide +kernel
theorem dX4_darkOf_5 : decode cX4_darkOf 5 = .ok (.istore_n 2, 1) := by decide +kernel
theorem dX4_darkOf_6 : decode cX4_darkOf 6 = .ok (.iconst 0, 1) := by decide +kernel
theorem dX4_darkOf_7 : decode cX4_darkOf 7 = .ok (.istore_n 3, 1) := by decide +kernel
theorem dX4_darkOf_8 : decode cX4_darkOf 8 = .ok (.iconst 0, 1) := by decide +kernel
theorem dX4_darkOf_9 : decode cX4_darkOf 9 = .ok (.istore 4, 2) := by decide +kernel
theorem dX4_darkOf_11 : decode cX4_darkOf 11 = .ok (.iconst 0, 1) := by decide +kernel
theorem dX4_darkOf_12 : decode cX4_darkOf 12 = .ok (.istore 5, 2) := by decide +kernel
theorem dX4_darkOf_14 : decode cX4_darkOf 14 = .ok (.iload 5, 2) := by decide +kernel
theorem dX4_darkOf_16 : decode cX4_darkOf 16 = .ok (.bipush 30, 2) := by decide +kernel
theorem dX4_darkOf_18 : decode cX4_darkOf 18 = .ok (.if_icmp .ge 45, 3) := by decide +kernel
theorem dX4_darkOf_21 : decode cX4_darkOf 21 = .ok (.iload_n 2, 1) := by decide +kernel
theorem dX4_darkOf_22 : decode cX4_darkOf 22 = .ok (.iload 5, 2) := by decide +kernel
theorem dX4_darkOf_24 : decode cX4_darkOf 24 = .ok (.bipush 15, 2) := by decide +kernel
theorem dX4_darkOf_26 : decode cX4_darkOf 26 = .ok (.irem, 1) := by decide +kernel
theorem dX4_darkOf_27 : decode cX4_darkOf 27 = .ok (.ishr, 1) := by decide +kernel
theorem dX4_darkOf_28 : decode cX4_darkOf 28 = .ok (.iconst 1, 1) := by decide +kernel
theorem dX4_darkOf_29 : decode cX4_darkOf 29 = .ok (.iand, 1) := by decide +kernel
theorem dX4_darkOf_30 : decode cX4_darkOf 30 = .ok (.iconst 1, 1) := by decide +kernel
theorem dX4_darkOf_31 : decode cX4_darkOf 31 = .ok (.if_icmp .ne 7, 3) := by decide +kernel
theorem dX4_darkOf_34 : decode cX4_darkOf 34 = .ok (.iconst 0, 1) := by decide +kernel
theorem dX4_darkOf_35 : decode cX4_darkOf 35 = .ok (.goto 7, 3) := by decide +kernel
theorem dX4_darkOf_38 : decode cX4_darkOf 38 = .ok (.iload 4, 2) := by decide +kernel
theorem dX4_darkOf_40 : decode cX4_darkOf 40 = .ok (.iconst 1, 1) := by decide +kernel
theorem dX4_darkOf_41 : decode cX4_darkOf 41 = .ok (.iadd, 1) := by decide +kernel
theorem dX4_darkOf_42 : decode cX4_darkOf 42 = .ok (.istore 4, 2) := by decide +kernel
theorem dX4_darkOf_44 : decode cX4_darkOf 44 = .ok (.iload 4, 2) := by decide +kernel
theorem dX4_darkOf_46 : decode cX4_darkOf 46 = .ok (.iload_n 3, 1) := by decide +kernel
theorem dX4_darkOf_47 : decode cX4_darkOf 47 = .ok (.if_icmp .le 8, 3) := by decide +kernel
theorem dX4_darkOf_50 : decode cX4_darkOf 50 = .ok (.iload 4, 2) := by decide +kernel
theorem dX4_darkOf_52 : decode cX4_darkOf 52 = .ok (.goto 4, 3) := by decide +kernel
theorem dX4_darkOf_55 : decode cX4_darkOf 55 = .ok (.iload_n 3, 1) := by decide +kernel
theorem dX4_darkOf_56 : decode cX4_darkOf 56 = .ok (.istore_n 3, 1) := by decide +kernel
theorem dX4_darkOf_57 : decode cX4_darkOf 57 = .ok (.iinc 5 1, 3) := by decide +kernel
theorem dX4_darkOf_60 : decode cX4_darkOf 60 = .ok (.goto (-46), 3) := by decide +kernel
theorem dX4_darkOf_63 : decode cX4_darkOf 63 = .ok (.iload_n 3, 1) := by decide +kernel
theorem dX4_darkOf_64 : decode cX4_darkOf 64 = .ok (.bipush 15, 2) := by decide +kernel
theorem dX4_darkOf_66 : decode cX4_darkOf 66 = .ok (.if_icmp .le 8, 3) := by decide +kernel
theorem dX4_darkOf_69 : decode cX4_darkOf 69 = .ok (.bipush 15, 2) := by decide +kernel
theorem dX4_darkOf_71 : decode cX4_darkOf 71 = .ok (.goto 4, 3) := by decide +kernel
theorem dX4_darkOf_74 : decode cX4_darkOf 74 = .ok (.iload_n 3, 1) := by decide +kernel
theorem dX4_darkOf_75 : decode cX4_darkOf 75 = .ok (.ireturn, 1) := by decide +kernel
theorem dX4_turnsOf_0 : decode cX4_turnsOf 0 = .ok (.aload_n 0, 1) := by decide +kernel
theorem dX4_turnsOf_1 : decode cX4_turnsOf 1 = .ok (.iload_n 1, 1) := by decide +kernel
theorem dX4_turnsOf_2 : decode cX4_turnsOf 2 = .ok (.invokevirtual 159, 3) := by decide +kernel
theorem dX4_turnsOf_5 : decode cX4_turnsOf 5 = .ok (.istore_n 2, 1) := by decide +kernel
theorem dX4_turnsOf_6 : decode cX4_turnsOf 6 = .ok (.iconst 0, 1) := by decide +kernel
theorem dX4_turnsOf_7 : decode cX4_turnsOf 7 = .ok (.istore_n 3, 1) := by decide +kernel
theorem dX4_turnsOf_8 : decode cX4_turnsOf 8 = .ok (.iconst 0, 1) := by decide +kernel
theorem dX4_turnsOf_9 : decode cX4_turnsOf 9 = .ok (.istore 4, 2) := by decide +kernel
theorem dX4_turnsOf_11 : decode cX4_turnsOf 11 = .ok (.iload 4, 2) := by decide +kernel
theorem dX4_turnsOf_13 : decode cX4_turnsOf 13 = .ok (.bipush 15, 2) := by decide +kernel
theorem dX4_turnsOf_15 : decode cX4_turnsOf 15 = .ok (.if_icmp .ge 37, 3) := by decide +kernel
theorem dX4_turnsOf_18 : decode cX4_turnsOf 18 = .ok (.iload_n 3, 1) := by decide +kernel
theorem dX4_turnsOf_19 : decode cX4_turnsOf 19 = .ok (.iload_n 2, 1) := by decide +kernel
theorem dX4_turnsOf_20 : decode cX4_turnsOf 20 = .ok (.iload 4, 2) := by decide +kernel
theorem dX4_turnsOf_22 : decode cX4_turnsOf 22 = .ok (.ishr, 1) := by decide +kernel
theorem dX4_turnsOf_23 : decode cX4_turnsOf 23 = .ok (.iconst 1, 1) := by decide +kernel
theorem dX4_turnsOf_24 : decode cX4_turnsOf 24 = .ok (.iand, 1) := by decide +kernel
theorem dX4_turnsOf_25 : decode cX4_turnsOf 25 = .ok (.iload_n 2, 1) := by decide +kernel
theorem dX4_turnsOf_26 : decode cX4_turnsOf 26 = .ok (.iload 4, 2) := by decide +kernel
theorem dX4_turnsOf_28 : decode cX4_turnsOf 28 = .ok (.iconst 1, 1) := by decide +kernel
theorem dX4_turnsOf_29 : decode cX4_turnsOf 29 = .ok (.iadd, 1) := by decide +kernel
theorem dX4_turnsOf_30 : decode cX4_turnsOf 30 = .ok (.bipush 15, 2) := by decide +kernel
theorem dX4_turnsOf_32 : decode cX4_turnsOf 32 = .ok (.irem, 1) := by decide +kernel
theorem dX4_turnsOf_33 : decode cX4_turnsOf 33 = .ok (.ishr, 1) := by decide +kernel
theorem dX4_turnsOf_34 : decode cX4_turnsOf 34 = .ok (.iconst 1, 1) := by decide +kernel
theorem dX4_turnsOf_35 : decode cX4_turnsOf 35 = .ok (.iand, 1) := by decide +kernel
theorem dX4_turnsOf_36 : decode cX4_turnsOf 36 = .ok (.if_icmp .eq 7, 3) := by decide +kernel
theorem dX4_turnsOf_39 : decode cX4_turnsOf 39 = .ok (.iconst 1, 1) := by decide +kernel
theorem dX4_turnsOf_40 : decode cX4_turnsOf 40 = .ok (.goto 4, 3) := by decide +kernel
theorem dX4_turnsOf_43 : decode cX4_turnsOf 43 = .ok (.iconst 0, 1) := by decide +kernel
theorem dX4_turnsOf_44 : decode cX4_turnsOf 44 = .ok (.iadd, 1) := by decide +kernel
theorem dX4_turnsOf_45 : decode cX4_turnsOf 45 = .ok (.istore_n 3, 1) := by decide +kernel
theorem dX4_turnsOf_46 : decode cX4_turnsOf 46 = .ok (.iinc 4 1, 3) := by decide +kernel
theorem dX4_turnsOf_49 : decode cX4_turnsOf 49 = .ok (.goto (-38), 3) := by decide +kernel
theorem dX4_turnsOf_52 : decode cX4_turnsOf 52 = .ok (.iload_n 3, 1) := by decide +kernel
theorem dX4_turnsOf_53 : decode cX4_turnsOf 53 = .ok (.ireturn, 1) := by decide +kernel
theorem dX4_ghostsOf_0 : decode cX4_ghostsOf 0 = .ok (.aload_n 0, 1) := by decide +kernel
theorem dX4_ghostsOf_1 : decode cX4_ghostsOf 1 = .ok (.getfield 13, 3) := by decide +kernel
theorem dX4_ghostsOf_4 : decode cX4_ghostsOf 4 = .ok (.aload_n 0, 1) := by decide +kernel
theorem dX4_ghostsOf_5 : decode cX4_ghostsOf 5 = .ok (.getfield 25, 3) := by decide +kernel
theorem dX4_ghostsOf_8 : decode cX4_ghostsOf 8 = .ok (.iload_n 1, 1) := by decide +kernel
theorem dX4_ghostsOf_9 : decode cX4_ghostsOf 9 = .ok (.iaload, 1) := by decide +kernel
theorem dX4_ghostsOf_10 : decode cX4_ghostsOf 10 = .ok (.iaload, 1) := by decide +kernel
theorem dX4_ghostsOf_11 : decode cX4_ghostsOf 11 = .ok (.iload_n 1, 1) := by decide +kernel
theorem dX4_ghostsOf_12 : decode cX4_ghostsOf 12 = .ok (.if_icmp .ne 7, 3) := by decide +kernel
theorem dX4_ghostsOf_15 : decode cX4_ghostsOf 15 = .ok (.iconst 1, 1) := by decide +kernel
theorem dX4_ghostsOf_16 : decode cX4_ghostsOf 16 = .ok (.goto 4, 3) := by decide +kernel
theorem dX4_ghostsOf_19 : decode cX4_ghostsOf 19 = .ok (.iconst 0, 1) := by decide +kernel
theorem dX4_ghostsOf_20 : decode cX4_ghostsOf 20 = .ok (.istore_n 2, 1) := by decide +kernel
theorem dX4_ghostsOf_21 : decode cX4_ghostsOf 21 = .ok (.iload_n 2, 1) := by decide +kernel
theorem dX4_ghostsOf_22 : decode cX4_ghostsOf 22 = .ok (.ifCond .eq 7, 3) := by decide +kernel
theorem dX4_ghostsOf_25 : decode cX4_ghostsOf 25 = .ok (.iconst 0, 1) := by decide +kernel
theorem dX4_ghostsOf_26 : decode cX4_ghostsOf 26 = .ok (.goto 20, 3) := by decide +kernel
theorem dX4_ghostsOf_29 : decode cX4_ghostsOf 29 = .ok (.aload_n 0, 1) := by decide +kernel
theorem dX4_ghostsOf_30 : decode cX4_ghostsOf 30 = .ok (.iload_n 1, 1) := by decide +kernel
theorem dX4_ghostsOf_31 : decode cX4_ghostsOf 31 = .ok (.iconst 1, 1) := by decide +kernel
theorem dX4_ghostsOf_32 : decode cX4_ghostsOf 32 = .ok (.isub, 1) := by decide +kernel
theorem dX4_ghostsOf_33 : decode cX4_ghostsOf 33 = .ok (.invokevirtual 159, 3) := by decide +kernel
theorem dX4_ghostsOf_36 : decode cX4_ghostsOf 36 = .ok (.sipush 32767, 3) := by decide +kernel
theorem dX4_ghostsOf_39 : decode cX4_ghostsOf 39 = .ok (.aload_n 0, 1) := by decide +kernel
theorem dX4_ghostsOf_40 : decode cX4_ghostsOf 40 = .ok (.iload_n 1, 1) := by decide +kernel
theorem dX4_ghostsOf_41 : decode cX4_ghostsOf 41 = .ok (.invokevirtual 159, 3) := by decide +kernel
theorem dX4_ghostsOf_44 : decode cX4_ghostsOf 44 = .ok (.isub, 1) := by decide +kernel
theorem dX4_ghostsOf_45 : decode cX4_ghostsOf 45 = .ok (.iand, 1) := by decide +kernel
theorem dX4_ghostsOf_46 : decode cX4_ghostsOf 46 = .ok (.ireturn, 1) := by decide +kernel
theorem dX4_darkOfAll_0 : decode cX4_darkOfAll 0 = .ok (.aload_n 0, 1) := by decide +kernel
theorem dX4_darkOfAll_1 : decode cX4_darkOfAll 1 = .ok (.invokevirtual 162, 3) := by decide +kernel
theorem dX4_darkOfAll_4 : decode cX4_darkOfAll 4 = .ok (.iconst 0, 1) := by decide +kernel
theorem dX4_darkOfAll_5 : decode cX4_darkOfAll 5 = .ok (.istore_n 1, 1) := by decide +kernel
theorem dX4_darkOfAll_6 : decode cX4_darkOfAll 6 = .ok (.iconst 0, 1) := by decide +kernel
theorem dX4_darkOfAll_7 : decode cX4_darkOfAll 7 = .ok (.istore_n 2, 1) := by decide +kernel
theorem dX4_darkOfAll_8 : decode cX4_darkOfAll 8 = .ok (.iload_n 2, 1) := by decide +kernel
theorem dX4_darkOfAll_9 : decode cX4_darkOfAll 9 = .ok (.aload_n 0, 1) := by decide +kernel
theorem dX4_darkOfAll_10 : decode cX4_darkOfAll 10 = .ok (.getfield 91, 3) := by decide +kernel
theorem dX4_darkOfAll_13 : decode cX4_darkOfAll 13 = .ok (.if_icmp .ge 17, 3) := by decide +kernel
theorem dX4_darkOfAll_16 : decode cX4_darkOfAll 16 = .ok (.iload_n 1, 1) := by decide +kernel
theorem dX4_darkOfAll_17 : decode cX4_darkOfAll 17 = .ok (.aload_n 0, 1) := by decide +kernel
theorem dX4_darkOfAll_18 : decode cX4_darkOfAll 18 = .ok (.iload_n 2, 1) := by decide +kernel
theorem dX4_darkOfAll_19 : decode cX4_darkOfAll 19 = .ok (.invokevirtual 165, 3) := by decide +kernel
theorem dX4_darkOfAll_22 : decode cX4_darkOfAll 22 = .ok (.iadd, 1) := by decide +kernel
theorem dX4_darkOfAll_23 : decode cX4_darkOfAll 23 = .ok (.istore_n 1, 1) := by decide +kernel
theorem dX4_darkOfAll_24 : decode cX4_darkOfAll 24 = .ok (.iinc 2 1, 3) := by decide +kernel
theorem dX4_darkOfAll_27 : decode cX4_darkOfAll 27 = .ok (.goto (-19), 3) := by decide +kernel
theorem dX4_darkOfAll_30 : decode cX4_darkOfAll 30 = .ok (.iload_n 1, 1) := by decide +kernel
theorem dX4_darkOfAll_31 : decode cX4_darkOfAll 31 = .ok (.ireturn, 1) := by decide +kernel
theorem dX4_litIn_0 : decode cX4_litIn 0 = .ok (.iconst 0, 1) := by decide +kernel
theorem dX4_litIn_1 : decode cX4_litIn 1 = .ok (.istore_n 2, 1) := by decide +kernel
theorem dX4_litIn_2 : decode cX4_litIn 2 = .ok (.iconst 0, 1) := by decide +kernel
theorem dX4_litIn_3 : decode cX4_litIn 3 = .ok (.istore_n 3, 1) := by decide +kernel
theorem dX4_litIn_4 : decode cX4_litIn 4 = .ok (.iload_n 3, 1) := by decide +kernel
theorem dX4_litIn_5 : decode cX4_litIn 5 = .ok (.aload_n 0, 1) := by decide +kernel
theorem dX4_litIn_6 : decode cX4_litIn 6 = .ok (.getfield 91, 3) := by decide +kernel
theorem dX4_litIn_9 : decode cX4_litIn 9 = .ok (.if_icmp .ge 28, 3) := by decide +kernel
theorem dX4_litIn_12 : decode cX4_litIn 12 = .ok (.iload_n 2, 1) := by decide +kernel
theorem dX4_litIn_13 : decode cX4_litIn 13 = .ok (.aload_n 0, 1) := by decide +kernel
theorem dX4_litIn_14 : decode cX4_litIn 14 = .ok (.iload_n 3, 1) := by decide +kernel
theorem dX4_litIn_15 : decode cX4_litIn 15 = .ok (.invokevirtual 153, 3) := by decide +kernel
theorem dX4_litIn_18 : decode cX4_litIn 18 = .ok (.aload_n 0, 1) := by decide +kernel
theorem dX4_litIn_19 : decode cX4_litIn 19 = .ok (.getfield 37, 3) := by decide +kernel
theorem dX4_litIn_22 : decode cX4_litIn 22 = .ok (.iload_n 1, 1) := by decide +kernel
theorem dX4_litIn_23 : decode cX4_litIn 23 = .ok (.iaload, 1) := by decide +kernel
theorem dX4_litIn_24 : decode cX4_litIn 24 = .ok (.ishr, 1) := by decide +kernel
theorem dX4_litIn_25 : decode cX4_litIn 25 = .ok (.iconst 1, 1) := by decide +kernel
theorem dX4_litIn_26 : decode cX4_litIn 26 = .ok (.iand, 1) := by decide +kernel
theorem dX4_litIn_27 : decode cX4_litIn 27 = .ok (.iload_n 3, 1) := by decide +kernel
theorem dX4_litIn_28 : decode cX4_litIn 28 = .ok (.ishl, 1) := by decide +kernel
theorem dX4_litIn_29 : decode cX4_litIn 29 = .ok (.ior, 1) := by decide +kernel
theorem dX4_litIn_30 : decode cX4_litIn 30 = .ok (.istore_n 2, 1) := by decide +kernel
theorem dX4_litIn_31 : decode cX4_litIn 31 = .ok (.iinc 3 1, 3) := by decide +kernel
theorem dX4_litIn_34 : decode cX4_litIn 34 = .ok (.goto (-30), 3) := by decide +kernel
theorem dX4_litIn_37 : decode cX4_litIn 37 = .ok (.iload_n 2, 1) := by decide +kernel
theorem dX4_litIn_38 : decode cX4_litIn 38 = .ok (.ireturn, 1) := by decide +kernel
theorem dX4_ofModule_0 : decode cX4_ofModule 0 = .ok (.aload_n 0, 1) := by decide +kernel
theorem dX4_ofModule_1 : decode cX4_ofModule 1 = .ok (.iload_n 1, 1) := by decide +kernel
theorem dX4_ofModule_2 : decode cX4_ofModule 2 = .ok (.invokevirtual 168, 3) := by decide +kernel
theorem dX4_ofModule_5 : decode cX4_ofModule 5 = .ok (.ifCond .eq 5, 3) := by decide +kernel
theorem dX4_ofModule_8 : decode cX4_ofModule 8 = .ok (.iconst (-1), 1) := by decide +kernel
theorem dX4_ofModule_9 : decode cX4_ofModule 9 = .ok (.ireturn, 1) := by decide +kernel
theorem dX4_ofModule_10 : decode cX4_ofModule 10 = .ok (.iconst 0, 1) := by decide +kernel
theorem dX4_ofModule_11 : decode cX4_ofModule 11 = .ok (.istore_n 3, 1) := by decide +kernel
theorem dX4_ofModule_12 : decode cX4_ofModule 12 = .ok (.iconst 0, 1) := by decide +kernel
theorem dX4_ofModule_13 : decode cX4_ofModule 13 = .ok (.istore 4, 2) := by decide +kernel
theorem dX4_ofModule_15 : decode cX4_ofModule 15 = .ok (.iload 4, 2) := by decide +kernel
theorem dX4_ofModule_17 : decode cX4_ofModule 17 = .ok (.iload_n 1, 1) := by decide +kernel
theorem dX4_ofModule_18 : decode cX4_ofModule 18 = .ok (.if_icmp .ge 21, 3) := by decide +kernel
theorem dX4_ofModule_21 : decode cX4_ofModule 21 = .ok (.iload_n 3, 1) := by decide +kernel
theorem dX4_ofModule_22 : decode cX4_ofModule 22 = .ok (.iconst 1, 1) := by decide +kernel
theorem dX4_ofModule_23 : decode cX4_ofModule 23 = .ok (.aload_n 0, 1) := by decide +kernel
theorem dX4_ofModule_24 : decode cX4_ofModule 24 = .ok (.getfield 19, 3) := by decide +kernel
theorem dX4_ofModule_27 : decode cX4_ofModule 27 = .ok (.iload 4, 2) := by decide +kernel
theorem dX4_ofModule_29 : decode cX4_ofModule 29 = .ok (.iaload, 1) := by decide +kernel
theorem dX4_ofModule_30 : decode cX4_ofModule 30 = .ok (.isub, 1) := by decide +kernel
theorem dX4_ofModule_31 : decode cX4_ofModule 31 = .ok (.iadd, 1) := by decide +kernel
theorem dX4_ofModule_32 : decode cX4_ofModule 32 = .ok (.istore_n 3, 1) := by decide +kernel
theorem dX4_ofModule_33 : decode cX4_ofModule 33 = .ok (.iinc 4 1, 3) := by decide +kernel
theorem dX4_ofModule_36 : decode cX4_ofModule 36 = .ok (.goto (-21), 3) := by decide +kernel
theorem dX4_ofModule_39 : decode cX4_ofModule 39 = .ok (.iload_n 2, 1) := by decide +kernel
theorem dX4_ofModule_40 : decode cX4_ofModule 40 = .ok (.tableswitch 81 0 4 #[36, 43, 50, 57, 64], 36) := by decide +kernel
theorem dX4_ofModule_76 : decode cX4_ofModule 76 = .ok (.aload_n 0, 1) := by decide +kernel
theorem dX4_ofModule_77 : decode cX4_ofModule 77 = .ok (.getfield 7, 3) := by decide +kernel
theorem dX4_ofModule_80 : decode cX4_ofModule 80 = .ok (.iload_n 1, 1) := by decide +kernel
theorem dX4_ofModule_81 : decode cX4_ofModule 81 = .ok (.iaload, 1) := by decide +kernel
theorem dX4_ofModule_82 : decode cX4_ofModule 82 = .ok (.ireturn, 1) := by decide +kernel
theorem dX4_ofModule_83 : decode cX4_ofModule 83 = .ok (.aload_n 0, 1) := by decide +kernel
theorem dX4_ofModule_84 : decode cX4_ofModule 84 = .ok (.getfield 16, 3) := by decide +kernel
theorem dX4_ofModule_87 : decode cX4_ofModule 87 = .ok (.iload_n 1, 1) := by decide +kernel
theorem dX4_ofModule_88 : decode cX4_ofModule 88 = .ok (.iaload, 1) := by decide +kernel
theorem dX4_ofModule_89 : decode cX4_ofModule 89 = .ok (.ireturn, 1) := by decide +kernel
theorem dX4_ofModule_90 : decode cX4_ofModule 90 = .ok (.aload_n 0, 1) := by decide +kernel
theorem dX4_ofModule_91 : decode cX4_ofModule 91 = .ok (.getfield 13, 3) := by decide +kernel
theorem dX4_ofModule_94 : decode cX4_ofModule 94 = .ok (.iload_n 1, 1) := by decide +kernel
theorem dX4_ofModule_95 : decode cX4_ofModule 95 = .ok (.iaload, 1) := by decide +kernel
theorem dX4_ofModule_96 : decode cX4_ofModule 96 = .ok (.ireturn, 1) := by decide +kernel
theorem dX4_ofModule_97 : decode cX4_ofModule 97 = .ok (.aload_n 0, 1) := by decide +kernel
theorem dX4_ofModule_98 : decode cX4_ofModule 98 = .ok (.getfield 19, 3) := by decide +kernel
theorem dX4_ofModule_101 : decode cX4_ofModule 101 = .ok (.iload_n 1, 1) := by decide +kernel
theorem dX4_ofModule_102 : decode cX4_ofModule 102 = .ok (.iaload, 1) := by decide +kernel
theorem dX4_ofModule_103 : decode cX4_ofModule 103 = .ok (.ireturn, 1) := by decide +kernel
theorem dX4_ofModule_104 : decode cX4_ofModule 104 = .ok (.aload_n 0, 1) := by decide +kernel
theorem dX4_ofModule_105 : decode cX4_ofModule 105 = .ok (.getfield 19, 3) := by decide +kernel
theorem dX4_ofModule_108 : decode cX4_ofModule 108 = .ok (.iload_n 1, 1) := by decide +kernel
theorem dX4_ofModule_109 : decode cX4_ofModule 109 = .ok (.iaload, 1) := by decide +kernel
theorem dX4_ofModule_110 : decode cX4_ofModule 110 = .ok (.iconst 1, 1) := by decide +kernel
theorem dX4_ofModule_111 : decode cX4_ofModule 111 = .ok (.if_icmp .ne 8, 3) := by decide +kernel
theorem dX4_ofModule_114 : decode cX4_ofModule 114 = .ok (.bipush (-9), 2) := by decide +kernel
theorem dX4_ofModule_116 : decode cX4_ofModule 116 = .ok (.goto 4, 3) := by decide +kernel
theorem dX4_ofModule_119 : decode cX4_ofModule 119 = .ok (.iload_n 3, 1) := by decide +kernel
theorem dX4_ofModule_120 : decode cX4_ofModule 120 = .ok (.ireturn, 1) := by decide +kernel
theorem dX4_ofModule_121 : decode cX4_ofModule 121 = .ok (.bipush (-2), 2) := by decide +kernel
theorem dX4_ofModule_123 : decode cX4_ofModule 123 = .ok (.ireturn, 1) := by decide +kernel
theorem dX4_ofLamp_0 : decode cX4_ofLamp 0 = .ok (.aload_n 0, 1) := by decide +kernel
theorem dX4_ofLamp_1 : decode cX4_ofLamp 1 = .ok (.iload_n 1, 1) := by decide +kernel
theorem dX4_ofLamp_2 : decode cX4_ofLamp 2 = .ok (.invokevirtual 171, 3) := by decide +kernel
theorem dX4_ofLamp_5 : decode cX4_ofLamp 5 = .ok (.ifCond .eq 5, 3) := by decide +kernel
theorem dX4_ofLamp_8 : decode cX4_ofLamp 8 = .ok (.iconst (-1), 1) := by decide +kernel
theorem dX4_ofLamp_9 : decode cX4_ofLamp 9 = .ok (.ireturn, 1) := by decide +kernel
theorem dX4_ofLamp_10 : decode cX4_ofLamp 10 = .ok (.aload_n 0, 1) := by decide +kernel
theorem dX4_ofLamp_11 : decode cX4_ofLamp 11 = .ok (.invokevirtual 162, 3) := by decide +kernel
theorem dX4_ofLamp_14 : decode cX4_ofLamp 14 = .ok (.iload_n 2, 1) := by decide +kernel
theorem dX4_ofLamp_15 : decode cX4_ofLamp 15 = .ok (.tableswitch 85 0 6 #[41, 48, 55, 61, 67, 73, 79], 41) := by decide +kernel
theorem dX4_ofLamp_56 : decode cX4_ofLamp 56 = .ok (.aload_n 0, 1) := by decide +kernel
theorem dX4_ofLamp_57 : decode cX4_ofLamp 57 = .ok (.getfield 25, 3) := by decide +kernel
theorem dX4_ofLamp_60 : decode cX4_ofLamp 60 = .ok (.iload_n 1, 1) := by decide +kernel
theorem dX4_ofLamp_61 : decode cX4_ofLamp 61 = .ok (.iaload, 1) := by decide +kernel
theorem dX4_ofLamp_62 : decode cX4_ofLamp 62 = .ok (.ireturn, 1) := by decide +kernel
theorem dX4_ofLamp_63 : decode cX4_ofLamp 63 = .ok (.aload_n 0, 1) := by decide +kernel
theorem dX4_ofLamp_64 : decode cX4_ofLamp 64 = .ok (.getfield 22, 3) := by decide +kernel
theorem dX4_ofLamp_67 : decode cX4_ofLamp 67 = .ok (.iload_n 1, 1) := by decide +kernel
theorem dX4_ofLamp_68 : decode cX4_ofLamp 68 = .ok (.iaload, 1) := by decide +kernel
theorem dX4_ofLamp_69 : decode cX4_ofLamp 69 = .ok (.ireturn, 1) := by decide +kernel
theorem dX4_ofLamp_70 : decode cX4_ofLamp 70 = .ok (.aload_n 0, 1) := by decide +kernel
theorem dX4_ofLamp_71 : decode cX4_ofLamp 71 = .ok (.iload_n 1, 1) := by decide +kernel
theorem dX4_ofLamp_72 : decode cX4_ofLamp 72 = .ok (.invokevirtual 153, 3) := by decide +kernel
theorem dX4_ofLamp_75 : decode cX4_ofLamp 75 = .ok (.ireturn, 1) := by decide +kernel
theorem dX4_ofLamp_76 : decode cX4_ofLamp 76 = .ok (.aload_n 0, 1) := by decide +kernel
theorem dX4_ofLamp_77 : decode cX4_ofLamp 77 = .ok (.iload_n 1, 1) := by decide +kernel
theorem dX4_ofLamp_78 : decode cX4_ofLamp 78 = .ok (.invokevirtual 165, 3) := by decide +kernel
theorem dX4_ofLamp_81 : decode cX4_ofLamp 81 = .ok (.ireturn, 1) := by decide +kernel
theorem dX4_ofLamp_82 : decode cX4_ofLamp 82 = .ok (.aload_n 0, 1) := by decide +kernel
theorem dX4_ofLamp_83 : decode cX4_ofLamp 83 = .ok (.iload_n 1, 1) := by decide +kernel
theorem dX4_ofLamp_84 : decode cX4_ofLamp 84 = .ok (.invokevirtual 174, 3) := by decide +kernel
theorem dX4_ofLamp_87 : decode cX4_ofLamp 87 = .ok (.ireturn, 1) := by decide +kernel
theorem dX4_ofLamp_88 : decode cX4_ofLamp 88 = .ok (.aload_n 0, 1) := by decide +kernel
theorem dX4_ofLamp_89 : decode cX4_ofLamp 89 = .ok (.iload_n 1, 1) := by decide +kernel
theorem dX4_ofLamp_90 : decode cX4_ofLamp 90 = .ok (.invokevirtual 159, 3) := by decide +kernel
theorem dX4_ofLamp_93 : decode cX4_ofLamp 93 = .ok (.ireturn, 1) := by decide +kernel
theorem dX4_ofLamp_94 : decode cX4_ofLamp 94 = .ok (.aload_n 0, 1) := by decide +kernel
theorem dX4_ofLamp_95 : decode cX4_ofLamp 95 = .ok (.iload_n 1, 1) := by decide +kernel
theorem dX4_ofLamp_96 : decode cX4_ofLamp 96 = .ok (.invokevirtual 177, 3) := by decide +kernel
theorem dX4_ofLamp_99 : decode cX4_ofLamp 99 = .ok (.ireturn, 1) := by decide +kernel
theorem dX4_ofLamp_100 : decode cX4_ofLamp 100 = .ok (.bipush (-2), 2) := by decide +kernel
theorem dX4_ofLamp_102 : decode cX4_ofLamp 102 = .ok (.ireturn, 1) := by decide +kernel
theorem dX4_isFigure_0 : decode cX4_isFigure 0 = .ok (.iload_n 0, 1) := by decide +kernel
theorem dX4_isFigure_1 : decode cX4_isFigure 1 = .ok (.i2l, 1) := by decide +kernel
theorem dX4_isFigure_2 : decode cX4_isFigure 2 = .ok (.lconst 0, 1) := by decide +kernel
theorem dX4_isFigure_3 : decode cX4_isFigure 3 = .ok (.ldc2_w 180, 3) := by decide +kernel
theorem dX4_isFigure_6 : decode cX4_isFigure 6 = .ok (.invokestatic 87, 3) := by decide +kernel
theorem dX4_isFigure_9 : decode cX4_isFigure 9 = .ok (.ireturn, 1) := by decide +kernel
theorem dX4_level_0 : decode cX4_level 0 = .ok (.aload_n 0, 1) := by decide +kernel
theorem dX4_level_1 : decode cX4_level 1 = .ok (.iload_n 1, 1) := by decide +kernel
theorem dX4_level_2 : decode cX4_level 2 = .ok (.invokevirtual 171, 3) := by decide +kernel
theorem dX4_level_5 : decode cX4_level 5 = .ok (.ifCond .eq 5, 3) := by decide +kernel
theorem dX4_level_8 : decode cX4_level 8 = .ok (.iconst (-1), 1) := by decide +kernel
theorem dX4_level_9 : decode cX4_level 9 = .ok (.ireturn, 1) := by decide +kernel
theorem dX4_level_10 : decode cX4_level 10 = .ok (.iload_n 2, 1) := by decide +kernel
theorem dX4_level_11 : decode cX4_level 11 = .ok (.invokestatic 182, 3) := by decide +kernel
theorem dX4_level_14 : decode cX4_level 14 = .ok (.ifCond .ne 6, 3) := by decide +kernel
theorem dX4_level_17 : decode cX4_level 17 = .ok (.bipush (-2), 2) := by decide +kernel
theorem dX4_level_19 : decode cX4_level 19 = .ok (.ireturn, 1) := by decide +kernel
theorem dX4_level_20 : decode cX4_level 20 = .ok (.aload_n 0, 1) := by decide +kernel
theorem dX4_level_21 : decode cX4_level 21 = .ok (.getfield 22, 3) := by decide +kernel
theorem dX4_level_24 : decode cX4_level 24 = .ok (.iload_n 1, 1) := by decide +kernel
theorem dX4_level_25 : decode cX4_level 25 = .ok (.iaload, 1) := by decide +kernel
theorem dX4_level_26 : decode cX4_level 26 = .ok (.istore_n 3, 1) := by decide +kernel
theorem dX4_level_27 : decode cX4_level 27 = .ok (.aload_n 0, 1) := by decide +kernel
theorem dX4_level_28 : decode cX4_level 28 = .ok (.getfield 22, 3) := by decide +kernel
theorem dX4_level_31 : decode cX4_level 31 = .ok (.iload_n 1, 1) := by decide +kernel
theorem dX4_level_32 : decode cX4_level 32 = .ok (.iload_n 2, 1) := by decide +kernel
theorem dX4_level_33 : decode cX4_level 33 = .ok (.iastore, 1) := by decide +kernel
theorem dX4_level_34 : decode cX4_level 34 = .ok (.iload_n 3, 1) := by decide +kernel
theorem dX4_level_35 : decode cX4_level 35 = .ok (.ireturn, 1) := by decide +kernel
theorem dX4_die_0 : decode cX4_die 0 = .ok (.aload_n 0, 1) := by decide +kernel
theorem dX4_die_1 : decode cX4_die 1 = .ok (.iload_n 1, 1) := by decide +kernel
theorem dX4_die_2 : decode cX4_die 2 = .ok (.invokevirtual 168, 3) := by decide +kernel
theorem dX4_die_5 : decode cX4_die 5 = .ok (.ifCond .eq 5, 3) := by decide +kernel
theorem dX4_die_8 : decode cX4_die 8 = .ok (.iconst (-1), 1) := by decide +kernel
theorem dX4_die_9 : decode cX4_die 9 = .ok (.ireturn, 1) := by decide +kernel
theorem dX4_die_10 : decode cX4_die 10 = .ok (.aload_n 0, 1) := by decide +kernel
theorem dX4_die_11 : decode cX4_die 11 = .ok (.getfield 19, 3) := by decide +kernel
theorem dX4_die_14 : decode cX4_die 14 = .ok (.iload_n 1, 1) := by decide +kernel
theorem dX4_die_15 : decode cX4_die 15 = .ok (.iconst 1, 1) := by decide +kernel
theorem dX4_die_16 : decode cX4_die 16 = .ok (.aload_n 0, 1) := by decide +kernel
theorem dX4_die_17 : decode cX4_die 17 = .ok (.getfield 19, 3) := by decide +kernel
theorem dX4_die_20 : decode cX4_die 20 = .ok (.iload_n 1, 1) := by decide +kernel
theorem dX4_die_21 : decode cX4_die 21 = .ok (.iaload, 1) := by decide +kernel
theorem dX4_die_22 : decode cX4_die 22 = .ok (.isub, 1) := by decide +kernel
theorem dX4_die_23 : decode cX4_die 23 = .ok (.iastore, 1) := by decide +kernel
theorem dX4_die_24 : decode cX4_die 24 = .ok (.aload_n 0, 1) := by decide +kernel
theorem dX4_die_25 : decode cX4_die 25 = .ok (.getfield 19, 3) := by decide +kernel
theorem dX4_die_28 : decode cX4_die 28 = .ok (.iload_n 1, 1) := by decide +kernel
theorem dX4_die_29 : decode cX4_die 29 = .ok (.iaload, 1) := by decide +kernel
theorem dX4_die_30 : decode cX4_die 30 = .ok (.ireturn, 1) := by decide +kernel
theorem dX4_isCut_0 : decode cX4_isCut 0 = .ok (.iload_n 0, 1) := by decide +kernel
theorem dX4_isCut_1 : decode cX4_isCut 1 = .ok (.i2l, 1) := by decide +kernel
theorem dX4_isCut_2 : decode cX4_isCut 2 = .ok (.lconst 1, 1) := by decide +kernel
theorem dX4_isCut_3 : decode cX4_isCut 3 = .ok (.ldc2_w 114, 3) := by decide +kernel
theorem dX4_isCut_6 : decode cX4_isCut 6 = .ok (.invokestatic 87, 3) := by decide +kernel
theorem dX4_isCut_9 : decode cX4_isCut 9 = .ok (.ireturn, 1) := by decide +kernel
theorem dX4_cut_0 : decode cX4_cut 0 = .ok (.iload_n 1, 1) := by decide +kernel
theorem dX4_cut_1 : decode cX4_cut 1 = .ok (.invokestatic 185, 3) := by decide +kernel
theorem dX4_cut_4 : decode cX4_cut 4 = .ok (.ifCond .ne 6, 3) := by decide +kernel
theorem dX4_cut_7 : decode cX4_cut 7 = .ok (.bipush (-2), 2) := by decide +kernel
theorem dX4_cut_9 : decode cX4_cut 9 = .ok (.ireturn, 1) := by decide +kernel
theorem dX4_cut_10 : decode cX4_cut 10 = .ok (.aload_n 0, 1) := by decide +kernel
theorem dX4_cut_11 : decode cX4_cut 11 = .ok (.getfield 84, 3) := by decide +kernel
theorem dX4_cut_14 : decode cX4_cut 14 = .ok (.ifCond .ne 6, 3) := by decide +kernel
theorem dX4_cut_17 : decode cX4_cut 17 = .ok (.bipush (-3), 2) := by decide +kernel
theorem dX4_cut_19 : decode cX4_cut 19 = .ok (.ireturn, 1) := by decide +kernel
theorem dX4_cut_20 : decode cX4_cut 20 = .ok (.aload_n 0, 1) := by decide +kernel
theorem dX4_cut_21 : decode cX4_cut 21 = .ok (.getfield 144, 3) := by decide +kernel
theorem dX4_cut_24 : decode cX4_cut 24 = .ok (.istore_n 2, 1) := by decide +kernel
theorem dX4_cut_25 : decode cX4_cut 25 = .ok (.aload_n 0, 1) := by decide +kernel
theorem dX4_cut_26 : decode cX4_cut 26 = .ok (.iload_n 1, 1) := by decide +kernel
theorem dX4_cut_27 : decode cX4_cut 27 = .ok (.putfield 144, 3) := by decide +kernel
theorem dX4_cut_30 : decode cX4_cut 30 = .ok (.iload_n 2, 1) := by decide +kernel
theorem dX4_cut_31 : decode cX4_cut 31 = .ok (.ireturn, 1) := by decide +kernel
theorem dX4_ghostsIn_0 : decode cX4_ghostsIn 0 = .ok (.iconst 0, 1) := by decide +kernel
theorem dX4_ghostsIn_1 : decode cX4_ghostsIn 1 = .ok (.istore_n 2, 1) := by decide +kernel
theorem dX4_ghostsIn_2 : decode cX4_ghostsIn 2 = .ok (.iconst 0, 1) := by decide +kernel
theorem dX4_ghostsIn_3 : decode cX4_ghostsIn 3 = .ok (.istore_n 3, 1) := by decide +kernel
theorem dX4_ghostsIn_4 : decode cX4_ghostsIn 4 = .ok (.iload_n 3, 1) := by decide +kernel
theorem dX4_ghostsIn_5 : decode cX4_ghostsIn 5 = .ok (.aload_n 0, 1) := by decide +kernel
theorem dX4_ghostsIn_6 : decode cX4_ghostsIn 6 = .ok (.getfield 91, 3) := by decide +kernel
theorem dX4_ghostsIn_9 : decode cX4_ghostsIn 9 = .ok (.if_icmp .ge 21, 3) := by decide +kernel
theorem dX4_ghostsIn_12 : decode cX4_ghostsIn 12 = .ok (.iload_n 2, 1) := by decide +kernel
theorem dX4_ghostsIn_13 : decode cX4_ghostsIn 13 = .ok (.aload_n 0, 1) := by decide +kernel
theorem dX4_ghostsIn_14 : decode cX4_ghostsIn 14 = .ok (.iload_n 3, 1) := by decide +kernel
theorem dX4_ghostsIn_15 : decode cX4_ghostsIn 15 = .ok (.invokevirtual 177, 3) := by decide +kernel
theorem dX4_ghostsIn_18 : decode cX4_ghostsIn 18 = .ok (.iload_n 1, 1) := by decide +kernel
theorem dX4_ghostsIn_19 : decode cX4_ghostsIn 19 = .ok (.ishr, 1) := by decide +kernel
theorem dX4_ghostsIn_20 : decode cX4_ghostsIn 20 = .ok (.iconst 1, 1) := by decide +kernel
theorem dX4_ghostsIn_21 : decode cX4_ghostsIn 21 = .ok (.iand, 1) := by decide +kernel
theorem dX4_ghostsIn_22 : decode cX4_ghostsIn 22 = .ok (.iadd, 1) := by decide +kernel
theorem dX4_ghostsIn_23 : decode cX4_ghostsIn 23 = .ok (.istore_n 2, 1) := by decide +kernel
theorem dX4_ghostsIn_24 : decode cX4_ghostsIn 24 = .ok (.iinc 3 1, 3) := by decide +kernel
theorem dX4_ghostsIn_27 : decode cX4_ghostsIn 27 = .ok (.goto (-23), 3) := by decide +kernel
theorem dX4_ghostsIn_30 : decode cX4_ghostsIn 30 = .ok (.iload_n 2, 1) := by decide +kernel
theorem dX4_ghostsIn_31 : decode cX4_ghostsIn 31 = .ok (.ireturn, 1) := by decide +kernel
theorem dX4_ofUnit_0 : decode cX4_ofUnit 0 = .ok (.iload_n 1, 1) := by decide +kernel
theorem dX4_ofUnit_1 : decode cX4_ofUnit 1 = .ok (.i2l, 1) := by decide +kernel
theorem dX4_ofUnit_2 : decode cX4_ofUnit 2 = .ok (.lconst 0, 1) := by decide +kernel
theorem dX4_ofUnit_3 : decode cX4_ofUnit 3 = .ok (.ldc2_w 188, 3) := by decide +kernel
theorem dX4_ofUnit_6 : decode cX4_ofUnit 6 = .ok (.invokestatic 87, 3) := by decide +kernel
theorem dX4_ofUnit_9 : decode cX4_ofUnit 9 = .ok (.ifCond .eq 15, 3) := by decide +kernel
theorem dX4_ofUnit_12 : decode cX4_ofUnit 12 = .ok (.iload_n 2, 1) := by decide +kernel
theorem dX4_ofUnit_13 : decode cX4_ofUnit 13 = .ok (.i2l, 1) := by decide +kernel
theorem dX4_ofUnit_14 : decode cX4_ofUnit 14 = .ok (.lconst 0, 1) := by decide +kernel
theorem dX4_ofUnit_15 : decode cX4_ofUnit 15 = .ok (.ldc2_w 190, 3) := by decide +kernel
theorem dX4_ofUnit_18 : decode cX4_ofUnit 18 = .ok (.invokestatic 87, 3) := by decide +kernel
theorem dX4_ofUnit_21 : decode cX4_ofUnit 21 = .ok (.ifCond .ne 6, 3) := by decide +kernel
theorem dX4_ofUnit_24 : decode cX4_ofUnit 24 = .ok (.bipush (-2), 2) := by decide +kernel
theorem dX4_ofUnit_26 : decode cX4_ofUnit 26 = .ok (.ireturn, 1) := by decide +kernel
theorem dX4_ofUnit_27 : decode cX4_ofUnit 27 = .ok (.aload_n 0, 1) := by decide +kernel
theorem dX4_ofUnit_28 : decode cX4_ofUnit 28 = .ok (.getfield 84, 3) := by decide +kernel
theorem dX4_ofUnit_31 : decode cX4_ofUnit 31 = .ok (.ifCond .ne 6, 3) := by decide +kernel
theorem dX4_ofUnit_34 : decode cX4_ofUnit 34 = .ok (.bipush (-3), 2) := by decide +kernel
theorem dX4_ofUnit_36 : decode cX4_ofUnit 36 = .ok (.ireturn, 1) := by decide +kernel
theorem dX4_ofUnit_37 : decode cX4_ofUnit 37 = .ok (.aload_n 0, 1) := by decide +kernel
theorem dX4_ofUnit_38 : decode cX4_ofUnit 38 = .ok (.invokevirtual 162, 3) := by decide +kernel
theorem dX4_ofUnit_41 : decode cX4_ofUnit 41 = .ok (.iload_n 2, 1) := by decide +kernel
theorem dX4_ofUnit_42 : decode cX4_ofUnit 42 = .ok (.ifCond .ne 12, 3) := by decide +kernel
theorem dX4_ofUnit_45 : decode cX4_ofUnit 45 = .ok (.aload_n 0, 1) := by decide +kernel
theorem dX4_ofUnit_46 : decode cX4_ofUnit 46 = .ok (.getfield 37, 3) := by decide +kernel
theorem dX4_ofUnit_49 : decode cX4_ofUnit 49 = .ok (.iload_n 1, 1) := by decide +kernel
theorem dX4_ofUnit_50 : decode cX4_ofUnit 50 = .ok (.iaload, 1) := by decide +kernel
theorem dX4_ofUnit_51 : decode cX4_ofUnit 51 = .ok (.goto 51, 3) := by decide +kernel
theorem dX4_ofUnit_54 : decode cX4_ofUnit 54 = .ok (.iload_n 2, 1) := by decide +kernel
theorem dX4_ofUnit_55 : decode cX4_ofUnit 55 = .ok (.iconst 1, 1) := by decide +kernel
theorem dX4_ofUnit_56 : decode cX4_ofUnit 56 = .ok (.if_icmp .ne 14, 3) := by decide +kernel
theorem dX4_ofUnit_59 : decode cX4_ofUnit 59 = .ok (.aload_n 0, 1) := by decide +kernel
theorem dX4_ofUnit_60 : decode cX4_ofUnit 60 = .ok (.iload_n 1, 1) := by decide +kernel
theorem dX4_ofUnit_61 : decode cX4_ofUnit 61 = .ok (.invokevirtual 192, 3) := by decide +kernel
theorem dX4_ofUnit_64 : decode cX4_ofUnit 64 = .ok (.invokestatic 195, 3) := by decide +kernel
theorem dX4_ofUnit_67 : decode cX4_ofUnit 67 = .ok (.goto 35, 3) := by decide +kernel
theorem dX4_ofUnit_70 : decode cX4_ofUnit 70 = .ok (.iload_n 2, 1) := by decide +kernel
theorem dX4_ofUnit_71 : decode cX4_ofUnit 71 = .ok (.iconst 2, 1) := by decide +kernel
theorem dX4_ofUnit_72 : decode cX4_ofUnit 72 = .ok (.if_icmp .ne 11, 3) := by decide +kernel
theorem dX4_ofUnit_75 : decode cX4_ofUnit 75 = .ok (.aload_n 0, 1) := by decide +kernel
theorem dX4_ofUnit_76 : decode cX4_ofUnit 76 = .ok (.iload_n 1, 1) := by decide +kernel
theorem dX4_ofUnit_77 : decode cX4_ofUnit 77 = .ok (.invokevirtual 192, 3) := by decide +kernel
theorem dX4_ofUnit_80 : decode cX4_ofUnit 80 = .ok (.goto 22, 3) := by decide +kernel
theorem dX4_ofUnit_83 : decode cX4_ofUnit 83 = .ok (.iload_n 2, 1) := by decide +kernel
theorem dX4_ofUnit_84 : decode cX4_ofUnit 84 = .ok (.iconst 3, 1) := by decide +kernel
theorem dX4_ofUnit_85 : decode cX4_ofUnit 85 = .ok (.if_icmp .ne 12, 3) := by decide +kernel
theorem dX4_ofUnit_88 : decode cX4_ofUnit 88 = .ok (.aload_n 0, 1) := by decide +kernel
theorem dX4_ofUnit_89 : decode cX4_ofUnit 89 = .ok (.getfield 40, 3) := by decide +kernel
theorem dX4_ofUnit_92 : decode cX4_ofUnit 92 = .ok (.iload_n 1, 1) := by decide +kernel
theorem dX4_ofUnit_93 : decode cX4_ofUnit 93 = .ok (.iaload, 1) := by decide +kernel
theorem dX4_ofUnit_94 : decode cX4_ofUnit 94 = .ok (.goto 8, 3) := by decide +kernel
theorem dX4_ofUnit_97 : decode cX4_ofUnit 97 = .ok (.aload_n 0, 1) := by decide +kernel
theorem dX4_ofUnit_98 : decode cX4_ofUnit 98 = .ok (.iload_n 1, 1) := by decide +kernel
theorem dX4_ofUnit_99 : decode cX4_ofUnit 99 = .ok (.invokevirtual 198, 3) := by decide +kernel
theorem dX4_ofUnit_102 : decode cX4_ofUnit 102 = .ok (.ireturn, 1) := by decide +kernel
theorem dX4_slices_0 : decode cX4_slices 0 = .ok (.iload_n 1, 1) := by decide +kernel
theorem dX4_slices_1 : decode cX4_slices 1 = .ok (.i2l, 1) := by decide +kernel
theorem dX4_slices_2 : decode cX4_slices 2 = .ok (.ldc2_w 201, 3) := by decide +kernel
theorem dX4_slices_5 : decode cX4_slices 5 = .ok (.ldc2_w 203, 3) := by decide +kernel
theorem dX4_slices_8 : decode cX4_slices 8 = .ok (.invokestatic 87, 3) := by decide +kernel
theorem dX4_slices_11 : decode cX4_slices 11 = .ok (.ifCond .ne 6, 3) := by decide +kernel
theorem dX4_slices_14 : decode cX4_slices 14 = .ok (.bipush (-2), 2) := by decide +kernel
theorem dX4_slices_16 : decode cX4_slices 16 = .ok (.ireturn, 1) := by decide +kernel
theorem dX4_slices_17 : decode cX4_slices 17 = .ok (.aload_n 0, 1) := by decide +kernel
theorem dX4_slices_18 : decode cX4_slices 18 = .ok (.getfield 84, 3) := by decide +kernel
theorem dX4_slices_21 : decode cX4_slices 21 = .ok (.ifCond .ne 6, 3) := by decide +kernel
theorem dX4_slices_24 : decode cX4_slices 24 = .ok (.bipush (-3), 2) := by decide +kernel
theorem dX4_slices_26 : decode cX4_slices 26 = .ok (.ireturn, 1) := by decide +kernel
theorem dX4_slices_27 : decode cX4_slices 27 = .ok (.iconst 0, 1) := by decide +kernel
theorem dX4_slices_28 : decode cX4_slices 28 = .ok (.istore_n 2, 1) := by decide +kernel
theorem dX4_slices_29 : decode cX4_slices 29 = .ok (.iconst 0, 1) := by decide +kernel
theorem dX4_slices_30 : decode cX4_slices 30 = .ok (.istore_n 3, 1) := by decide +kernel
theorem dX4_slices_31 : decode cX4_slices 31 = .ok (.iload_n 3, 1) := by decide +kernel
theorem dX4_slices_32 : decode cX4_slices 32 = .ok (.iconst 4, 1) := by decide +kernel
theorem dX4_slices_33 : decode cX4_slices 33 = .ok (.if_icmp .ge 30, 3) := by decide +kernel
theorem dX4_slices_36 : decode cX4_slices 36 = .ok (.iload_n 2, 1) := by decide +kernel
theorem dX4_slices_37 : decode cX4_slices 37 = .ok (.iload_n 1, 1) := by decide +kernel
theorem dX4_slices_38 : decode cX4_slices 38 = .ok (.ifCond .lt 8, 3) := by decide +kernel
theorem dX4_slices_41 : decode cX4_slices 41 = .ok (.iload_n 1, 1) := by decide +kernel
theorem dX4_slices_42 : decode cX4_slices 42 = .ok (.iload_n 3, 1) := by decide +kernel
theorem dX4_slices_43 : decode cX4_slices 43 = .ok (.if_icmp .ne 11, 3) := by decide +kernel
theorem dX4_slices_46 : decode cX4_slices 46 = .ok (.aload_n 0, 1) := by decide +kernel
theorem dX4_slices_47 : decode cX4_slices 47 = .ok (.iload_n 3, 1) := by decide +kernel
theorem dX4_slices_48 : decode cX4_slices 48 = .ok (.invokevirtual 205, 3) := by decide +kernel
theorem dX4_slices_51 : decode cX4_slices 51 = .ok (.goto 4, 3) := by decide +kernel
theorem dX4_slices_54 : decode cX4_slices 54 = .ok (.iconst 0, 1) := by decide +kernel
theorem dX4_slices_55 : decode cX4_slices 55 = .ok (.iadd, 1) := by decide +kernel
theorem dX4_slices_56 : decode cX4_slices 56 = .ok (.istore_n 2, 1) := by decide +kernel
theorem dX4_slices_57 : decode cX4_slices 57 = .ok (.iinc 3 1, 3) := by decide +kernel
theorem dX4_slices_60 : decode cX4_slices 60 = .ok (.goto (-29), 3) := by decide +kernel
theorem dX4_slices_63 : decode cX4_slices 63 = .ok (.iload_n 2, 1) := by decide +kernel
theorem dX4_slices_64 : decode cX4_slices 64 = .ok (.ireturn, 1) := by decide +kernel
theorem dX4_greatest_0 : decode cX4_greatest 0 = .ok (.iconst 0, 1) := by decide +kernel
theorem dX4_greatest_1 : decode cX4_greatest 1 = .ok (.istore_n 2, 1) := by decide +kernel
theorem dX4_greatest_2 : decode cX4_greatest 2 = .ok (.iconst 0, 1) := by decide +kernel
theorem dX4_greatest_3 : decode cX4_greatest 3 = .ok (.istore_n 3, 1) := by decide +kernel
theorem dX4_greatest_4 : decode cX4_greatest 4 = .ok (.iload_n 3, 1) := by decide +kernel
theorem dX4_greatest_5 : decode cX4_greatest 5 = .ok (.iconst 4, 1) := by decide +kernel
theorem dX4_greatest_6 : decode cX4_greatest 6 = .ok (.if_icmp .ge 63, 3) := by decide +kernel
theorem dX4_greatest_9 : decode cX4_greatest 9 = .ok (.iconst 0, 1) := by decide +kernel
theorem dX4_greatest_10 : decode cX4_greatest 10 = .ok (.istore 4, 2) := by decide +kernel
theorem dX4_greatest_12 : decode cX4_greatest 12 = .ok (.iconst 0, 1) := by decide +kernel
theorem dX4_greatest_13 : decode cX4_greatest 13 = .ok (.istore 5, 2) := by decide +kernel
theorem dX4_greatest_15 : decode cX4_greatest 15 = .ok (.iload 5, 2) := by decide +kernel
theorem dX4_greatest_17 : decode cX4_greatest 17 = .ok (.aload_n 0, 1) := by decide +kernel
theorem dX4_greatest_18 : decode cX4_greatest 18 = .ok (.getfield 91, 3) := by decide +kernel
theorem dX4_greatest_21 : decode cX4_greatest 21 = .ok (.if_icmp .ge 29, 3) := by decide +kernel
theorem dX4_greatest_24 : decode cX4_greatest 24 = .ok (.iload 4, 2) := by decide +kernel
theorem dX4_greatest_26 : decode cX4_greatest 26 = .ok (.aload_n 0, 1) := by decide +kernel
theorem dX4_greatest_27 : decode cX4_greatest 27 = .ok (.iload 5, 2) := by decide +kernel
theorem dX4_greatest_29 : decode cX4_greatest 29 = .ok (.invokevirtual 153, 3) := by decide +kernel
theorem dX4_greatest_32 : decode cX4_greatest 32 = .ok (.iload_n 1, 1) := by decide +kernel
theorem dX4_greatest_33 : decode cX4_greatest 33 = .ok (.imul, 1) := by decide +kernel
theorem dX4_greatest_34 : decode cX4_greatest 34 = .ok (.bipush 15, 2) := by decide +kernel
theorem dX4_greatest_36 : decode cX4_greatest 36 = .ok (.idiv, 1) := by decide +kernel
theorem dX4_greatest_37 : decode cX4_greatest 37 = .ok (.iload_n 3, 1) := by decide +kernel
theorem dX4_greatest_38 : decode cX4_greatest 38 = .ok (.ishr, 1) := by decide +kernel
theorem dX4_greatest_39 : decode cX4_greatest 39 = .ok (.iconst 1, 1) := by decide +kernel
theorem dX4_greatest_40 : decode cX4_greatest 40 = .ok (.iand, 1) := by decide +kernel
theorem dX4_greatest_41 : decode cX4_greatest 41 = .ok (.iadd, 1) := by decide +kernel
theorem dX4_greatest_42 : decode cX4_greatest 42 = .ok (.istore 4, 2) := by decide +kernel
theorem dX4_greatest_44 : decode cX4_greatest 44 = .ok (.iinc 5 1, 3) := by decide +kernel
theorem dX4_greatest_47 : decode cX4_greatest 47 = .ok (.goto (-32), 3) := by decide +kernel
theorem dX4_greatest_50 : decode cX4_greatest 50 = .ok (.iload 4, 2) := by decide +kernel
theorem dX4_greatest_52 : decode cX4_greatest 52 = .ok (.iload_n 2, 1) := by decide +kernel
theorem dX4_greatest_53 : decode cX4_greatest 53 = .ok (.if_icmp .le 8, 3) := by decide +kernel
theorem dX4_greatest_56 : decode cX4_greatest 56 = .ok (.iload 4, 2) := by decide +kernel
theorem dX4_greatest_58 : decode cX4_greatest 58 = .ok (.goto 4, 3) := by decide +kernel
theorem dX4_greatest_61 : decode cX4_greatest 61 = .ok (.iload_n 2, 1) := by decide +kernel
theorem dX4_greatest_62 : decode cX4_greatest 62 = .ok (.istore_n 2, 1) := by decide +kernel
theorem dX4_greatest_63 : decode cX4_greatest 63 = .ok (.iinc 3 1, 3) := by decide +kernel
theorem dX4_greatest_66 : decode cX4_greatest 66 = .ok (.goto (-62), 3) := by decide +kernel
theorem dX4_greatest_69 : decode cX4_greatest 69 = .ok (.iload_n 2, 1) := by decide +kernel
theorem dX4_greatest_70 : decode cX4_greatest 70 = .ok (.ireturn, 1) := by decide +kernel
theorem dX4_bears_0 : decode cX4_bears 0 = .ok (.iload_n 1, 1) := by decide +kernel
theorem dX4_bears_1 : decode cX4_bears 1 = .ok (.i2l, 1) := by decide +kernel
theorem dX4_bears_2 : decode cX4_bears 2 = .ok (.lconst 0, 1) := by decide +kernel
theorem dX4_bears_3 : decode cX4_bears 3 = .ok (.ldc2_w 208, 3) := by decide +kernel
theorem dX4_bears_6 : decode cX4_bears 6 = .ok (.invokestatic 87, 3) := by decide +kernel
theorem dX4_bears_9 : decode cX4_bears 9 = .ok (.ifCond .ne 6, 3) := by decide +kernel
theorem dX4_bears_12 : decode cX4_bears 12 = .ok (.bipush (-2), 2) := by decide +kernel
theorem dX4_bears_14 : decode cX4_bears 14 = .ok (.ireturn, 1) := by decide +kernel
theorem dX4_bears_15 : decode cX4_bears 15 = .ok (.aload_n 0, 1) := by decide +kernel
theorem dX4_bears_16 : decode cX4_bears 16 = .ok (.getfield 84, 3) := by decide +kernel
theorem dX4_bears_19 : decode cX4_bears 19 = .ok (.ifCond .ne 6, 3) := by decide +kernel
theorem dX4_bears_22 : decode cX4_bears 22 = .ok (.bipush (-3), 2) := by decide +kernel
theorem dX4_bears_24 : decode cX4_bears 24 = .ok (.ireturn, 1) := by decide +kernel
theorem dX4_bears_25 : decode cX4_bears 25 = .ok (.iconst 0, 1) := by decide +kernel
theorem dX4_bears_26 : decode cX4_bears 26 = .ok (.istore_n 2, 1) := by decide +kernel
theorem dX4_bears_27 : decode cX4_bears 27 = .ok (.iconst 1, 1) := by decide +kernel
theorem dX4_bears_28 : decode cX4_bears 28 = .ok (.istore_n 3, 1) := by decide +kernel
theorem dX4_bears_29 : decode cX4_bears 29 = .ok (.iload_n 3, 1) := by decide +kernel
theorem dX4_bears_30 : decode cX4_bears 30 = .ok (.bipush 15, 2) := by decide +kernel
theorem dX4_bears_32 : decode cX4_bears 32 = .ok (.if_icmp .gt 24, 3) := by decide +kernel
theorem dX4_bears_35 : decode cX4_bears 35 = .ok (.aload_n 0, 1) := by decide +kernel
theorem dX4_bears_36 : decode cX4_bears 36 = .ok (.iload_n 3, 1) := by decide +kernel
theorem dX4_bears_37 : decode cX4_bears 37 = .ok (.invokevirtual 210, 3) := by decide +kernel
theorem dX4_bears_40 : decode cX4_bears 40 = .ok (.iload_n 1, 1) := by decide +kernel
theorem dX4_bears_41 : decode cX4_bears 41 = .ok (.if_icmp .gt 7, 3) := by decide +kernel
theorem dX4_bears_44 : decode cX4_bears 44 = .ok (.iload_n 3, 1) := by decide +kernel
theorem dX4_bears_45 : decode cX4_bears 45 = .ok (.goto 4, 3) := by decide +kernel
theorem dX4_bears_48 : decode cX4_bears 48 = .ok (.iload_n 2, 1) := by decide +kernel
theorem dX4_bears_49 : decode cX4_bears 49 = .ok (.istore_n 2, 1) := by decide +kernel
theorem dX4_bears_50 : decode cX4_bears 50 = .ok (.iinc 3 1, 3) := by decide +kernel
theorem dX4_bears_53 : decode cX4_bears 53 = .ok (.goto (-24), 3) := by decide +kernel
theorem dX4_bears_56 : decode cX4_bears 56 = .ok (.iload_n 2, 1) := by decide +kernel
theorem dX4_bears_57 : decode cX4_bears 57 = .ok (.ireturn, 1) := by decide +kernel
theorem dX4_darkBy_0 : decode cX4_darkBy 0 = .ok (.aload_n 0, 1) := by decide +kernel
theorem dX4_darkBy_1 : decode cX4_darkBy 1 = .ok (.getfield 144, 3) := by decide +kernel
theorem dX4_darkBy_4 : decode cX4_darkBy 4 = .ok (.istore_n 2, 1) := by decide +kernel
theorem dX4_darkBy_5 : decode cX4_darkBy 5 = .ok (.aload_n 0, 1) := by decide +kernel
theorem dX4_darkBy_6 : decode cX4_darkBy 6 = .ok (.iload_n 1, 1) := by decide +kernel
theorem dX4_darkBy_7 : decode cX4_darkBy 7 = .ok (.putfield 144, 3) := by decide +kernel
theorem dX4_darkBy_10 : decode cX4_darkBy 10 = .ok (.aload_n 0, 1) := by decide +kernel
theorem dX4_darkBy_11 : decode cX4_darkBy 11 = .ok (.invokevirtual 213, 3) := by decide +kernel
theorem dX4_darkBy_14 : decode cX4_darkBy 14 = .ok (.istore_n 3, 1) := by decide +kernel
theorem dX4_darkBy_15 : decode cX4_darkBy 15 = .ok (.aload_n 0, 1) := by decide +kernel
theorem dX4_darkBy_16 : decode cX4_darkBy 16 = .ok (.iload_n 2, 1) := by decide +kernel
theorem dX4_darkBy_17 : decode cX4_darkBy 17 = .ok (.putfield 144, 3) := by decide +kernel
theorem dX4_darkBy_20 : decode cX4_darkBy 20 = .ok (.iload_n 3, 1) := by decide +kernel
theorem dX4_darkBy_21 : decode cX4_darkBy 21 = .ok (.ireturn, 1) := by decide +kernel
theorem dX4_steadiest_0 : decode cX4_steadiest 0 = .ok (.iload_n 1, 1) := by decide +kernel
theorem dX4_steadiest_1 : decode cX4_steadiest 1 = .ok (.i2l, 1) := by decide +kernel
theorem dX4_steadiest_2 : decode cX4_steadiest 2 = .ok (.lconst 0, 1) := by decide +kernel
theorem dX4_steadiest_3 : decode cX4_steadiest 3 = .ok (.ldc2_w 135, 3) := by decide +kernel
theorem dX4_steadiest_6 : decode cX4_steadiest 6 = .ok (.invokestatic 87, 3) := by decide +kernel
theorem dX4_steadiest_9 : decode cX4_steadiest 9 = .ok (.ifCond .ne 6, 3) := by decide +kernel
theorem dX4_steadiest_12 : decode cX4_steadiest 12 = .ok (.bipush (-2), 2) := by decide +kernel
theorem dX4_steadiest_14 : decode cX4_steadiest 14 = .ok (.ireturn, 1) := by decide +kernel
theorem dX4_steadiest_15 : decode cX4_steadiest 15 = .ok (.aload_n 0, 1) := by decide +kernel
theorem dX4_steadiest_16 : decode cX4_steadiest 16 = .ok (.getfield 84, 3) := by decide +kernel
theorem dX4_steadiest_19 : decode cX4_steadiest 19 = .ok (.ifCond .ne 6, 3) := by decide +kernel
theorem dX4_steadiest_22 : decode cX4_steadiest 22 = .ok (.bipush (-3), 2) := by decide +kernel
theorem dX4_steadiest_24 : decode cX4_steadiest 24 = .ok (.ireturn, 1) := by decide +kernel
theorem dX4_steadiest_25 : decode cX4_steadiest 25 = .ok (.iconst 1, 1) := by decide +kernel
theorem dX4_steadiest_26 : decode cX4_steadiest 26 = .ok (.istore_n 2, 1) := by decide +kernel
theorem dX4_steadiest_27 : decode cX4_steadiest 27 = .ok (.iconst 2, 1) := by decide +kernel
theorem dX4_steadiest_28 : decode cX4_steadiest 28 = .ok (.istore_n 3, 1) := by decide +kernel
theorem dX4_steadiest_29 : decode cX4_steadiest 29 = .ok (.iload_n 3, 1) := by decide +kernel
theorem dX4_steadiest_30 : decode cX4_steadiest 30 = .ok (.bipush 8, 2) := by decide +kernel
theorem dX4_steadiest_32 : decode cX4_steadiest 32 = .ok (.if_icmp .gt 28, 3) := by decide +kernel
theorem dX4_steadiest_35 : decode cX4_steadiest 35 = .ok (.aload_n 0, 1) := by decide +kernel
theorem dX4_steadiest_36 : decode cX4_steadiest 36 = .ok (.iload_n 3, 1) := by decide +kernel
theorem dX4_steadiest_37 : decode cX4_steadiest 37 = .ok (.invokevirtual 217, 3) := by decide +kernel
theorem dX4_steadiest_40 : decode cX4_steadiest 40 = .ok (.aload_n 0, 1) := by decide +kernel
theorem dX4_steadiest_41 : decode cX4_steadiest 41 = .ok (.iload_n 2, 1) := by decide +kernel
theorem dX4_steadiest_42 : decode cX4_steadiest 42 = .ok (.invokevirtual 217, 3) := by decide +kernel
theorem dX4_steadiest_45 : decode cX4_steadiest 45 = .ok (.if_icmp .ge 7, 3) := by decide +kernel
theorem dX4_steadiest_48 : decode cX4_steadiest 48 = .ok (.iload_n 3, 1) := by decide +kernel
theorem dX4_steadiest_49 : decode cX4_steadiest 49 = .ok (.goto 4, 3) := by decide +kernel
theorem dX4_steadiest_52 : decode cX4_steadiest 52 = .ok (.iload_n 2, 1) := by decide +kernel
theorem dX4_steadiest_53 : decode cX4_steadiest 53 = .ok (.istore_n 2, 1) := by decide +kernel
theorem dX4_steadiest_54 : decode cX4_steadiest 54 = .ok (.iinc 3 1, 3) := by decide +kernel
theorem dX4_steadiest_57 : decode cX4_steadiest 57 = .ok (.goto (-28), 3) := by decide +kernel
theorem dX4_steadiest_60 : decode cX4_steadiest 60 = .ok (.iload_n 1, 1) := by decide +kernel
theorem dX4_steadiest_61 : decode cX4_steadiest 61 = .ok (.ifCond .ne 7, 3) := by decide +kernel
theorem dX4_steadiest_64 : decode cX4_steadiest 64 = .ok (.iload_n 2, 1) := by decide +kernel
theorem dX4_steadiest_65 : decode cX4_steadiest 65 = .ok (.goto 24, 3) := by decide +kernel
theorem dX4_steadiest_68 : decode cX4_steadiest 68 = .ok (.iload_n 1, 1) := by decide +kernel
theorem dX4_steadiest_69 : decode cX4_steadiest 69 = .ok (.iconst 1, 1) := by decide +kernel
theorem dX4_steadiest_70 : decode cX4_steadiest 70 = .ok (.if_icmp .ne 11, 3) := by decide +kernel
theorem dX4_steadiest_73 : decode cX4_steadiest 73 = .ok (.aload_n 0, 1) := by decide +kernel
theorem dX4_steadiest_74 : decode cX4_steadiest 74 = .ok (.iload_n 2, 1) := by decide +kernel
theorem dX4_steadiest_75 : decode cX4_steadiest 75 = .ok (.invokevirtual 217, 3) := by decide +kernel
theorem dX4_steadiest_78 : decode cX4_steadiest 78 = .ok (.goto 11, 3) := by decide +kernel
theorem dX4_steadiest_81 : decode cX4_steadiest 81 = .ok (.aload_n 0, 1) := by decide +kernel
theorem dX4_steadiest_82 : decode cX4_steadiest 82 = .ok (.aload_n 0, 1) := by decide +kernel
theorem dX4_steadiest_83 : decode cX4_steadiest 83 = .ok (.getfield 144, 3) := by decide +kernel
theorem dX4_steadiest_86 : decode cX4_steadiest 86 = .ok (.invokevirtual 217, 3) := by decide +kernel
theorem dX4_steadiest_89 : decode cX4_steadiest 89 = .ok (.ireturn, 1) := by decide +kernel
theorem dX4_send_0 : decode cX4_send 0 = .ok (.iload_n 1, 1) := by decide +kernel
theorem dX4_send_1 : decode cX4_send 1 = .ok (.invokestatic 128, 3) := by decide +kernel
theorem dX4_send_4 : decode cX4_send 4 = .ok (.ifCond .eq 9, 3) := by decide +kernel
theorem dX4_send_7 : decode cX4_send 7 = .ok (.aload_n 0, 1) := by decide +kernel
theorem dX4_send_8 : decode cX4_send 8 = .ok (.iconst (-1), 1) := by decide +kernel
theorem dX4_send_9 : decode cX4_send 9 = .ok (.invokevirtual 132, 3) := by decide +kernel
theorem dX4_send_12 : decode cX4_send 12 = .ok (.ireturn, 1) := by decide +kernel
theorem dX4_send_13 : decode cX4_send 13 = .ok (.iload_n 2, 1) := by decide +kernel
theorem dX4_send_14 : decode cX4_send 14 = .ok (.i2l, 1) := by decide +kernel
theorem dX4_send_15 : decode cX4_send 15 = .ok (.lconst 0, 1) := by decide +kernel
theorem dX4_send_16 : decode cX4_send 16 = .ok (.ldc2_w 135, 3) := by decide +kernel
theorem dX4_send_19 : decode cX4_send 19 = .ok (.invokestatic 87, 3) := by decide +kernel
theorem dX4_send_22 : decode cX4_send 22 = .ok (.ifCond .eq 16, 3) := by decide +kernel
theorem dX4_send_25 : decode cX4_send 25 = .ok (.iload 4, 2) := by decide +kernel
theorem dX4_send_27 : decode cX4_send 27 = .ok (.i2l, 1) := by decide +kernel
theorem dX4_send_28 : decode cX4_send 28 = .ok (.lconst 0, 1) := by decide +kernel
theorem dX4_send_29 : decode cX4_send 29 = .ok (.ldc2_w 220, 3) := by decide +kernel
theorem dX4_send_32 : decode cX4_send 32 = .ok (.invokestatic 87, 3) := by decide +kernel
theorem dX4_send_35 : decode cX4_send 35 = .ok (.ifCond .ne 10, 3) := by decide +kernel
theorem dX4_send_38 : decode cX4_send 38 = .ok (.aload_n 0, 1) := by decide +kernel
theorem dX4_send_39 : decode cX4_send 39 = .ok (.bipush (-2), 2) := by decide +kernel
theorem dX4_send_41 : decode cX4_send 41 = .ok (.invokevirtual 132, 3) := by decide +kernel
theorem dX4_send_44 : decode cX4_send 44 = .ok (.ireturn, 1) := by decide +kernel
theorem dX4_send_45 : decode cX4_send 45 = .ok (.aload_n 0, 1) := by decide +kernel
theorem dX4_send_46 : decode cX4_send 46 = .ok (.getfield 84, 3) := by decide +kernel
theorem dX4_send_49 : decode cX4_send 49 = .ok (.ifCond .ne 10, 3) := by decide +kernel
theorem dX4_send_52 : decode cX4_send 52 = .ok (.aload_n 0, 1) := by decide +kernel
theorem dX4_send_53 : decode cX4_send 53 = .ok (.bipush (-3), 2) := by decide +kernel
theorem dX4_send_55 : decode cX4_send 55 = .ok (.invokevirtual 132, 3) := by decide +kernel
theorem dX4_send_58 : decode cX4_send 58 = .ok (.ireturn, 1) := by decide +kernel
theorem dX4_send_59 : decode cX4_send 59 = .ok (.aload_n 0, 1) := by decide +kernel
theorem dX4_send_60 : decode cX4_send 60 = .ok (.iload_n 1, 1) := by decide +kernel
theorem dX4_send_61 : decode cX4_send 61 = .ok (.iload_n 2, 1) := by decide +kernel
theorem dX4_send_62 : decode cX4_send 62 = .ok (.iload_n 3, 1) := by decide +kernel
theorem dX4_send_63 : decode cX4_send 63 = .ok (.iload 4, 2) := by decide +kernel
theorem dX4_send_65 : decode cX4_send 65 = .ok (.i2l, 1) := by decide +kernel
theorem dX4_send_66 : decode cX4_send 66 = .ok (.invokevirtual 137, 3) := by decide +kernel
theorem dX4_send_69 : decode cX4_send 69 = .ok (.istore 5, 2) := by decide +kernel
theorem dX4_send_71 : decode cX4_send 71 = .ok (.iload 5, 2) := by decide +kernel
theorem dX4_send_73 : decode cX4_send 73 = .ok (.ifCond .ge 6, 3) := by decide +kernel
theorem dX4_send_76 : decode cX4_send 76 = .ok (.iload 5, 2) := by decide +kernel
theorem dX4_send_78 : decode cX4_send 78 = .ok (.ireturn, 1) := by decide +kernel
theorem dX4_send_79 : decode cX4_send 79 = .ok (.bipush 60, 2) := by decide +kernel
theorem dX4_send_81 : decode cX4_send 81 = .ok (.iload_n 1, 1) := by decide +kernel
theorem dX4_send_82 : decode cX4_send 82 = .ok (.imul, 1) := by decide +kernel
theorem dX4_send_83 : decode cX4_send 83 = .ok (.iload_n 3, 1) := by decide +kernel
theorem dX4_send_84 : decode cX4_send 84 = .ok (.iadd, 1) := by decide +kernel
theorem dX4_send_85 : decode cX4_send 85 = .ok (.istore 6, 2) := by decide +kernel
theorem dX4_send_87 : decode cX4_send 87 = .ok (.iconst 0, 1) := by decide +kernel
theorem dX4_send_88 : decode cX4_send 88 = .ok (.istore 7, 2) := by decide +kernel
theorem dX4_send_90 : decode cX4_send 90 = .ok (.iload 7, 2) := by decide +kernel
theorem dX4_send_92 : decode cX4_send 92 = .ok (.iload 4, 2) := by decide +kernel
theorem dX4_send_94 : decode cX4_send 94 = .ok (.if_icmp .ge 32, 3) := by decide +kernel
theorem dX4_send_97 : decode cX4_send 97 = .ok (.aload_n 0, 1) := by decide +kernel
theorem dX4_send_98 : decode cX4_send 98 = .ok (.getfield 68, 3) := by decide +kernel
theorem dX4_send_101 : decode cX4_send 101 = .ok (.iload 6, 2) := by decide +kernel
theorem dX4_send_103 : decode cX4_send 103 = .ok (.iload 7, 2) := by decide +kernel
theorem dX4_send_105 : decode cX4_send 105 = .ok (.iadd, 1) := by decide +kernel
theorem dX4_send_106 : decode cX4_send 106 = .ok (.iaload, 1) := by decide +kernel
theorem dX4_send_107 : decode cX4_send 107 = .ok (.invokestatic 182, 3) := by decide +kernel
theorem dX4_send_110 : decode cX4_send 110 = .ok (.ifCond .ne 10, 3) := by decide +kernel
theorem dX4_send_113 : decode cX4_send 113 = .ok (.aload_n 0, 1) := by decide +kernel
theorem dX4_send_114 : decode cX4_send 114 = .ok (.bipush (-2), 2) := by decide +kernel
theorem dX4_send_116 : decode cX4_send 116 = .ok (.invokevirtual 132, 3) := by decide +kernel
theorem dX4_send_119 : decode cX4_send 119 = .ok (.ireturn, 1) := by decide +kernel
theorem dX4_send_120 : decode cX4_send 120 = .ok (.iinc 7 1, 3) := by decide +kernel
theorem dX4_send_123 : decode cX4_send 123 = .ok (.goto (-33), 3) := by decide +kernel
theorem dX4_send_126 : decode cX4_send 126 = .ok (.iload 4, 2) := by decide +kernel
theorem dX4_send_128 : decode cX4_send 128 = .ok (.istore 7, 2) := by decide +kernel
theorem dX4_send_130 : decode cX4_send 130 = .ok (.iconst 1, 1) := by decide +kernel
theorem dX4_send_131 : decode cX4_send 131 = .ok (.istore 8, 2) := by decide +kernel
theorem dX4_send_133 : decode cX4_send 133 = .ok (.iconst 0, 1) := by decide +kernel
theorem dX4_send_134 : decode cX4_send 134 = .ok (.istore 9, 2) := by decide +kernel
theorem dX4_send_136 : decode cX4_send 136 = .ok (.iload 9, 2) := by decide +kernel
theorem dX4_send_138 : decode cX4_send 138 = .ok (.aload_n 0, 1) := by decide +kernel
theorem dX4_send_139 : decode cX4_send 139 = .ok (.getfield 84, 3) := by decide +kernel
theorem dX4_send_142 : decode cX4_send 142 = .ok (.if_icmp .ge 128, 3) := by decide +kernel
theorem dX4_send_145 : decode cX4_send 145 = .ok (.aload_n 0, 1) := by decide +kernel
theorem dX4_send_146 : decode cX4_send 146 = .ok (.getfield 19, 3) := by decide +kernel
theorem dX4_send_149 : decode cX4_send 149 = .ok (.iload 9, 2) := by decide +kernel
theorem dX4_send_151 : decode cX4_send 151 = .ok (.iaload, 1) := by decide +kernel
theorem dX4_send_152 : decode cX4_send 152 = .ok (.ifCond .ne 24, 3) := by decide +kernel
theorem dX4_send_155 : decode cX4_send 155 = .ok (.iload 8, 2) := by decide +kernel
theorem dX4_send_157 : decode cX4_send 157 = .ok (.ifCond .eq 19, 3) := by decide +kernel
theorem dX4_send_160 : decode cX4_send 160 = .ok (.iload 7, 2) := by decide +kernel
theorem dX4_send_162 : decode cX4_send 162 = .ok (.aload_n 0, 1) := by decide +kernel
theorem dX4_send_163 : decode cX4_send 163 = .ok (.getfield 16, 3) := by decide +kernel
theorem dX4_send_166 : decode cX4_send 166 = .ok (.iload 9, 2) := by decide +kernel
theorem dX4_send_168 : decode cX4_send 168 = .ok (.iaload, 1) := by decide +kernel
theorem dX4_send_169 : decode cX4_send 169 = .ok (.if_icmp .lt 7, 3) := by decide +kernel
theorem dX4_send_172 : decode cX4_send 172 = .ok (.iconst 1, 1) := by decide +kernel
theorem dX4_send_173 : decode cX4_send 173 = .ok (.goto 4, 3) := by decide +kernel
theorem dX4_send_176 : decode cX4_send 176 = .ok (.iconst 0, 1) := by decide +kernel
theorem dX4_send_177 : decode cX4_send 177 = .ok (.istore 10, 2) := by decide +kernel
theorem dX4_send_179 : decode cX4_send 179 = .ok (.iload 8, 2) := by decide +kernel
theorem dX4_send_181 : decode cX4_send 181 = .ok (.ifCond .eq 23, 3) := by decide +kernel
theorem dX4_send_184 : decode cX4_send 184 = .ok (.aload_n 0, 1) := by decide +kernel
theorem dX4_send_185 : decode cX4_send 185 = .ok (.getfield 19, 3) := by decide +kernel
theorem dX4_send_188 : decode cX4_send 188 = .ok (.iload 9, 2) := by decide +kernel
theorem dX4_send_190 : decode cX4_send 190 = .ok (.iaload, 1) := by decide +kernel
theorem dX4_send_191 : decode cX4_send 191 = .ok (.iconst 1, 1) := by decide +kernel
theorem dX4_send_192 : decode cX4_send 192 = .ok (.if_icmp .eq 8, 3) := by decide +kernel
theorem dX4_send_195 : decode cX4_send 195 = .ok (.iload 10, 2) := by decide +kernel
theorem dX4_send_197 : decode cX4_send 197 = .ok (.ifCond .eq 7, 3) := by decide +kernel
theorem dX4_send_200 : decode cX4_send 200 = .ok (.iconst 1, 1) := by decide +kernel
theorem dX4_send_201 : decode cX4_send 201 = .ok (.goto 4, 3) := by decide +kernel
theorem dX4_send_204 : decode cX4_send 204 = .ok (.iconst 0, 1) := by decide +kernel
theorem dX4_send_205 : decode cX4_send 205 = .ok (.istore 8, 2) := by decide +kernel
theorem dX4_send_207 : decode cX4_send 207 = .ok (.iconst 0, 1) := by decide +kernel
theorem dX4_send_208 : decode cX4_send 208 = .ok (.istore 11, 2) := by decide +kernel
theorem dX4_send_210 : decode cX4_send 210 = .ok (.iload 11, 2) := by decide +kernel
theorem dX4_send_212 : decode cX4_send 212 = .ok (.aload_n 0, 1) := by decide +kernel
theorem dX4_send_213 : decode cX4_send 213 = .ok (.getfield 16, 3) := by decide +kernel
theorem dX4_send_216 : decode cX4_send 216 = .ok (.iload 9, 2) := by decide +kernel
theorem dX4_send_218 : decode cX4_send 218 = .ok (.iaload, 1) := by decide +kernel
theorem dX4_send_219 : decode cX4_send 219 = .ok (.if_icmp .ge 45, 3) := by decide +kernel
theorem dX4_send_222 : decode cX4_send 222 = .ok (.iload 10, 2) := by decide +kernel
theorem dX4_send_224 : decode cX4_send 224 = .ok (.ifCond .eq 40, 3) := by decide +kernel
theorem dX4_send_227 : decode cX4_send 227 = .ok (.aload_n 0, 1) := by decide +kernel
theorem dX4_send_228 : decode cX4_send 228 = .ok (.getfield 22, 3) := by decide +kernel
theorem dX4_send_231 : decode cX4_send 231 = .ok (.aload_n 0, 1) := by decide +kernel
theorem dX4_send_232 : decode cX4_send 232 = .ok (.getfield 13, 3) := by decide +kernel
theorem dX4_send_235 : decode cX4_send 235 = .ok (.iload 9, 2) := by decide +kernel
theorem dX4_send_237 : decode cX4_send 237 = .ok (.iaload, 1) := by decide +kernel
theorem dX4_send_238 : decode cX4_send 238 = .ok (.iload 11, 2) := by decide +kernel
theorem dX4_send_240 : decode cX4_send 240 = .ok (.iadd, 1) := by decide +kernel
theorem dX4_send_241 : decode cX4_send 241 = .ok (.aload_n 0, 1) := by decide +kernel
theorem dX4_send_242 : decode cX4_send 242 = .ok (.getfield 68, 3) := by decide +kernel
theorem dX4_send_245 : decode cX4_send 245 = .ok (.iload 6, 2) := by decide +kernel
theorem dX4_send_247 : decode cX4_send 247 = .ok (.iload 4, 2) := by decide +kernel
theorem dX4_send_249 : decode cX4_send 249 = .ok (.iadd, 1) := by decide +kernel
theorem dX4_send_250 : decode cX4_send 250 = .ok (.iload 7, 2) := by decide +kernel
theorem dX4_send_252 : decode cX4_send 252 = .ok (.isub, 1) := by decide +kernel
theorem dX4_send_253 : decode cX4_send 253 = .ok (.iaload, 1) := by decide +kernel
theorem dX4_send_254 : decode cX4_send 254 = .ok (.iastore, 1) := by decide +kernel
theorem dX4_send_255 : decode cX4_send 255 = .ok (.iinc 7 (-1), 3) := by decide +kernel
theorem dX4_send_258 : decode cX4_send 258 = .ok (.iinc 11 1, 3) := by decide +kernel
theorem dX4_send_261 : decode cX4_send 261 = .ok (.goto (-51), 3) := by decide +kernel
theorem dX4_send_264 : decode cX4_send 264 = .ok (.iinc 9 1, 3) := by decide +kernel
theorem dX4_send_267 : decode cX4_send 267 = .ok (.goto (-131), 3) := by decide +kernel
theorem dX4_send_270 : decode cX4_send 270 = .ok (.aload_n 0, 1) := by decide +kernel
theorem dX4_send_271 : decode cX4_send 271 = .ok (.iload 7, 2) := by decide +kernel
theorem dX4_send_273 : decode cX4_send 273 = .ok (.invokevirtual 132, 3) := by decide +kernel
theorem dX4_send_276 : decode cX4_send 276 = .ok (.ireturn, 1) := by decide +kernel
theorem dX4_isAsTold_0 : decode cX4_isAsTold 0 = .ok (.iload_n 1, 1) := by decide +kernel
theorem dX4_isAsTold_1 : decode cX4_isAsTold 1 = .ok (.i2l, 1) := by decide +kernel
theorem dX4_isAsTold_2 : decode cX4_isAsTold 2 = .ok (.lconst 0, 1) := by decide +kernel
theorem dX4_isAsTold_3 : decode cX4_isAsTold 3 = .ok (.ldc2_w 222, 3) := by decide +kernel
theorem dX4_isAsTold_6 : decode cX4_isAsTold 6 = .ok (.invokestatic 87, 3) := by decide +kernel
theorem dX4_isAsTold_9 : decode cX4_isAsTold 9 = .ok (.ifCond .eq 8, 3) := by decide +kernel
theorem dX4_isAsTold_12 : decode cX4_isAsTold 12 = .ok (.iload_n 0, 1) := by decide +kernel
theorem dX4_isAsTold_13 : decode cX4_isAsTold 13 = .ok (.invokestatic 182, 3) := by decide +kernel
theorem dX4_isAsTold_16 : decode cX4_isAsTold 16 = .ok (.ireturn, 1) := by decide +kernel
theorem dX4_isAsTold_17 : decode cX4_isAsTold 17 = .ok (.iload_n 1, 1) := by decide +kernel
theorem dX4_isAsTold_18 : decode cX4_isAsTold 18 = .ok (.bipush 20, 2) := by decide +kernel
theorem dX4_isAsTold_20 : decode cX4_isAsTold 20 = .ok (.if_icmp .ne 10, 3) := by decide +kernel
theorem dX4_isAsTold_23 : decode cX4_isAsTold 23 = .ok (.iload_n 0, 1) := by decide +kernel
theorem dX4_isAsTold_24 : decode cX4_isAsTold 24 = .ok (.invokestatic 185, 3) := by decide +kernel
theorem dX4_isAsTold_27 : decode cX4_isAsTold 27 = .ok (.goto 26, 3) := by decide +kernel
theorem dX4_isAsTold_30 : decode cX4_isAsTold 30 = .ok (.iload_n 1, 1) := by decide +kernel
theorem dX4_isAsTold_31 : decode cX4_isAsTold 31 = .ok (.i2l, 1) := by decide +kernel
theorem dX4_isAsTold_32 : decode cX4_isAsTold 32 = .ok (.ldc2_w 224, 3) := by decide +kernel
theorem dX4_isAsTold_35 : decode cX4_isAsTold 35 = .ok (.ldc2_w 226, 3) := by decide +kernel
theorem dX4_isAsTold_38 : decode cX4_isAsTold 38 = .ok (.invokestatic 87, 3) := by decide +kernel
theorem dX4_isAsTold_41 : decode cX4_isAsTold 41 = .ok (.ifCond .eq 11, 3) := by decide +kernel
theorem dX4_isAsTold_44 : decode cX4_isAsTold 44 = .ok (.iload_n 0, 1) := by decide +kernel
theorem dX4_isAsTold_45 : decode cX4_isAsTold 45 = .ok (.ifCond .ne 7, 3) := by decide +kernel
theorem dX4_isAsTold_48 : decode cX4_isAsTold 48 = .ok (.iconst 1, 1) := by decide +kernel
theorem dX4_isAsTold_49 : decode cX4_isAsTold 49 = .ok (.goto 4, 3) := by decide +kernel
theorem dX4_isAsTold_52 : decode cX4_isAsTold 52 = .ok (.iconst 0, 1) := by decide +kernel
theorem dX4_isAsTold_53 : decode cX4_isAsTold 53 = .ok (.ireturn, 1) := by decide +kernel
theorem dX4_doesPair_0 : decode cX4_doesPair 0 = .ok (.iload_n 2, 1) := by decide +kernel
theorem dX4_doesPair_1 : decode cX4_doesPair 1 = .ok (.bipush 16, 2) := by decide +kernel
theorem dX4_doesPair_3 : decode cX4_doesPair 3 = .ok (.if_icmp .ge 20, 3) := by decide +kernel
theorem dX4_doesPair_6 : decode cX4_doesPair 6 = .ok (.aload_n 0, 1) := by decide +kernel
theorem dX4_doesPair_7 : decode cX4_doesPair 7 = .ok (.iload_n 2, 1) := by decide +kernel
theorem dX4_doesPair_8 : decode cX4_doesPair 8 = .ok (.iload_n 1, 1) := by decide +kernel
theorem dX4_doesPair_9 : decode cX4_doesPair 9 = .ok (.invokevirtual 228, 3) := by decide +kernel
theorem dX4_doesPair_12 : decode cX4_doesPair 12 = .ok (.ifCond .lt 7, 3) := by decide +kernel
theorem dX4_doesPair_15 : decode cX4_doesPair 15 = .ok (.iconst 1, 1) := by decide +kernel
theorem dX4_doesPair_16 : decode cX4_doesPair 16 = .ok (.goto 45, 3) := by decide +kernel
theorem dX4_doesPair_19 : decode cX4_doesPair 19 = .ok (.iconst 0, 1) := by decide +kernel
theorem dX4_doesPair_20 : decode cX4_doesPair 20 = .ok (.goto 41, 3) := by decide +kernel
theorem dX4_doesPair_23 : decode cX4_doesPair 23 = .ok (.iload_n 2, 1) := by decide +kernel
theorem dX4_doesPair_24 : decode cX4_doesPair 24 = .ok (.bipush 20, 2) := by decide +kernel
theorem dX4_doesPair_26 : decode cX4_doesPair 26 = .ok (.if_icmp .ne 19, 3) := by decide +kernel
theorem dX4_doesPair_29 : decode cX4_doesPair 29 = .ok (.aload_n 0, 1) := by decide +kernel
theorem dX4_doesPair_30 : decode cX4_doesPair 30 = .ok (.iload_n 1, 1) := by decide +kernel
theorem dX4_doesPair_31 : decode cX4_doesPair 31 = .ok (.invokevirtual 231, 3) := by decide +kernel
theorem dX4_doesPair_34 : decode cX4_doesPair 34 = .ok (.ifCond .lt 7, 3) := by decide +kernel
theorem dX4_doesPair_37 : decode cX4_doesPair 37 = .ok (.iconst 1, 1) := by decide +kernel
theorem dX4_doesPair_38 : decode cX4_doesPair 38 = .ok (.goto 23, 3) := by decide +kernel
theorem dX4_doesPair_41 : decode cX4_doesPair 41 = .ok (.iconst 0, 1) := by decide +kernel
theorem dX4_doesPair_42 : decode cX4_doesPair 42 = .ok (.goto 19, 3) := by decide +kernel
theorem dX4_doesPair_45 : decode cX4_doesPair 45 = .ok (.aload_n 0, 1) := by decide +kernel
theorem dX4_doesPair_46 : decode cX4_doesPair 46 = .ok (.iload_n 2, 1) := by decide +kernel
theorem dX4_doesPair_47 : decode cX4_doesPair 47 = .ok (.bipush 30, 2) := by decide +kernel
theorem dX4_doesPair_49 : decode cX4_doesPair 49 = .ok (.isub, 1) := by decide +kernel
theorem dX4_doesPair_50 : decode cX4_doesPair 50 = .ok (.invokevirtual 234, 3) := by decide +kernel
theorem dX4_doesPair_53 : decode cX4_doesPair 53 = .ok (.ifCond .lt 7, 3) := by decide +kernel
theorem dX4_doesPair_56 : decode cX4_doesPair 56 = .ok (.iconst 1, 1) := by decide +kernel
theorem dX4_doesPair_57 : decode cX4_doesPair 57 = .ok (.goto 4, 3) := by decide +kernel
theorem dX4_doesPair_60 : decode cX4_doesPair 60 = .ok (.iconst 0, 1) := by decide +kernel
theorem dX4_doesPair_61 : decode cX4_doesPair 61 = .ok (.ireturn, 1) := by decide +kernel
theorem dX4_dayOf_0 : decode cX4_dayOf 0 = .ok (.bipush (-9), 2) := by decide +kernel
theorem dX4_dayOf_2 : decode cX4_dayOf 2 = .ok (.istore 4, 2) := by decide +kernel
theorem dX4_dayOf_4 : decode cX4_dayOf 4 = .ok (.iconst 0, 1) := by decide +kernel
theorem dX4_dayOf_5 : decode cX4_dayOf 5 = .ok (.istore 5, 2) := by decide +kernel
theorem dX4_dayOf_7 : decode cX4_dayOf 7 = .ok (.iload 5, 2) := by decide +kernel
theorem dX4_dayOf_9 : decode cX4_dayOf 9 = .ok (.iload_n 2, 1) := by decide +kernel
theorem dX4_dayOf_10 : decode cX4_dayOf 10 = .ok (.if_icmp .ge 54, 3) := by decide +kernel
theorem dX4_dayOf_13 : decode cX4_dayOf 13 = .ok (.iload 4, 2) := by decide +kernel
theorem dX4_dayOf_15 : decode cX4_dayOf 15 = .ok (.ifCond .ge 49, 3) := by decide +kernel
theorem dX4_dayOf_18 : decode cX4_dayOf 18 = .ok (.aload_n 0, 1) := by decide +kernel
theorem dX4_dayOf_19 : decode cX4_dayOf 19 = .ok (.aload_n 0, 1) := by decide +kernel
theorem dX4_dayOf_20 : decode cX4_dayOf 20 = .ok (.getfield 68, 3) := by decide +kernel
theorem dX4_dayOf_23 : decode cX4_dayOf 23 = .ok (.iload_n 1, 1) := by decide +kernel
theorem dX4_dayOf_24 : decode cX4_dayOf 24 = .ok (.iconst 2, 1) := by decide +kernel
theorem dX4_dayOf_25 : decode cX4_dayOf 25 = .ok (.iload 5, 2) := by decide +kernel
theorem dX4_dayOf_27 : decode cX4_dayOf 27 = .ok (.imul, 1) := by decide +kernel
theorem dX4_dayOf_28 : decode cX4_dayOf 28 = .ok (.iadd, 1) := by decide +kernel
theorem dX4_dayOf_29 : decode cX4_dayOf 29 = .ok (.iaload, 1) := by decide +kernel
theorem dX4_dayOf_30 : decode cX4_dayOf 30 = .ok (.aload_n 0, 1) := by decide +kernel
theorem dX4_dayOf_31 : decode cX4_dayOf 31 = .ok (.getfield 68, 3) := by decide +kernel
theorem dX4_dayOf_34 : decode cX4_dayOf 34 = .ok (.iload_n 1, 1) := by decide +kernel
theorem dX4_dayOf_35 : decode cX4_dayOf 35 = .ok (.iconst 2, 1) := by decide +kernel
theorem dX4_dayOf_36 : decode cX4_dayOf 36 = .ok (.iload 5, 2) := by decide +kernel
theorem dX4_dayOf_38 : decode cX4_dayOf 38 = .ok (.imul, 1) := by decide +kernel
theorem dX4_dayOf_39 : decode cX4_dayOf 39 = .ok (.iadd, 1) := by decide +kernel
theorem dX4_dayOf_40 : decode cX4_dayOf 40 = .ok (.iconst 1, 1) := by decide +kernel
theorem dX4_dayOf_41 : decode cX4_dayOf 41 = .ok (.iadd, 1) := by decide +kernel
theorem dX4_dayOf_42 : decode cX4_dayOf 42 = .ok (.iaload, 1) := by decide +kernel
theorem dX4_dayOf_43 : decode cX4_dayOf 43 = .ok (.invokevirtual 237, 3) := by decide +kernel
theorem dX4_dayOf_46 : decode cX4_dayOf 46 = .ok (.ifCond .eq 8, 3) := by decide +kernel
theorem dX4_dayOf_49 : decode cX4_dayOf 49 = .ok (.bipush (-9), 2) := by decide +kernel
theorem dX4_dayOf_51 : decode cX4_dayOf 51 = .ok (.goto 5, 3) := by decide +kernel
theorem dX4_dayOf_54 : decode cX4_dayOf 54 = .ok (.iload 5, 2) := by decide +kernel
theorem dX4_dayOf_56 : decode cX4_dayOf 56 = .ok (.istore 4, 2) := by decide +kernel
theorem dX4_dayOf_58 : decode cX4_dayOf 58 = .ok (.iinc 5 1, 3) := by decide +kernel
theorem dX4_dayOf_61 : decode cX4_dayOf 61 = .ok (.goto (-54), 3) := by decide +kernel
theorem dX4_dayOf_64 : decode cX4_dayOf 64 = .ok (.iload_n 3, 1) := by decide +kernel
theorem dX4_dayOf_65 : decode cX4_dayOf 65 = .ok (.iconst 1, 1) := by decide +kernel
theorem dX4_dayOf_66 : decode cX4_dayOf 66 = .ok (.if_icmp .ne 6, 3) := by decide +kernel
theorem dX4_dayOf_69 : decode cX4_dayOf 69 = .ok (.iload 4, 2) := by decide +kernel
theorem dX4_dayOf_71 : decode cX4_dayOf 71 = .ok (.ireturn, 1) := by decide +kernel
theorem dX4_dayOf_72 : decode cX4_dayOf 72 = .ok (.iload 4, 2) := by decide +kernel
theorem dX4_dayOf_74 : decode cX4_dayOf 74 = .ok (.ifCond .lt 9, 3) := by decide +kernel
theorem dX4_dayOf_77 : decode cX4_dayOf 77 = .ok (.bipush (-100), 2) := by decide +kernel
theorem dX4_dayOf_79 : decode cX4_dayOf 79 = .ok (.iload 4, 2) := by decide +kernel
theorem dX4_dayOf_81 : decode cX4_dayOf 81 = .ok (.isub, 1) := by decide +kernel
theorem dX4_dayOf_82 : decode cX4_dayOf 82 = .ok (.ireturn, 1) := by decide +kernel
theorem dX4_dayOf_83 : decode cX4_dayOf 83 = .ok (.iload_n 3, 1) := by decide +kernel
theorem dX4_dayOf_84 : decode cX4_dayOf 84 = .ok (.bipush 10, 2) := by decide +kernel
theorem dX4_dayOf_86 : decode cX4_dayOf 86 = .ok (.if_icmp .lt 29, 3) := by decide +kernel
theorem dX4_dayOf_89 : decode cX4_dayOf 89 = .ok (.aload_n 0, 1) := by decide +kernel
theorem dX4_dayOf_90 : decode cX4_dayOf 90 = .ok (.iload_n 3, 1) := by decide +kernel
theorem dX4_dayOf_91 : decode cX4_dayOf 91 = .ok (.bipush 10, 2) := by decide +kernel
theorem dX4_dayOf_93 : decode cX4_dayOf 93 = .ok (.isub, 1) := by decide +kernel
theorem dX4_dayOf_94 : decode cX4_dayOf 94 = .ok (.invokevirtual 171, 3) := by decide +kernel
theorem dX4_dayOf_97 : decode cX4_dayOf 97 = .ok (.ifCond .eq 8, 3) := by decide +kernel
theorem dX4_dayOf_100 : decode cX4_dayOf 100 = .ok (.bipush (-9), 2) := by decide +kernel
theorem dX4_dayOf_102 : decode cX4_dayOf 102 = .ok (.goto 12, 3) := by decide +kernel
theorem dX4_dayOf_105 : decode cX4_dayOf 105 = .ok (.aload_n 0, 1) := by decide +kernel
theorem dX4_dayOf_106 : decode cX4_dayOf 106 = .ok (.getfield 22, 3) := by decide +kernel
theorem dX4_dayOf_109 : decode cX4_dayOf 109 = .ok (.iload_n 3, 1) := by decide +kernel
theorem dX4_dayOf_110 : decode cX4_dayOf 110 = .ok (.bipush 10, 2) := by decide +kernel
theorem dX4_dayOf_112 : decode cX4_dayOf 112 = .ok (.isub, 1) := by decide +kernel
theorem dX4_dayOf_113 : decode cX4_dayOf 113 = .ok (.iaload, 1) := by decide +kernel
theorem dX4_dayOf_114 : decode cX4_dayOf 114 = .ok (.ireturn, 1) := by decide +kernel
theorem dX4_dayOf_115 : decode cX4_dayOf 115 = .ok (.aload_n 0, 1) := by decide +kernel
theorem dX4_dayOf_116 : decode cX4_dayOf 116 = .ok (.invokevirtual 162, 3) := by decide +kernel
theorem dX4_dayOf_119 : decode cX4_dayOf 119 = .ok (.iconst 0, 1) := by decide +kernel
theorem dX4_dayOf_120 : decode cX4_dayOf 120 = .ok (.istore 5, 2) := by decide +kernel
theorem dX4_dayOf_122 : decode cX4_dayOf 122 = .ok (.iconst 0, 1) := by decide +kernel
theorem dX4_dayOf_123 : decode cX4_dayOf 123 = .ok (.istore 6, 2) := by decide +kernel
theorem dX4_dayOf_125 : decode cX4_dayOf 125 = .ok (.iload 6, 2) := by decide +kernel
theorem dX4_dayOf_127 : decode cX4_dayOf 127 = .ok (.aload_n 0, 1) := by decide +kernel
theorem dX4_dayOf_128 : decode cX4_dayOf 128 = .ok (.getfield 91, 3) := by decide +kernel
theorem dX4_dayOf_131 : decode cX4_dayOf 131 = .ok (.if_icmp .ge 23, 3) := by decide +kernel
theorem dX4_dayOf_134 : decode cX4_dayOf 134 = .ok (.iload 5, 2) := by decide +kernel
theorem dX4_dayOf_136 : decode cX4_dayOf 136 = .ok (.aload_n 0, 1) := by decide +kernel
theorem dX4_dayOf_137 : decode cX4_dayOf 137 = .ok (.iload 6, 2) := by decide +kernel
theorem dX4_dayOf_139 : decode cX4_dayOf 139 = .ok (.invokevirtual 177, 3) := by decide +kernel
theorem dX4_dayOf_142 : decode cX4_dayOf 142 = .ok (.invokestatic 195, 3) := by decide +kernel
theorem dX4_dayOf_145 : decode cX4_dayOf 145 = .ok (.iadd, 1) := by decide +kernel
theorem dX4_dayOf_146 : decode cX4_dayOf 146 = .ok (.istore 5, 2) := by decide +kernel
theorem dX4_dayOf_148 : decode cX4_dayOf 148 = .ok (.iinc 6 1, 3) := by decide +kernel
theorem dX4_dayOf_151 : decode cX4_dayOf 151 = .ok (.goto (-26), 3) := by decide +kernel
theorem dX4_dayOf_154 : decode cX4_dayOf 154 = .ok (.iload_n 3, 1) := by decide +kernel
theorem dX4_dayOf_155 : decode cX4_dayOf 155 = .ok (.ifCond .ne 10, 3) := by decide +kernel
theorem dX4_dayOf_158 : decode cX4_dayOf 158 = .ok (.aload_n 0, 1) := by decide +kernel
theorem dX4_dayOf_159 : decode cX4_dayOf 159 = .ok (.invokevirtual 240, 3) := by decide +kernel
theorem dX4_dayOf_162 : decode cX4_dayOf 162 = .ok (.goto 31, 3) := by decide +kernel
theorem dX4_dayOf_165 : decode cX4_dayOf 165 = .ok (.iload_n 3, 1) := by decide +kernel
theorem dX4_dayOf_166 : decode cX4_dayOf 166 = .ok (.iconst 2, 1) := by decide +kernel
theorem dX4_dayOf_167 : decode cX4_dayOf 167 = .ok (.if_icmp .ne 12, 3) := by decide +kernel
theorem dX4_dayOf_170 : decode cX4_dayOf 170 = .ok (.aload_n 0, 1) := by decide +kernel
theorem dX4_dayOf_171 : decode cX4_dayOf 171 = .ok (.bipush 15, 2) := by decide +kernel
theorem dX4_dayOf_173 : decode cX4_dayOf 173 = .ok (.invokevirtual 210, 3) := by decide +kernel
theorem dX4_dayOf_176 : decode cX4_dayOf 176 = .ok (.goto 17, 3) := by decide +kernel
theorem dX4_dayOf_179 : decode cX4_dayOf 179 = .ok (.iload_n 3, 1) := by decide +kernel
theorem dX4_dayOf_180 : decode cX4_dayOf 180 = .ok (.iconst 3, 1) := by decide +kernel
theorem dX4_dayOf_181 : decode cX4_dayOf 181 = .ok (.if_icmp .ne 10, 3) := by decide +kernel
theorem dX4_dayOf_184 : decode cX4_dayOf 184 = .ok (.aload_n 0, 1) := by decide +kernel
theorem dX4_dayOf_185 : decode cX4_dayOf 185 = .ok (.invokevirtual 213, 3) := by decide +kernel
theorem dX4_dayOf_188 : decode cX4_dayOf 188 = .ok (.goto 5, 3) := by decide +kernel
theorem dX4_dayOf_191 : decode cX4_dayOf 191 = .ok (.iload 5, 2) := by decide +kernel
theorem dX4_dayOf_193 : decode cX4_dayOf 193 = .ok (.ireturn, 1) := by decide +kernel
theorem dX4_day_0 : decode cX4_day 0 = .ok (.iload_n 1, 1) := by decide +kernel
theorem dX4_day_1 : decode cX4_day 1 = .ok (.invokestatic 128, 3) := by decide +kernel
theorem dX4_day_4 : decode cX4_day 4 = .ok (.ifCond .eq 9, 3) := by decide +kernel
theorem dX4_day_7 : decode cX4_day 7 = .ok (.aload_n 0, 1) := by decide +kernel
theorem dX4_day_8 : decode cX4_day 8 = .ok (.iconst (-1), 1) := by decide +kernel
theorem dX4_day_9 : decode cX4_day 9 = .ok (.invokevirtual 132, 3) := by decide +kernel
theorem dX4_day_12 : decode cX4_day 12 = .ok (.ireturn, 1) := by decide +kernel
theorem dX4_day_13 : decode cX4_day 13 = .ok (.iload_n 2, 1) := by decide +kernel
theorem dX4_day_14 : decode cX4_day 14 = .ok (.i2l, 1) := by decide +kernel
theorem dX4_day_15 : decode cX4_day 15 = .ok (.lconst 0, 1) := by decide +kernel
theorem dX4_day_16 : decode cX4_day 16 = .ok (.ldc2_w 135, 3) := by decide +kernel
theorem dX4_day_19 : decode cX4_day 19 = .ok (.invokestatic 87, 3) := by decide +kernel
theorem dX4_day_22 : decode cX4_day 22 = .ok (.ifCond .eq 44, 3) := by decide +kernel
theorem dX4_day_25 : decode cX4_day 25 = .ok (.iload 4, 2) := by decide +kernel
theorem dX4_day_27 : decode cX4_day 27 = .ok (.i2l, 1) := by decide +kernel
theorem dX4_day_28 : decode cX4_day 28 = .ok (.lconst 0, 1) := by decide +kernel
theorem dX4_day_29 : decode cX4_day 29 = .ok (.ldc2_w 220, 3) := by decide +kernel
theorem dX4_day_32 : decode cX4_day 32 = .ok (.invokestatic 87, 3) := by decide +kernel
theorem dX4_day_35 : decode cX4_day 35 = .ok (.ifCond .eq 31, 3) := by decide +kernel
theorem dX4_day_38 : decode cX4_day 38 = .ok (.iload 5, 2) := by decide +kernel
theorem dX4_day_40 : decode cX4_day 40 = .ok (.i2l, 1) := by decide +kernel
theorem dX4_day_41 : decode cX4_day 41 = .ok (.lconst 0, 1) := by decide +kernel
theorem dX4_day_42 : decode cX4_day 42 = .ok (.ldc2_w 190, 3) := by decide +kernel
theorem dX4_day_45 : decode cX4_day 45 = .ok (.invokestatic 87, 3) := by decide +kernel
theorem dX4_day_48 : decode cX4_day 48 = .ok (.ifCond .ne 25, 3) := by decide +kernel
theorem dX4_day_51 : decode cX4_day 51 = .ok (.iload 5, 2) := by decide +kernel
theorem dX4_day_53 : decode cX4_day 53 = .ok (.i2l, 1) := by decide +kernel
theorem dX4_day_54 : decode cX4_day 54 = .ok (.ldc2_w 243, 3) := by decide +kernel
theorem dX4_day_57 : decode cX4_day 57 = .ok (.ldc2_w 245, 3) := by decide +kernel
theorem dX4_day_60 : decode cX4_day 60 = .ok (.invokestatic 87, 3) := by decide +kernel
theorem dX4_day_63 : decode cX4_day 63 = .ok (.ifCond .ne 10, 3) := by decide +kernel
theorem dX4_day_66 : decode cX4_day 66 = .ok (.aload_n 0, 1) := by decide +kernel
theorem dX4_day_67 : decode cX4_day 67 = .ok (.bipush (-2), 2) := by decide +kernel
theorem dX4_day_69 : decode cX4_day 69 = .ok (.invokevirtual 132, 3) := by decide +kernel
theorem dX4_day_72 : decode cX4_day 72 = .ok (.ireturn, 1) := by decide +kernel
theorem dX4_day_73 : decode cX4_day 73 = .ok (.aload_n 0, 1) := by decide +kernel
theorem dX4_day_74 : decode cX4_day 74 = .ok (.getfield 84, 3) := by decide +kernel
theorem dX4_day_77 : decode cX4_day 77 = .ok (.ifCond .ne 10, 3) := by decide +kernel
theorem dX4_day_80 : decode cX4_day 80 = .ok (.aload_n 0, 1) := by decide +kernel
theorem dX4_day_81 : decode cX4_day 81 = .ok (.bipush (-3), 2) := by decide +kernel
theorem dX4_day_83 : decode cX4_day 83 = .ok (.invokevirtual 132, 3) := by decide +kernel
theorem dX4_day_86 : decode cX4_day 86 = .ok (.ireturn, 1) := by decide +kernel
theorem dX4_day_87 : decode cX4_day 87 = .ok (.aload_n 0, 1) := by decide +kernel
theorem dX4_day_88 : decode cX4_day 88 = .ok (.iload_n 1, 1) := by decide +kernel
theorem dX4_day_89 : decode cX4_day 89 = .ok (.iload_n 2, 1) := by decide +kernel
theorem dX4_day_90 : decode cX4_day 90 = .ok (.iload_n 3, 1) := by decide +kernel
theorem dX4_day_91 : decode cX4_day 91 = .ok (.ldc2_w 135, 3) := by decide +kernel
theorem dX4_day_94 : decode cX4_day 94 = .ok (.iload 4, 2) := by decide +kernel
theorem dX4_day_96 : decode cX4_day 96 = .ok (.i2l, 1) := by decide +kernel
theorem dX4_day_97 : decode cX4_day 97 = .ok (.lmul, 1) := by decide +kernel
theorem dX4_day_98 : decode cX4_day 98 = .ok (.invokevirtual 137, 3) := by decide +kernel
theorem dX4_day_101 : decode cX4_day 101 = .ok (.istore 6, 2) := by decide +kernel
theorem dX4_day_103 : decode cX4_day 103 = .ok (.iload 6, 2) := by decide +kernel
theorem dX4_day_105 : decode cX4_day 105 = .ok (.ifCond .ge 6, 3) := by decide +kernel
theorem dX4_day_108 : decode cX4_day 108 = .ok (.iload 6, 2) := by decide +kernel
theorem dX4_day_110 : decode cX4_day 110 = .ok (.ireturn, 1) := by decide +kernel
theorem dX4_day_111 : decode cX4_day 111 = .ok (.bipush 60, 2) := by decide +kernel
theorem dX4_day_113 : decode cX4_day 113 = .ok (.iload_n 1, 1) := by decide +kernel
theorem dX4_day_114 : decode cX4_day 114 = .ok (.imul, 1) := by decide +kernel
theorem dX4_day_115 : decode cX4_day 115 = .ok (.iload_n 3, 1) := by decide +kernel
theorem dX4_day_116 : decode cX4_day 116 = .ok (.iadd, 1) := by decide +kernel
theorem dX4_day_117 : decode cX4_day 117 = .ok (.istore 7, 2) := by decide +kernel
theorem dX4_day_119 : decode cX4_day 119 = .ok (.iconst 0, 1) := by decide +kernel
theorem dX4_day_120 : decode cX4_day 120 = .ok (.istore 8, 2) := by decide +kernel
theorem dX4_day_122 : decode cX4_day 122 = .ok (.iload 8, 2) := by decide +kernel
theorem dX4_day_124 : decode cX4_day 124 = .ok (.iload 4, 2) := by decide +kernel
theorem dX4_day_126 : decode cX4_day 126 = .ok (.if_icmp .ge 48, 3) := by decide +kernel
theorem dX4_day_129 : decode cX4_day 129 = .ok (.aload_n 0, 1) := by decide +kernel
theorem dX4_day_130 : decode cX4_day 130 = .ok (.getfield 68, 3) := by decide +kernel
theorem dX4_day_133 : decode cX4_day 133 = .ok (.iload 7, 2) := by decide +kernel
theorem dX4_day_135 : decode cX4_day 135 = .ok (.iconst 2, 1) := by decide +kernel
theorem dX4_day_136 : decode cX4_day 136 = .ok (.iload 8, 2) := by decide +kernel
theorem dX4_day_138 : decode cX4_day 138 = .ok (.imul, 1) := by decide +kernel
theorem dX4_day_139 : decode cX4_day 139 = .ok (.iadd, 1) := by decide +kernel
theorem dX4_day_140 : decode cX4_day 140 = .ok (.iaload, 1) := by decide +kernel
theorem dX4_day_141 : decode cX4_day 141 = .ok (.aload_n 0, 1) := by decide +kernel
theorem dX4_day_142 : decode cX4_day 142 = .ok (.getfield 68, 3) := by decide +kernel
theorem dX4_day_145 : decode cX4_day 145 = .ok (.iload 7, 2) := by decide +kernel
theorem dX4_day_147 : decode cX4_day 147 = .ok (.iconst 2, 1) := by decide +kernel
theorem dX4_day_148 : decode cX4_day 148 = .ok (.iload 8, 2) := by decide +kernel
theorem dX4_day_150 : decode cX4_day 150 = .ok (.imul, 1) := by decide +kernel
theorem dX4_day_151 : decode cX4_day 151 = .ok (.iadd, 1) := by decide +kernel
theorem dX4_day_152 : decode cX4_day 152 = .ok (.iconst 1, 1) := by decide +kernel
theorem dX4_day_153 : decode cX4_day 153 = .ok (.iadd, 1) := by decide +kernel
theorem dX4_day_154 : decode cX4_day 154 = .ok (.iaload, 1) := by decide +kernel
theorem dX4_day_155 : decode cX4_day 155 = .ok (.invokestatic 247, 3) := by decide +kernel
theorem dX4_day_158 : decode cX4_day 158 = .ok (.ifCond .ne 10, 3) := by decide +kernel
theorem dX4_day_161 : decode cX4_day 161 = .ok (.aload_n 0, 1) := by decide +kernel
theorem dX4_day_162 : decode cX4_day 162 = .ok (.bipush (-2), 2) := by decide +kernel
theorem dX4_day_164 : decode cX4_day 164 = .ok (.invokevirtual 132, 3) := by decide +kernel
theorem dX4_day_167 : decode cX4_day 167 = .ok (.ireturn, 1) := by decide +kernel
theorem dX4_day_168 : decode cX4_day 168 = .ok (.iinc 8 1, 3) := by decide +kernel
theorem dX4_day_171 : decode cX4_day 171 = .ok (.goto (-49), 3) := by decide +kernel
theorem dX4_day_174 : decode cX4_day 174 = .ok (.aload_n 0, 1) := by decide +kernel
theorem dX4_day_175 : decode cX4_day 175 = .ok (.getfield 144, 3) := by decide +kernel
theorem dX4_day_178 : decode cX4_day 178 = .ok (.istore 8, 2) := by decide +kernel
theorem dX4_day_180 : decode cX4_day 180 = .ok (.iconst 0, 1) := by decide +kernel
theorem dX4_day_181 : decode cX4_day 181 = .ok (.istore 9, 2) := by decide +kernel
theorem dX4_day_183 : decode cX4_day 183 = .ok (.iload 9, 2) := by decide +kernel
theorem dX4_day_185 : decode cX4_day 185 = .ok (.aload_n 0, 1) := by decide +kernel
theorem dX4_day_186 : decode cX4_day 186 = .ok (.getfield 91, 3) := by decide +kernel
theorem dX4_day_189 : decode cX4_day 189 = .ok (.if_icmp .ge 23, 3) := by decide +kernel
theorem dX4_day_192 : decode cX4_day 192 = .ok (.aload_n 0, 1) := by decide +kernel
theorem dX4_day_193 : decode cX4_day 193 = .ok (.getfield 43, 3) := by decide +kernel
theorem dX4_day_196 : decode cX4_day 196 = .ok (.iload 9, 2) := by decide +kernel
theorem dX4_day_198 : decode cX4_day 198 = .ok (.aload_n 0, 1) := by decide +kernel
theorem dX4_day_199 : decode cX4_day 199 = .ok (.getfield 22, 3) := by decide +kernel
theorem dX4_day_202 : decode cX4_day 202 = .ok (.iload 9, 2) := by decide +kernel
theorem dX4_day_204 : decode cX4_day 204 = .ok (.iaload, 1) := by decide +kernel
theorem dX4_day_205 : decode cX4_day 205 = .ok (.iastore, 1) := by decide +kernel
theorem dX4_day_206 : decode cX4_day 206 = .ok (.iinc 9 1, 3) := by decide +kernel
theorem dX4_day_209 : decode cX4_day 209 = .ok (.goto (-26), 3) := by decide +kernel
theorem dX4_day_212 : decode cX4_day 212 = .ok (.iconst 0, 1) := by decide +kernel
theorem dX4_day_213 : decode cX4_day 213 = .ok (.istore 9, 2) := by decide +kernel
theorem dX4_day_215 : decode cX4_day 215 = .ok (.iload 9, 2) := by decide +kernel
theorem dX4_day_217 : decode cX4_day 217 = .ok (.aload_n 0, 1) := by decide +kernel
theorem dX4_day_218 : decode cX4_day 218 = .ok (.getfield 84, 3) := by decide +kernel
theorem dX4_day_221 : decode cX4_day 221 = .ok (.if_icmp .ge 23, 3) := by decide +kernel
theorem dX4_day_224 : decode cX4_day 224 = .ok (.aload_n 0, 1) := by decide +kernel
theorem dX4_day_225 : decode cX4_day 225 = .ok (.getfield 46, 3) := by decide +kernel
theorem dX4_day_228 : decode cX4_day 228 = .ok (.iload 9, 2) := by decide +kernel
theorem dX4_day_230 : decode cX4_day 230 = .ok (.aload_n 0, 1) := by decide +kernel
theorem dX4_day_231 : decode cX4_day 231 = .ok (.getfield 19, 3) := by decide +kernel
theorem dX4_day_234 : decode cX4_day 234 = .ok (.iload 9, 2) := by decide +kernel
theorem dX4_day_236 : decode cX4_day 236 = .ok (.iaload, 1) := by decide +kernel
theorem dX4_day_237 : decode cX4_day 237 = .ok (.iastore, 1) := by decide +kernel
theorem dX4_day_238 : decode cX4_day 238 = .ok (.iinc 9 1, 3) := by decide +kernel
theorem dX4_day_241 : decode cX4_day 241 = .ok (.goto (-26), 3) := by decide +kernel
theorem dX4_day_244 : decode cX4_day 244 = .ok (.aload_n 0, 1) := by decide +kernel
theorem dX4_day_245 : decode cX4_day 245 = .ok (.iload 7, 2) := by decide +kernel
theorem dX4_day_247 : decode cX4_day 247 = .ok (.iload 4, 2) := by decide +kernel
theorem dX4_day_249 : decode cX4_day 249 = .ok (.iload 5, 2) := by decide +kernel
theorem dX4_day_251 : decode cX4_day 251 = .ok (.invokevirtual 250, 3) := by decide +kernel
theorem dX4_day_254 : decode cX4_day 254 = .ok (.istore 9, 2) := by decide +kernel
theorem dX4_day_256 : decode cX4_day 256 = .ok (.aload_n 0, 1) := by decide +kernel
theorem dX4_day_257 : decode cX4_day 257 = .ok (.iload 8, 2) := by decide +kernel
theorem dX4_day_259 : decode cX4_day 259 = .ok (.putfield 144, 3) := by decide +kernel
theorem dX4_day_262 : decode cX4_day 262 = .ok (.iconst 0, 1) := by decide +kernel
theorem dX4_day_263 : decode cX4_day 263 = .ok (.istore 10, 2) := by decide +kernel
theorem dX4_day_265 : decode cX4_day 265 = .ok (.iload 10, 2) := by decide +kernel
theorem dX4_day_267 : decode cX4_day 267 = .ok (.aload_n 0, 1) := by decide +kernel
theorem dX4_day_268 : decode cX4_day 268 = .ok (.getfield 91, 3) := by decide +kernel
theorem dX4_day_271 : decode cX4_day 271 = .ok (.if_icmp .ge 23, 3) := by decide +kernel
theorem dX4_day_274 : decode cX4_day 274 = .ok (.aload_n 0, 1) := by decide +kernel
theorem dX4_day_275 : decode cX4_day 275 = .ok (.getfield 22, 3) := by decide +kernel
theorem dX4_day_278 : decode cX4_day 278 = .ok (.iload 10, 2) := by decide +kernel
theorem dX4_day_280 : decode cX4_day 280 = .ok (.aload_n 0, 1) := by decide +kernel
theorem dX4_day_281 : decode cX4_day 281 = .ok (.getfield 43, 3) := by decide +kernel
theorem dX4_day_284 : decode cX4_day 284 = .ok (.iload 10, 2) := by decide +kernel
theorem dX4_day_286 : decode cX4_day 286 = .ok (.iaload, 1) := by decide +kernel
theorem dX4_day_287 : decode cX4_day 287 = .ok (.iastore, 1) := by decide +kernel
theorem dX4_day_288 : decode cX4_day 288 = .ok (.iinc 10 1, 3) := by decide +kernel
theorem dX4_day_291 : decode cX4_day 291 = .ok (.goto (-26), 3) := by decide +kernel
theorem dX4_day_294 : decode cX4_day 294 = .ok (.iconst 0, 1) := by decide +kernel
theorem dX4_day_295 : decode cX4_day 295 = .ok (.istore 10, 2) := by decide +kernel
theorem dX4_day_297 : decode cX4_day 297 = .ok (.iload 10, 2) := by decide +kernel
theorem dX4_day_299 : decode cX4_day 299 = .ok (.aload_n 0, 1) := by decide +kernel
theorem dX4_day_300 : decode cX4_day 300 = .ok (.getfield 84, 3) := by decide +kernel
theorem dX4_day_303 : decode cX4_day 303 = .ok (.if_icmp .ge 23, 3) := by decide +kernel
theorem dX4_day_306 : decode cX4_day 306 = .ok (.aload_n 0, 1) := by decide +kernel
theorem dX4_day_307 : decode cX4_day 307 = .ok (.getfield 19, 3) := by decide +kernel
theorem dX4_day_310 : decode cX4_day 310 = .ok (.iload 10, 2) := by decide +kernel
theorem dX4_day_312 : decode cX4_day 312 = .ok (.aload_n 0, 1) := by decide +kernel
theorem dX4_day_313 : decode cX4_day 313 = .ok (.getfield 46, 3) := by decide +kernel
theorem dX4_day_316 : decode cX4_day 316 = .ok (.iload 10, 2) := by decide +kernel
theorem dX4_day_318 : decode cX4_day 318 = .ok (.iaload, 1) := by decide +kernel
theorem dX4_day_319 : decode cX4_day 319 = .ok (.iastore, 1) := by decide +kernel
theorem dX4_day_320 : decode cX4_day 320 = .ok (.iinc 10 1, 3) := by decide +kernel
theorem dX4_day_323 : decode cX4_day 323 = .ok (.goto (-26), 3) := by decide +kernel
theorem dX4_day_326 : decode cX4_day 326 = .ok (.aload_n 0, 1) := by decide +kernel
theorem dX4_day_327 : decode cX4_day 327 = .ok (.iload 9, 2) := by decide +kernel
theorem dX4_day_329 : decode cX4_day 329 = .ok (.invokevirtual 132, 3) := by decide +kernel
theorem dX4_day_332 : decode cX4_day 332 = .ok (.ireturn, 1) := by decide +kernel
theorem dX4_reading_0 : decode cX4_reading 0 = .ok (.aload_n 0, 1) := by decide +kernel
theorem dX4_reading_1 : decode cX4_reading 1 = .ok (.iload_n 2, 1) := by decide +kernel
theorem dX4_reading_2 : decode cX4_reading 2 = .ok (.invokevirtual 171, 3) := by decide +kernel
theorem dX4_reading_5 : decode cX4_reading 5 = .ok (.ifCond .eq 5, 3) := by decide +kernel
theorem dX4_reading_8 : decode cX4_reading 8 = .ok (.iconst (-1), 1) := by decide +kernel
theorem dX4_reading_9 : decode cX4_reading 9 = .ok (.ireturn, 1) := by decide +kernel
theorem dX4_reading_10 : decode cX4_reading 10 = .ok (.iload_n 1, 1) := by decide +kernel
theorem dX4_reading_11 : decode cX4_reading 11 = .ok (.i2l, 1) := by decide +kernel
theorem dX4_reading_12 : decode cX4_reading 12 = .ok (.lconst 0, 1) := by decide +kernel
theorem dX4_reading_13 : decode cX4_reading 13 = .ok (.ldc2_w 188, 3) := by decide +kernel
theorem dX4_reading_16 : decode cX4_reading 16 = .ok (.invokestatic 87, 3) := by decide +kernel
theorem dX4_reading_19 : decode cX4_reading 19 = .ok (.ifCond .eq 13, 3) := by decide +kernel
theorem dX4_reading_22 : decode cX4_reading 22 = .ok (.iload_n 3, 1) := by decide +kernel
theorem dX4_reading_23 : decode cX4_reading 23 = .ok (.i2l, 1) := by decide +kernel
theorem dX4_reading_24 : decode cX4_reading 24 = .ok (.lconst 0, 1) := by decide +kernel
theorem dX4_reading_25 : decode cX4_reading 25 = .ok (.lconst 1, 1) := by decide +kernel
theorem dX4_reading_26 : decode cX4_reading 26 = .ok (.invokestatic 87, 3) := by decide +kernel
theorem dX4_reading_29 : decode cX4_reading 29 = .ok (.ifCond .ne 6, 3) := by decide +kernel
theorem dX4_reading_32 : decode cX4_reading 32 = .ok (.bipush (-2), 2) := by decide +kernel
theorem dX4_reading_34 : decode cX4_reading 34 = .ok (.ireturn, 1) := by decide +kernel
theorem dX4_reading_35 : decode cX4_reading 35 = .ok (.aload_n 0, 1) := by decide +kernel
theorem dX4_reading_36 : decode cX4_reading 36 = .ok (.getfield 147, 3) := by decide +kernel
theorem dX4_reading_39 : decode cX4_reading 39 = .ok (.bipush 8, 2) := by decide +kernel
theorem dX4_reading_41 : decode cX4_reading 41 = .ok (.if_icmp .ne 6, 3) := by decide +kernel
theorem dX4_reading_44 : decode cX4_reading 44 = .ok (.bipush (-4), 2) := by decide +kernel
theorem dX4_reading_46 : decode cX4_reading 46 = .ok (.ireturn, 1) := by decide +kernel
theorem dX4_reading_47 : decode cX4_reading 47 = .ok (.aload_n 0, 1) := by decide +kernel
theorem dX4_reading_48 : decode cX4_reading 48 = .ok (.getfield 49, 3) := by decide +kernel
theorem dX4_reading_51 : decode cX4_reading 51 = .ok (.aload_n 0, 1) := by decide +kernel
theorem dX4_reading_52 : decode cX4_reading 52 = .ok (.getfield 147, 3) := by decide +kernel
theorem dX4_reading_55 : decode cX4_reading 55 = .ok (.iload_n 1, 1) := by decide +kernel
theorem dX4_reading_56 : decode cX4_reading 56 = .ok (.iastore, 1) := by decide +kernel
theorem dX4_reading_57 : decode cX4_reading 57 = .ok (.aload_n 0, 1) := by decide +kernel
theorem dX4_reading_58 : decode cX4_reading 58 = .ok (.getfield 52, 3) := by decide +kernel
theorem dX4_reading_61 : decode cX4_reading 61 = .ok (.aload_n 0, 1) := by decide +kernel
theorem dX4_reading_62 : decode cX4_reading 62 = .ok (.getfield 147, 3) := by decide +kernel
theorem dX4_reading_65 : decode cX4_reading 65 = .ok (.iload_n 2, 1) := by decide +kernel
theorem dX4_reading_66 : decode cX4_reading 66 = .ok (.iastore, 1) := by decide +kernel
theorem dX4_reading_67 : decode cX4_reading 67 = .ok (.aload_n 0, 1) := by decide +kernel
theorem dX4_reading_68 : decode cX4_reading 68 = .ok (.getfield 55, 3) := by decide +kernel
theorem dX4_reading_71 : decode cX4_reading 71 = .ok (.aload_n 0, 1) := by decide +kernel
theorem dX4_reading_72 : decode cX4_reading 72 = .ok (.getfield 147, 3) := by decide +kernel
theorem dX4_reading_75 : decode cX4_reading 75 = .ok (.iload_n 3, 1) := by decide +kernel
theorem dX4_reading_76 : decode cX4_reading 76 = .ok (.iastore, 1) := by decide +kernel
theorem dX4_reading_77 : decode cX4_reading 77 = .ok (.aload_n 0, 1) := by decide +kernel
theorem dX4_reading_78 : decode cX4_reading 78 = .ok (.dup, 1) := by decide +kernel
theorem dX4_reading_79 : decode cX4_reading 79 = .ok (.getfield 147, 3) := by decide +kernel
theorem dX4_reading_82 : decode cX4_reading 82 = .ok (.iconst 1, 1) := by decide +kernel
theorem dX4_reading_83 : decode cX4_reading 83 = .ok (.iadd, 1) := by decide +kernel
theorem dX4_reading_84 : decode cX4_reading 84 = .ok (.putfield 147, 3) := by decide +kernel
theorem dX4_reading_87 : decode cX4_reading 87 = .ok (.aload_n 0, 1) := by decide +kernel
theorem dX4_reading_88 : decode cX4_reading 88 = .ok (.getfield 147, 3) := by decide +kernel
theorem dX4_reading_91 : decode cX4_reading 91 = .ok (.iconst 1, 1) := by decide +kernel
theorem dX4_reading_92 : decode cX4_reading 92 = .ok (.isub, 1) := by decide +kernel
theorem dX4_reading_93 : decode cX4_reading 93 = .ok (.ireturn, 1) := by decide +kernel
theorem dX4_back_0 : decode cX4_back 0 = .ok (.iload_n 1, 1) := by decide +kernel
theorem dX4_back_1 : decode cX4_back 1 = .ok (.i2l, 1) := by decide +kernel
theorem dX4_back_2 : decode cX4_back 2 = .ok (.lconst 0, 1) := by decide +kernel
theorem dX4_back_3 : decode cX4_back 3 = .ok (.aload_n 0, 1) := by decide +kernel
theorem dX4_back_4 : decode cX4_back 4 = .ok (.getfield 147, 3) := by decide +kernel
theorem dX4_back_7 : decode cX4_back 7 = .ok (.i2l, 1) := by decide +kernel
theorem dX4_back_8 : decode cX4_back 8 = .ok (.invokestatic 87, 3) := by decide +kernel
theorem dX4_back_11 : decode cX4_back 11 = .ok (.ifCond .ne 6, 3) := by decide +kernel
theorem dX4_back_14 : decode cX4_back 14 = .ok (.bipush (-2), 2) := by decide +kernel
theorem dX4_back_16 : decode cX4_back 16 = .ok (.ireturn, 1) := by decide +kernel
theorem dX4_back_17 : decode cX4_back 17 = .ok (.aload_n 0, 1) := by decide +kernel
theorem dX4_back_18 : decode cX4_back 18 = .ok (.dup, 1) := by decide +kernel
theorem dX4_back_19 : decode cX4_back 19 = .ok (.getfield 147, 3) := by decide +kernel
theorem dX4_back_22 : decode cX4_back 22 = .ok (.iload_n 1, 1) := by decide +kernel
theorem dX4_back_23 : decode cX4_back 23 = .ok (.isub, 1) := by decide +kernel
theorem dX4_back_24 : decode cX4_back 24 = .ok (.putfield 147, 3) := by decide +kernel
theorem dX4_back_27 : decode cX4_back 27 = .ok (.aload_n 0, 1) := by decide +kernel
theorem dX4_back_28 : decode cX4_back 28 = .ok (.getfield 147, 3) := by decide +kernel
theorem dX4_back_31 : decode cX4_back 31 = .ok (.ireturn, 1) := by decide +kernel
theorem dX4_areSo_0 : decode cX4_areSo 0 = .ok (.aload_n 0, 1) := by decide +kernel
theorem dX4_areSo_1 : decode cX4_areSo 1 = .ok (.invokevirtual 162, 3) := by decide +kernel
theorem dX4_areSo_4 : decode cX4_areSo 4 = .ok (.iconst 1, 1) := by decide +kernel
theorem dX4_areSo_5 : decode cX4_areSo 5 = .ok (.istore_n 1, 1) := by decide +kernel
theorem dX4_areSo_6 : decode cX4_areSo 6 = .ok (.iconst 0, 1) := by decide +kernel
theorem dX4_areSo_7 : decode cX4_areSo 7 = .ok (.istore_n 2, 1) := by decide +kernel
theorem dX4_areSo_8 : decode cX4_areSo 8 = .ok (.iload_n 2, 1) := by decide +kernel
theorem dX4_areSo_9 : decode cX4_areSo 9 = .ok (.aload_n 0, 1) := by decide +kernel
theorem dX4_areSo_10 : decode cX4_areSo 10 = .ok (.getfield 147, 3) := by decide +kernel
theorem dX4_areSo_13 : decode cX4_areSo 13 = .ok (.if_icmp .ge 52, 3) := by decide +kernel
theorem dX4_areSo_16 : decode cX4_areSo 16 = .ok (.iload_n 1, 1) := by decide +kernel
theorem dX4_areSo_17 : decode cX4_areSo 17 = .ok (.ifCond .eq 40, 3) := by decide +kernel
theorem dX4_areSo_20 : decode cX4_areSo 20 = .ok (.aload_n 0, 1) := by decide +kernel
theorem dX4_areSo_21 : decode cX4_areSo 21 = .ok (.aload_n 0, 1) := by decide +kernel
theorem dX4_areSo_22 : decode cX4_areSo 22 = .ok (.getfield 52, 3) := by decide +kernel
theorem dX4_areSo_25 : decode cX4_areSo 25 = .ok (.iload_n 2, 1) := by decide +kernel
theorem dX4_areSo_26 : decode cX4_areSo 26 = .ok (.iaload, 1) := by decide +kernel
theorem dX4_areSo_27 : decode cX4_areSo 27 = .ok (.invokevirtual 153, 3) := by decide +kernel
theorem dX4_areSo_30 : decode cX4_areSo 30 = .ok (.aload_n 0, 1) := by decide +kernel
theorem dX4_areSo_31 : decode cX4_areSo 31 = .ok (.getfield 37, 3) := by decide +kernel
theorem dX4_areSo_34 : decode cX4_areSo 34 = .ok (.aload_n 0, 1) := by decide +kernel
theorem dX4_areSo_35 : decode cX4_areSo 35 = .ok (.getfield 49, 3) := by decide +kernel
theorem dX4_areSo_38 : decode cX4_areSo 38 = .ok (.iload_n 2, 1) := by decide +kernel
theorem dX4_areSo_39 : decode cX4_areSo 39 = .ok (.iaload, 1) := by decide +kernel
theorem dX4_areSo_40 : decode cX4_areSo 40 = .ok (.iaload, 1) := by decide +kernel
theorem dX4_areSo_41 : decode cX4_areSo 41 = .ok (.ishr, 1) := by decide +kernel
theorem dX4_areSo_42 : decode cX4_areSo 42 = .ok (.iconst 1, 1) := by decide +kernel
theorem dX4_areSo_43 : decode cX4_areSo 43 = .ok (.iand, 1) := by decide +kernel
theorem dX4_areSo_44 : decode cX4_areSo 44 = .ok (.aload_n 0, 1) := by decide +kernel
theorem dX4_areSo_45 : decode cX4_areSo 45 = .ok (.getfield 55, 3) := by decide +kernel
theorem dX4_areSo_48 : decode cX4_areSo 48 = .ok (.iload_n 2, 1) := by decide +kernel
theorem dX4_areSo_49 : decode cX4_areSo 49 = .ok (.iaload, 1) := by decide +kernel
theorem dX4_areSo_50 : decode cX4_areSo 50 = .ok (.if_icmp .ne 7, 3) := by decide +kernel
theorem dX4_areSo_53 : decode cX4_areSo 53 = .ok (.iconst 1, 1) := by decide +kernel
theorem dX4_areSo_54 : decode cX4_areSo 54 = .ok (.goto 4, 3) := by decide +kernel
theorem dX4_areSo_57 : decode cX4_areSo 57 = .ok (.iconst 0, 1) := by decide +kernel
theorem dX4_areSo_58 : decode cX4_areSo 58 = .ok (.istore_n 1, 1) := by decide +kernel
theorem dX4_areSo_59 : decode cX4_areSo 59 = .ok (.iinc 2 1, 3) := by decide +kernel
theorem dX4_areSo_62 : decode cX4_areSo 62 = .ok (.goto (-54), 3) := by decide +kernel
theorem dX4_areSo_65 : decode cX4_areSo 65 = .ok (.iload_n 1, 1) := by decide +kernel
theorem dX4_areSo_66 : decode cX4_areSo 66 = .ok (.ireturn, 1) := by decide +kernel
theorem dX4_kinds_0 : decode cX4_kinds 0 = .ok (.aload_n 0, 1) := by decide +kernel
theorem dX4_kinds_1 : decode cX4_kinds 1 = .ok (.iload_n 1, 1) := by decide +kernel
theorem dX4_kinds_2 : decode cX4_kinds 2 = .ok (.invokevirtual 168, 3) := by decide +kernel
theorem dX4_kinds_5 : decode cX4_kinds 5 = .ok (.ifCond .eq 5, 3) := by decide +kernel
theorem dX4_kinds_8 : decode cX4_kinds 8 = .ok (.iconst (-1), 1) := by decide +kernel
theorem dX4_kinds_9 : decode cX4_kinds 9 = .ok (.ireturn, 1) := by decide +kernel
theorem dX4_kinds_10 : decode cX4_kinds 10 = .ok (.aload_n 0, 1) := by decide +kernel
theorem dX4_kinds_11 : decode cX4_kinds 11 = .ok (.getfield 7, 3) := by decide +kernel
theorem dX4_kinds_14 : decode cX4_kinds 14 = .ok (.iload_n 1, 1) := by decide +kernel
theorem dX4_kinds_15 : decode cX4_kinds 15 = .ok (.iaload, 1) := by decide +kernel
theorem dX4_kinds_16 : decode cX4_kinds 16 = .ok (.istore_n 2, 1) := by decide +kernel
theorem dX4_kinds_17 : decode cX4_kinds 17 = .ok (.iconst 0, 1) := by decide +kernel
theorem dX4_kinds_18 : decode cX4_kinds 18 = .ok (.istore_n 3, 1) := by decide +kernel
theorem dX4_kinds_19 : decode cX4_kinds 19 = .ok (.iconst 0, 1) := by decide +kernel
theorem dX4_kinds_20 : decode cX4_kinds 20 = .ok (.istore 4, 2) := by decide +kernel
theorem dX4_kinds_22 : decode cX4_kinds 22 = .ok (.iload 4, 2) := by decide +kernel
theorem dX4_kinds_24 : decode cX4_kinds 24 = .ok (.iconst 3, 1) := by decide +kernel
theorem dX4_kinds_25 : decode cX4_kinds 25 = .ok (.if_icmp .ge 35, 3) := by decide +kernel
theorem dX4_kinds_28 : decode cX4_kinds 28 = .ok (.aload_n 0, 1) := by decide +kernel
theorem dX4_kinds_29 : decode cX4_kinds 29 = .ok (.getfield 7, 3) := by decide +kernel
theorem dX4_kinds_32 : decode cX4_kinds 32 = .ok (.iload_n 1, 1) := by decide +kernel
theorem dX4_kinds_33 : decode cX4_kinds 33 = .ok (.iload 4, 2) := by decide +kernel
theorem dX4_kinds_35 : decode cX4_kinds 35 = .ok (.iastore, 1) := by decide +kernel
theorem dX4_kinds_36 : decode cX4_kinds 36 = .ok (.iload_n 3, 1) := by decide +kernel
theorem dX4_kinds_37 : decode cX4_kinds 37 = .ok (.aload_n 0, 1) := by decide +kernel
theorem dX4_kinds_38 : decode cX4_kinds 38 = .ok (.invokevirtual 254, 3) := by decide +kernel
theorem dX4_kinds_41 : decode cX4_kinds 41 = .ok (.ifCond .eq 10, 3) := by decide +kernel
theorem dX4_kinds_44 : decode cX4_kinds 44 = .ok (.iconst 1, 1) := by decide +kernel
theorem dX4_kinds_45 : decode cX4_kinds 45 = .ok (.iload 4, 2) := by decide +kernel
theorem dX4_kinds_47 : decode cX4_kinds 47 = .ok (.ishl, 1) := by decide +kernel
theorem dX4_kinds_48 : decode cX4_kinds 48 = .ok (.goto 4, 3) := by decide +kernel
theorem dX4_kinds_51 : decode cX4_kinds 51 = .ok (.iconst 0, 1) := by decide +kernel
theorem dX4_kinds_52 : decode cX4_kinds 52 = .ok (.ior, 1) := by decide +kernel
theorem dX4_kinds_53 : decode cX4_kinds 53 = .ok (.istore_n 3, 1) := by decide +kernel
theorem dX4_kinds_54 : decode cX4_kinds 54 = .ok (.iinc 4 1, 3) := by decide +kernel
theorem dX4_kinds_57 : decode cX4_kinds 57 = .ok (.goto (-35), 3) := by decide +kernel
theorem dX4_kinds_60 : decode cX4_kinds 60 = .ok (.aload_n 0, 1) := by decide +kernel
theorem dX4_kinds_61 : decode cX4_kinds 61 = .ok (.getfield 7, 3) := by decide +kernel
theorem dX4_kinds_64 : decode cX4_kinds 64 = .ok (.iload_n 1, 1) := by decide +kernel
theorem dX4_kinds_65 : decode cX4_kinds 65 = .ok (.iload_n 2, 1) := by decide +kernel
theorem dX4_kinds_66 : decode cX4_kinds 66 = .ok (.iastore, 1) := by decide +kernel
theorem dX4_kinds_67 : decode cX4_kinds 67 = .ok (.iload_n 3, 1) := by decide +kernel
theorem dX4_kinds_68 : decode cX4_kinds 68 = .ok (.ireturn, 1) := by decide +kernel
theorem dX4_levels_0 : decode cX4_levels 0 = .ok (.aload_n 0, 1) := by decide +kernel
theorem dX4_levels_1 : decode cX4_levels 1 = .ok (.iload_n 1, 1) := by decide +kernel
theorem dX4_levels_2 : decode cX4_levels 2 = .ok (.invokevirtual 171, 3) := by decide +kernel
theorem dX4_levels_5 : decode cX4_levels 5 = .ok (.ifCond .eq 5, 3) := by decide +kernel
theorem dX4_levels_8 : decode cX4_levels 8 = .ok (.iconst (-1), 1) := by decide +kernel
theorem dX4_levels_9 : decode cX4_levels 9 = .ok (.ireturn, 1) := by decide +kernel
theorem dX4_levels_10 : decode cX4_levels 10 = .ok (.aload_n 0, 1) := by decide +kernel
theorem dX4_levels_11 : decode cX4_levels 11 = .ok (.getfield 22, 3) := by decide +kernel
theorem dX4_levels_14 : decode cX4_levels 14 = .ok (.iload_n 1, 1) := by decide +kernel
theorem dX4_levels_15 : decode cX4_levels 15 = .ok (.iaload, 1) := by decide +kernel
theorem dX4_levels_16 : decode cX4_levels 16 = .ok (.istore_n 2, 1) := by decide +kernel
theorem dX4_levels_17 : decode cX4_levels 17 = .ok (.iconst 0, 1) := by decide +kernel
theorem dX4_levels_18 : decode cX4_levels 18 = .ok (.istore_n 3, 1) := by decide +kernel
theorem dX4_levels_19 : decode cX4_levels 19 = .ok (.iconst 0, 1) := by decide +kernel
theorem dX4_levels_20 : decode cX4_levels 20 = .ok (.istore 4, 2) := by decide +kernel
theorem dX4_levels_22 : decode cX4_levels 22 = .ok (.iload 4, 2) := by decide +kernel
theorem dX4_levels_24 : decode cX4_levels 24 = .ok (.bipush 9, 2) := by decide +kernel
theorem dX4_levels_26 : decode cX4_levels 26 = .ok (.if_icmp .gt 35, 3) := by decide +kernel
theorem dX4_levels_29 : decode cX4_levels 29 = .ok (.aload_n 0, 1) := by decide +kernel
theorem dX4_levels_30 : decode cX4_levels 30 = .ok (.getfield 22, 3) := by decide +kernel
theorem dX4_levels_33 : decode cX4_levels 33 = .ok (.iload_n 1, 1) := by decide +kernel
theorem dX4_levels_34 : decode cX4_levels 34 = .ok (.iload 4, 2) := by decide +kernel
theorem dX4_levels_36 : decode cX4_levels 36 = .ok (.iastore, 1) := by decide +kernel
theorem dX4_levels_37 : decode cX4_levels 37 = .ok (.iload_n 3, 1) := by decide +kernel
theorem dX4_levels_38 : decode cX4_levels 38 = .ok (.aload_n 0, 1) := by decide +kernel
theorem dX4_levels_39 : decode cX4_levels 39 = .ok (.invokevirtual 254, 3) := by decide +kernel
theorem dX4_levels_42 : decode cX4_levels 42 = .ok (.ifCond .eq 10, 3) := by decide +kernel
theorem dX4_levels_45 : decode cX4_levels 45 = .ok (.iconst 1, 1) := by decide +kernel
theorem dX4_levels_46 : decode cX4_levels 46 = .ok (.iload 4, 2) := by decide +kernel
theorem dX4_levels_48 : decode cX4_levels 48 = .ok (.ishl, 1) := by decide +kernel
theorem dX4_levels_49 : decode cX4_levels 49 = .ok (.goto 4, 3) := by decide +kernel
theorem dX4_levels_52 : decode cX4_levels 52 = .ok (.iconst 0, 1) := by decide +kernel
theorem dX4_levels_53 : decode cX4_levels 53 = .ok (.ior, 1) := by decide +kernel
theorem dX4_levels_54 : decode cX4_levels 54 = .ok (.istore_n 3, 1) := by decide +kernel
theorem dX4_levels_55 : decode cX4_levels 55 = .ok (.iinc 4 1, 3) := by decide +kernel
theorem dX4_levels_58 : decode cX4_levels 58 = .ok (.goto (-36), 3) := by decide +kernel
theorem dX4_levels_61 : decode cX4_levels 61 = .ok (.aload_n 0, 1) := by decide +kernel
theorem dX4_levels_62 : decode cX4_levels 62 = .ok (.getfield 22, 3) := by decide +kernel
theorem dX4_levels_65 : decode cX4_levels 65 = .ok (.iload_n 1, 1) := by decide +kernel
theorem dX4_levels_66 : decode cX4_levels 66 = .ok (.iload_n 2, 1) := by decide +kernel
theorem dX4_levels_67 : decode cX4_levels 67 = .ok (.iastore, 1) := by decide +kernel
theorem dX4_levels_68 : decode cX4_levels 68 = .ok (.iload_n 3, 1) := by decide +kernel
theorem dX4_levels_69 : decode cX4_levels 69 = .ok (.ireturn, 1) := by decide +kernel
theorem dX4_cuts_0 : decode cX4_cuts 0 = .ok (.aload_n 0, 1) := by decide +kernel
theorem dX4_cuts_1 : decode cX4_cuts 1 = .ok (.getfield 84, 3) := by decide +kernel
theorem dX4_cuts_4 : decode cX4_cuts 4 = .ok (.ifCond .ne 6, 3) := by decide +kernel
theorem dX4_cuts_7 : decode cX4_cuts 7 = .ok (.bipush (-3), 2) := by decide +kernel
theorem dX4_cuts_9 : decode cX4_cuts 9 = .ok (.ireturn, 1) := by decide +kernel
theorem dX4_cuts_10 : decode cX4_cuts 10 = .ok (.aload_n 0, 1) := by decide +kernel
theorem dX4_cuts_11 : decode cX4_cuts 11 = .ok (.getfield 144, 3) := by decide +kernel
theorem dX4_cuts_14 : decode cX4_cuts 14 = .ok (.istore_n 1, 1) := by decide +kernel
theorem dX4_cuts_15 : decode cX4_cuts 15 = .ok (.iconst 0, 1) := by decide +kernel
theorem dX4_cuts_16 : decode cX4_cuts 16 = .ok (.istore_n 2, 1) := by decide +kernel
theorem dX4_cuts_17 : decode cX4_cuts 17 = .ok (.iconst 1, 1) := by decide +kernel
theorem dX4_cuts_18 : decode cX4_cuts 18 = .ok (.istore_n 3, 1) := by decide +kernel
theorem dX4_cuts_19 : decode cX4_cuts 19 = .ok (.iload_n 3, 1) := by decide +kernel
theorem dX4_cuts_20 : decode cX4_cuts 20 = .ok (.bipush 8, 2) := by decide +kernel
theorem dX4_cuts_22 : decode cX4_cuts 22 = .ok (.if_icmp .gt 31, 3) := by decide +kernel
theorem dX4_cuts_25 : decode cX4_cuts 25 = .ok (.aload_n 0, 1) := by decide +kernel
theorem dX4_cuts_26 : decode cX4_cuts 26 = .ok (.iload_n 3, 1) := by decide +kernel
theorem dX4_cuts_27 : decode cX4_cuts 27 = .ok (.putfield 144, 3) := by decide +kernel
theorem dX4_cuts_30 : decode cX4_cuts 30 = .ok (.iload_n 2, 1) := by decide +kernel
theorem dX4_cuts_31 : decode cX4_cuts 31 = .ok (.aload_n 0, 1) := by decide +kernel
theorem dX4_cuts_32 : decode cX4_cuts 32 = .ok (.invokevirtual 254, 3) := by decide +kernel
theorem dX4_cuts_35 : decode cX4_cuts 35 = .ok (.ifCond .eq 9, 3) := by decide +kernel
theorem dX4_cuts_38 : decode cX4_cuts 38 = .ok (.iconst 1, 1) := by decide +kernel
theorem dX4_cuts_39 : decode cX4_cuts 39 = .ok (.iload_n 3, 1) := by decide +kernel
theorem dX4_cuts_40 : decode cX4_cuts 40 = .ok (.ishl, 1) := by decide +kernel
theorem dX4_cuts_41 : decode cX4_cuts 41 = .ok (.goto 4, 3) := by decide +kernel
theorem dX4_cuts_44 : decode cX4_cuts 44 = .ok (.iconst 0, 1) := by decide +kernel
theorem dX4_cuts_45 : decode cX4_cuts 45 = .ok (.ior, 1) := by decide +kernel
theorem dX4_cuts_46 : decode cX4_cuts 46 = .ok (.istore_n 2, 1) := by decide +kernel
theorem dX4_cuts_47 : decode cX4_cuts 47 = .ok (.iinc 3 1, 3) := by decide +kernel
theorem dX4_cuts_50 : decode cX4_cuts 50 = .ok (.goto (-31), 3) := by decide +kernel
theorem dX4_cuts_53 : decode cX4_cuts 53 = .ok (.aload_n 0, 1) := by decide +kernel
theorem dX4_cuts_54 : decode cX4_cuts 54 = .ok (.iload_n 1, 1) := by decide +kernel
theorem dX4_cuts_55 : decode cX4_cuts 55 = .ok (.putfield 144, 3) := by decide +kernel
theorem dX4_cuts_58 : decode cX4_cuts 58 = .ok (.iload_n 2, 1) := by decide +kernel
theorem dX4_cuts_59 : decode cX4_cuts 59 = .ok (.ireturn, 1) := by decide +kernel
theorem dX4_addsLamp_0 : decode cX4_addsLamp 0 = .ok (.bipush 16, 2) := by decide +kernel
theorem dX4_addsLamp_2 : decode cX4_addsLamp 2 = .ok (.istore_n 2, 1) := by decide +kernel
theorem dX4_addsLamp_3 : decode cX4_addsLamp 3 = .ok (.iload_n 2, 1) := by decide +kernel
theorem dX4_addsLamp_4 : decode cX4_addsLamp 4 = .ok (.ifCond .lt 49, 3) := by decide +kernel
theorem dX4_addsLamp_7 : decode cX4_addsLamp 7 = .ok (.iload_n 2, 1) := by decide +kernel
theorem dX4_addsLamp_8 : decode cX4_addsLamp 8 = .ok (.ifCond .le 17, 3) := by decide +kernel
theorem dX4_addsLamp_11 : decode cX4_addsLamp 11 = .ok (.aload_n 0, 1) := by decide +kernel
theorem dX4_addsLamp_12 : decode cX4_addsLamp 12 = .ok (.getfield 58, 3) := by decide +kernel
theorem dX4_addsLamp_15 : decode cX4_addsLamp 15 = .ok (.iload_n 2, 1) := by decide +kernel
theorem dX4_addsLamp_16 : decode cX4_addsLamp 16 = .ok (.iconst 1, 1) := by decide +kernel
theorem dX4_addsLamp_17 : decode cX4_addsLamp 17 = .ok (.isub, 1) := by decide +kernel
theorem dX4_addsLamp_18 : decode cX4_addsLamp 18 = .ok (.laload, 1) := by decide +kernel
theorem dX4_addsLamp_19 : decode cX4_addsLamp 19 = .ok (.iload_n 1, 1) := by decide +kernel
theorem dX4_addsLamp_20 : decode cX4_addsLamp 20 = .ok (.i2l, 1) := by decide +kernel
theorem dX4_addsLamp_21 : decode cX4_addsLamp 21 = .ok (.lmul, 1) := by decide +kernel
theorem dX4_addsLamp_22 : decode cX4_addsLamp 22 = .ok (.goto 4, 3) := by decide +kernel
theorem dX4_addsLamp_25 : decode cX4_addsLamp 25 = .ok (.lconst 0, 1) := by decide +kernel
theorem dX4_addsLamp_26 : decode cX4_addsLamp 26 = .ok (.lstore_n 3, 1) := by decide +kernel
theorem dX4_addsLamp_27 : decode cX4_addsLamp 27 = .ok (.aload_n 0, 1) := by decide +kernel
theorem dX4_addsLamp_28 : decode cX4_addsLamp 28 = .ok (.getfield 58, 3) := by decide +kernel
theorem dX4_addsLamp_31 : decode cX4_addsLamp 31 = .ok (.iload_n 2, 1) := by decide +kernel
theorem dX4_addsLamp_32 : decode cX4_addsLamp 32 = .ok (.aload_n 0, 1) := by decide +kernel
theorem dX4_addsLamp_33 : decode cX4_addsLamp 33 = .ok (.getfield 58, 3) := by decide +kernel
theorem dX4_addsLamp_36 : decode cX4_addsLamp 36 = .ok (.iload_n 2, 1) := by decide +kernel
theorem dX4_addsLamp_37 : decode cX4_addsLamp 37 = .ok (.laload, 1) := by decide +kernel
theorem dX4_addsLamp_38 : decode cX4_addsLamp 38 = .ok (.bipush 10, 2) := by decide +kernel
theorem dX4_addsLamp_40 : decode cX4_addsLamp 40 = .ok (.iload_n 1, 1) := by decide +kernel
theorem dX4_addsLamp_41 : decode cX4_addsLamp 41 = .ok (.isub, 1) := by decide +kernel
theorem dX4_addsLamp_42 : decode cX4_addsLamp 42 = .ok (.i2l, 1) := by decide +kernel
theorem dX4_addsLamp_43 : decode cX4_addsLamp 43 = .ok (.lmul, 1) := by decide +kernel
theorem dX4_addsLamp_44 : decode cX4_addsLamp 44 = .ok (.lload_n 3, 1) := by decide +kernel
theorem dX4_addsLamp_45 : decode cX4_addsLamp 45 = .ok (.ladd, 1) := by decide +kernel
theorem dX4_addsLamp_46 : decode cX4_addsLamp 46 = .ok (.lastore, 1) := by decide +kernel
theorem dX4_addsLamp_47 : decode cX4_addsLamp 47 = .ok (.iinc 2 (-1), 3) := by decide +kernel
theorem dX4_addsLamp_50 : decode cX4_addsLamp 50 = .ok (.goto (-47), 3) := by decide +kernel
theorem dX4_addsLamp_53 : decode cX4_addsLamp 53 = .ok (.return_, 1) := by decide +kernel
theorem dX4_levelsLit_0 : decode cX4_levelsLit 0 = .ok (.iconst 0, 1) := by decide +kernel
theorem dX4_levelsLit_1 : decode cX4_levelsLit 1 = .ok (.istore_n 2, 1) := by decide +kernel
theorem dX4_levelsLit_2 : decode cX4_levelsLit 2 = .ok (.iconst 0, 1) := by decide +kernel
theorem dX4_levelsLit_3 : decode cX4_levelsLit 3 = .ok (.istore_n 3, 1) := by decide +kernel
theorem dX4_levelsLit_4 : decode cX4_levelsLit 4 = .ok (.iload_n 3, 1) := by decide +kernel
theorem dX4_levelsLit_5 : decode cX4_levelsLit 5 = .ok (.bipush 9, 2) := by decide +kernel
theorem dX4_levelsLit_7 : decode cX4_levelsLit 7 = .ok (.if_icmp .gt 21, 3) := by decide +kernel
theorem dX4_levelsLit_10 : decode cX4_levelsLit 10 = .ok (.iload_n 2, 1) := by decide +kernel
theorem dX4_levelsLit_11 : decode cX4_levelsLit 11 = .ok (.iload_n 0, 1) := by decide +kernel
theorem dX4_levelsLit_12 : decode cX4_levelsLit 12 = .ok (.iload_n 3, 1) := by decide +kernel
theorem dX4_levelsLit_13 : decode cX4_levelsLit 13 = .ok (.invokestatic 150, 3) := by decide +kernel
theorem dX4_levelsLit_16 : decode cX4_levelsLit 16 = .ok (.iload_n 1, 1) := by decide +kernel
theorem dX4_levelsLit_17 : decode cX4_levelsLit 17 = .ok (.ishr, 1) := by decide +kernel
theorem dX4_levelsLit_18 : decode cX4_levelsLit 18 = .ok (.iconst 1, 1) := by decide +kernel
theorem dX4_levelsLit_19 : decode cX4_levelsLit 19 = .ok (.iand, 1) := by decide +kernel
theorem dX4_levelsLit_20 : decode cX4_levelsLit 20 = .ok (.iadd, 1) := by decide +kernel
theorem dX4_levelsLit_21 : decode cX4_levelsLit 21 = .ok (.istore_n 2, 1) := by decide +kernel
theorem dX4_levelsLit_22 : decode cX4_levelsLit 22 = .ok (.iinc 3 1, 3) := by decide +kernel
theorem dX4_levelsLit_25 : decode cX4_levelsLit 25 = .ok (.goto (-21), 3) := by decide +kernel
theorem dX4_levelsLit_28 : decode cX4_levelsLit 28 = .ok (.iload_n 2, 1) := by decide +kernel
theorem dX4_levelsLit_29 : decode cX4_levelsLit 29 = .ok (.ireturn, 1) := by decide +kernel
theorem dX4_odds_0 : decode cX4_odds 0 = .ok (.iload_n 1, 1) := by decide +kernel
theorem dX4_odds_1 : decode cX4_odds 1 = .ok (.i2l, 1) := by decide +kernel
theorem dX4_odds_2 : decode cX4_odds 2 = .ok (.lconst 0, 1) := by decide +kernel
theorem dX4_odds_3 : decode cX4_odds 3 = .ok (.ldc2_w 188, 3) := by decide +kernel
theorem dX4_odds_6 : decode cX4_odds 6 = .ok (.invokestatic 87, 3) := by decide +kernel
theorem dX4_odds_9 : decode cX4_odds 9 = .ok (.ifCond .eq 32, 3) := by decide +kernel
theorem dX4_odds_12 : decode cX4_odds 12 = .ok (.iload_n 2, 1) := by decide +kernel
theorem dX4_odds_13 : decode cX4_odds 13 = .ok (.i2l, 1) := by decide +kernel
theorem dX4_odds_14 : decode cX4_odds 14 = .ok (.lconst 0, 1) := by decide +kernel
theorem dX4_odds_15 : decode cX4_odds 15 = .ok (.ldc2_w 208, 3) := by decide +kernel
theorem dX4_odds_18 : decode cX4_odds 18 = .ok (.invokestatic 87, 3) := by decide +kernel
theorem dX4_odds_21 : decode cX4_odds 21 = .ok (.ifCond .eq 20, 3) := by decide +kernel
theorem dX4_odds_24 : decode cX4_odds 24 = .ok (.iload_n 3, 1) := by decide +kernel
theorem dX4_odds_25 : decode cX4_odds 25 = .ok (.i2l, 1) := by decide +kernel
theorem dX4_odds_26 : decode cX4_odds 26 = .ok (.lconst 0, 1) := by decide +kernel
theorem dX4_odds_27 : decode cX4_odds 27 = .ok (.lconst 1, 1) := by decide +kernel
theorem dX4_odds_28 : decode cX4_odds 28 = .ok (.invokestatic 87, 3) := by decide +kernel
theorem dX4_odds_31 : decode cX4_odds 31 = .ok (.ifCond .eq 10, 3) := by decide +kernel
theorem dX4_odds_34 : decode cX4_odds 34 = .ok (.aload_n 0, 1) := by decide +kernel
theorem dX4_odds_35 : decode cX4_odds 35 = .ok (.getfield 84, 3) := by decide +kernel
theorem dX4_odds_38 : decode cX4_odds 38 = .ok (.ifCond .ne 7, 3) := by decide +kernel
theorem dX4_odds_41 : decode cX4_odds 41 = .ok (.invokestatic 80, 3) := by decide +kernel
theorem dX4_odds_44 : decode cX4_odds 44 = .ok (.lreturn, 1) := by decide +kernel
theorem dX4_odds_45 : decode cX4_odds 45 = .ok (.aload_n 0, 1) := by decide +kernel
theorem dX4_odds_46 : decode cX4_odds 46 = .ok (.invokevirtual 162, 3) := by decide +kernel
theorem dX4_odds_49 : decode cX4_odds 49 = .ok (.iconst 0, 1) := by decide +kernel
theorem dX4_odds_50 : decode cX4_odds 50 = .ok (.istore 4, 2) := by decide +kernel
theorem dX4_odds_52 : decode cX4_odds 52 = .ok (.iload 4, 2) := by decide +kernel
theorem dX4_odds_54 : decode cX4_odds 54 = .ok (.bipush 17, 2) := by decide +kernel
theorem dX4_odds_56 : decode cX4_odds 56 = .ok (.if_icmp .ge 26, 3) := by decide +kernel
theorem dX4_odds_59 : decode cX4_odds 59 = .ok (.aload_n 0, 1) := by decide +kernel
theorem dX4_odds_60 : decode cX4_odds 60 = .ok (.getfield 58, 3) := by decide +kernel
theorem dX4_odds_63 : decode cX4_odds 63 = .ok (.iload 4, 2) := by decide +kernel
theorem dX4_odds_65 : decode cX4_odds 65 = .ok (.iload 4, 2) := by decide +kernel
theorem dX4_odds_67 : decode cX4_odds 67 = .ok (.ifCond .ne 7, 3) := by decide +kernel
theorem dX4_odds_70 : decode cX4_odds 70 = .ok (.lconst 1, 1) := by decide +kernel
theorem dX4_odds_71 : decode cX4_odds 71 = .ok (.goto 4, 3) := by decide +kernel
theorem dX4_odds_74 : decode cX4_odds 74 = .ok (.lconst 0, 1) := by decide +kernel
theorem dX4_odds_75 : decode cX4_odds 75 = .ok (.lastore, 1) := by decide +kernel
theorem dX4_odds_76 : decode cX4_odds 76 = .ok (.iinc 4 1, 3) := by decide +kernel
theorem dX4_odds_79 : decode cX4_odds 79 = .ok (.goto (-27), 3) := by decide +kernel
theorem dX4_odds_82 : decode cX4_odds 82 = .ok (.lconst 1, 1) := by decide +kernel
theorem dX4_odds_83 : decode cX4_odds 83 = .ok (.lstore 4, 2) := by decide +kernel
theorem dX4_odds_85 : decode cX4_odds 85 = .ok (.iconst 0, 1) := by decide +kernel
theorem dX4_odds_86 : decode cX4_odds 86 = .ok (.istore 6, 2) := by decide +kernel
theorem dX4_odds_88 : decode cX4_odds 88 = .ok (.iload 6, 2) := by decide +kernel
theorem dX4_odds_90 : decode cX4_odds 90 = .ok (.aload_n 0, 1) := by decide +kernel
theorem dX4_odds_91 : decode cX4_odds 91 = .ok (.getfield 91, 3) := by decide +kernel
theorem dX4_odds_94 : decode cX4_odds 94 = .ok (.if_icmp .ge 56, 3) := by decide +kernel
theorem dX4_odds_97 : decode cX4_odds 97 = .ok (.aload_n 0, 1) := by decide +kernel
theorem dX4_odds_98 : decode cX4_odds 98 = .ok (.getfield 25, 3) := by decide +kernel
theorem dX4_odds_101 : decode cX4_odds 101 = .ok (.iload 6, 2) := by decide +kernel
theorem dX4_odds_103 : decode cX4_odds 103 = .ok (.iaload, 1) := by decide +kernel
theorem dX4_odds_104 : decode cX4_odds 104 = .ok (.istore 7, 2) := by decide +kernel
theorem dX4_odds_106 : decode cX4_odds 106 = .ok (.aload_n 0, 1) := by decide +kernel
theorem dX4_odds_107 : decode cX4_odds 107 = .ok (.getfield 19, 3) := by decide +kernel
theorem dX4_odds_110 : decode cX4_odds 110 = .ok (.iload 7, 2) := by decide +kernel
theorem dX4_odds_112 : decode cX4_odds 112 = .ok (.iaload, 1) := by decide +kernel
theorem dX4_odds_113 : decode cX4_odds 113 = .ok (.ifCond .ne 31, 3) := by decide +kernel
theorem dX4_odds_116 : decode cX4_odds 116 = .ok (.aload_n 0, 1) := by decide +kernel
theorem dX4_odds_117 : decode cX4_odds 117 = .ok (.aload_n 0, 1) := by decide +kernel
theorem dX4_odds_118 : decode cX4_odds 118 = .ok (.getfield 7, 3) := by decide +kernel
theorem dX4_odds_121 : decode cX4_odds 121 = .ok (.iload 7, 2) := by decide +kernel
theorem dX4_odds_123 : decode cX4_odds 123 = .ok (.iaload, 1) := by decide +kernel
theorem dX4_odds_124 : decode cX4_odds 124 = .ok (.aload_n 0, 1) := by decide +kernel
theorem dX4_odds_125 : decode cX4_odds 125 = .ok (.getfield 37, 3) := by decide +kernel
theorem dX4_odds_128 : decode cX4_odds 128 = .ok (.iload_n 1, 1) := by decide +kernel
theorem dX4_odds_129 : decode cX4_odds 129 = .ok (.iaload, 1) := by decide +kernel
theorem dX4_odds_130 : decode cX4_odds 130 = .ok (.invokestatic 258, 3) := by decide +kernel
theorem dX4_odds_133 : decode cX4_odds 133 = .ok (.invokevirtual 261, 3) := by decide +kernel
theorem dX4_odds_136 : decode cX4_odds 136 = .ok (.lload 4, 2) := by decide +kernel
theorem dX4_odds_138 : decode cX4_odds 138 = .ok (.ldc2_w 243, 3) := by decide +kernel
theorem dX4_odds_141 : decode cX4_odds 141 = .ok (.lmul, 1) := by decide +kernel
theorem dX4_odds_142 : decode cX4_odds 142 = .ok (.lstore 4, 2) := by decide +kernel
theorem dX4_odds_144 : decode cX4_odds 144 = .ok (.iinc 6 1, 3) := by decide +kernel
theorem dX4_odds_147 : decode cX4_odds 147 = .ok (.goto (-59), 3) := by decide +kernel
theorem dX4_odds_150 : decode cX4_odds 150 = .ok (.lconst 0, 1) := by decide +kernel
theorem dX4_odds_151 : decode cX4_odds 151 = .ok (.lstore 6, 2) := by decide +kernel
theorem dX4_odds_153 : decode cX4_odds 153 = .ok (.iload_n 2, 1) := by decide +kernel
theorem dX4_odds_154 : decode cX4_odds 154 = .ok (.istore 8, 2) := by decide +kernel
theorem dX4_odds_156 : decode cX4_odds 156 = .ok (.iload 8, 2) := by decide +kernel
theorem dX4_odds_158 : decode cX4_odds 158 = .ok (.bipush 17, 2) := by decide +kernel
theorem dX4_odds_160 : decode cX4_odds 160 = .ok (.if_icmp .ge 21, 3) := by decide +kernel
theorem dX4_odds_163 : decode cX4_odds 163 = .ok (.lload 6, 2) := by decide +kernel
theorem dX4_odds_165 : decode cX4_odds 165 = .ok (.aload_n 0, 1) := by decide +kernel
theorem dX4_odds_166 : decode cX4_odds 166 = .ok (.getfield 58, 3) := by decide +kernel
theorem dX4_odds_169 : decode cX4_odds 169 = .ok (.iload 8, 2) := by decide +kernel
theorem dX4_odds_171 : decode cX4_odds 171 = .ok (.laload, 1) := by decide +kernel
theorem dX4_odds_172 : decode cX4_odds 172 = .ok (.ladd, 1) := by decide +kernel
theorem dX4_odds_173 : decode cX4_odds 173 = .ok (.lstore 6, 2) := by decide +kernel
theorem dX4_odds_175 : decode cX4_odds 175 = .ok (.iinc 8 1, 3) := by decide +kernel
theorem dX4_odds_178 : decode cX4_odds 178 = .ok (.goto (-22), 3) := by decide +kernel
theorem dX4_odds_181 : decode cX4_odds 181 = .ok (.lload 6, 2) := by decide +kernel
theorem dX4_odds_183 : decode cX4_odds 183 = .ok (.lload 4, 2) := by decide +kernel
theorem dX4_odds_185 : decode cX4_odds 185 = .ok (.iload_n 3, 1) := by decide +kernel
theorem dX4_odds_186 : decode cX4_odds 186 = .ok (.invokestatic 265, 3) := by decide +kernel
theorem dX4_odds_189 : decode cX4_odds 189 = .ok (.lreturn, 1) := by decide +kernel
theorem dX4_noSheet_0 : decode cX4_noSheet 0 = .ok (.iload_n 0, 1) := by decide +kernel
theorem dX4_noSheet_1 : decode cX4_noSheet 1 = .ok (.i2l, 1) := by decide +kernel
theorem dX4_noSheet_2 : decode cX4_noSheet 2 = .ok (.lconst 0, 1) := by decide +kernel
theorem dX4_noSheet_3 : decode cX4_noSheet 3 = .ok (.ldc2_w 203, 3) := by decide +kernel
theorem dX4_noSheet_6 : decode cX4_noSheet 6 = .ok (.invokestatic 87, 3) := by decide +kernel
theorem dX4_noSheet_9 : decode cX4_noSheet 9 = .ok (.ifCond .ne 7, 3) := by decide +kernel
theorem dX4_noSheet_12 : decode cX4_noSheet 12 = .ok (.iconst 1, 1) := by decide +kernel
theorem dX4_noSheet_13 : decode cX4_noSheet 13 = .ok (.goto 4, 3) := by decide +kernel
theorem dX4_noSheet_16 : decode cX4_noSheet 16 = .ok (.iconst 0, 1) := by decide +kernel
theorem dX4_noSheet_17 : decode cX4_noSheet 17 = .ok (.ireturn, 1) := by decide +kernel
theorem dX4_sheet_0 : decode cX4_sheet 0 = .ok (.iload_n 1, 1) := by decide +kernel
theorem dX4_sheet_1 : decode cX4_sheet 1 = .ok (.invokestatic 128, 3) := by decide +kernel
theorem dX4_sheet_4 : decode cX4_sheet 4 = .ok (.ifCond .eq 9, 3) := by decide +kernel
theorem dX4_sheet_7 : decode cX4_sheet 7 = .ok (.aload_n 0, 1) := by decide +kernel
theorem dX4_sheet_8 : decode cX4_sheet 8 = .ok (.iconst (-1), 1) := by decide +kernel
theorem dX4_sheet_9 : decode cX4_sheet 9 = .ok (.invokevirtual 132, 3) := by decide +kernel
theorem dX4_sheet_12 : decode cX4_sheet 12 = .ok (.ireturn, 1) := by decide +kernel
theorem dX4_sheet_13 : decode cX4_sheet 13 = .ok (.iload_n 2, 1) := by decide +kernel
theorem dX4_sheet_14 : decode cX4_sheet 14 = .ok (.i2l, 1) := by decide +kernel
theorem dX4_sheet_15 : decode cX4_sheet 15 = .ok (.lconst 0, 1) := by decide +kernel
theorem dX4_sheet_16 : decode cX4_sheet 16 = .ok (.ldc2_w 135, 3) := by decide +kernel
theorem dX4_sheet_19 : decode cX4_sheet 19 = .ok (.invokestatic 87, 3) := by decide +kernel
theorem dX4_sheet_22 : decode cX4_sheet 22 = .ok (.ifCond .eq 9, 3) := by decide +kernel
theorem dX4_sheet_25 : decode cX4_sheet 25 = .ok (.iload_n 3, 1) := by decide +kernel
theorem dX4_sheet_26 : decode cX4_sheet 26 = .ok (.bipush 60, 2) := by decide +kernel
theorem dX4_sheet_28 : decode cX4_sheet 28 = .ok (.if_icmp .le 10, 3) := by decide +kernel
theorem dX4_sheet_31 : decode cX4_sheet 31 = .ok (.aload_n 0, 1) := by decide +kernel
theorem dX4_sheet_32 : decode cX4_sheet 32 = .ok (.bipush (-2), 2) := by decide +kernel
theorem dX4_sheet_34 : decode cX4_sheet 34 = .ok (.invokevirtual 132, 3) := by decide +kernel
theorem dX4_sheet_37 : decode cX4_sheet 37 = .ok (.ireturn, 1) := by decide +kernel
theorem dX4_sheet_38 : decode cX4_sheet 38 = .ok (.iload_n 3, 1) := by decide +kernel
theorem dX4_sheet_39 : decode cX4_sheet 39 = .ok (.ifCond .ge 9, 3) := by decide +kernel
theorem dX4_sheet_42 : decode cX4_sheet 42 = .ok (.aload_n 0, 1) := by decide +kernel
theorem dX4_sheet_43 : decode cX4_sheet 43 = .ok (.iconst 4, 1) := by decide +kernel
theorem dX4_sheet_44 : decode cX4_sheet 44 = .ok (.invokevirtual 120, 3) := by decide +kernel
theorem dX4_sheet_47 : decode cX4_sheet 47 = .ok (.ireturn, 1) := by decide +kernel
theorem dX4_sheet_48 : decode cX4_sheet 48 = .ok (.aload_n 0, 1) := by decide +kernel
theorem dX4_sheet_49 : decode cX4_sheet 49 = .ok (.getfield 62, 3) := by decide +kernel
theorem dX4_sheet_52 : decode cX4_sheet 52 = .ok (.iload_n 1, 1) := by decide +kernel
theorem dX4_sheet_53 : decode cX4_sheet 53 = .ok (.iload_n 3, 1) := by decide +kernel
theorem dX4_sheet_54 : decode cX4_sheet 54 = .ok (.iastore, 1) := by decide +kernel
theorem dX4_sheet_55 : decode cX4_sheet 55 = .ok (.aload_n 0, 1) := by decide +kernel
theorem dX4_sheet_56 : decode cX4_sheet 56 = .ok (.getfield 65, 3) := by decide +kernel
theorem dX4_sheet_59 : decode cX4_sheet 59 = .ok (.iload_n 1, 1) := by decide +kernel
theorem dX4_sheet_60 : decode cX4_sheet 60 = .ok (.iload_n 2, 1) := by decide +kernel
theorem dX4_sheet_61 : decode cX4_sheet 61 = .ok (.iastore, 1) := by decide +kernel
theorem dX4_sheet_62 : decode cX4_sheet 62 = .ok (.iconst 0, 1) := by decide +kernel
theorem dX4_sheet_63 : decode cX4_sheet 63 = .ok (.istore 4, 2) := by decide +kernel
theorem dX4_sheet_65 : decode cX4_sheet 65 = .ok (.iload 4, 2) := by decide +kernel
theorem dX4_sheet_67 : decode cX4_sheet 67 = .ok (.iload_n 3, 1) := by decide +kernel
theorem dX4_sheet_68 : decode cX4_sheet 68 = .ok (.if_icmp .ge 22, 3) := by decide +kernel
theorem dX4_sheet_71 : decode cX4_sheet 71 = .ok (.aload_n 0, 1) := by decide +kernel
theorem dX4_sheet_72 : decode cX4_sheet 72 = .ok (.getfield 68, 3) := by decide +kernel
theorem dX4_sheet_75 : decode cX4_sheet 75 = .ok (.bipush 60, 2) := by decide +kernel
theorem dX4_sheet_77 : decode cX4_sheet 77 = .ok (.iload_n 1, 1) := by decide +kernel
theorem dX4_sheet_78 : decode cX4_sheet 78 = .ok (.imul, 1) := by decide +kernel
theorem dX4_sheet_79 : decode cX4_sheet 79 = .ok (.iload 4, 2) := by decide +kernel
theorem dX4_sheet_81 : decode cX4_sheet 81 = .ok (.iadd, 1) := by decide +kernel
theorem dX4_sheet_82 : decode cX4_sheet 82 = .ok (.iconst 0, 1) := by decide +kernel
theorem dX4_sheet_83 : decode cX4_sheet 83 = .ok (.iastore, 1) := by decide +kernel
theorem dX4_sheet_84 : decode cX4_sheet 84 = .ok (.iinc 4 1, 3) := by decide +kernel
theorem dX4_sheet_87 : decode cX4_sheet 87 = .ok (.goto (-22), 3) := by decide +kernel
theorem dX4_sheet_90 : decode cX4_sheet 90 = .ok (.aload_n 0, 1) := by decide +kernel
theorem dX4_sheet_91 : decode cX4_sheet 91 = .ok (.iconst 1, 1) := by decide +kernel
theorem dX4_sheet_92 : decode cX4_sheet 92 = .ok (.invokevirtual 132, 3) := by decide +kernel
theorem dX4_sheet_95 : decode cX4_sheet 95 = .ok (.ireturn, 1) := by decide +kernel
theorem dX4_lose_0 : decode cX4_lose 0 = .ok (.iload_n 1, 1) := by decide +kernel
theorem dX4_lose_1 : decode cX4_lose 1 = .ok (.invokestatic 128, 3) := by decide +kernel
theorem dX4_lose_4 : decode cX4_lose 4 = .ok (.ifCond .eq 5, 3) := by decide +kernel
theorem dX4_lose_7 : decode cX4_lose 7 = .ok (.iconst (-1), 1) := by decide +kernel
theorem dX4_lose_8 : decode cX4_lose 8 = .ok (.ireturn, 1) := by decide +kernel
theorem dX4_lose_9 : decode cX4_lose 9 = .ok (.aload_n 0, 1) := by decide +kernel
theorem dX4_lose_10 : decode cX4_lose 10 = .ok (.getfield 62, 3) := by decide +kernel
theorem dX4_lose_13 : decode cX4_lose 13 = .ok (.iload_n 1, 1) := by decide +kernel
theorem dX4_lose_14 : decode cX4_lose 14 = .ok (.iaload, 1) := by decide +kernel
theorem dX4_lose_15 : decode cX4_lose 15 = .ok (.ifCond .ge 7, 3) := by decide +kernel
theorem dX4_lose_18 : decode cX4_lose 18 = .ok (.iconst 0, 1) := by decide +kernel
theorem dX4_lose_19 : decode cX4_lose 19 = .ok (.goto 4, 3) := by decide +kernel
theorem dX4_lose_22 : decode cX4_lose 22 = .ok (.iconst 1, 1) := by decide +kernel
theorem dX4_lose_23 : decode cX4_lose 23 = .ok (.istore_n 2, 1) := by decide +kernel
theorem dX4_lose_24 : decode cX4_lose 24 = .ok (.aload_n 0, 1) := by decide +kernel
theorem dX4_lose_25 : decode cX4_lose 25 = .ok (.getfield 62, 3) := by decide +kernel
theorem dX4_lose_28 : decode cX4_lose 28 = .ok (.iload_n 1, 1) := by decide +kernel
theorem dX4_lose_29 : decode cX4_lose 29 = .ok (.iconst (-1), 1) := by decide +kernel
theorem dX4_lose_30 : decode cX4_lose 30 = .ok (.iastore, 1) := by decide +kernel
theorem dX4_lose_31 : decode cX4_lose 31 = .ok (.iload_n 2, 1) := by decide +kernel
theorem dX4_lose_32 : decode cX4_lose 32 = .ok (.ireturn, 1) := by decide +kernel
theorem dX4_noCell_0 : decode cX4_noCell 0 = .ok (.aload_n 0, 1) := by decide +kernel
theorem dX4_noCell_1 : decode cX4_noCell 1 = .ok (.getfield 62, 3) := by decide +kernel
theorem dX4_noCell_4 : decode cX4_noCell 4 = .ok (.iload_n 1, 1) := by decide +kernel
theorem dX4_noCell_5 : decode cX4_noCell 5 = .ok (.iaload, 1) := by decide +kernel
theorem dX4_noCell_6 : decode cX4_noCell 6 = .ok (.ifCond .ge 7, 3) := by decide +kernel
theorem dX4_noCell_9 : decode cX4_noCell 9 = .ok (.iconst 1, 1) := by decide +kernel
theorem dX4_noCell_10 : decode cX4_noCell 10 = .ok (.goto 26, 3) := by decide +kernel
theorem dX4_noCell_13 : decode cX4_noCell 13 = .ok (.iload_n 2, 1) := by decide +kernel
theorem dX4_noCell_14 : decode cX4_noCell 14 = .ok (.i2l, 1) := by decide +kernel
theorem dX4_noCell_15 : decode cX4_noCell 15 = .ok (.lconst 0, 1) := by decide +kernel
theorem dX4_noCell_16 : decode cX4_noCell 16 = .ok (.aload_n 0, 1) := by decide +kernel
theorem dX4_noCell_17 : decode cX4_noCell 17 = .ok (.getfield 62, 3) := by decide +kernel
theorem dX4_noCell_20 : decode cX4_noCell 20 = .ok (.iload_n 1, 1) := by decide +kernel
theorem dX4_noCell_21 : decode cX4_noCell 21 = .ok (.iaload, 1) := by decide +kernel
theorem dX4_noCell_22 : decode cX4_noCell 22 = .ok (.i2l, 1) := by decide +kernel
theorem dX4_noCell_23 : decode cX4_noCell 23 = .ok (.lconst 1, 1) := by decide +kernel
theorem dX4_noCell_24 : decode cX4_noCell 24 = .ok (.lsub, 1) := by decide +kernel
theorem dX4_noCell_25 : decode cX4_noCell 25 = .ok (.invokestatic 87, 3) := by decide +kernel
theorem dX4_noCell_28 : decode cX4_noCell 28 = .ok (.ifCond .eq 7, 3) := by decide +kernel
theorem dX4_noCell_31 : decode cX4_noCell 31 = .ok (.iconst 0, 1) := by decide +kernel
theorem dX4_noCell_32 : decode cX4_noCell 32 = .ok (.goto 4, 3) := by decide +kernel
theorem dX4_noCell_35 : decode cX4_noCell 35 = .ok (.iconst 3, 1) := by decide +kernel
theorem dX4_noCell_36 : decode cX4_noCell 36 = .ok (.ireturn, 1) := by decide +kernel
theorem dX4_put_0 : decode cX4_put 0 = .ok (.iload_n 1, 1) := by decide +kernel
theorem dX4_put_1 : decode cX4_put 1 = .ok (.invokestatic 128, 3) := by decide +kernel
theorem dX4_put_4 : decode cX4_put 4 = .ok (.ifCond .eq 9, 3) := by decide +kernel
theorem dX4_put_7 : decode cX4_put 7 = .ok (.aload_n 0, 1) := by decide +kernel
theorem dX4_put_8 : decode cX4_put 8 = .ok (.iconst (-1), 1) := by decide +kernel
theorem dX4_put_9 : decode cX4_put 9 = .ok (.invokevirtual 132, 3) := by decide +kernel
theorem dX4_put_12 : decode cX4_put 12 = .ok (.ireturn, 1) := by decide +kernel
theorem dX4_put_13 : decode cX4_put 13 = .ok (.aload_n 0, 1) := by decide +kernel
theorem dX4_put_14 : decode cX4_put 14 = .ok (.iload_n 1, 1) := by decide +kernel
theorem dX4_put_15 : decode cX4_put 15 = .ok (.iload_n 2, 1) := by decide +kernel
theorem dX4_put_16 : decode cX4_put 16 = .ok (.invokevirtual 269, 3) := by decide +kernel
theorem dX4_put_19 : decode cX4_put 19 = .ok (.ifCond .le 14, 3) := by decide +kernel
theorem dX4_put_22 : decode cX4_put 22 = .ok (.aload_n 0, 1) := by decide +kernel
theorem dX4_put_23 : decode cX4_put 23 = .ok (.aload_n 0, 1) := by decide +kernel
theorem dX4_put_24 : decode cX4_put 24 = .ok (.iload_n 1, 1) := by decide +kernel
theorem dX4_put_25 : decode cX4_put 25 = .ok (.iload_n 2, 1) := by decide +kernel
theorem dX4_put_26 : decode cX4_put 26 = .ok (.invokevirtual 269, 3) := by decide +kernel
theorem dX4_put_29 : decode cX4_put 29 = .ok (.invokevirtual 120, 3) := by decide +kernel
theorem dX4_put_32 : decode cX4_put 32 = .ok (.ireturn, 1) := by decide +kernel
theorem dX4_put_33 : decode cX4_put 33 = .ok (.aload_n 0, 1) := by decide +kernel
theorem dX4_put_34 : decode cX4_put 34 = .ok (.getfield 68, 3) := by decide +kernel
theorem dX4_put_37 : decode cX4_put 37 = .ok (.bipush 60, 2) := by decide +kernel
theorem dX4_put_39 : decode cX4_put 39 = .ok (.iload_n 1, 1) := by decide +kernel
theorem dX4_put_40 : decode cX4_put 40 = .ok (.imul, 1) := by decide +kernel
theorem dX4_put_41 : decode cX4_put 41 = .ok (.iload_n 2, 1) := by decide +kernel
theorem dX4_put_42 : decode cX4_put 42 = .ok (.iadd, 1) := by decide +kernel
theorem dX4_put_43 : decode cX4_put 43 = .ok (.aload_n 0, 1) := by decide +kernel
theorem dX4_put_44 : decode cX4_put 44 = .ok (.getfield 65, 3) := by decide +kernel
theorem dX4_put_47 : decode cX4_put 47 = .ok (.iload_n 1, 1) := by decide +kernel
theorem dX4_put_48 : decode cX4_put 48 = .ok (.iaload, 1) := by decide +kernel
theorem dX4_put_49 : decode cX4_put 49 = .ok (.ifCond .ne 8, 3) := by decide +kernel
theorem dX4_put_52 : decode cX4_put 52 = .ok (.iload_n 3, 1) := by decide +kernel
theorem dX4_put_53 : decode cX4_put 53 = .ok (.i2b, 1) := by decide +kernel
theorem dX4_put_54 : decode cX4_put 54 = .ok (.goto 19, 3) := by decide +kernel
theorem dX4_put_57 : decode cX4_put 57 = .ok (.aload_n 0, 1) := by decide +kernel
theorem dX4_put_58 : decode cX4_put 58 = .ok (.getfield 65, 3) := by decide +kernel
theorem dX4_put_61 : decode cX4_put 61 = .ok (.iload_n 1, 1) := by decide +kernel
theorem dX4_put_62 : decode cX4_put 62 = .ok (.iaload, 1) := by decide +kernel
theorem dX4_put_63 : decode cX4_put 63 = .ok (.iconst 1, 1) := by decide +kernel
theorem dX4_put_64 : decode cX4_put 64 = .ok (.if_icmp .ne 8, 3) := by decide +kernel
theorem dX4_put_67 : decode cX4_put 67 = .ok (.iload_n 3, 1) := by decide +kernel
theorem dX4_put_68 : decode cX4_put 68 = .ok (.i2s, 1) := by decide +kernel
theorem dX4_put_69 : decode cX4_put 69 = .ok (.goto 4, 3) := by decide +kernel
theorem dX4_put_72 : decode cX4_put 72 = .ok (.iload_n 3, 1) := by decide +kernel
theorem dX4_put_73 : decode cX4_put 73 = .ok (.iastore, 1) := by decide +kernel
theorem dX4_put_74 : decode cX4_put 74 = .ok (.aload_n 0, 1) := by decide +kernel
theorem dX4_put_75 : decode cX4_put 75 = .ok (.iconst 1, 1) := by decide +kernel
theorem dX4_put_76 : decode cX4_put 76 = .ok (.invokevirtual 132, 3) := by decide +kernel
theorem dX4_put_79 : decode cX4_put 79 = .ok (.ireturn, 1) := by decide +kernel
theorem dX4_cell_0 : decode cX4_cell 0 = .ok (.aload_n 0, 1) := by decide +kernel
theorem dX4_cell_1 : decode cX4_cell 1 = .ok (.iconst 0, 1) := by decide +kernel
theorem dX4_cell_2 : decode cX4_cell 2 = .ok (.putfield 76, 3) := by decide +kernel
theorem dX4_cell_5 : decode cX4_cell 5 = .ok (.iload_n 1, 1) := by decide +kernel
theorem dX4_cell_6 : decode cX4_cell 6 = .ok (.invokestatic 128, 3) := by decide +kernel
theorem dX4_cell_9 : decode cX4_cell 9 = .ok (.ifCond .ne 15, 3) := by decide +kernel
theorem dX4_cell_12 : decode cX4_cell 12 = .ok (.iload_n 3, 1) := by decide +kernel
theorem dX4_cell_13 : decode cX4_cell 13 = .ok (.i2l, 1) := by decide +kernel
theorem dX4_cell_14 : decode cX4_cell 14 = .ok (.lconst 0, 1) := by decide +kernel
theorem dX4_cell_15 : decode cX4_cell 15 = .ok (.ldc2_w 135, 3) := by decide +kernel
theorem dX4_cell_18 : decode cX4_cell 18 = .ok (.invokestatic 87, 3) := by decide +kernel
theorem dX4_cell_21 : decode cX4_cell 21 = .ok (.ifCond .ne 7, 3) := by decide +kernel
theorem dX4_cell_24 : decode cX4_cell 24 = .ok (.invokestatic 80, 3) := by decide +kernel
theorem dX4_cell_27 : decode cX4_cell 27 = .ok (.lreturn, 1) := by decide +kernel
theorem dX4_cell_28 : decode cX4_cell 28 = .ok (.aload_n 0, 1) := by decide +kernel
theorem dX4_cell_29 : decode cX4_cell 29 = .ok (.getfield 62, 3) := by decide +kernel
theorem dX4_cell_32 : decode cX4_cell 32 = .ok (.iload_n 1, 1) := by decide +kernel
theorem dX4_cell_33 : decode cX4_cell 33 = .ok (.iaload, 1) := by decide +kernel
theorem dX4_cell_34 : decode cX4_cell 34 = .ok (.ifCond .lt 19, 3) := by decide +kernel
theorem dX4_cell_37 : decode cX4_cell 37 = .ok (.aload_n 0, 1) := by decide +kernel
theorem dX4_cell_38 : decode cX4_cell 38 = .ok (.getfield 65, 3) := by decide +kernel
theorem dX4_cell_41 : decode cX4_cell 41 = .ok (.iload_n 1, 1) := by decide +kernel
theorem dX4_cell_42 : decode cX4_cell 42 = .ok (.iaload, 1) := by decide +kernel
theorem dX4_cell_43 : decode cX4_cell 43 = .ok (.iload_n 3, 1) := by decide +kernel
theorem dX4_cell_44 : decode cX4_cell 44 = .ok (.if_icmp .eq 9, 3) := by decide +kernel
theorem dX4_cell_47 : decode cX4_cell 47 = .ok (.aload_n 0, 1) := by decide +kernel
theorem dX4_cell_48 : decode cX4_cell 48 = .ok (.iconst 2, 1) := by decide +kernel
theorem dX4_cell_49 : decode cX4_cell 49 = .ok (.invokevirtual 272, 3) := by decide +kernel
theorem dX4_cell_52 : decode cX4_cell 52 = .ok (.lreturn, 1) := by decide +kernel
theorem dX4_cell_53 : decode cX4_cell 53 = .ok (.aload_n 0, 1) := by decide +kernel
theorem dX4_cell_54 : decode cX4_cell 54 = .ok (.iload_n 1, 1) := by decide +kernel
theorem dX4_cell_55 : decode cX4_cell 55 = .ok (.iload_n 2, 1) := by decide +kernel
theorem dX4_cell_56 : decode cX4_cell 56 = .ok (.invokevirtual 269, 3) := by decide +kernel
theorem dX4_cell_59 : decode cX4_cell 59 = .ok (.ifCond .le 16, 3) := by decide +kernel
theorem dX4_cell_62 : decode cX4_cell 62 = .ok (.aload_n 0, 1) := by decide +kernel
theorem dX4_cell_63 : decode cX4_cell 63 = .ok (.aload_n 0, 1) := by decide +kernel
theorem dX4_cell_64 : decode cX4_cell 64 = .ok (.iload_n 1, 1) := by decide +kernel
theorem dX4_cell_65 : decode cX4_cell 65 = .ok (.iload_n 2, 1) := by decide +kernel
theorem dX4_cell_66 : decode cX4_cell 66 = .ok (.invokevirtual 269, 3) := by decide +kernel
theorem dX4_cell_69 : decode cX4_cell 69 = .ok (.invokevirtual 272, 3) := by decide +kernel
theorem dX4_cell_72 : decode cX4_cell 72 = .ok (.goto 15, 3) := by decide +kernel
theorem dX4_cell_75 : decode cX4_cell 75 = .ok (.aload_n 0, 1) := by decide +kernel
theorem dX4_cell_76 : decode cX4_cell 76 = .ok (.getfield 68, 3) := by decide +kernel
theorem dX4_cell_79 : decode cX4_cell 79 = .ok (.bipush 60, 2) := by decide +kernel
theorem dX4_cell_81 : decode cX4_cell 81 = .ok (.iload_n 1, 1) := by decide +kernel
theorem dX4_cell_82 : decode cX4_cell 82 = .ok (.imul, 1) := by decide +kernel
theorem dX4_cell_83 : decode cX4_cell 83 = .ok (.iload_n 2, 1) := by decide +kernel
theorem dX4_cell_84 : decode cX4_cell 84 = .ok (.iadd, 1) := by decide +kernel
theorem dX4_cell_85 : decode cX4_cell 85 = .ok (.iaload, 1) := by decide +kernel
theorem dX4_cell_86 : decode cX4_cell 86 = .ok (.i2l, 1) := by decide +kernel
theorem dX4_cell_87 : decode cX4_cell 87 = .ok (.lreturn, 1) := by decide +kernel
theorem dX4_isBeyond_0 : decode cX4_isBeyond 0 = .ok (.iload_n 0, 1) := by decide +kernel
theorem dX4_isBeyond_1 : decode cX4_isBeyond 1 = .ok (.ifCond .lt 19, 3) := by decide +kernel
theorem dX4_isBeyond_4 : decode cX4_isBeyond 4 = .ok (.lload_n 1, 1) := by decide +kernel
theorem dX4_isBeyond_5 : decode cX4_isBeyond 5 = .ok (.lconst 0, 1) := by decide +kernel
theorem dX4_isBeyond_6 : decode cX4_isBeyond 6 = .ok (.lcmp, 1) := by decide +kernel
theorem dX4_isBeyond_7 : decode cX4_isBeyond 7 = .ok (.ifCond .lt 13, 3) := by decide +kernel
theorem dX4_isBeyond_10 : decode cX4_isBeyond 10 = .ok (.iload_n 0, 1) := by decide +kernel
theorem dX4_isBeyond_11 : decode cX4_isBeyond 11 = .ok (.i2l, 1) := by decide +kernel
theorem dX4_isBeyond_12 : decode cX4_isBeyond 12 = .ok (.lload_n 1, 1) := by decide +kernel
theorem dX4_isBeyond_13 : decode cX4_isBeyond 13 = .ok (.ladd, 1) := by decide +kernel
theorem dX4_isBeyond_14 : decode cX4_isBeyond 14 = .ok (.iload_n 3, 1) := by decide +kernel
theorem dX4_isBeyond_15 : decode cX4_isBeyond 15 = .ok (.i2l, 1) := by decide +kernel
theorem dX4_isBeyond_16 : decode cX4_isBeyond 16 = .ok (.lcmp, 1) := by decide +kernel
theorem dX4_isBeyond_17 : decode cX4_isBeyond 17 = .ok (.ifCond .le 7, 3) := by decide +kernel
theorem dX4_isBeyond_20 : decode cX4_isBeyond 20 = .ok (.iconst 1, 1) := by decide +kernel
theorem dX4_isBeyond_21 : decode cX4_isBeyond 21 = .ok (.goto 4, 3) := by decide +kernel
theorem dX4_isBeyond_24 : decode cX4_isBeyond 24 = .ok (.iconst 0, 1) := by decide +kernel
theorem dX4_isBeyond_25 : decode cX4_isBeyond 25 = .ok (.ireturn, 1) := by decide +kernel
theorem dX4_copy_0 : decode cX4_copy 0 = .ok (.iload_n 1, 1) := by decide +kernel
theorem dX4_copy_1 : decode cX4_copy 1 = .ok (.invokestatic 128, 3) := by decide +kernel
theorem dX4_copy_4 : decode cX4_copy 4 = .ok (.ifCond .ne 10, 3) := by decide +kernel
theorem dX4_copy_7 : decode cX4_copy 7 = .ok (.iload_n 3, 1) := by decide +kernel
theorem dX4_copy_8 : decode cX4_copy 8 = .ok (.invokestatic 128, 3) := by decide +kernel
theorem dX4_copy_11 : decode cX4_copy 11 = .ok (.ifCond .eq 9, 3) := by decide +kernel
theorem dX4_copy_14 : decode cX4_copy 14 = .ok (.aload_n 0, 1) := by decide +kernel
theorem dX4_copy_15 : decode cX4_copy 15 = .ok (.iconst (-1), 1) := by decide +kernel
theorem dX4_copy_16 : decode cX4_copy 16 = .ok (.invokevirtual 132, 3) := by decide +kernel
theorem dX4_copy_19 : decode cX4_copy 19 = .ok (.ireturn, 1) := by decide +kernel
theorem dX4_copy_20 : decode cX4_copy 20 = .ok (.aload_n 0, 1) := by decide +kernel
theorem dX4_copy_21 : decode cX4_copy 21 = .ok (.getfield 62, 3) := by decide +kernel
theorem dX4_copy_24 : decode cX4_copy 24 = .ok (.iload_n 1, 1) := by decide +kernel
theorem dX4_copy_25 : decode cX4_copy 25 = .ok (.iaload, 1) := by decide +kernel
theorem dX4_copy_26 : decode cX4_copy 26 = .ok (.ifCond .lt 12, 3) := by decide +kernel
theorem dX4_copy_29 : decode cX4_copy 29 = .ok (.aload_n 0, 1) := by decide +kernel
theorem dX4_copy_30 : decode cX4_copy 30 = .ok (.getfield 62, 3) := by decide +kernel
theorem dX4_copy_33 : decode cX4_copy 33 = .ok (.iload_n 3, 1) := by decide +kernel
theorem dX4_copy_34 : decode cX4_copy 34 = .ok (.iaload, 1) := by decide +kernel
theorem dX4_copy_35 : decode cX4_copy 35 = .ok (.ifCond .ge 9, 3) := by decide +kernel
theorem dX4_copy_38 : decode cX4_copy 38 = .ok (.aload_n 0, 1) := by decide +kernel
theorem dX4_copy_39 : decode cX4_copy 39 = .ok (.iconst 1, 1) := by decide +kernel
theorem dX4_copy_40 : decode cX4_copy 40 = .ok (.invokevirtual 120, 3) := by decide +kernel
theorem dX4_copy_43 : decode cX4_copy 43 = .ok (.ireturn, 1) := by decide +kernel
theorem dX4_copy_44 : decode cX4_copy 44 = .ok (.aload_n 0, 1) := by decide +kernel
theorem dX4_copy_45 : decode cX4_copy 45 = .ok (.getfield 65, 3) := by decide +kernel
theorem dX4_copy_48 : decode cX4_copy 48 = .ok (.iload_n 1, 1) := by decide +kernel
theorem dX4_copy_49 : decode cX4_copy 49 = .ok (.iaload, 1) := by decide +kernel
theorem dX4_copy_50 : decode cX4_copy 50 = .ok (.aload_n 0, 1) := by decide +kernel
theorem dX4_copy_51 : decode cX4_copy 51 = .ok (.getfield 65, 3) := by decide +kernel
theorem dX4_copy_54 : decode cX4_copy 54 = .ok (.iload_n 3, 1) := by decide +kernel
theorem dX4_copy_55 : decode cX4_copy 55 = .ok (.iaload, 1) := by decide +kernel
theorem dX4_copy_56 : decode cX4_copy 56 = .ok (.if_icmp .eq 9, 3) := by decide +kernel
theorem dX4_copy_59 : decode cX4_copy 59 = .ok (.aload_n 0, 1) := by decide +kernel
theorem dX4_copy_60 : decode cX4_copy 60 = .ok (.iconst 2, 1) := by decide +kernel
theorem dX4_copy_61 : decode cX4_copy 61 = .ok (.invokevirtual 120, 3) := by decide +kernel
theorem dX4_copy_64 : decode cX4_copy 64 = .ok (.ireturn, 1) := by decide +kernel
theorem dX4_copy_65 : decode cX4_copy 65 = .ok (.iload_n 2, 1) := by decide +kernel
theorem dX4_copy_66 : decode cX4_copy 66 = .ok (.iload 5, 2) := by decide +kernel
theorem dX4_copy_68 : decode cX4_copy 68 = .ok (.i2l, 1) := by decide +kernel
theorem dX4_copy_69 : decode cX4_copy 69 = .ok (.aload_n 0, 1) := by decide +kernel
theorem dX4_copy_70 : decode cX4_copy 70 = .ok (.getfield 62, 3) := by decide +kernel
theorem dX4_copy_73 : decode cX4_copy 73 = .ok (.iload_n 1, 1) := by decide +kernel
theorem dX4_copy_74 : decode cX4_copy 74 = .ok (.iaload, 1) := by decide +kernel
theorem dX4_copy_75 : decode cX4_copy 75 = .ok (.invokestatic 124, 3) := by decide +kernel
theorem dX4_copy_78 : decode cX4_copy 78 = .ok (.ifCond .ne 20, 3) := by decide +kernel
theorem dX4_copy_81 : decode cX4_copy 81 = .ok (.iload 4, 2) := by decide +kernel
theorem dX4_copy_83 : decode cX4_copy 83 = .ok (.iload 5, 2) := by decide +kernel
theorem dX4_copy_85 : decode cX4_copy 85 = .ok (.i2l, 1) := by decide +kernel
theorem dX4_copy_86 : decode cX4_copy 86 = .ok (.aload_n 0, 1) := by decide +kernel
theorem dX4_copy_87 : decode cX4_copy 87 = .ok (.getfield 62, 3) := by decide +kernel
theorem dX4_copy_90 : decode cX4_copy 90 = .ok (.iload_n 3, 1) := by decide +kernel
theorem dX4_copy_91 : decode cX4_copy 91 = .ok (.iaload, 1) := by decide +kernel
theorem dX4_copy_92 : decode cX4_copy 92 = .ok (.invokestatic 124, 3) := by decide +kernel
theorem dX4_copy_95 : decode cX4_copy 95 = .ok (.ifCond .eq 9, 3) := by decide +kernel
theorem dX4_copy_98 : decode cX4_copy 98 = .ok (.aload_n 0, 1) := by decide +kernel
theorem dX4_copy_99 : decode cX4_copy 99 = .ok (.iconst 3, 1) := by decide +kernel
theorem dX4_copy_100 : decode cX4_copy 100 = .ok (.invokevirtual 120, 3) := by decide +kernel
theorem dX4_copy_103 : decode cX4_copy 103 = .ok (.ireturn, 1) := by decide +kernel
theorem dX4_copy_104 : decode cX4_copy 104 = .ok (.iconst 0, 1) := by decide +kernel
theorem dX4_copy_105 : decode cX4_copy 105 = .ok (.istore 6, 2) := by decide +kernel
theorem dX4_copy_107 : decode cX4_copy 107 = .ok (.iload 6, 2) := by decide +kernel
theorem dX4_copy_109 : decode cX4_copy 109 = .ok (.iload 5, 2) := by decide +kernel
theorem dX4_copy_111 : decode cX4_copy 111 = .ok (.if_icmp .ge 30, 3) := by decide +kernel
theorem dX4_copy_114 : decode cX4_copy 114 = .ok (.aload_n 0, 1) := by decide +kernel
theorem dX4_copy_115 : decode cX4_copy 115 = .ok (.getfield 71, 3) := by decide +kernel
theorem dX4_copy_118 : decode cX4_copy 118 = .ok (.iload 6, 2) := by decide +kernel
theorem dX4_copy_120 : decode cX4_copy 120 = .ok (.aload_n 0, 1) := by decide +kernel
theorem dX4_copy_121 : decode cX4_copy 121 = .ok (.getfield 68, 3) := by decide +kernel
theorem dX4_copy_124 : decode cX4_copy 124 = .ok (.bipush 60, 2) := by decide +kernel
theorem dX4_copy_126 : decode cX4_copy 126 = .ok (.iload_n 1, 1) := by decide +kernel
theorem dX4_copy_127 : decode cX4_copy 127 = .ok (.imul, 1) := by decide +kernel
theorem dX4_copy_128 : decode cX4_copy 128 = .ok (.iload_n 2, 1) := by decide +kernel
theorem dX4_copy_129 : decode cX4_copy 129 = .ok (.iadd, 1) := by decide +kernel
theorem dX4_copy_130 : decode cX4_copy 130 = .ok (.iload 6, 2) := by decide +kernel
theorem dX4_copy_132 : decode cX4_copy 132 = .ok (.iadd, 1) := by decide +kernel
theorem dX4_copy_133 : decode cX4_copy 133 = .ok (.iaload, 1) := by decide +kernel
theorem dX4_copy_134 : decode cX4_copy 134 = .ok (.iastore, 1) := by decide +kernel
theorem dX4_copy_135 : decode cX4_copy 135 = .ok (.iinc 6 1, 3) := by decide +kernel
theorem dX4_copy_138 : decode cX4_copy 138 = .ok (.goto (-31), 3) := by decide +kernel
theorem dX4_copy_141 : decode cX4_copy 141 = .ok (.iconst 0, 1) := by decide +kernel
theorem dX4_copy_142 : decode cX4_copy 142 = .ok (.istore 6, 2) := by decide +kernel
theorem dX4_copy_144 : decode cX4_copy 144 = .ok (.iload 6, 2) := by decide +kernel
theorem dX4_copy_146 : decode cX4_copy 146 = .ok (.iload 5, 2) := by decide +kernel
theorem dX4_copy_148 : decode cX4_copy 148 = .ok (.if_icmp .ge 31, 3) := by decide +kernel
theorem dX4_copy_151 : decode cX4_copy 151 = .ok (.aload_n 0, 1) := by decide +kernel
theorem dX4_copy_152 : decode cX4_copy 152 = .ok (.getfield 68, 3) := by decide +kernel
theorem dX4_copy_155 : decode cX4_copy 155 = .ok (.bipush 60, 2) := by decide +kernel
theorem dX4_copy_157 : decode cX4_copy 157 = .ok (.iload_n 3, 1) := by decide +kernel
theorem dX4_copy_158 : decode cX4_copy 158 = .ok (.imul, 1) := by decide +kernel
theorem dX4_copy_159 : decode cX4_copy 159 = .ok (.iload 4, 2) := by decide +kernel
theorem dX4_copy_161 : decode cX4_copy 161 = .ok (.iadd, 1) := by decide +kernel
theorem dX4_copy_162 : decode cX4_copy 162 = .ok (.iload 6, 2) := by decide +kernel
theorem dX4_copy_164 : decode cX4_copy 164 = .ok (.iadd, 1) := by decide +kernel
theorem dX4_copy_165 : decode cX4_copy 165 = .ok (.aload_n 0, 1) := by decide +kernel
theorem dX4_copy_166 : decode cX4_copy 166 = .ok (.getfield 71, 3) := by decide +kernel
theorem dX4_copy_169 : decode cX4_copy 169 = .ok (.iload 6, 2) := by decide +kernel
theorem dX4_copy_171 : decode cX4_copy 171 = .ok (.iaload, 1) := by decide +kernel
theorem dX4_copy_172 : decode cX4_copy 172 = .ok (.iastore, 1) := by decide +kernel
theorem dX4_copy_173 : decode cX4_copy 173 = .ok (.iinc 6 1, 3) := by decide +kernel
theorem dX4_copy_176 : decode cX4_copy 176 = .ok (.goto (-32), 3) := by decide +kernel
theorem dX4_copy_179 : decode cX4_copy 179 = .ok (.aload_n 0, 1) := by decide +kernel
theorem dX4_copy_180 : decode cX4_copy 180 = .ok (.iload 5, 2) := by decide +kernel
theorem dX4_copy_182 : decode cX4_copy 182 = .ok (.invokevirtual 132, 3) := by decide +kernel
theorem dX4_copy_185 : decode cX4_copy 185 = .ok (.ireturn, 1) := by decide +kernel
theorem dX4_traced_0 : decode cX4_traced 0 = .ok (.aload_n 0, 1) := by decide +kernel
theorem dX4_traced_1 : decode cX4_traced 1 = .ok (.bipush 31, 2) := by decide +kernel
theorem dX4_traced_3 : decode cX4_traced 3 = .ok (.aload_n 0, 1) := by decide +kernel
theorem dX4_traced_4 : decode cX4_traced 4 = .ok (.getfield 276, 3) := by decide +kernel
theorem dX4_traced_7 : decode cX4_traced 7 = .ok (.imul, 1) := by decide +kernel
theorem dX4_traced_8 : decode cX4_traced 8 = .ok (.iload_n 1, 1) := by decide +kernel
theorem dX4_traced_9 : decode cX4_traced 9 = .ok (.iadd, 1) := by decide +kernel
theorem dX4_traced_10 : decode cX4_traced 10 = .ok (.putfield 276, 3) := by decide +kernel
theorem dX4_traced_13 : decode cX4_traced 13 = .ok (.return_, 1) := by decide +kernel
theorem dX4_tell_0 : decode cX4_tell 0 = .ok (.aload_n 0, 1) := by decide +kernel
theorem dX4_tell_1 : decode cX4_tell 1 = .ok (.iload_n 1, 1) := by decide +kernel
theorem dX4_tell_2 : decode cX4_tell 2 = .ok (.invokevirtual 168, 3) := by decide +kernel
theorem dX4_tell_5 : decode cX4_tell 5 = .ok (.ifCond .eq 5, 3) := by decide +kernel
theorem dX4_tell_8 : decode cX4_tell 8 = .ok (.iconst (-1), 1) := by decide +kernel
theorem dX4_tell_9 : decode cX4_tell 9 = .ok (.ireturn, 1) := by decide +kernel
theorem dX4_tell_10 : decode cX4_tell 10 = .ok (.aload_n 0, 1) := by decide +kernel
theorem dX4_tell_11 : decode cX4_tell 11 = .ok (.getfield 7, 3) := by decide +kernel
theorem dX4_tell_14 : decode cX4_tell 14 = .ok (.iload_n 1, 1) := by decide +kernel
theorem dX4_tell_15 : decode cX4_tell 15 = .ok (.iaload, 1) := by decide +kernel
theorem dX4_tell_16 : decode cX4_tell 16 = .ok (.istore_n 2, 1) := by decide +kernel
theorem dX4_tell_17 : decode cX4_tell 17 = .ok (.iload_n 2, 1) := by decide +kernel
theorem dX4_tell_18 : decode cX4_tell 18 = .ok (.iconst 2, 1) := by decide +kernel
theorem dX4_tell_19 : decode cX4_tell 19 = .ok (.if_icmp .ne 8, 3) := by decide +kernel
theorem dX4_tell_22 : decode cX4_tell 22 = .ok (.aload_n 0, 1) := by decide +kernel
theorem dX4_tell_23 : decode cX4_tell 23 = .ok (.iconst 3, 1) := by decide +kernel
theorem dX4_tell_24 : decode cX4_tell 24 = .ok (.invokevirtual 279, 3) := by decide +kernel
theorem dX4_tell_27 : decode cX4_tell 27 = .ok (.iload_n 2, 1) := by decide +kernel
theorem dX4_tell_28 : decode cX4_tell 28 = .ok (.ifCond .le 8, 3) := by decide +kernel
theorem dX4_tell_31 : decode cX4_tell 31 = .ok (.aload_n 0, 1) := by decide +kernel
theorem dX4_tell_32 : decode cX4_tell 32 = .ok (.iconst 2, 1) := by decide +kernel
theorem dX4_tell_33 : decode cX4_tell 33 = .ok (.invokevirtual 279, 3) := by decide +kernel
theorem dX4_tell_36 : decode cX4_tell 36 = .ok (.aload_n 0, 1) := by decide +kernel
theorem dX4_tell_37 : decode cX4_tell 37 = .ok (.iconst 1, 1) := by decide +kernel
theorem dX4_tell_38 : decode cX4_tell 38 = .ok (.invokevirtual 279, 3) := by decide +kernel
theorem dX4_tell_41 : decode cX4_tell 41 = .ok (.iload_n 2, 1) := by decide +kernel
theorem dX4_tell_42 : decode cX4_tell 42 = .ok (.iconst 2, 1) := by decide +kernel
theorem dX4_tell_43 : decode cX4_tell 43 = .ok (.if_icmp .ne 8, 3) := by decide +kernel
theorem dX4_tell_46 : decode cX4_tell 46 = .ok (.aload_n 0, 1) := by decide +kernel
theorem dX4_tell_47 : decode cX4_tell 47 = .ok (.iconst 1, 1) := by decide +kernel
theorem dX4_tell_48 : decode cX4_tell 48 = .ok (.invokevirtual 279, 3) := by decide +kernel
theorem dX4_tell_51 : decode cX4_tell 51 = .ok (.aload_n 0, 1) := by decide +kernel
theorem dX4_tell_52 : decode cX4_tell 52 = .ok (.getfield 16, 3) := by decide +kernel
theorem dX4_tell_55 : decode cX4_tell 55 = .ok (.iload_n 1, 1) := by decide +kernel
theorem dX4_tell_56 : decode cX4_tell 56 = .ok (.iaload, 1) := by decide +kernel
theorem dX4_tell_57 : decode cX4_tell 57 = .ok (.istore_n 3, 1) := by decide +kernel
theorem dX4_tell_58 : decode cX4_tell 58 = .ok (.iload_n 2, 1) := by decide +kernel
theorem dX4_tell_59 : decode cX4_tell 59 = .ok (.ifCond .ne 7, 3) := by decide +kernel
theorem dX4_tell_62 : decode cX4_tell 62 = .ok (.iload_n 3, 1) := by decide +kernel
theorem dX4_tell_63 : decode cX4_tell 63 = .ok (.goto 21, 3) := by decide +kernel
theorem dX4_tell_66 : decode cX4_tell 66 = .ok (.iload_n 2, 1) := by decide +kernel
theorem dX4_tell_67 : decode cX4_tell 67 = .ok (.iconst 1, 1) := by decide +kernel
theorem dX4_tell_68 : decode cX4_tell 68 = .ok (.if_icmp .ne 10, 3) := by decide +kernel
theorem dX4_tell_71 : decode cX4_tell 71 = .ok (.iload_n 3, 1) := by decide +kernel
theorem dX4_tell_72 : decode cX4_tell 72 = .ok (.bipush 100, 2) := by decide +kernel
theorem dX4_tell_74 : decode cX4_tell 74 = .ok (.iadd, 1) := by decide +kernel
theorem dX4_tell_75 : decode cX4_tell 75 = .ok (.goto 9, 3) := by decide +kernel
theorem dX4_tell_78 : decode cX4_tell 78 = .ok (.iconst 2, 1) := by decide +kernel
theorem dX4_tell_79 : decode cX4_tell 79 = .ok (.iload_n 3, 1) := by decide +kernel
theorem dX4_tell_80 : decode cX4_tell 80 = .ok (.imul, 1) := by decide +kernel
theorem dX4_tell_81 : decode cX4_tell 81 = .ok (.bipush 100, 2) := by decide +kernel
theorem dX4_tell_83 : decode cX4_tell 83 = .ok (.iadd, 1) := by decide +kernel
theorem dX4_tell_84 : decode cX4_tell 84 = .ok (.ireturn, 1) := by decide +kernel
theorem dX4_switchOn_0 : decode cX4_switchOn 0 = .ok (.aload_n 0, 1) := by decide +kernel
theorem dX4_switchOn_1 : decode cX4_switchOn 1 = .ok (.iload_n 1, 1) := by decide +kernel
theorem dX4_switchOn_2 : decode cX4_switchOn 2 = .ok (.invokevirtual 168, 3) := by decide +kernel
theorem dX4_switchOn_5 : decode cX4_switchOn 5 = .ok (.ifCond .eq 5, 3) := by decide +kernel
theorem dX4_switchOn_8 : decode cX4_switchOn 8 = .ok (.iconst (-1), 1) := by decide +kernel
theorem dX4_switchOn_9 : decode cX4_switchOn 9 = .ok (.ireturn, 1) := by decide +kernel
theorem dX4_switchOn_10 : decode cX4_switchOn 10 = .ok (.aload_n 0, 1) := by decide +kernel
theorem dX4_switchOn_11 : decode cX4_switchOn 11 = .ok (.aload_n 0, 1) := by decide +kernel
theorem dX4_switchOn_12 : decode cX4_switchOn 12 = .ok (.getfield 7, 3) := by decide +kernel
theorem dX4_switchOn_15 : decode cX4_switchOn 15 = .ok (.iload_n 1, 1) := by decide +kernel
theorem dX4_switchOn_16 : decode cX4_switchOn 16 = .ok (.iaload, 1) := by decide +kernel
theorem dX4_switchOn_17 : decode cX4_switchOn 17 = .ok (.iconst 2, 1) := by decide +kernel
theorem dX4_switchOn_18 : decode cX4_switchOn 18 = .ok (.if_icmp .ne 7, 3) := by decide +kernel
theorem dX4_switchOn_21 : decode cX4_switchOn 21 = .ok (.iconst 5, 1) := by decide +kernel
theorem dX4_switchOn_22 : decode cX4_switchOn 22 = .ok (.goto 4, 3) := by decide +kernel
theorem dX4_switchOn_25 : decode cX4_switchOn 25 = .ok (.iconst 4, 1) := by decide +kernel
theorem dX4_switchOn_26 : decode cX4_switchOn 26 = .ok (.invokevirtual 279, 3) := by decide +kernel
theorem dX4_switchOn_29 : decode cX4_switchOn 29 = .ok (.iconst 0, 1) := by decide +kernel
theorem dX4_switchOn_30 : decode cX4_switchOn 30 = .ok (.istore_n 2, 1) := by decide +kernel
theorem dX4_switchOn_31 : decode cX4_switchOn 31 = .ok (.iconst 0, 1) := by decide +kernel
theorem dX4_switchOn_32 : decode cX4_switchOn 32 = .ok (.istore_n 3, 1) := by decide +kernel
theorem dX4_switchOn_33 : decode cX4_switchOn 33 = .ok (.iload_n 3, 1) := by decide +kernel
theorem dX4_switchOn_34 : decode cX4_switchOn 34 = .ok (.aload_n 0, 1) := by decide +kernel
theorem dX4_switchOn_35 : decode cX4_switchOn 35 = .ok (.getfield 16, 3) := by decide +kernel
theorem dX4_switchOn_38 : decode cX4_switchOn 38 = .ok (.iload_n 1, 1) := by decide +kernel
theorem dX4_switchOn_39 : decode cX4_switchOn 39 = .ok (.iaload, 1) := by decide +kernel
theorem dX4_switchOn_40 : decode cX4_switchOn 40 = .ok (.if_icmp .ge 25, 3) := by decide +kernel
theorem dX4_switchOn_43 : decode cX4_switchOn 43 = .ok (.iload_n 2, 1) := by decide +kernel
theorem dX4_switchOn_44 : decode cX4_switchOn 44 = .ok (.aload_n 0, 1) := by decide +kernel
theorem dX4_switchOn_45 : decode cX4_switchOn 45 = .ok (.getfield 22, 3) := by decide +kernel
theorem dX4_switchOn_48 : decode cX4_switchOn 48 = .ok (.aload_n 0, 1) := by decide +kernel
theorem dX4_switchOn_49 : decode cX4_switchOn 49 = .ok (.getfield 13, 3) := by decide +kernel
theorem dX4_switchOn_52 : decode cX4_switchOn 52 = .ok (.iload_n 1, 1) := by decide +kernel
theorem dX4_switchOn_53 : decode cX4_switchOn 53 = .ok (.iaload, 1) := by decide +kernel
theorem dX4_switchOn_54 : decode cX4_switchOn 54 = .ok (.iload_n 3, 1) := by decide +kernel
theorem dX4_switchOn_55 : decode cX4_switchOn 55 = .ok (.iadd, 1) := by decide +kernel
theorem dX4_switchOn_56 : decode cX4_switchOn 56 = .ok (.iaload, 1) := by decide +kernel
theorem dX4_switchOn_57 : decode cX4_switchOn 57 = .ok (.iadd, 1) := by decide +kernel
theorem dX4_switchOn_58 : decode cX4_switchOn 58 = .ok (.istore_n 2, 1) := by decide +kernel
theorem dX4_switchOn_59 : decode cX4_switchOn 59 = .ok (.iinc 3 1, 3) := by decide +kernel
theorem dX4_switchOn_62 : decode cX4_switchOn 62 = .ok (.goto (-29), 3) := by decide +kernel
theorem dX4_switchOn_65 : decode cX4_switchOn 65 = .ok (.aload_n 0, 1) := by decide +kernel
theorem dX4_switchOn_66 : decode cX4_switchOn 66 = .ok (.getfield 7, 3) := by decide +kernel
theorem dX4_switchOn_69 : decode cX4_switchOn 69 = .ok (.iload_n 1, 1) := by decide +kernel
theorem dX4_switchOn_70 : decode cX4_switchOn 70 = .ok (.iaload, 1) := by decide +kernel
theorem dX4_switchOn_71 : decode cX4_switchOn 71 = .ok (.iconst 2, 1) := by decide +kernel
theorem dX4_switchOn_72 : decode cX4_switchOn 72 = .ok (.if_icmp .ne 8, 3) := by decide +kernel
theorem dX4_switchOn_75 : decode cX4_switchOn 75 = .ok (.bipush 60, 2) := by decide +kernel
theorem dX4_switchOn_77 : decode cX4_switchOn 77 = .ok (.goto 4, 3) := by decide +kernel
theorem dX4_switchOn_80 : decode cX4_switchOn 80 = .ok (.iload_n 2, 1) := by decide +kernel
theorem dX4_switchOn_81 : decode cX4_switchOn 81 = .ok (.ireturn, 1) := by decide +kernel
theorem dX4_as_0 : decode cX4_as 0 = .ok (.aload_n 0, 1) := by decide +kernel
theorem dX4_as_1 : decode cX4_as 1 = .ok (.iload_n 1, 1) := by decide +kernel
theorem dX4_as_2 : decode cX4_as 2 = .ok (.invokevirtual 168, 3) := by decide +kernel
theorem dX4_as_5 : decode cX4_as 5 = .ok (.ifCond .eq 9, 3) := by decide +kernel
theorem dX4_as_8 : decode cX4_as 8 = .ok (.aload_n 0, 1) := by decide +kernel
theorem dX4_as_9 : decode cX4_as 9 = .ok (.iconst (-1), 1) := by decide +kernel
theorem dX4_as_10 : decode cX4_as 10 = .ok (.invokevirtual 132, 3) := by decide +kernel
theorem dX4_as_13 : decode cX4_as 13 = .ok (.ireturn, 1) := by decide +kernel
theorem dX4_as_14 : decode cX4_as 14 = .ok (.iload_n 2, 1) := by decide +kernel
theorem dX4_as_15 : decode cX4_as 15 = .ok (.i2l, 1) := by decide +kernel
theorem dX4_as_16 : decode cX4_as 16 = .ok (.lconst 0, 1) := by decide +kernel
theorem dX4_as_17 : decode cX4_as 17 = .ok (.ldc2_w 135, 3) := by decide +kernel
theorem dX4_as_20 : decode cX4_as 20 = .ok (.invokestatic 87, 3) := by decide +kernel
theorem dX4_as_23 : decode cX4_as 23 = .ok (.ifCond .ne 10, 3) := by decide +kernel
theorem dX4_as_26 : decode cX4_as 26 = .ok (.aload_n 0, 1) := by decide +kernel
theorem dX4_as_27 : decode cX4_as 27 = .ok (.bipush (-2), 2) := by decide +kernel
theorem dX4_as_29 : decode cX4_as 29 = .ok (.invokevirtual 132, 3) := by decide +kernel
theorem dX4_as_32 : decode cX4_as 32 = .ok (.ireturn, 1) := by decide +kernel
theorem dX4_as_33 : decode cX4_as 33 = .ok (.aload_n 0, 1) := by decide +kernel
theorem dX4_as_34 : decode cX4_as 34 = .ok (.getfield 7, 3) := by decide +kernel
theorem dX4_as_37 : decode cX4_as 37 = .ok (.iload_n 1, 1) := by decide +kernel
theorem dX4_as_38 : decode cX4_as 38 = .ok (.iaload, 1) := by decide +kernel
theorem dX4_as_39 : decode cX4_as 39 = .ok (.iload_n 2, 1) := by decide +kernel
theorem dX4_as_40 : decode cX4_as 40 = .ok (.if_icmp .lt 11, 3) := by decide +kernel
theorem dX4_as_43 : decode cX4_as 43 = .ok (.aload_n 0, 1) := by decide +kernel
theorem dX4_as_44 : decode cX4_as 44 = .ok (.iconst 1, 1) := by decide +kernel
theorem dX4_as_45 : decode cX4_as 45 = .ok (.invokevirtual 132, 3) := by decide +kernel
theorem dX4_as_48 : decode cX4_as 48 = .ok (.goto 8, 3) := by decide +kernel
theorem dX4_as_51 : decode cX4_as 51 = .ok (.aload_n 0, 1) := by decide +kernel
theorem dX4_as_52 : decode cX4_as 52 = .ok (.iconst 2, 1) := by decide +kernel
theorem dX4_as_53 : decode cX4_as 53 = .ok (.invokevirtual 120, 3) := by decide +kernel
theorem dX4_as_56 : decode cX4_as 56 = .ok (.ireturn, 1) := by decide +kernel
theorem dX4_trace_0 : decode cX4_trace 0 = .ok (.aload_n 0, 1) := by decide +kernel
theorem dX4_trace_1 : decode cX4_trace 1 = .ok (.getfield 276, 3) := by decide +kernel
theorem dX4_trace_4 : decode cX4_trace 4 = .ok (.ireturn, 1) := by decide +kernel
theorem dX4_fault_0 : decode cX4_fault 0 = .ok (.aload_n 0, 1) := by decide +kernel
theorem dX4_fault_1 : decode cX4_fault 1 = .ok (.getfield 76, 3) := by decide +kernel
theorem dX4_fault_4 : decode cX4_fault 4 = .ok (.ireturn, 1) := by decide +kernel
theorem dX4_many_0 : decode cX4_many 0 = .ok (.iconst 0, 1) := by decide +kernel
theorem dX4_many_1 : decode cX4_many 1 = .ok (.istore_n 2, 1) := by decide +kernel
theorem dX4_many_2 : decode cX4_many 2 = .ok (.iconst 0, 1) := by decide +kernel
theorem dX4_many_3 : decode cX4_many 3 = .ok (.istore_n 3, 1) := by decide +kernel
theorem dX4_many_4 : decode cX4_many 4 = .ok (.iload_n 3, 1) := by decide +kernel
theorem dX4_many_5 : decode cX4_many 5 = .ok (.aload_n 0, 1) := by decide +kernel
theorem dX4_many_6 : decode cX4_many 6 = .ok (.getfield 84, 3) := by decide +kernel
theorem dX4_many_9 : decode cX4_many 9 = .ok (.if_icmp .ge 18, 3) := by decide +kernel
theorem dX4_many_12 : decode cX4_many 12 = .ok (.iload_n 2, 1) := by decide +kernel
theorem dX4_many_13 : decode cX4_many 13 = .ok (.aload_n 0, 1) := by decide +kernel
theorem dX4_many_14 : decode cX4_many 14 = .ok (.getfield 19, 3) := by decide +kernel
theorem dX4_many_17 : decode cX4_many 17 = .ok (.iload_n 3, 1) := by decide +kernel
theorem dX4_many_18 : decode cX4_many 18 = .ok (.iaload, 1) := by decide +kernel
theorem dX4_many_19 : decode cX4_many 19 = .ok (.iadd, 1) := by decide +kernel
theorem dX4_many_20 : decode cX4_many 20 = .ok (.istore_n 2, 1) := by decide +kernel
theorem dX4_many_21 : decode cX4_many 21 = .ok (.iinc 3 1, 3) := by decide +kernel
theorem dX4_many_24 : decode cX4_many 24 = .ok (.goto (-20), 3) := by decide +kernel
theorem dX4_many_27 : decode cX4_many 27 = .ok (.iload_n 1, 1) := by decide +kernel
theorem dX4_many_28 : decode cX4_many 28 = .ok (.tableswitch 67 0 5 #[40, 45, 50, 52, 57, 62], 40) := by decide +kernel
theorem dX4_many_68 : decode cX4_many 68 = .ok (.aload_n 0, 1) := by decide +kernel
theorem dX4_many_69 : decode cX4_many 69 = .ok (.getfield 84, 3) := by decide +kernel
theorem dX4_many_72 : decode cX4_many 72 = .ok (.ireturn, 1) := by decide +kernel
theorem dX4_many_73 : decode cX4_many 73 = .ok (.aload_n 0, 1) := by decide +kernel
theorem dX4_many_74 : decode cX4_many 74 = .ok (.getfield 91, 3) := by decide +kernel
theorem dX4_many_77 : decode cX4_many 77 = .ok (.ireturn, 1) := by decide +kernel
theorem dX4_many_78 : decode cX4_many 78 = .ok (.iload_n 2, 1) := by decide +kernel
theorem dX4_many_79 : decode cX4_many 79 = .ok (.ireturn, 1) := by decide +kernel
theorem dX4_many_80 : decode cX4_many 80 = .ok (.aload_n 0, 1) := by decide +kernel
theorem dX4_many_81 : decode cX4_many 81 = .ok (.invokevirtual 240, 3) := by decide +kernel
theorem dX4_many_84 : decode cX4_many 84 = .ok (.ireturn, 1) := by decide +kernel
theorem dX4_many_85 : decode cX4_many 85 = .ok (.aload_n 0, 1) := by decide +kernel
theorem dX4_many_86 : decode cX4_many 86 = .ok (.getfield 147, 3) := by decide +kernel
theorem dX4_many_89 : decode cX4_many 89 = .ok (.ireturn, 1) := by decide +kernel
theorem dX4_many_90 : decode cX4_many 90 = .ok (.aload_n 0, 1) := by decide +kernel
theorem dX4_many_91 : decode cX4_many 91 = .ok (.getfield 144, 3) := by decide +kernel
theorem dX4_many_94 : decode cX4_many 94 = .ok (.ireturn, 1) := by decide +kernel
theorem dX4_many_95 : decode cX4_many 95 = .ok (.bipush (-2), 2) := by decide +kernel
theorem dX4_many_97 : decode cX4_many 97 = .ok (.ireturn, 1) := by decide +kernel
