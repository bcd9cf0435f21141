theorem dX8_attempt_41 : decode cX8_attempt 41 = .ok (.getfield 60, 3) := by decide +kernel
theorem dX8_attempt_44 : decode cX8_attempt 44 = .ok (.invokevirtual 256, 3) := by decide +kernel
theorem dX8_attempt_47 : decode cX8_attempt 47 = .ok (.aload_n 0, 1) := by decide +kernel
theorem dX8_attempt_48 : decode cX8_attempt 48 = .ok (.getfield 60, 3) := by decide +kernel
theorem dX8_attempt_51 : decode cX8_attempt 51 = .ok (.getfield 198, 3) := by decide +kernel
theorem dX8_attempt_54 : decode cX8_attempt 54 = .ok (.istore 6, 2) := by decide +kernel
theorem dX8_attempt_56 : decode cX8_attempt 56 = .ok (.aload_n 0, 1) := by decide +kernel
theorem dX8_attempt_57 : decode cX8_attempt 57 = .ok (.getfield 60, 3) := by decide +kernel
theorem dX8_attempt_60 : decode cX8_attempt 60 = .ok (.iload_n 1, 1) := by decide +kernel
theorem dX8_attempt_61 : decode cX8_attempt 61 = .ok (.iload_n 2, 1) := by decide +kernel
theorem dX8_attempt_62 : decode cX8_attempt 62 = .ok (.iload_n 3, 1) := by decide +kernel
theorem dX8_attempt_63 : decode cX8_attempt 63 = .ok (.invokevirtual 260, 3) := by decide +kernel
theorem dX8_attempt_66 : decode cX8_attempt 66 = .ok (.istore 7, 2) := by decide +kernel
theorem dX8_attempt_68 : decode cX8_attempt 68 = .ok (.aload_n 0, 1) := by decide +kernel
theorem dX8_attempt_69 : decode cX8_attempt 69 = .ok (.getfield 84, 3) := by decide +kernel
theorem dX8_attempt_72 : decode cX8_attempt 72 = .ok (.iload_n 1, 1) := by decide +kernel
theorem dX8_attempt_73 : decode cX8_attempt 73 = .ok (.iload_n 1, 1) := by decide +kernel
theorem dX8_attempt_74 : decode cX8_attempt 74 = .ok (.iload_n 2, 1) := by decide +kernel
theorem dX8_attempt_75 : decode cX8_attempt 75 = .ok (.iload 7, 2) := by decide +kernel
theorem dX8_attempt_77 : decode cX8_attempt 77 = .ok (.invokestatic 263, 3) := by decide +kernel
theorem dX8_attempt_80 : decode cX8_attempt 80 = .ok (.aload_n 0, 1) := by decide +kernel
theorem dX8_attempt_81 : decode cX8_attempt 81 = .ok (.getfield 60, 3) := by decide +kernel
theorem dX8_attempt_84 : decode cX8_attempt 84 = .ok (.getfield 198, 3) := by decide +kernel
theorem dX8_attempt_87 : decode cX8_attempt 87 = .ok (.iload 6, 2) := by decide +kernel
theorem dX8_attempt_89 : decode cX8_attempt 89 = .ok (.isub, 1) := by decide +kernel
theorem dX8_attempt_90 : decode cX8_attempt 90 = .ok (.invokevirtual 266, 3) := by decide +kernel
theorem dX8_attempt_93 : decode cX8_attempt 93 = .ok (.iload 7, 2) := by decide +kernel
theorem dX8_attempt_95 : decode cX8_attempt 95 = .ok (.ireturn, 1) := by decide +kernel
theorem dX8_numberToLog_0 : decode cX8_numberToLog 0 = .ok (.iload_n 0, 1) := by decide +kernel
theorem dX8_numberToLog_1 : decode cX8_numberToLog 1 = .ok (.iconst 1, 1) := by decide +kernel
theorem dX8_numberToLog_2 : decode cX8_numberToLog 2 = .ok (.if_icmp .eq 9, 3) := by decide +kernel
theorem dX8_numberToLog_5 : decode cX8_numberToLog 5 = .ok (.iload_n 0, 1) := by decide +kernel
theorem dX8_numberToLog_6 : decode cX8_numberToLog 6 = .ok (.bipush 10, 2) := by decide +kernel
theorem dX8_numberToLog_8 : decode cX8_numberToLog 8 = .ok (.if_icmp .ne 7, 3) := by decide +kernel
theorem dX8_numberToLog_11 : decode cX8_numberToLog 11 = .ok (.iload_n 2, 1) := by decide +kernel
theorem dX8_numberToLog_12 : decode cX8_numberToLog 12 = .ok (.goto 4, 3) := by decide +kernel
theorem dX8_numberToLog_15 : decode cX8_numberToLog 15 = .ok (.iload_n 1, 1) := by decide +kernel
theorem dX8_numberToLog_16 : decode cX8_numberToLog 16 = .ok (.ireturn, 1) := by decide +kernel
theorem dX8_years_0 : decode cX8_years 0 = .ok (.aload_n 0, 1) := by decide +kernel
theorem dX8_years_1 : decode cX8_years 1 = .ok (.getfield 28, 3) := by decide +kernel
theorem dX8_years_4 : decode cX8_years 4 = .ok (.invokevirtual 147, 3) := by decide +kernel
theorem dX8_years_7 : decode cX8_years 7 = .ok (.ifCond .eq 14, 3) := by decide +kernel
theorem dX8_years_10 : decode cX8_years 10 = .ok (.iload_n 1, 1) := by decide +kernel
theorem dX8_years_11 : decode cX8_years 11 = .ok (.iconst 1, 1) := by decide +kernel
theorem dX8_years_12 : decode cX8_years 12 = .ok (.if_icmp .lt 9, 3) := by decide +kernel
theorem dX8_years_15 : decode cX8_years 15 = .ok (.iload_n 1, 1) := by decide +kernel
theorem dX8_years_16 : decode cX8_years 16 = .ok (.bipush 40, 2) := by decide +kernel
theorem dX8_years_18 : decode cX8_years 18 = .ok (.if_icmp .le 5, 3) := by decide +kernel
theorem dX8_years_21 : decode cX8_years 21 = .ok (.iconst (-1), 1) := by decide +kernel
theorem dX8_years_22 : decode cX8_years 22 = .ok (.ireturn, 1) := by decide +kernel
theorem dX8_years_23 : decode cX8_years 23 = .ok (.aload_n 0, 1) := by decide +kernel
theorem dX8_years_24 : decode cX8_years 24 = .ok (.lload_n 2, 1) := by decide +kernel
theorem dX8_years_25 : decode cX8_years 25 = .ok (.putfield 269, 3) := by decide +kernel
theorem dX8_years_28 : decode cX8_years 28 = .ok (.iconst 0, 1) := by decide +kernel
theorem dX8_years_29 : decode cX8_years 29 = .ok (.istore 4, 2) := by decide +kernel
theorem dX8_years_31 : decode cX8_years 31 = .ok (.iload 4, 2) := by decide +kernel
theorem dX8_years_33 : decode cX8_years 33 = .ok (.iload_n 1, 1) := by decide +kernel
theorem dX8_years_34 : decode cX8_years 34 = .ok (.if_icmp .ge 159, 3) := by decide +kernel
theorem dX8_years_37 : decode cX8_years 37 = .ok (.aload_n 0, 1) := by decide +kernel
theorem dX8_years_38 : decode cX8_years 38 = .ok (.bipush 8, 2) := by decide +kernel
theorem dX8_years_40 : decode cX8_years 40 = .ok (.invokevirtual 273, 3) := by decide +kernel
theorem dX8_years_43 : decode cX8_years 43 = .ok (.tableswitch 130 3 7 #[33, 33, 45, 78, 95], 33) := by decide +kernel
theorem dX8_years_76 : decode cX8_years 76 = .ok (.aload_n 0, 1) := by decide +kernel
theorem dX8_years_77 : decode cX8_years 77 = .ok (.iconst 1, 1) := by decide +kernel
theorem dX8_years_78 : decode cX8_years 78 = .ok (.iconst (-1), 1) := by decide +kernel
theorem dX8_years_79 : decode cX8_years 79 = .ok (.iconst (-1), 1) := by decide +kernel
theorem dX8_years_80 : decode cX8_years 80 = .ok (.iconst 0, 1) := by decide +kernel
theorem dX8_years_81 : decode cX8_years 81 = .ok (.invokevirtual 248, 3) := by decide +kernel
theorem dX8_years_84 : decode cX8_years 84 = .ok (.pop, 1) := by decide +kernel
theorem dX8_years_85 : decode cX8_years 85 = .ok (.goto 102, 3) := by decide +kernel
theorem dX8_years_88 : decode cX8_years 88 = .ok (.aload_n 0, 1) := by decide +kernel
theorem dX8_years_89 : decode cX8_years 89 = .ok (.aload_n 0, 1) := by decide +kernel
theorem dX8_years_90 : decode cX8_years 90 = .ok (.getfield 28, 3) := by decide +kernel
theorem dX8_years_93 : decode cX8_years 93 = .ok (.getfield 141, 3) := by decide +kernel
theorem dX8_years_96 : decode cX8_years 96 = .ok (.invokevirtual 273, 3) := by decide +kernel
theorem dX8_years_99 : decode cX8_years 99 = .ok (.istore 5, 2) := by decide +kernel
theorem dX8_years_101 : decode cX8_years 101 = .ok (.aload_n 0, 1) := by decide +kernel
theorem dX8_years_102 : decode cX8_years 102 = .ok (.iconst 2, 1) := by decide +kernel
theorem dX8_years_103 : decode cX8_years 103 = .ok (.iload 5, 2) := by decide +kernel
theorem dX8_years_105 : decode cX8_years 105 = .ok (.aload_n 0, 1) := by decide +kernel
theorem dX8_years_106 : decode cX8_years 106 = .ok (.bipush 9, 2) := by decide +kernel
theorem dX8_years_108 : decode cX8_years 108 = .ok (.invokevirtual 273, 3) := by decide +kernel
theorem dX8_years_111 : decode cX8_years 111 = .ok (.iconst 1, 1) := by decide +kernel
theorem dX8_years_112 : decode cX8_years 112 = .ok (.iadd, 1) := by decide +kernel
theorem dX8_years_113 : decode cX8_years 113 = .ok (.iconst 0, 1) := by decide +kernel
theorem dX8_years_114 : decode cX8_years 114 = .ok (.invokevirtual 248, 3) := by decide +kernel
theorem dX8_years_117 : decode cX8_years 117 = .ok (.pop, 1) := by decide +kernel
theorem dX8_years_118 : decode cX8_years 118 = .ok (.goto 69, 3) := by decide +kernel
theorem dX8_years_121 : decode cX8_years 121 = .ok (.aload_n 0, 1) := by decide +kernel
theorem dX8_years_122 : decode cX8_years 122 = .ok (.iconst 3, 1) := by decide +kernel
theorem dX8_years_123 : decode cX8_years 123 = .ok (.aload_n 0, 1) := by decide +kernel
theorem dX8_years_124 : decode cX8_years 124 = .ok (.bipush 24, 2) := by decide +kernel
theorem dX8_years_126 : decode cX8_years 126 = .ok (.invokevirtual 273, 3) := by decide +kernel
theorem dX8_years_129 : decode cX8_years 129 = .ok (.iconst (-1), 1) := by decide +kernel
theorem dX8_years_130 : decode cX8_years 130 = .ok (.iconst 0, 1) := by decide +kernel
theorem dX8_years_131 : decode cX8_years 131 = .ok (.invokevirtual 248, 3) := by decide +kernel
theorem dX8_years_134 : decode cX8_years 134 = .ok (.pop, 1) := by decide +kernel
theorem dX8_years_135 : decode cX8_years 135 = .ok (.goto 52, 3) := by decide +kernel
theorem dX8_years_138 : decode cX8_years 138 = .ok (.aload_n 0, 1) := by decide +kernel
theorem dX8_years_139 : decode cX8_years 139 = .ok (.aload_n 0, 1) := by decide +kernel
theorem dX8_years_140 : decode cX8_years 140 = .ok (.getfield 28, 3) := by decide +kernel
theorem dX8_years_143 : decode cX8_years 143 = .ok (.getfield 141, 3) := by decide +kernel
theorem dX8_years_146 : decode cX8_years 146 = .ok (.invokevirtual 273, 3) := by decide +kernel
theorem dX8_years_149 : decode cX8_years 149 = .ok (.istore 6, 2) := by decide +kernel
theorem dX8_years_151 : decode cX8_years 151 = .ok (.aload_n 0, 1) := by decide +kernel
theorem dX8_years_152 : decode cX8_years 152 = .ok (.bipush 6, 2) := by decide +kernel
theorem dX8_years_154 : decode cX8_years 154 = .ok (.iload 6, 2) := by decide +kernel
theorem dX8_years_156 : decode cX8_years 156 = .ok (.aload_n 0, 1) := by decide +kernel
theorem dX8_years_157 : decode cX8_years 157 = .ok (.getfield 60, 3) := by decide +kernel
theorem dX8_years_160 : decode cX8_years 160 = .ok (.iload 6, 2) := by decide +kernel
theorem dX8_years_162 : decode cX8_years 162 = .ok (.invokevirtual 276, 3) := by decide +kernel
theorem dX8_years_165 : decode cX8_years 165 = .ok (.iconst 0, 1) := by decide +kernel
theorem dX8_years_166 : decode cX8_years 166 = .ok (.invokevirtual 248, 3) := by decide +kernel
theorem dX8_years_169 : decode cX8_years 169 = .ok (.pop, 1) := by decide +kernel
theorem dX8_years_170 : decode cX8_years 170 = .ok (.goto 17, 3) := by decide +kernel
theorem dX8_years_173 : decode cX8_years 173 = .ok (.aload_n 0, 1) := by decide +kernel
theorem dX8_years_174 : decode cX8_years 174 = .ok (.iconst 0, 1) := by decide +kernel
theorem dX8_years_175 : decode cX8_years 175 = .ok (.aload_n 0, 1) := by decide +kernel
theorem dX8_years_176 : decode cX8_years 176 = .ok (.bipush 24, 2) := by decide +kernel
theorem dX8_years_178 : decode cX8_years 178 = .ok (.invokevirtual 273, 3) := by decide +kernel
theorem dX8_years_181 : decode cX8_years 181 = .ok (.iconst (-1), 1) := by decide +kernel
theorem dX8_years_182 : decode cX8_years 182 = .ok (.iconst 0, 1) := by decide +kernel
theorem dX8_years_183 : decode cX8_years 183 = .ok (.invokevirtual 248, 3) := by decide +kernel
theorem dX8_years_186 : decode cX8_years 186 = .ok (.pop, 1) := by decide +kernel
theorem dX8_years_187 : decode cX8_years 187 = .ok (.iinc 4 1, 3) := by decide +kernel
theorem dX8_years_190 : decode cX8_years 190 = .ok (.goto (-159), 3) := by decide +kernel
theorem dX8_years_193 : decode cX8_years 193 = .ok (.aload_n 0, 1) := by decide +kernel
theorem dX8_years_194 : decode cX8_years 194 = .ok (.getfield 60, 3) := by decide +kernel
theorem dX8_years_197 : decode cX8_years 197 = .ok (.getfield 198, 3) := by decide +kernel
theorem dX8_years_200 : decode cX8_years 200 = .ok (.ireturn, 1) := by decide +kernel
theorem dX8_drawBelow_0 : decode cX8_drawBelow 0 = .ok (.aload_n 0, 1) := by decide +kernel
theorem dX8_drawBelow_1 : decode cX8_drawBelow 1 = .ok (.aload_n 0, 1) := by decide +kernel
theorem dX8_drawBelow_2 : decode cX8_drawBelow 2 = .ok (.getfield 269, 3) := by decide +kernel
theorem dX8_drawBelow_5 : decode cX8_drawBelow 5 = .ok (.ldc2_w 279, 3) := by decide +kernel
theorem dX8_drawBelow_8 : decode cX8_drawBelow 8 = .ok (.lmul, 1) := by decide +kernel
theorem dX8_drawBelow_9 : decode cX8_drawBelow 9 = .ok (.ldc2_w 281, 3) := by decide +kernel
theorem dX8_drawBelow_12 : decode cX8_drawBelow 12 = .ok (.ladd, 1) := by decide +kernel
theorem dX8_drawBelow_13 : decode cX8_drawBelow 13 = .ok (.putfield 269, 3) := by decide +kernel
theorem dX8_drawBelow_16 : decode cX8_drawBelow 16 = .ok (.iload_n 1, 1) := by decide +kernel
theorem dX8_drawBelow_17 : decode cX8_drawBelow 17 = .ok (.iconst 1, 1) := by decide +kernel
theorem dX8_drawBelow_18 : decode cX8_drawBelow 18 = .ok (.if_icmp .ge 7, 3) := by decide +kernel
theorem dX8_drawBelow_21 : decode cX8_drawBelow 21 = .ok (.iconst 0, 1) := by decide +kernel
theorem dX8_drawBelow_22 : decode cX8_drawBelow 22 = .ok (.goto 14, 3) := by decide +kernel
theorem dX8_drawBelow_25 : decode cX8_drawBelow 25 = .ok (.aload_n 0, 1) := by decide +kernel
theorem dX8_drawBelow_26 : decode cX8_drawBelow 26 = .ok (.getfield 269, 3) := by decide +kernel
theorem dX8_drawBelow_29 : decode cX8_drawBelow 29 = .ok (.bipush 33, 2) := by decide +kernel
theorem dX8_drawBelow_31 : decode cX8_drawBelow 31 = .ok (.lushr, 1) := by decide +kernel
theorem dX8_drawBelow_32 : decode cX8_drawBelow 32 = .ok (.iload_n 1, 1) := by decide +kernel
theorem dX8_drawBelow_33 : decode cX8_drawBelow 33 = .ok (.i2l, 1) := by decide +kernel
theorem dX8_drawBelow_34 : decode cX8_drawBelow 34 = .ok (.lrem, 1) := by decide +kernel
theorem dX8_drawBelow_35 : decode cX8_drawBelow 35 = .ok (.l2i, 1) := by decide +kernel
theorem dX8_drawBelow_36 : decode cX8_drawBelow 36 = .ok (.ireturn, 1) := by decide +kernel
theorem dX8_status_0 : decode cX8_status 0 = .ok (.iload_n 1, 1) := by decide +kernel
theorem dX8_status_1 : decode cX8_status 1 = .ok (.ifCond .lt 8, 3) := by decide +kernel
theorem dX8_status_4 : decode cX8_status 4 = .ok (.iload_n 1, 1) := by decide +kernel
theorem dX8_status_5 : decode cX8_status 5 = .ok (.iconst 4, 1) := by decide +kernel
theorem dX8_status_6 : decode cX8_status 6 = .ok (.if_icmp .lt 7, 3) := by decide +kernel
theorem dX8_status_9 : decode cX8_status 9 = .ok (.iconst (-1), 1) := by decide +kernel
theorem dX8_status_10 : decode cX8_status 10 = .ok (.goto 9, 3) := by decide +kernel
theorem dX8_status_13 : decode cX8_status 13 = .ok (.aload_n 0, 1) := by decide +kernel
theorem dX8_status_14 : decode cX8_status 14 = .ok (.getfield 94, 3) := by decide +kernel
theorem dX8_status_17 : decode cX8_status 17 = .ok (.iload_n 1, 1) := by decide +kernel
theorem dX8_status_18 : decode cX8_status 18 = .ok (.iaload, 1) := by decide +kernel
theorem dX8_status_19 : decode cX8_status 19 = .ok (.ireturn, 1) := by decide +kernel
theorem dX8_undo_0 : decode cX8_undo 0 = .ok (.aload_n 0, 1) := by decide +kernel
theorem dX8_undo_1 : decode cX8_undo 1 = .ok (.getfield 77, 3) := by decide +kernel
theorem dX8_undo_4 : decode cX8_undo 4 = .ok (.getfield 283, 3) := by decide +kernel
theorem dX8_undo_7 : decode cX8_undo 7 = .ok (.ifCond .ne 5, 3) := by decide +kernel
theorem dX8_undo_10 : decode cX8_undo 10 = .ok (.iconst (-1), 1) := by decide +kernel
theorem dX8_undo_11 : decode cX8_undo 11 = .ok (.ireturn, 1) := by decide +kernel
theorem dX8_undo_12 : decode cX8_undo 12 = .ok (.aload_n 0, 1) := by decide +kernel
theorem dX8_undo_13 : decode cX8_undo 13 = .ok (.getfield 77, 3) := by decide +kernel
theorem dX8_undo_16 : decode cX8_undo 16 = .ok (.aload_n 0, 1) := by decide +kernel
theorem dX8_undo_17 : decode cX8_undo 17 = .ok (.getfield 60, 3) := by decide +kernel
theorem dX8_undo_20 : decode cX8_undo 20 = .ok (.invokevirtual 286, 3) := by decide +kernel
theorem dX8_undo_23 : decode cX8_undo 23 = .ok (.aload_n 0, 1) := by decide +kernel
theorem dX8_undo_24 : decode cX8_undo 24 = .ok (.getfield 84, 3) := by decide +kernel
theorem dX8_undo_27 : decode cX8_undo 27 = .ok (.invokevirtual 289, 3) := by decide +kernel
theorem dX8_undo_30 : decode cX8_undo 30 = .ok (.aload_n 0, 1) := by decide +kernel
theorem dX8_undo_31 : decode cX8_undo 31 = .ok (.getfield 77, 3) := by decide +kernel
theorem dX8_undo_34 : decode cX8_undo 34 = .ok (.getfield 283, 3) := by decide +kernel
theorem dX8_undo_37 : decode cX8_undo 37 = .ok (.ireturn, 1) := by decide +kernel
theorem dX8_log_0 : decode cX8_log 0 = .ok (.iload_n 1, 1) := by decide +kernel
theorem dX8_log_1 : decode cX8_log 1 = .ok (.ifCond .lt 23, 3) := by decide +kernel
theorem dX8_log_4 : decode cX8_log 4 = .ok (.iload_n 1, 1) := by decide +kernel
theorem dX8_log_5 : decode cX8_log 5 = .ok (.aload_n 0, 1) := by decide +kernel
theorem dX8_log_6 : decode cX8_log 6 = .ok (.getfield 84, 3) := by decide +kernel
theorem dX8_log_9 : decode cX8_log 9 = .ok (.invokevirtual 292, 3) := by decide +kernel
theorem dX8_log_12 : decode cX8_log 12 = .ok (.if_icmp .ge 12, 3) := by decide +kernel
theorem dX8_log_15 : decode cX8_log 15 = .ok (.iload_n 2, 1) := by decide +kernel
theorem dX8_log_16 : decode cX8_log 16 = .ok (.ifCond .lt 8, 3) := by decide +kernel
theorem dX8_log_19 : decode cX8_log 19 = .ok (.iload_n 2, 1) := by decide +kernel
theorem dX8_log_20 : decode cX8_log 20 = .ok (.iconst 2, 1) := by decide +kernel
theorem dX8_log_21 : decode cX8_log 21 = .ok (.if_icmp .le 6, 3) := by decide +kernel
theorem dX8_log_24 : decode cX8_log 24 = .ok (.ldc 207, 2) := by decide +kernel
theorem dX8_log_26 : decode cX8_log 26 = .ok (.ireturn, 1) := by decide +kernel
theorem dX8_log_27 : decode cX8_log 27 = .ok (.aload_n 0, 1) := by decide +kernel
theorem dX8_log_28 : decode cX8_log 28 = .ok (.getfield 84, 3) := by decide +kernel
theorem dX8_log_31 : decode cX8_log 31 = .ok (.iload_n 1, 1) := by decide +kernel
theorem dX8_log_32 : decode cX8_log 32 = .ok (.iload_n 2, 1) := by decide +kernel
theorem dX8_log_33 : decode cX8_log 33 = .ok (.invokevirtual 294, 3) := by decide +kernel
theorem dX8_log_36 : decode cX8_log 36 = .ok (.ireturn, 1) := by decide +kernel
theorem dX8_takes_0 : decode cX8_takes 0 = .ok (.aload_n 0, 1) := by decide +kernel
theorem dX8_takes_1 : decode cX8_takes 1 = .ok (.getfield 28, 3) := by decide +kernel
theorem dX8_takes_4 : decode cX8_takes 4 = .ok (.iload_n 1, 1) := by decide +kernel
theorem dX8_takes_5 : decode cX8_takes 5 = .ok (.invokevirtual 157, 3) := by decide +kernel
theorem dX8_takes_8 : decode cX8_takes 8 = .ok (.ifCond .eq 12, 3) := by decide +kernel
theorem dX8_takes_11 : decode cX8_takes 11 = .ok (.iload_n 2, 1) := by decide +kernel
theorem dX8_takes_12 : decode cX8_takes 12 = .ok (.ifCond .lt 8, 3) := by decide +kernel
theorem dX8_takes_15 : decode cX8_takes 15 = .ok (.iload_n 2, 1) := by decide +kernel
theorem dX8_takes_16 : decode cX8_takes 16 = .ok (.iconst 3, 1) := by decide +kernel
theorem dX8_takes_17 : decode cX8_takes 17 = .ok (.if_icmp .lt 5, 3) := by decide +kernel
theorem dX8_takes_20 : decode cX8_takes 20 = .ok (.iconst (-1), 1) := by decide +kernel
theorem dX8_takes_21 : decode cX8_takes 21 = .ok (.ireturn, 1) := by decide +kernel
theorem dX8_takes_22 : decode cX8_takes 22 = .ok (.aload_n 0, 1) := by decide +kernel
theorem dX8_takes_23 : decode cX8_takes 23 = .ok (.getfield 51, 3) := by decide +kernel
theorem dX8_takes_26 : decode cX8_takes 26 = .ok (.aload_n 0, 1) := by decide +kernel
theorem dX8_takes_27 : decode cX8_takes 27 = .ok (.getfield 60, 3) := by decide +kernel
theorem dX8_takes_30 : decode cX8_takes 30 = .ok (.iload_n 1, 1) := by decide +kernel
theorem dX8_takes_31 : decode cX8_takes 31 = .ok (.invokevirtual 297, 3) := by decide +kernel
theorem dX8_takes_34 : decode cX8_takes 34 = .ok (.aload_n 0, 1) := by decide +kernel
theorem dX8_takes_35 : decode cX8_takes 35 = .ok (.getfield 51, 3) := by decide +kernel
theorem dX8_takes_38 : decode cX8_takes 38 = .ok (.iload_n 2, 1) := by decide +kernel
theorem dX8_takes_39 : decode cX8_takes 39 = .ok (.invokevirtual 301, 3) := by decide +kernel
theorem dX8_takes_42 : decode cX8_takes 42 = .ok (.ireturn, 1) := by decide +kernel
theorem dX8_least_0 : decode cX8_least 0 = .ok (.aload_n 0, 1) := by decide +kernel
theorem dX8_least_1 : decode cX8_least 1 = .ok (.getfield 28, 3) := by decide +kernel
theorem dX8_least_4 : decode cX8_least 4 = .ok (.iload_n 1, 1) := by decide +kernel
theorem dX8_least_5 : decode cX8_least 5 = .ok (.invokevirtual 157, 3) := by decide +kernel
theorem dX8_least_8 : decode cX8_least 8 = .ok (.ifCond .ne 5, 3) := by decide +kernel
theorem dX8_least_11 : decode cX8_least 11 = .ok (.iconst (-1), 1) := by decide +kernel
theorem dX8_least_12 : decode cX8_least 12 = .ok (.ireturn, 1) := by decide +kernel
theorem dX8_least_13 : decode cX8_least 13 = .ok (.aload_n 0, 1) := by decide +kernel
theorem dX8_least_14 : decode cX8_least 14 = .ok (.getfield 51, 3) := by decide +kernel
theorem dX8_least_17 : decode cX8_least 17 = .ok (.aload_n 0, 1) := by decide +kernel
theorem dX8_least_18 : decode cX8_least 18 = .ok (.getfield 60, 3) := by decide +kernel
theorem dX8_least_21 : decode cX8_least 21 = .ok (.iload_n 1, 1) := by decide +kernel
theorem dX8_least_22 : decode cX8_least 22 = .ok (.invokevirtual 297, 3) := by decide +kernel
theorem dX8_least_25 : decode cX8_least 25 = .ok (.aload_n 0, 1) := by decide +kernel
theorem dX8_least_26 : decode cX8_least 26 = .ok (.getfield 51, 3) := by decide +kernel
theorem dX8_least_29 : decode cX8_least 29 = .ok (.invokevirtual 304, 3) := by decide +kernel
theorem dX8_least_32 : decode cX8_least 32 = .ok (.ireturn, 1) := by decide +kernel
theorem dX8_all_0 : decode cX8_all 0 = .ok (.aload_n 0, 1) := by decide +kernel
theorem dX8_all_1 : decode cX8_all 1 = .ok (.getfield 28, 3) := by decide +kernel
theorem dX8_all_4 : decode cX8_all 4 = .ok (.invokevirtual 147, 3) := by decide +kernel
theorem dX8_all_7 : decode cX8_all 7 = .ok (.ifCond .eq 12, 3) := by decide +kernel
theorem dX8_all_10 : decode cX8_all 10 = .ok (.iload_n 1, 1) := by decide +kernel
theorem dX8_all_11 : decode cX8_all 11 = .ok (.ifCond .lt 8, 3) := by decide +kernel
theorem dX8_all_14 : decode cX8_all 14 = .ok (.iload_n 1, 1) := by decide +kernel
theorem dX8_all_15 : decode cX8_all 15 = .ok (.iconst 2, 1) := by decide +kernel
theorem dX8_all_16 : decode cX8_all 16 = .ok (.if_icmp .le 5, 3) := by decide +kernel
theorem dX8_all_19 : decode cX8_all 19 = .ok (.iconst (-1), 1) := by decide +kernel
theorem dX8_all_20 : decode cX8_all 20 = .ok (.ireturn, 1) := by decide +kernel
theorem dX8_all_21 : decode cX8_all 21 = .ok (.aload_n 0, 1) := by decide +kernel
theorem dX8_all_22 : decode cX8_all 22 = .ok (.invokevirtual 307, 3) := by decide +kernel
theorem dX8_all_25 : decode cX8_all 25 = .ok (.iload_n 1, 1) := by decide +kernel
theorem dX8_all_26 : decode cX8_all 26 = .ok (.lookupswitch 50 #[(0, 26), (1, 42)], 26) := by decide +kernel
theorem dX8_all_52 : decode cX8_all 52 = .ok (.aload_n 0, 1) := by decide +kernel
theorem dX8_all_53 : decode cX8_all 53 = .ok (.getfield 64, 3) := by decide +kernel
theorem dX8_all_56 : decode cX8_all 56 = .ok (.getfield 198, 3) := by decide +kernel
theorem dX8_all_59 : decode cX8_all 59 = .ok (.aload_n 0, 1) := by decide +kernel
theorem dX8_all_60 : decode cX8_all 60 = .ok (.getfield 60, 3) := by decide +kernel
theorem dX8_all_63 : decode cX8_all 63 = .ok (.getfield 198, 3) := by decide +kernel
theorem dX8_all_66 : decode cX8_all 66 = .ok (.isub, 1) := by decide +kernel
theorem dX8_all_67 : decode cX8_all 67 = .ok (.ireturn, 1) := by decide +kernel
theorem dX8_all_68 : decode cX8_all 68 = .ok (.aload_n 0, 1) := by decide +kernel
theorem dX8_all_69 : decode cX8_all 69 = .ok (.getfield 64, 3) := by decide +kernel
theorem dX8_all_72 : decode cX8_all 72 = .ok (.getfield 310, 3) := by decide +kernel
theorem dX8_all_75 : decode cX8_all 75 = .ok (.ireturn, 1) := by decide +kernel
theorem dX8_all_76 : decode cX8_all 76 = .ok (.aload_n 0, 1) := by decide +kernel
theorem dX8_all_77 : decode cX8_all 77 = .ok (.getfield 313, 3) := by decide +kernel
theorem dX8_all_80 : decode cX8_all 80 = .ok (.ireturn, 1) := by decide +kernel
theorem dX8_served_0 : decode cX8_served 0 = .ok (.aload_n 0, 1) := by decide +kernel
theorem dX8_served_1 : decode cX8_served 1 = .ok (.invokevirtual 307, 3) := by decide +kernel
theorem dX8_served_4 : decode cX8_served 4 = .ok (.iload_n 1, 1) := by decide +kernel
theorem dX8_served_5 : decode cX8_served 5 = .ok (.ifCond .lt 11, 3) := by decide +kernel
theorem dX8_served_8 : decode cX8_served 8 = .ok (.iload_n 1, 1) := by decide +kernel
theorem dX8_served_9 : decode cX8_served 9 = .ok (.aload_n 0, 1) := by decide +kernel
theorem dX8_served_10 : decode cX8_served 10 = .ok (.getfield 313, 3) := by decide +kernel
theorem dX8_served_13 : decode cX8_served 13 = .ok (.if_icmp .lt 7, 3) := by decide +kernel
theorem dX8_served_16 : decode cX8_served 16 = .ok (.iconst (-1), 1) := by decide +kernel
theorem dX8_served_17 : decode cX8_served 17 = .ok (.goto 9, 3) := by decide +kernel
theorem dX8_served_20 : decode cX8_served 20 = .ok (.aload_n 0, 1) := by decide +kernel
theorem dX8_served_21 : decode cX8_served 21 = .ok (.getfield 71, 3) := by decide +kernel
theorem dX8_served_24 : decode cX8_served 24 = .ok (.iload_n 1, 1) := by decide +kernel
theorem dX8_served_25 : decode cX8_served 25 = .ok (.iaload, 1) := by decide +kernel
theorem dX8_served_26 : decode cX8_served 26 = .ok (.ireturn, 1) := by decide +kernel
theorem dX8_soon_0 : decode cX8_soon 0 = .ok (.aload_n 0, 1) := by decide +kernel
theorem dX8_soon_1 : decode cX8_soon 1 = .ok (.getfield 60, 3) := by decide +kernel
theorem dX8_soon_4 : decode cX8_soon 4 = .ok (.iload_n 1, 1) := by decide +kernel
theorem dX8_soon_5 : decode cX8_soon 5 = .ok (.invokevirtual 239, 3) := by decide +kernel
theorem dX8_soon_8 : decode cX8_soon 8 = .ok (.ifCond .eq 15, 3) := by decide +kernel
theorem dX8_soon_11 : decode cX8_soon 11 = .ok (.aload_n 0, 1) := by decide +kernel
theorem dX8_soon_12 : decode cX8_soon 12 = .ok (.getfield 60, 3) := by decide +kernel
theorem dX8_soon_15 : decode cX8_soon 15 = .ok (.getfield 220, 3) := by decide +kernel
theorem dX8_soon_18 : decode cX8_soon 18 = .ok (.iload_n 1, 1) := by decide +kernel
theorem dX8_soon_19 : decode cX8_soon 19 = .ok (.iaload, 1) := by decide +kernel
theorem dX8_soon_20 : decode cX8_soon 20 = .ok (.ifCond .ne 5, 3) := by decide +kernel
theorem dX8_soon_23 : decode cX8_soon 23 = .ok (.iconst (-1), 1) := by decide +kernel
theorem dX8_soon_24 : decode cX8_soon 24 = .ok (.ireturn, 1) := by decide +kernel
theorem dX8_soon_25 : decode cX8_soon 25 = .ok (.aload_n 0, 1) := by decide +kernel
theorem dX8_soon_26 : decode cX8_soon 26 = .ok (.invokevirtual 307, 3) := by decide +kernel
theorem dX8_soon_29 : decode cX8_soon 29 = .ok (.iconst 0, 1) := by decide +kernel
theorem dX8_soon_30 : decode cX8_soon 30 = .ok (.istore_n 2, 1) := by decide +kernel
theorem dX8_soon_31 : decode cX8_soon 31 = .ok (.iload_n 2, 1) := by decide +kernel
theorem dX8_soon_32 : decode cX8_soon 32 = .ok (.aload_n 0, 1) := by decide +kernel
theorem dX8_soon_33 : decode cX8_soon 33 = .ok (.getfield 313, 3) := by decide +kernel
theorem dX8_soon_36 : decode cX8_soon 36 = .ok (.if_icmp .ge 31, 3) := by decide +kernel
theorem dX8_soon_39 : decode cX8_soon 39 = .ok (.aload_n 0, 1) := by decide +kernel
theorem dX8_soon_40 : decode cX8_soon 40 = .ok (.getfield 71, 3) := by decide +kernel
theorem dX8_soon_43 : decode cX8_soon 43 = .ok (.iload_n 2, 1) := by decide +kernel
theorem dX8_soon_44 : decode cX8_soon 44 = .ok (.iaload, 1) := by decide +kernel
theorem dX8_soon_45 : decode cX8_soon 45 = .ok (.aload_n 0, 1) := by decide +kernel
theorem dX8_soon_46 : decode cX8_soon 46 = .ok (.getfield 60, 3) := by decide +kernel
theorem dX8_soon_49 : decode cX8_soon 49 = .ok (.getfield 208, 3) := by decide +kernel
theorem dX8_soon_52 : decode cX8_soon 52 = .ok (.iload_n 1, 1) := by decide +kernel
theorem dX8_soon_53 : decode cX8_soon 53 = .ok (.iaload, 1) := by decide +kernel
theorem dX8_soon_54 : decode cX8_soon 54 = .ok (.if_icmp .ne 7, 3) := by decide +kernel
theorem dX8_soon_57 : decode cX8_soon 57 = .ok (.iload_n 2, 1) := by decide +kernel
theorem dX8_soon_58 : decode cX8_soon 58 = .ok (.iconst 1, 1) := by decide +kernel
theorem dX8_soon_59 : decode cX8_soon 59 = .ok (.iadd, 1) := by decide +kernel
theorem dX8_soon_60 : decode cX8_soon 60 = .ok (.ireturn, 1) := by decide +kernel
theorem dX8_soon_61 : decode cX8_soon 61 = .ok (.iinc 2 1, 3) := by decide +kernel
theorem dX8_soon_64 : decode cX8_soon 64 = .ok (.goto (-33), 3) := by decide +kernel
theorem dX8_soon_67 : decode cX8_soon 67 = .ok (.iconst (-1), 1) := by decide +kernel
theorem dX8_soon_68 : decode cX8_soon 68 = .ok (.ireturn, 1) := by decide +kernel
theorem dX8_beginTrial_0 : decode cX8_beginTrial 0 = .ok (.aload_n 0, 1) := by decide +kernel
theorem dX8_beginTrial_1 : decode cX8_beginTrial 1 = .ok (.getfield 60, 3) := by decide +kernel
theorem dX8_beginTrial_4 : decode cX8_beginTrial 4 = .ok (.aload_n 0, 1) := by decide +kernel
theorem dX8_beginTrial_5 : decode cX8_beginTrial 5 = .ok (.getfield 67, 3) := by decide +kernel
theorem dX8_beginTrial_8 : decode cX8_beginTrial 8 = .ok (.iconst 0, 1) := by decide +kernel
theorem dX8_beginTrial_9 : decode cX8_beginTrial 9 = .ok (.invokevirtual 316, 3) := by decide +kernel
theorem dX8_beginTrial_12 : decode cX8_beginTrial 12 = .ok (.aload_n 0, 1) := by decide +kernel
theorem dX8_beginTrial_13 : decode cX8_beginTrial 13 = .ok (.getfield 64, 3) := by decide +kernel
theorem dX8_beginTrial_16 : decode cX8_beginTrial 16 = .ok (.aload_n 0, 1) := by decide +kernel
theorem dX8_beginTrial_17 : decode cX8_beginTrial 17 = .ok (.getfield 67, 3) := by decide +kernel
theorem dX8_beginTrial_20 : decode cX8_beginTrial 20 = .ok (.iconst 0, 1) := by decide +kernel
theorem dX8_beginTrial_21 : decode cX8_beginTrial 21 = .ok (.invokevirtual 320, 3) := by decide +kernel
theorem dX8_beginTrial_24 : decode cX8_beginTrial 24 = .ok (.aload_n 0, 1) := by decide +kernel
theorem dX8_beginTrial_25 : decode cX8_beginTrial 25 = .ok (.getfield 64, 3) := by decide +kernel
theorem dX8_beginTrial_28 : decode cX8_beginTrial 28 = .ok (.iconst 0, 1) := by decide +kernel
theorem dX8_beginTrial_29 : decode cX8_beginTrial 29 = .ok (.putfield 310, 3) := by decide +kernel
theorem dX8_beginTrial_32 : decode cX8_beginTrial 32 = .ok (.return_, 1) := by decide +kernel
theorem dX8_tryServing_0 : decode cX8_tryServing 0 = .ok (.aload_n 0, 1) := by decide +kernel
theorem dX8_tryServing_1 : decode cX8_tryServing 1 = .ok (.invokevirtual 323, 3) := by decide +kernel
theorem dX8_tryServing_4 : decode cX8_tryServing 4 = .ok (.aload_n 0, 1) := by decide +kernel
theorem dX8_tryServing_5 : decode cX8_tryServing 5 = .ok (.iconst 0, 1) := by decide +kernel
theorem dX8_tryServing_6 : decode cX8_tryServing 6 = .ok (.putfield 313, 3) := by decide +kernel
theorem dX8_tryServing_9 : decode cX8_tryServing 9 = .ok (.iconst 0, 1) := by decide +kernel
theorem dX8_tryServing_10 : decode cX8_tryServing 10 = .ok (.istore_n 1, 1) := by decide +kernel
theorem dX8_tryServing_11 : decode cX8_tryServing 11 = .ok (.iload_n 1, 1) := by decide +kernel
theorem dX8_tryServing_12 : decode cX8_tryServing 12 = .ok (.bipush 8, 2) := by decide +kernel
theorem dX8_tryServing_14 : decode cX8_tryServing 14 = .ok (.if_icmp .ge 42, 3) := by decide +kernel
theorem dX8_tryServing_17 : decode cX8_tryServing 17 = .ok (.aload_n 0, 1) := by decide +kernel
theorem dX8_tryServing_18 : decode cX8_tryServing 18 = .ok (.getfield 64, 3) := by decide +kernel
theorem dX8_tryServing_21 : decode cX8_tryServing 21 = .ok (.invokevirtual 326, 3) := by decide +kernel
theorem dX8_tryServing_24 : decode cX8_tryServing 24 = .ok (.ifCond .le 32, 3) := by decide +kernel
theorem dX8_tryServing_27 : decode cX8_tryServing 27 = .ok (.aload_n 0, 1) := by decide +kernel
theorem dX8_tryServing_28 : decode cX8_tryServing 28 = .ok (.getfield 71, 3) := by decide +kernel
theorem dX8_tryServing_31 : decode cX8_tryServing 31 = .ok (.iload_n 1, 1) := by decide +kernel
theorem dX8_tryServing_32 : decode cX8_tryServing 32 = .ok (.aload_n 0, 1) := by decide +kernel
theorem dX8_tryServing_33 : decode cX8_tryServing 33 = .ok (.getfield 64, 3) := by decide +kernel
theorem dX8_tryServing_36 : decode cX8_tryServing 36 = .ok (.invokevirtual 329, 3) := by decide +kernel
theorem dX8_tryServing_39 : decode cX8_tryServing 39 = .ok (.iastore, 1) := by decide +kernel
theorem dX8_tryServing_40 : decode cX8_tryServing 40 = .ok (.aload_n 0, 1) := by decide +kernel
theorem dX8_tryServing_41 : decode cX8_tryServing 41 = .ok (.dup, 1) := by decide +kernel
theorem dX8_tryServing_42 : decode cX8_tryServing 42 = .ok (.getfield 313, 3) := by decide +kernel
theorem dX8_tryServing_45 : decode cX8_tryServing 45 = .ok (.iconst 1, 1) := by decide +kernel
theorem dX8_tryServing_46 : decode cX8_tryServing 46 = .ok (.iadd, 1) := by decide +kernel
theorem dX8_tryServing_47 : decode cX8_tryServing 47 = .ok (.putfield 313, 3) := by decide +kernel
theorem dX8_tryServing_50 : decode cX8_tryServing 50 = .ok (.iinc 1 1, 3) := by decide +kernel
theorem dX8_tryServing_53 : decode cX8_tryServing 53 = .ok (.goto (-42), 3) := by decide +kernel
theorem dX8_tryServing_56 : decode cX8_tryServing 56 = .ok (.return_, 1) := by decide +kernel
theorem dX8_target_0 : decode cX8_target 0 = .ok (.aload_n 0, 1) := by decide +kernel
theorem dX8_target_1 : decode cX8_target 1 = .ok (.getfield 28, 3) := by decide +kernel
theorem dX8_target_4 : decode cX8_target 4 = .ok (.iload_n 1, 1) := by decide +kernel
theorem dX8_target_5 : decode cX8_target 5 = .ok (.invokevirtual 157, 3) := by decide +kernel
theorem dX8_target_8 : decode cX8_target 8 = .ok (.ifCond .eq 14, 3) := by decide +kernel
theorem dX8_target_11 : decode cX8_target 11 = .ok (.aload_n 0, 1) := by decide +kernel
theorem dX8_target_12 : decode cX8_target 12 = .ok (.getfield 60, 3) := by decide +kernel
theorem dX8_target_15 : decode cX8_target 15 = .ok (.iload_n 1, 1) := by decide +kernel
theorem dX8_target_16 : decode cX8_target 16 = .ok (.invokevirtual 276, 3) := by decide +kernel
theorem dX8_target_19 : decode cX8_target 19 = .ok (.goto 4, 3) := by decide +kernel
theorem dX8_target_22 : decode cX8_target 22 = .ok (.iconst (-1), 1) := by decide +kernel
theorem dX8_target_23 : decode cX8_target 23 = .ok (.ireturn, 1) := by decide +kernel
theorem dX8_cheap_0 : decode cX8_cheap 0 = .ok (.iconst (-1), 1) := by decide +kernel
theorem dX8_cheap_1 : decode cX8_cheap 1 = .ok (.istore_n 2, 1) := by decide +kernel
theorem dX8_cheap_2 : decode cX8_cheap 2 = .ok (.iconst 0, 1) := by decide +kernel
theorem dX8_cheap_3 : decode cX8_cheap 3 = .ok (.istore_n 3, 1) := by decide +kernel
theorem dX8_cheap_4 : decode cX8_cheap 4 = .ok (.iconst 0, 1) := by decide +kernel
theorem dX8_cheap_5 : decode cX8_cheap 5 = .ok (.istore 4, 2) := by decide +kernel
theorem dX8_cheap_7 : decode cX8_cheap 7 = .ok (.iload 4, 2) := by decide +kernel
theorem dX8_cheap_9 : decode cX8_cheap 9 = .ok (.aload_n 0, 1) := by decide +kernel
theorem dX8_cheap_10 : decode cX8_cheap 10 = .ok (.getfield 28, 3) := by decide +kernel
theorem dX8_cheap_13 : decode cX8_cheap 13 = .ok (.getfield 141, 3) := by decide +kernel
theorem dX8_cheap_16 : decode cX8_cheap 16 = .ok (.if_icmp .ge 74, 3) := by decide +kernel
theorem dX8_cheap_19 : decode cX8_cheap 19 = .ok (.aload_n 0, 1) := by decide +kernel
theorem dX8_cheap_20 : decode cX8_cheap 20 = .ok (.getfield 60, 3) := by decide +kernel
theorem dX8_cheap_23 : decode cX8_cheap 23 = .ok (.iconst 2, 1) := by decide +kernel
theorem dX8_cheap_24 : decode cX8_cheap 24 = .ok (.iload 4, 2) := by decide +kernel
theorem dX8_cheap_26 : decode cX8_cheap 26 = .ok (.iload_n 1, 1) := by decide +kernel
theorem dX8_cheap_27 : decode cX8_cheap 27 = .ok (.invokevirtual 252, 3) := by decide +kernel
theorem dX8_cheap_30 : decode cX8_cheap 30 = .ok (.iconst (-1), 1) := by decide +kernel
theorem dX8_cheap_31 : decode cX8_cheap 31 = .ok (.if_icmp .ne 53, 3) := by decide +kernel
theorem dX8_cheap_34 : decode cX8_cheap 34 = .ok (.aload_n 0, 1) := by decide +kernel
theorem dX8_cheap_35 : decode cX8_cheap 35 = .ok (.invokevirtual 323, 3) := by decide +kernel
theorem dX8_cheap_38 : decode cX8_cheap 38 = .ok (.aload_n 0, 1) := by decide +kernel
theorem dX8_cheap_39 : decode cX8_cheap 39 = .ok (.getfield 64, 3) := by decide +kernel
theorem dX8_cheap_42 : decode cX8_cheap 42 = .ok (.iconst 2, 1) := by decide +kernel
theorem dX8_cheap_43 : decode cX8_cheap 43 = .ok (.iload 4, 2) := by decide +kernel
theorem dX8_cheap_45 : decode cX8_cheap 45 = .ok (.iload_n 1, 1) := by decide +kernel
theorem dX8_cheap_46 : decode cX8_cheap 46 = .ok (.invokevirtual 260, 3) := by decide +kernel
theorem dX8_cheap_49 : decode cX8_cheap 49 = .ok (.pop, 1) := by decide +kernel
theorem dX8_cheap_50 : decode cX8_cheap 50 = .ok (.aload_n 0, 1) := by decide +kernel
theorem dX8_cheap_51 : decode cX8_cheap 51 = .ok (.getfield 64, 3) := by decide +kernel
theorem dX8_cheap_54 : decode cX8_cheap 54 = .ok (.getfield 198, 3) := by decide +kernel
theorem dX8_cheap_57 : decode cX8_cheap 57 = .ok (.aload_n 0, 1) := by decide +kernel
theorem dX8_cheap_58 : decode cX8_cheap 58 = .ok (.getfield 60, 3) := by decide +kernel
theorem dX8_cheap_61 : decode cX8_cheap 61 = .ok (.getfield 198, 3) := by decide +kernel
theorem dX8_cheap_64 : decode cX8_cheap 64 = .ok (.isub, 1) := by decide +kernel
theorem dX8_cheap_65 : decode cX8_cheap 65 = .ok (.istore 5, 2) := by decide +kernel
theorem dX8_cheap_67 : decode cX8_cheap 67 = .ok (.iload_n 2, 1) := by decide +kernel
theorem dX8_cheap_68 : decode cX8_cheap 68 = .ok (.iconst (-1), 1) := by decide +kernel
theorem dX8_cheap_69 : decode cX8_cheap 69 = .ok (.if_icmp .eq 9, 3) := by decide +kernel
theorem dX8_cheap_72 : decode cX8_cheap 72 = .ok (.iload 5, 2) := by decide +kernel
theorem dX8_cheap_74 : decode cX8_cheap 74 = .ok (.iload_n 3, 1) := by decide +kernel
theorem dX8_cheap_75 : decode cX8_cheap 75 = .ok (.if_icmp .ge 9, 3) := by decide +kernel
theorem dX8_cheap_78 : decode cX8_cheap 78 = .ok (.iload 4, 2) := by decide +kernel
theorem dX8_cheap_80 : decode cX8_cheap 80 = .ok (.istore_n 2, 1) := by decide +kernel
theorem dX8_cheap_81 : decode cX8_cheap 81 = .ok (.iload 5, 2) := by decide +kernel
theorem dX8_cheap_83 : decode cX8_cheap 83 = .ok (.istore_n 3, 1) := by decide +kernel
theorem dX8_cheap_84 : decode cX8_cheap 84 = .ok (.iinc 4 1, 3) := by decide +kernel
theorem dX8_cheap_87 : decode cX8_cheap 87 = .ok (.goto (-80), 3) := by decide +kernel
theorem dX8_cheap_90 : decode cX8_cheap 90 = .ok (.iload_n 2, 1) := by decide +kernel
theorem dX8_cheap_91 : decode cX8_cheap 91 = .ok (.ireturn, 1) := by decide +kernel
theorem dX8_idle_0 : decode cX8_idle 0 = .ok (.aload_n 0, 1) := by decide +kernel
theorem dX8_idle_1 : decode cX8_idle 1 = .ok (.getfield 60, 3) := by decide +kernel
theorem dX8_idle_4 : decode cX8_idle 4 = .ok (.bipush 9, 2) := by decide +kernel
theorem dX8_idle_6 : decode cX8_idle 6 = .ok (.iload_n 1, 1) := by decide +kernel
theorem dX8_idle_7 : decode cX8_idle 7 = .ok (.iconst (-1), 1) := by decide +kernel
theorem dX8_idle_8 : decode cX8_idle 8 = .ok (.invokevirtual 252, 3) := by decide +kernel
theorem dX8_idle_11 : decode cX8_idle 11 = .ok (.iconst (-1), 1) := by decide +kernel
theorem dX8_idle_12 : decode cX8_idle 12 = .ok (.if_icmp .ne 22, 3) := by decide +kernel
theorem dX8_idle_15 : decode cX8_idle 15 = .ok (.aload_n 0, 1) := by decide +kernel
theorem dX8_idle_16 : decode cX8_idle 16 = .ok (.getfield 60, 3) := by decide +kernel
theorem dX8_idle_19 : decode cX8_idle 19 = .ok (.aload_n 0, 1) := by decide +kernel
theorem dX8_idle_20 : decode cX8_idle 20 = .ok (.getfield 60, 3) := by decide +kernel
theorem dX8_idle_23 : decode cX8_idle 23 = .ok (.getfield 198, 3) := by decide +kernel
theorem dX8_idle_26 : decode cX8_idle 26 = .ok (.iload_n 1, 1) := by decide +kernel
theorem dX8_idle_27 : decode cX8_idle 27 = .ok (.iadd, 1) := by decide +kernel
theorem dX8_idle_28 : decode cX8_idle 28 = .ok (.invokevirtual 332, 3) := by decide +kernel
theorem dX8_idle_31 : decode cX8_idle 31 = .ok (.goto 4, 3) := by decide +kernel
theorem dX8_idle_34 : decode cX8_idle 34 = .ok (.iconst (-1), 1) := by decide +kernel
theorem dX8_idle_35 : decode cX8_idle 35 = .ok (.ireturn, 1) := by decide +kernel
theorem dX8_shares_0 : decode cX8_shares 0 = .ok (.aload_n 0, 1) := by decide +kernel
theorem dX8_shares_1 : decode cX8_shares 1 = .ok (.getfield 28, 3) := by decide +kernel
theorem dX8_shares_4 : decode cX8_shares 4 = .ok (.iload_n 1, 1) := by decide +kernel
theorem dX8_shares_5 : decode cX8_shares 5 = .ok (.invokevirtual 157, 3) := by decide +kernel
theorem dX8_shares_8 : decode cX8_shares 8 = .ok (.ifCond .eq 14, 3) := by decide +kernel
theorem dX8_shares_11 : decode cX8_shares 11 = .ok (.iload_n 2, 1) := by decide +kernel
theorem dX8_shares_12 : decode cX8_shares 12 = .ok (.ifCond .lt 10, 3) := by decide +kernel
theorem dX8_shares_15 : decode cX8_shares 15 = .ok (.iload_n 2, 1) := by decide +kernel
theorem dX8_shares_16 : decode cX8_shares 16 = .ok (.sipush 999, 3) := by decide +kernel
theorem dX8_shares_19 : decode cX8_shares 19 = .ok (.if_icmp .le 5, 3) := by decide +kernel
theorem dX8_shares_22 : decode cX8_shares 22 = .ok (.iconst (-1), 1) := by decide +kernel
theorem dX8_shares_23 : decode cX8_shares 23 = .ok (.ireturn, 1) := by decide +kernel
theorem dX8_shares_24 : decode cX8_shares 24 = .ok (.iconst 0, 1) := by decide +kernel
theorem dX8_shares_25 : decode cX8_shares 25 = .ok (.istore_n 3, 1) := by decide +kernel
theorem dX8_shares_26 : decode cX8_shares 26 = .ok (.iconst 0, 1) := by decide +kernel
theorem dX8_shares_27 : decode cX8_shares 27 = .ok (.istore 4, 2) := by decide +kernel
theorem dX8_shares_29 : decode cX8_shares 29 = .ok (.iload 4, 2) := by decide +kernel
theorem dX8_shares_31 : decode cX8_shares 31 = .ok (.aload_n 0, 1) := by decide +kernel
theorem dX8_shares_32 : decode cX8_shares 32 = .ok (.getfield 28, 3) := by decide +kernel
theorem dX8_shares_35 : decode cX8_shares 35 = .ok (.getfield 141, 3) := by decide +kernel
theorem dX8_shares_38 : decode cX8_shares 38 = .ok (.if_icmp .ge 21, 3) := by decide +kernel
theorem dX8_shares_41 : decode cX8_shares 41 = .ok (.iload_n 3, 1) := by decide +kernel
theorem dX8_shares_42 : decode cX8_shares 42 = .ok (.aload_n 0, 1) := by decide +kernel
theorem dX8_shares_43 : decode cX8_shares 43 = .ok (.getfield 60, 3) := by decide +kernel
theorem dX8_shares_46 : decode cX8_shares 46 = .ok (.iload 4, 2) := by decide +kernel
theorem dX8_shares_48 : decode cX8_shares 48 = .ok (.invokevirtual 192, 3) := by decide +kernel
theorem dX8_shares_51 : decode cX8_shares 51 = .ok (.iadd, 1) := by decide +kernel
theorem dX8_shares_52 : decode cX8_shares 52 = .ok (.istore_n 3, 1) := by decide +kernel
theorem dX8_shares_53 : decode cX8_shares 53 = .ok (.iinc 4 1, 3) := by decide +kernel
theorem dX8_shares_56 : decode cX8_shares 56 = .ok (.goto (-27), 3) := by decide +kernel
theorem dX8_shares_59 : decode cX8_shares 59 = .ok (.iload_n 3, 1) := by decide +kernel
theorem dX8_shares_60 : decode cX8_shares 60 = .ok (.ifCond .ne 7, 3) := by decide +kernel
theorem dX8_shares_63 : decode cX8_shares 63 = .ok (.iconst 0, 1) := by decide +kernel
theorem dX8_shares_64 : decode cX8_shares 64 = .ok (.goto 15, 3) := by decide +kernel
theorem dX8_shares_67 : decode cX8_shares 67 = .ok (.iload_n 2, 1) := by decide +kernel
theorem dX8_shares_68 : decode cX8_shares 68 = .ok (.aload_n 0, 1) := by decide +kernel
theorem dX8_shares_69 : decode cX8_shares 69 = .ok (.getfield 60, 3) := by decide +kernel
theorem dX8_shares_72 : decode cX8_shares 72 = .ok (.iload_n 1, 1) := by decide +kernel
theorem dX8_shares_73 : decode cX8_shares 73 = .ok (.invokevirtual 192, 3) := by decide +kernel
theorem dX8_shares_76 : decode cX8_shares 76 = .ok (.imul, 1) := by decide +kernel
theorem dX8_shares_77 : decode cX8_shares 77 = .ok (.iload_n 3, 1) := by decide +kernel
theorem dX8_shares_78 : decode cX8_shares 78 = .ok (.idiv, 1) := by decide +kernel
theorem dX8_shares_79 : decode cX8_shares 79 = .ok (.ireturn, 1) := by decide +kernel
theorem dX8_step_0 : decode cX8_step 0 = .ok (.aload_n 0, 1) := by decide +kernel
theorem dX8_step_1 : decode cX8_step 1 = .ok (.iload_n 1, 1) := by decide +kernel
theorem dX8_step_2 : decode cX8_step 2 = .ok (.invokevirtual 335, 3) := by decide +kernel
theorem dX8_step_5 : decode cX8_step 5 = .ok (.ifCond .eq 20, 3) := by decide +kernel
theorem dX8_step_8 : decode cX8_step 8 = .ok (.iload_n 2, 1) := by decide +kernel
theorem dX8_step_9 : decode cX8_step 9 = .ok (.ifCond .lt 16, 3) := by decide +kernel
theorem dX8_step_12 : decode cX8_step 12 = .ok (.iload_n 2, 1) := by decide +kernel
theorem dX8_step_13 : decode cX8_step 13 = .ok (.aload_n 0, 1) := by decide +kernel
theorem dX8_step_14 : decode cX8_step 14 = .ok (.getfield 37, 3) := by decide +kernel
theorem dX8_step_17 : decode cX8_step 17 = .ok (.iload_n 1, 1) := by decide +kernel
theorem dX8_step_18 : decode cX8_step 18 = .ok (.aaload, 1) := by decide +kernel
theorem dX8_step_19 : decode cX8_step 19 = .ok (.getfield 338, 3) := by decide +kernel
theorem dX8_step_22 : decode cX8_step 22 = .ok (.if_icmp .lt 6, 3) := by decide +kernel
theorem dX8_step_25 : decode cX8_step 25 = .ok (.ldc 207, 2) := by decide +kernel
theorem dX8_step_27 : decode cX8_step 27 = .ok (.ireturn, 1) := by decide +kernel
theorem dX8_step_28 : decode cX8_step 28 = .ok (.iload_n 3, 1) := by decide +kernel
theorem dX8_step_29 : decode cX8_step 29 = .ok (.tableswitch 63 0 2 #[27, 39, 51], 27) := by decide +kernel
theorem dX8_step_56 : decode cX8_step 56 = .ok (.aload_n 0, 1) := by decide +kernel
theorem dX8_step_57 : decode cX8_step 57 = .ok (.getfield 37, 3) := by decide +kernel
theorem dX8_step_60 : decode cX8_step 60 = .ok (.iload_n 1, 1) := by decide +kernel
theorem dX8_step_61 : decode cX8_step 61 = .ok (.aaload, 1) := by decide +kernel
theorem dX8_step_62 : decode cX8_step 62 = .ok (.getfield 341, 3) := by decide +kernel
theorem dX8_step_65 : decode cX8_step 65 = .ok (.iload_n 2, 1) := by decide +kernel
theorem dX8_step_66 : decode cX8_step 66 = .ok (.iaload, 1) := by decide +kernel
theorem dX8_step_67 : decode cX8_step 67 = .ok (.ireturn, 1) := by decide +kernel
theorem dX8_step_68 : decode cX8_step 68 = .ok (.aload_n 0, 1) := by decide +kernel
theorem dX8_step_69 : decode cX8_step 69 = .ok (.getfield 37, 3) := by decide +kernel
theorem dX8_step_72 : decode cX8_step 72 = .ok (.iload_n 1, 1) := by decide +kernel
theorem dX8_step_73 : decode cX8_step 73 = .ok (.aaload, 1) := by decide +kernel
theorem dX8_step_74 : decode cX8_step 74 = .ok (.getfield 344, 3) := by decide +kernel
theorem dX8_step_77 : decode cX8_step 77 = .ok (.iload_n 2, 1) := by decide +kernel
theorem dX8_step_78 : decode cX8_step 78 = .ok (.iaload, 1) := by decide +kernel
theorem dX8_step_79 : decode cX8_step 79 = .ok (.ireturn, 1) := by decide +kernel
theorem dX8_step_80 : decode cX8_step 80 = .ok (.aload_n 0, 1) := by decide +kernel
theorem dX8_step_81 : decode cX8_step 81 = .ok (.getfield 37, 3) := by decide +kernel
theorem dX8_step_84 : decode cX8_step 84 = .ok (.iload_n 1, 1) := by decide +kernel
theorem dX8_step_85 : decode cX8_step 85 = .ok (.aaload, 1) := by decide +kernel
theorem dX8_step_86 : decode cX8_step 86 = .ok (.getfield 347, 3) := by decide +kernel
theorem dX8_step_89 : decode cX8_step 89 = .ok (.iload_n 2, 1) := by decide +kernel
theorem dX8_step_90 : decode cX8_step 90 = .ok (.iaload, 1) := by decide +kernel
theorem dX8_step_91 : decode cX8_step 91 = .ok (.ireturn, 1) := by decide +kernel
theorem dX8_step_92 : decode cX8_step 92 = .ok (.ldc 207, 2) := by decide +kernel
theorem dX8_step_94 : decode cX8_step 94 = .ok (.ireturn, 1) := by decide +kernel
theorem dX8_isScript_0 : decode cX8_isScript 0 = .ok (.iload_n 1, 1) := by decide +kernel
theorem dX8_isScript_1 : decode cX8_isScript 1 = .ok (.ifCond .lt 15, 3) := by decide +kernel
theorem dX8_isScript_4 : decode cX8_isScript 4 = .ok (.iload_n 1, 1) := by decide +kernel
theorem dX8_isScript_5 : decode cX8_isScript 5 = .ok (.aload_n 0, 1) := by decide +kernel
theorem dX8_isScript_6 : decode cX8_isScript 6 = .ok (.getfield 121, 3) := by decide +kernel
theorem dX8_isScript_9 : decode cX8_isScript 9 = .ok (.if_icmp .ge 7, 3) := by decide +kernel
theorem dX8_isScript_12 : decode cX8_isScript 12 = .ok (.iconst 1, 1) := by decide +kernel
theorem dX8_isScript_13 : decode cX8_isScript 13 = .ok (.goto 4, 3) := by decide +kernel
theorem dX8_isScript_16 : decode cX8_isScript 16 = .ok (.iconst 0, 1) := by decide +kernel
theorem dX8_isScript_17 : decode cX8_isScript 17 = .ok (.ireturn, 1) := by decide +kernel
theorem dX8_run_0 : decode cX8_run 0 = .ok (.aload_n 0, 1) := by decide +kernel
theorem dX8_run_1 : decode cX8_run 1 = .ok (.iload_n 1, 1) := by decide +kernel
theorem dX8_run_2 : decode cX8_run 2 = .ok (.invokevirtual 335, 3) := by decide +kernel
theorem dX8_run_5 : decode cX8_run 5 = .ok (.ifCond .eq 22, 3) := by decide +kernel
theorem dX8_run_8 : decode cX8_run 8 = .ok (.aload_n 0, 1) := by decide +kernel
theorem dX8_run_9 : decode cX8_run 9 = .ok (.getfield 28, 3) := by decide +kernel
theorem dX8_run_12 : decode cX8_run 12 = .ok (.invokevirtual 147, 3) := by decide +kernel
theorem dX8_run_15 : decode cX8_run 15 = .ok (.ifCond .eq 12, 3) := by decide +kernel
theorem dX8_run_18 : decode cX8_run 18 = .ok (.iload_n 2, 1) := by decide +kernel
theorem dX8_run_19 : decode cX8_run 19 = .ok (.ifCond .lt 8, 3) := by decide +kernel
theorem dX8_run_22 : decode cX8_run 22 = .ok (.iload_n 2, 1) := by decide +kernel
theorem dX8_run_23 : decode cX8_run 23 = .ok (.iconst 1, 1) := by decide +kernel
theorem dX8_run_24 : decode cX8_run 24 = .ok (.if_icmp .le 6, 3) := by decide +kernel
theorem dX8_run_27 : decode cX8_run 27 = .ok (.ldc 207, 2) := by decide +kernel
theorem dX8_run_29 : decode cX8_run 29 = .ok (.ireturn, 1) := by decide +kernel
theorem dX8_run_30 : decode cX8_run 30 = .ok (.aload_n 0, 1) := by decide +kernel
theorem dX8_run_31 : decode cX8_run 31 = .ok (.aload_n 0, 1) := by decide +kernel
theorem dX8_run_32 : decode cX8_run 32 = .ok (.getfield 37, 3) := by decide +kernel
theorem dX8_run_35 : decode cX8_run 35 = .ok (.iload_n 1, 1) := by decide +kernel
theorem dX8_run_36 : decode cX8_run 36 = .ok (.aaload, 1) := by decide +kernel
theorem dX8_run_37 : decode cX8_run 37 = .ok (.invokevirtual 350, 3) := by decide +kernel
theorem dX8_run_40 : decode cX8_run 40 = .ok (.istore_n 3, 1) := by decide +kernel
theorem dX8_run_41 : decode cX8_run 41 = .ok (.iload_n 2, 1) := by decide +kernel
theorem dX8_run_42 : decode cX8_run 42 = .ok (.iconst 1, 1) := by decide +kernel
theorem dX8_run_43 : decode cX8_run 43 = .ok (.if_icmp .ne 11, 3) := by decide +kernel
theorem dX8_run_46 : decode cX8_run 46 = .ok (.aload_n 0, 1) := by decide +kernel
theorem dX8_run_47 : decode cX8_run 47 = .ok (.getfield 64, 3) := by decide +kernel
theorem dX8_run_50 : decode cX8_run 50 = .ok (.getfield 198, 3) := by decide +kernel
theorem dX8_run_53 : decode cX8_run 53 = .ok (.ireturn, 1) := by decide +kernel
theorem dX8_run_54 : decode cX8_run 54 = .ok (.iload_n 3, 1) := by decide +kernel
theorem dX8_run_55 : decode cX8_run 55 = .ok (.aload_n 0, 1) := by decide +kernel
theorem dX8_run_56 : decode cX8_run 56 = .ok (.getfield 37, 3) := by decide +kernel
theorem dX8_run_59 : decode cX8_run 59 = .ok (.iload_n 1, 1) := by decide +kernel
theorem dX8_run_60 : decode cX8_run 60 = .ok (.aaload, 1) := by decide +kernel
theorem dX8_run_61 : decode cX8_run 61 = .ok (.getfield 338, 3) := by decide +kernel
theorem dX8_run_64 : decode cX8_run 64 = .ok (.if_icmp .ne 7, 3) := by decide +kernel
theorem dX8_run_67 : decode cX8_run 67 = .ok (.iconst (-1), 1) := by decide +kernel
theorem dX8_run_68 : decode cX8_run 68 = .ok (.goto 4, 3) := by decide +kernel
theorem dX8_run_71 : decode cX8_run 71 = .ok (.iload_n 3, 1) := by decide +kernel
theorem dX8_run_72 : decode cX8_run 72 = .ok (.ireturn, 1) := by decide +kernel
theorem dX8_tryScript_0 : decode cX8_tryScript 0 = .ok (.aload_n 0, 1) := by decide +kernel
theorem dX8_tryScript_1 : decode cX8_tryScript 1 = .ok (.invokevirtual 323, 3) := by decide +kernel
theorem dX8_tryScript_4 : decode cX8_tryScript 4 = .ok (.iconst 0, 1) := by decide +kernel
theorem dX8_tryScript_5 : decode cX8_tryScript 5 = .ok (.istore_n 2, 1) := by decide +kernel
theorem dX8_tryScript_6 : decode cX8_tryScript 6 = .ok (.iload_n 2, 1) := by decide +kernel
theorem dX8_tryScript_7 : decode cX8_tryScript 7 = .ok (.aload_n 1, 1) := by decide +kernel
theorem dX8_tryScript_8 : decode cX8_tryScript 8 = .ok (.getfield 338, 3) := by decide +kernel
theorem dX8_tryScript_11 : decode cX8_tryScript 11 = .ok (.if_icmp .ge 66, 3) := by decide +kernel
theorem dX8_tryScript_14 : decode cX8_tryScript 14 = .ok (.aload_n 0, 1) := by decide +kernel
theorem dX8_tryScript_15 : decode cX8_tryScript 15 = .ok (.getfield 64, 3) := by decide +kernel
theorem dX8_tryScript_18 : decode cX8_tryScript 18 = .ok (.aload_n 1, 1) := by decide +kernel
theorem dX8_tryScript_19 : decode cX8_tryScript 19 = .ok (.getfield 341, 3) := by decide +kernel
theorem dX8_tryScript_22 : decode cX8_tryScript 22 = .ok (.iload_n 2, 1) := by decide +kernel
theorem dX8_tryScript_23 : decode cX8_tryScript 23 = .ok (.iaload, 1) := by decide +kernel
theorem dX8_tryScript_24 : decode cX8_tryScript 24 = .ok (.aload_n 1, 1) := by decide +kernel
theorem dX8_tryScript_25 : decode cX8_tryScript 25 = .ok (.getfield 344, 3) := by decide +kernel
theorem dX8_tryScript_28 : decode cX8_tryScript 28 = .ok (.iload_n 2, 1) := by decide +kernel
theorem dX8_tryScript_29 : decode cX8_tryScript 29 = .ok (.iaload, 1) := by decide +kernel
theorem dX8_tryScript_30 : decode cX8_tryScript 30 = .ok (.aload_n 1, 1) := by decide +kernel
theorem dX8_tryScript_31 : decode cX8_tryScript 31 = .ok (.getfield 347, 3) := by decide +kernel
theorem dX8_tryScript_34 : decode cX8_tryScript 34 = .ok (.iload_n 2, 1) := by decide +kernel
theorem dX8_tryScript_35 : decode cX8_tryScript 35 = .ok (.iaload, 1) := by decide +kernel
theorem dX8_tryScript_36 : decode cX8_tryScript 36 = .ok (.invokevirtual 252, 3) := by decide +kernel
theorem dX8_tryScript_39 : decode cX8_tryScript 39 = .ok (.iconst (-1), 1) := by decide +kernel
theorem dX8_tryScript_40 : decode cX8_tryScript 40 = .ok (.if_icmp .eq 5, 3) := by decide +kernel
theorem dX8_tryScript_43 : decode cX8_tryScript 43 = .ok (.iload_n 2, 1) := by decide +kernel
theorem dX8_tryScript_44 : decode cX8_tryScript 44 = .ok (.ireturn, 1) := by decide +kernel
theorem dX8_tryScript_45 : decode cX8_tryScript 45 = .ok (.aload_n 0, 1) := by decide +kernel
theorem dX8_tryScript_46 : decode cX8_tryScript 46 = .ok (.getfield 64, 3) := by decide +kernel
theorem dX8_tryScript_49 : decode cX8_tryScript 49 = .ok (.aload_n 1, 1) := by decide +kernel
theorem dX8_tryScript_50 : decode cX8_tryScript 50 = .ok (.getfield 341, 3) := by decide +kernel
theorem dX8_tryScript_53 : decode cX8_tryScript 53 = .ok (.iload_n 2, 1) := by decide +kernel
theorem dX8_tryScript_54 : decode cX8_tryScript 54 = .ok (.iaload, 1) := by decide +kernel
theorem dX8_tryScript_55 : decode cX8_tryScript 55 = .ok (.aload_n 1, 1) := by decide +kernel
theorem dX8_tryScript_56 : decode cX8_tryScript 56 = .ok (.getfield 344, 3) := by decide +kernel
theorem dX8_tryScript_59 : decode cX8_tryScript 59 = .ok (.iload_n 2, 1) := by decide +kernel
theorem dX8_tryScript_60 : decode cX8_tryScript 60 = .ok (.iaload, 1) := by decide +kernel
theorem dX8_tryScript_61 : decode cX8_tryScript 61 = .ok (.aload_n 1, 1) := by decide +kernel
theorem dX8_tryScript_62 : decode cX8_tryScript 62 = .ok (.getfield 347, 3) := by decide +kernel
theorem dX8_tryScript_65 : decode cX8_tryScript 65 = .ok (.iload_n 2, 1) := by decide +kernel
theorem dX8_tryScript_66 : decode cX8_tryScript 66 = .ok (.iaload, 1) := by decide +kernel
theorem dX8_tryScript_67 : decode cX8_tryScript 67 = .ok (.invokevirtual 260, 3) := by decide +kernel
theorem dX8_tryScript_70 : decode cX8_tryScript 70 = .ok (.pop, 1) := by decide +kernel
theorem dX8_tryScript_71 : decode cX8_tryScript 71 = .ok (.iinc 2 1, 3) := by decide +kernel
theorem dX8_tryScript_74 : decode cX8_tryScript 74 = .ok (.goto (-68), 3) := by decide +kernel
theorem dX8_tryScript_77 : decode cX8_tryScript 77 = .ok (.aload_n 1, 1) := by decide +kernel
theorem dX8_tryScript_78 : decode cX8_tryScript 78 = .ok (.getfield 338, 3) := by decide +kernel
theorem dX8_tryScript_81 : decode cX8_tryScript 81 = .ok (.ireturn, 1) := by decide +kernel
theorem dX8_perform_0 : decode cX8_perform 0 = .ok (.aload_n 0, 1) := by decide +kernel
theorem dX8_perform_1 : decode cX8_perform 1 = .ok (.iload_n 1, 1) := by decide +kernel
theorem dX8_perform_2 : decode cX8_perform 2 = .ok (.invokevirtual 335, 3) := by decide +kernel
theorem dX8_perform_5 : decode cX8_perform 5 = .ok (.ifCond .eq 13, 3) := by decide +kernel
theorem dX8_perform_8 : decode cX8_perform 8 = .ok (.aload_n 0, 1) := by decide +kernel
theorem dX8_perform_9 : decode cX8_perform 9 = .ok (.getfield 28, 3) := by decide +kernel
theorem dX8_perform_12 : decode cX8_perform 12 = .ok (.invokevirtual 147, 3) := by decide +kernel
theorem dX8_perform_15 : decode cX8_perform 15 = .ok (.ifCond .ne 5, 3) := by decide +kernel
theorem dX8_perform_18 : decode cX8_perform 18 = .ok (.iconst (-1), 1) := by decide +kernel
theorem dX8_perform_19 : decode cX8_perform 19 = .ok (.ireturn, 1) := by decide +kernel
theorem dX8_perform_20 : decode cX8_perform 20 = .ok (.aload_n 0, 1) := by decide +kernel
theorem dX8_perform_21 : decode cX8_perform 21 = .ok (.getfield 37, 3) := by decide +kernel
theorem dX8_perform_24 : decode cX8_perform 24 = .ok (.iload_n 1, 1) := by decide +kernel
theorem dX8_perform_25 : decode cX8_perform 25 = .ok (.aaload, 1) := by decide +kernel
theorem dX8_perform_26 : decode cX8_perform 26 = .ok (.astore_n 2, 1) := by decide +kernel
theorem dX8_perform_27 : decode cX8_perform 27 = .ok (.iconst 0, 1) := by decide +kernel
theorem dX8_perform_28 : decode cX8_perform 28 = .ok (.istore_n 3, 1) := by decide +kernel
theorem dX8_perform_29 : decode cX8_perform 29 = .ok (.iload_n 3, 1) := by decide +kernel
theorem dX8_perform_30 : decode cX8_perform 30 = .ok (.aload_n 2, 1) := by decide +kernel
theorem dX8_perform_31 : decode cX8_perform 31 = .ok (.getfield 338, 3) := by decide +kernel
theorem dX8_perform_34 : decode cX8_perform 34 = .ok (.if_icmp .ge 38, 3) := by decide +kernel
theorem dX8_perform_37 : decode cX8_perform 37 = .ok (.aload_n 0, 1) := by decide +kernel
theorem dX8_perform_38 : decode cX8_perform 38 = .ok (.aload_n 2, 1) := by decide +kernel
theorem dX8_perform_39 : decode cX8_perform 39 = .ok (.getfield 341, 3) := by decide +kernel
theorem dX8_perform_42 : decode cX8_perform 42 = .ok (.iload_n 3, 1) := by decide +kernel
theorem dX8_perform_43 : decode cX8_perform 43 = .ok (.iaload, 1) := by decide +kernel
theorem dX8_perform_44 : decode cX8_perform 44 = .ok (.aload_n 2, 1) := by decide +kernel
theorem dX8_perform_45 : decode cX8_perform 45 = .ok (.getfield 344, 3) := by decide +kernel
theorem dX8_perform_48 : decode cX8_perform 48 = .ok (.iload_n 3, 1) := by decide +kernel
theorem dX8_perform_49 : decode cX8_perform 49 = .ok (.iaload, 1) := by decide +kernel
theorem dX8_perform_50 : decode cX8_perform 50 = .ok (.aload_n 2, 1) := by decide +kernel
theorem dX8_perform_51 : decode cX8_perform 51 = .ok (.getfield 347, 3) := by decide +kernel
theorem dX8_perform_54 : decode cX8_perform 54 = .ok (.iload_n 3, 1) := by decide +kernel
theorem dX8_perform_55 : decode cX8_perform 55 = .ok (.iaload, 1) := by decide +kernel
theorem dX8_perform_56 : decode cX8_perform 56 = .ok (.iconst 0, 1) := by decide +kernel
theorem dX8_perform_57 : decode cX8_perform 57 = .ok (.invokevirtual 248, 3) := by decide +kernel
theorem dX8_perform_60 : decode cX8_perform 60 = .ok (.iconst (-1), 1) := by decide +kernel
theorem dX8_perform_61 : decode cX8_perform 61 = .ok (.if_icmp .ne 5, 3) := by decide +kernel
theorem dX8_perform_64 : decode cX8_perform 64 = .ok (.iload_n 3, 1) := by decide +kernel
theorem dX8_perform_65 : decode cX8_perform 65 = .ok (.ireturn, 1) := by decide +kernel
theorem dX8_perform_66 : decode cX8_perform 66 = .ok (.iinc 3 1, 3) := by decide +kernel
theorem dX8_perform_69 : decode cX8_perform 69 = .ok (.goto (-40), 3) := by decide +kernel
theorem dX8_perform_72 : decode cX8_perform 72 = .ok (.aload_n 2, 1) := by decide +kernel
theorem dX8_perform_73 : decode cX8_perform 73 = .ok (.getfield 338, 3) := by decide +kernel
theorem dX8_perform_76 : decode cX8_perform 76 = .ok (.ireturn, 1) := by decide +kernel
theorem dX8_most_0 : decode cX8_most 0 = .ok (.aload_n 0, 1) := by decide +kernel
theorem dX8_most_1 : decode cX8_most 1 = .ok (.getfield 28, 3) := by decide +kernel
theorem dX8_most_4 : decode cX8_most 4 = .ok (.invokevirtual 147, 3) := by decide +kernel
theorem dX8_most_7 : decode cX8_most 7 = .ok (.ifCond .ne 6, 3) := by decide +kernel
theorem dX8_most_10 : decode cX8_most 10 = .ok (.ldc 207, 2) := by decide +kernel
theorem dX8_most_12 : decode cX8_most 12 = .ok (.ireturn, 1) := by decide +kernel
theorem dX8_most_13 : decode cX8_most 13 = .ok (.iload_n 1, 1) := by decide +kernel
theorem dX8_most_14 : decode cX8_most 14 = .ok (.tableswitch 146 0 10 #[58, 66, 74, 82, 90, 98, 106, 114, 122, 130, 138], 58) := by decide +kernel
theorem dX8_most_72 : decode cX8_most 72 = .ok (.aload_n 0, 1) := by decide +kernel
theorem dX8_most_73 : decode cX8_most 73 = .ok (.getfield 60, 3) := by decide +kernel
theorem dX8_most_76 : decode cX8_most 76 = .ok (.getfield 198, 3) := by decide +kernel
theorem dX8_most_79 : decode cX8_most 79 = .ok (.ireturn, 1) := by decide +kernel
theorem dX8_most_80 : decode cX8_most 80 = .ok (.aload_n 0, 1) := by decide +kernel
theorem dX8_most_81 : decode cX8_most 81 = .ok (.getfield 60, 3) := by decide +kernel
theorem dX8_most_84 : decode cX8_most 84 = .ok (.getfield 353, 3) := by decide +kernel
theorem dX8_most_87 : decode cX8_most 87 = .ok (.ireturn, 1) := by decide +kernel
theorem dX8_most_88 : decode cX8_most 88 = .ok (.aload_n 0, 1) := by decide +kernel
theorem dX8_most_89 : decode cX8_most 89 = .ok (.getfield 60, 3) := by decide +kernel
theorem dX8_most_92 : decode cX8_most 92 = .ok (.invokevirtual 356, 3) := by decide +kernel
theorem dX8_most_95 : decode cX8_most 95 = .ok (.ireturn, 1) := by decide +kernel
theorem dX8_most_96 : decode cX8_most 96 = .ok (.aload_n 0, 1) := by decide +kernel
theorem dX8_most_97 : decode cX8_most 97 = .ok (.getfield 60, 3) := by decide +kernel
theorem dX8_most_100 : decode cX8_most 100 = .ok (.invokevirtual 359, 3) := by decide +kernel
theorem dX8_most_103 : decode cX8_most 103 = .ok (.ireturn, 1) := by decide +kernel
theorem dX8_most_104 : decode cX8_most 104 = .ok (.aload_n 0, 1) := by decide +kernel
theorem dX8_most_105 : decode cX8_most 105 = .ok (.getfield 60, 3) := by decide +kernel
theorem dX8_most_108 : decode cX8_most 108 = .ok (.invokevirtual 362, 3) := by decide +kernel
theorem dX8_most_111 : decode cX8_most 111 = .ok (.ireturn, 1) := by decide +kernel
theorem dX8_most_112 : decode cX8_most 112 = .ok (.aload_n 0, 1) := by decide +kernel
theorem dX8_most_113 : decode cX8_most 113 = .ok (.getfield 60, 3) := by decide +kernel
theorem dX8_most_116 : decode cX8_most 116 = .ok (.invokevirtual 365, 3) := by decide +kernel
theorem dX8_most_119 : decode cX8_most 119 = .ok (.ireturn, 1) := by decide +kernel
theorem dX8_most_120 : decode cX8_most 120 = .ok (.aload_n 0, 1) := by decide +kernel
theorem dX8_most_121 : decode cX8_most 121 = .ok (.getfield 60, 3) := by decide +kernel
theorem dX8_most_124 : decode cX8_most 124 = .ok (.invokevirtual 326, 3) := by decide +kernel
theorem dX8_most_127 : decode cX8_most 127 = .ok (.ireturn, 1) := by decide +kernel
theorem dX8_most_128 : decode cX8_most 128 = .ok (.aload_n 0, 1) := by decide +kernel
theorem dX8_most_129 : decode cX8_most 129 = .ok (.getfield 60, 3) := by decide +kernel
theorem dX8_most_132 : decode cX8_most 132 = .ok (.invokevirtual 368, 3) := by decide +kernel
theorem dX8_most_135 : decode cX8_most 135 = .ok (.ireturn, 1) := by decide +kernel
theorem dX8_most_136 : decode cX8_most 136 = .ok (.aload_n 0, 1) := by decide +kernel
theorem dX8_most_137 : decode cX8_most 137 = .ok (.getfield 60, 3) := by decide +kernel
theorem dX8_most_140 : decode cX8_most 140 = .ok (.invokevirtual 371, 3) := by decide +kernel
theorem dX8_most_143 : decode cX8_most 143 = .ok (.ireturn, 1) := by decide +kernel
theorem dX8_most_144 : decode cX8_most 144 = .ok (.aload_n 0, 1) := by decide +kernel
theorem dX8_most_145 : decode cX8_most 145 = .ok (.getfield 60, 3) := by decide +kernel
theorem dX8_most_148 : decode cX8_most 148 = .ok (.invokevirtual 374, 3) := by decide +kernel
theorem dX8_most_151 : decode cX8_most 151 = .ok (.ireturn, 1) := by decide +kernel
theorem dX8_most_152 : decode cX8_most 152 = .ok (.aload_n 0, 1) := by decide +kernel
theorem dX8_most_153 : decode cX8_most 153 = .ok (.getfield 60, 3) := by decide +kernel
theorem dX8_most_156 : decode cX8_most 156 = .ok (.invokevirtual 377, 3) := by decide +kernel
theorem dX8_most_159 : decode cX8_most 159 = .ok (.ireturn, 1) := by decide +kernel
theorem dX8_most_160 : decode cX8_most 160 = .ok (.ldc 207, 2) := by decide +kernel
theorem dX8_most_162 : decode cX8_most 162 = .ok (.ireturn, 1) := by decide +kernel
theorem dX8_image_0 : decode cX8_image 0 = .ok (.aload_n 0, 1) := by decide +kernel
theorem dX8_image_1 : decode cX8_image 1 = .ok (.getfield 28, 3) := by decide +kernel
theorem dX8_image_4 : decode cX8_image 4 = .ok (.invokevirtual 147, 3) := by decide +kernel
theorem dX8_image_7 : decode cX8_image 7 = .ok (.ifCond .ne 5, 3) := by decide +kernel
theorem dX8_image_10 : decode cX8_image 10 = .ok (.iconst (-1), 1) := by decide +kernel
theorem dX8_image_11 : decode cX8_image 11 = .ok (.ireturn, 1) := by decide +kernel
theorem dX8_image_12 : decode cX8_image 12 = .ok (.aload_n 0, 1) := by decide +kernel
theorem dX8_image_13 : decode cX8_image 13 = .ok (.getfield 60, 3) := by decide +kernel
theorem dX8_image_16 : decode cX8_image 16 = .ok (.aload_n 0, 1) := by decide +kernel
theorem dX8_image_17 : decode cX8_image 17 = .ok (.getfield 88, 3) := by decide +kernel
theorem dX8_image_20 : decode cX8_image 20 = .ok (.iconst 0, 1) := by decide +kernel
theorem dX8_image_21 : decode cX8_image 21 = .ok (.invokevirtual 316, 3) := by decide +kernel
theorem dX8_image_24 : decode cX8_image 24 = .ok (.aload_n 0, 1) := by decide +kernel
theorem dX8_image_25 : decode cX8_image 25 = .ok (.getfield 91, 3) := by decide +kernel
theorem dX8_image_28 : decode cX8_image 28 = .ok (.aload_n 0, 1) := by decide +kernel
theorem dX8_image_29 : decode cX8_image 29 = .ok (.getfield 84, 3) := by decide +kernel
theorem dX8_image_32 : decode cX8_image 32 = .ok (.invokevirtual 380, 3) := by decide +kernel
theorem dX8_image_35 : decode cX8_image 35 = .ok (.aload_n 0, 1) := by decide +kernel
theorem dX8_image_36 : decode cX8_image 36 = .ok (.iconst 1, 1) := by decide +kernel
theorem dX8_image_37 : decode cX8_image 37 = .ok (.putfield 137, 3) := by decide +kernel
theorem dX8_image_40 : decode cX8_image 40 = .ok (.aload_n 0, 1) := by decide +kernel
theorem dX8_image_41 : decode cX8_image 41 = .ok (.getfield 60, 3) := by decide +kernel
theorem dX8_image_44 : decode cX8_image 44 = .ok (.getfield 198, 3) := by decide +kernel
theorem dX8_image_47 : decode cX8_image 47 = .ok (.ireturn, 1) := by decide +kernel
theorem dX8_back_0 : decode cX8_back 0 = .ok (.aload_n 0, 1) := by decide +kernel
theorem dX8_back_1 : decode cX8_back 1 = .ok (.getfield 137, 3) := by decide +kernel
theorem dX8_back_4 : decode cX8_back 4 = .ok (.ifCond .ne 5, 3) := by decide +kernel
theorem dX8_back_7 : decode cX8_back 7 = .ok (.iconst (-1), 1) := by decide +kernel
theorem dX8_back_8 : decode cX8_back 8 = .ok (.ireturn, 1) := by decide +kernel
theorem dX8_back_9 : decode cX8_back 9 = .ok (.aload_n 0, 1) := by decide +kernel
theorem dX8_back_10 : decode cX8_back 10 = .ok (.getfield 60, 3) := by decide +kernel
theorem dX8_back_13 : decode cX8_back 13 = .ok (.aload_n 0, 1) := by decide +kernel
theorem dX8_back_14 : decode cX8_back 14 = .ok (.getfield 88, 3) := by decide +kernel
theorem dX8_back_17 : decode cX8_back 17 = .ok (.iconst 0, 1) := by decide +kernel
theorem dX8_back_18 : decode cX8_back 18 = .ok (.invokevirtual 320, 3) := by decide +kernel
theorem dX8_back_21 : decode cX8_back 21 = .ok (.aload_n 0, 1) := by decide +kernel
theorem dX8_back_22 : decode cX8_back 22 = .ok (.getfield 84, 3) := by decide +kernel
theorem dX8_back_25 : decode cX8_back 25 = .ok (.aload_n 0, 1) := by decide +kernel
theorem dX8_back_26 : decode cX8_back 26 = .ok (.getfield 91, 3) := by decide +kernel
theorem dX8_back_29 : decode cX8_back 29 = .ok (.invokevirtual 380, 3) := by decide +kernel
theorem dX8_back_32 : decode cX8_back 32 = .ok (.aload_n 0, 1) := by decide +kernel
theorem dX8_back_33 : decode cX8_back 33 = .ok (.getfield 77, 3) := by decide +kernel
theorem dX8_back_36 : decode cX8_back 36 = .ok (.invokevirtual 133, 3) := by decide +kernel
theorem dX8_back_39 : decode cX8_back 39 = .ok (.aload_n 0, 1) := by decide +kernel
theorem dX8_back_40 : decode cX8_back 40 = .ok (.getfield 60, 3) := by decide +kernel
theorem dX8_back_43 : decode cX8_back 43 = .ok (.getfield 198, 3) := by decide +kernel
theorem dX8_back_46 : decode cX8_back 46 = .ok (.ireturn, 1) := by decide +kernel
theorem dX8_count_0 : decode cX8_count 0 = .ok (.iload_n 1, 1) := by decide +kernel
theorem dX8_count_1 : decode cX8_count 1 = .ok (.tableswitch 84 0 5 #[39, 47, 52, 60, 68, 76], 39) := by decide +kernel
theorem dX8_count_40 : decode cX8_count 40 = .ok (.aload_n 0, 1) := by decide +kernel
theorem dX8_count_41 : decode cX8_count 41 = .ok (.getfield 28, 3) := by decide +kernel
theorem dX8_count_44 : decode cX8_count 44 = .ok (.getfield 141, 3) := by decide +kernel
theorem dX8_count_47 : decode cX8_count 47 = .ok (.ireturn, 1) := by decide +kernel
theorem dX8_count_48 : decode cX8_count 48 = .ok (.aload_n 0, 1) := by decide +kernel
theorem dX8_count_49 : decode cX8_count 49 = .ok (.getfield 121, 3) := by decide +kernel
theorem dX8_count_52 : decode cX8_count 52 = .ok (.ireturn, 1) := by decide +kernel
theorem dX8_count_53 : decode cX8_count 53 = .ok (.aload_n 0, 1) := by decide +kernel
theorem dX8_count_54 : decode cX8_count 54 = .ok (.getfield 10, 3) := by decide +kernel
theorem dX8_count_57 : decode cX8_count 57 = .ok (.getfield 101, 3) := by decide +kernel
theorem dX8_count_60 : decode cX8_count 60 = .ok (.ireturn, 1) := by decide +kernel
theorem dX8_count_61 : decode cX8_count 61 = .ok (.aload_n 0, 1) := by decide +kernel
theorem dX8_count_62 : decode cX8_count 62 = .ok (.getfield 84, 3) := by decide +kernel
theorem dX8_count_65 : decode cX8_count 65 = .ok (.invokevirtual 292, 3) := by decide +kernel
theorem dX8_count_68 : decode cX8_count 68 = .ok (.ireturn, 1) := by decide +kernel
theorem dX8_count_69 : decode cX8_count 69 = .ok (.aload_n 0, 1) := by decide +kernel
theorem dX8_count_70 : decode cX8_count 70 = .ok (.getfield 77, 3) := by decide +kernel
theorem dX8_count_73 : decode cX8_count 73 = .ok (.getfield 283, 3) := by decide +kernel
theorem dX8_count_76 : decode cX8_count 76 = .ok (.ireturn, 1) := by decide +kernel
theorem dX8_count_77 : decode cX8_count 77 = .ok (.aload_n 0, 1) := by decide +kernel
theorem dX8_count_78 : decode cX8_count 78 = .ok (.getfield 60, 3) := by decide +kernel
theorem dX8_count_81 : decode cX8_count 81 = .ok (.getfield 383, 3) := by decide +kernel
theorem dX8_count_84 : decode cX8_count 84 = .ok (.ireturn, 1) := by decide +kernel
theorem dX8_count_85 : decode cX8_count 85 = .ok (.ldc 207, 2) := by decide +kernel
theorem dX8_count_87 : decode cX8_count 87 = .ok (.ireturn, 1) := by decide +kernel
theorem dX9_in_0 : decode cX9_in 0 = .ok (.iload_n 0, 1) := by decide +kernel
theorem dX9_in_1 : decode cX9_in 1 = .ok (.iload_n 1, 1) := by decide +kernel
theorem dX9_in_2 : decode cX9_in 2 = .ok (.if_icmp .lt 12, 3) := by decide +kernel
theorem dX9_in_5 : decode cX9_in 5 = .ok (.iload_n 0, 1) := by decide +kernel
theorem dX9_in_6 : decode cX9_in 6 = .ok (.iload_n 2, 1) := by decide +kernel
theorem dX9_in_7 : decode cX9_in 7 = .ok (.if_icmp .gt 7, 3) := by decide +kernel
theorem dX9_in_10 : decode cX9_in 10 = .ok (.iconst 1, 1) := by decide +kernel
theorem dX9_in_11 : decode cX9_in 11 = .ok (.goto 4, 3) := by decide +kernel
theorem dX9_in_14 : decode cX9_in 14 = .ok (.iconst 0, 1) := by decide +kernel
theorem dX9_in_15 : decode cX9_in 15 = .ok (.ireturn, 1) := by decide +kernel
theorem dX9_has_0 : decode cX9_has 0 = .ok (.iload_n 0, 1) := by decide +kernel
theorem dX9_has_1 : decode cX9_has 1 = .ok (.iload_n 1, 1) := by decide +kernel
theorem dX9_has_2 : decode cX9_has 2 = .ok (.ishr, 1) := by decide +kernel
theorem dX9_has_3 : decode cX9_has 3 = .ok (.iconst 1, 1) := by decide +kernel
theorem dX9_has_4 : decode cX9_has 4 = .ok (.iand, 1) := by decide +kernel
theorem dX9_has_5 : decode cX9_has 5 = .ok (.iconst 1, 1) := by decide +kernel
theorem dX9_has_6 : decode cX9_has 6 = .ok (.if_icmp .ne 7, 3) := by decide +kernel
theorem dX9_has_9 : decode cX9_has 9 = .ok (.iconst 1, 1) := by decide +kernel
theorem dX9_has_10 : decode cX9_has 10 = .ok (.goto 4, 3) := by decide +kernel
theorem dX9_has_13 : decode cX9_has 13 = .ok (.iconst 0, 1) := by decide +kernel
theorem dX9_has_14 : decode cX9_has 14 = .ok (.ireturn, 1) := by decide +kernel
theorem dX9_bits_0 : decode cX9_bits 0 = .ok (.iconst 0, 1) := by decide +kernel
theorem dX9_bits_1 : decode cX9_bits 1 = .ok (.istore_n 1, 1) := by decide +kernel
theorem dX9_bits_2 : decode cX9_bits 2 = .ok (.iconst 0, 1) := by decide +kernel
theorem dX9_bits_3 : decode cX9_bits 3 = .ok (.istore_n 2, 1) := by decide +kernel
theorem dX9_bits_4 : decode cX9_bits 4 = .ok (.iload_n 2, 1) := by decide +kernel
theorem dX9_bits_5 : decode cX9_bits 5 = .ok (.bipush 8, 2) := by decide +kernel
theorem dX9_bits_7 : decode cX9_bits 7 = .ok (.if_icmp .ge 17, 3) := by decide +kernel
theorem dX9_bits_10 : decode cX9_bits 10 = .ok (.iload_n 1, 1) := by decide +kernel
theorem dX9_bits_11 : decode cX9_bits 11 = .ok (.iload_n 0, 1) := by decide +kernel
theorem dX9_bits_12 : decode cX9_bits 12 = .ok (.iload_n 2, 1) := by decide +kernel
theorem dX9_bits_13 : decode cX9_bits 13 = .ok (.ishr, 1) := by decide +kernel
theorem dX9_bits_14 : decode cX9_bits 14 = .ok (.iconst 1, 1) := by decide +kernel
theorem dX9_bits_15 : decode cX9_bits 15 = .ok (.iand, 1) := by decide +kernel
theorem dX9_bits_16 : decode cX9_bits 16 = .ok (.iadd, 1) := by decide +kernel
theorem dX9_bits_17 : decode cX9_bits 17 = .ok (.istore_n 1, 1) := by decide +kernel
theorem dX9_bits_18 : decode cX9_bits 18 = .ok (.iinc 2 1, 3) := by decide +kernel
theorem dX9_bits_21 : decode cX9_bits 21 = .ok (.goto (-17), 3) := by decide +kernel
theorem dX9_bits_24 : decode cX9_bits 24 = .ok (.iload_n 1, 1) := by decide +kernel
theorem dX9_bits_25 : decode cX9_bits 25 = .ok (.ireturn, 1) := by decide +kernel
theorem dX9_apart_0 : decode cX9_apart 0 = .ok (.iload_n 0, 1) := by decide +kernel
theorem dX9_apart_1 : decode cX9_apart 1 = .ok (.iload_n 1, 1) := by decide +kernel
theorem dX9_apart_2 : decode cX9_apart 2 = .ok (.if_icmp .le 9, 3) := by decide +kernel
theorem dX9_apart_5 : decode cX9_apart 5 = .ok (.iload_n 0, 1) := by decide +kernel
theorem dX9_apart_6 : decode cX9_apart 6 = .ok (.iload_n 1, 1) := by decide +kernel
theorem dX9_apart_7 : decode cX9_apart 7 = .ok (.isub, 1) := by decide +kernel
theorem dX9_apart_8 : decode cX9_apart 8 = .ok (.goto 6, 3) := by decide +kernel
theorem dX9_apart_11 : decode cX9_apart 11 = .ok (.iload_n 1, 1) := by decide +kernel
theorem dX9_apart_12 : decode cX9_apart 12 = .ok (.iload_n 0, 1) := by decide +kernel
theorem dX9_apart_13 : decode cX9_apart 13 = .ok (.isub, 1) := by decide +kernel
theorem dX9_apart_14 : decode cX9_apart 14 = .ok (.ireturn, 1) := by decide +kernel
theorem dX9_init_0 : decode cX9_init 0 = .ok (.aload_n 0, 1) := by decide +kernel
theorem dX9_init_1 : decode cX9_init 1 = .ok (.invokespecial 3, 3) := by decide +kernel
theorem dX9_init_4 : decode cX9_init 4 = .ok (.aload_n 0, 1) := by decide +kernel
theorem dX9_init_5 : decode cX9_init 5 = .ok (.sipush 240, 3) := by decide +kernel
theorem dX9_init_8 : decode cX9_init 8 = .ok (.newarray .int, 2) := by decide +kernel
theorem dX9_init_10 : decode cX9_init 10 = .ok (.putfield 9, 3) := by decide +kernel
theorem dX9_init_13 : decode cX9_init 13 = .ok (.aload_n 0, 1) := by decide +kernel
theorem dX9_init_14 : decode cX9_init 14 = .ok (.bipush 8, 2) := by decide +kernel
theorem dX9_init_16 : decode cX9_init 16 = .ok (.newarray .int, 2) := by decide +kernel
theorem dX9_init_18 : decode cX9_init 18 = .ok (.putfield 13, 3) := by decide +kernel
theorem dX9_init_21 : decode cX9_init 21 = .ok (.aload_n 0, 1) := by decide +kernel
theorem dX9_init_22 : decode cX9_init 22 = .ok (.bipush 16, 2) := by decide +kernel
theorem dX9_init_24 : decode cX9_init 24 = .ok (.newarray .int, 2) := by decide +kernel
theorem dX9_init_26 : decode cX9_init 26 = .ok (.putfield 16, 3) := by decide +kernel
theorem dX9_init_29 : decode cX9_init 29 = .ok (.aload_n 0, 1) := by decide +kernel
theorem dX9_init_30 : decode cX9_init 30 = .ok (.bipush 48, 2) := by decide +kernel
theorem dX9_init_32 : decode cX9_init 32 = .ok (.newarray .int, 2) := by decide +kernel
theorem dX9_init_34 : decode cX9_init 34 = .ok (.putfield 19, 3) := by decide +kernel
theorem dX9_init_37 : decode cX9_init 37 = .ok (.aload_n 0, 1) := by decide +kernel
theorem dX9_init_38 : decode cX9_init 38 = .ok (.bipush 8, 2) := by decide +kernel
theorem dX9_init_40 : decode cX9_init 40 = .ok (.newarray .int, 2) := by decide +kernel
theorem dX9_init_42 : decode cX9_init 42 = .ok (.putfield 22, 3) := by decide +kernel
theorem dX9_init_45 : decode cX9_init 45 = .ok (.aload_n 0, 1) := by decide +kernel
theorem dX9_init_46 : decode cX9_init 46 = .ok (.bipush 8, 2) := by decide +kernel
theorem dX9_init_48 : decode cX9_init 48 = .ok (.newarray .int, 2) := by decide +kernel
theorem dX9_init_50 : decode cX9_init 50 = .ok (.putfield 25, 3) := by decide +kernel
theorem dX9_init_53 : decode cX9_init 53 = .ok (.aload_n 0, 1) := by decide +kernel
theorem dX9_init_54 : decode cX9_init 54 = .ok (.sipush 240, 3) := by decide +kernel
theorem dX9_init_57 : decode cX9_init 57 = .ok (.newarray .int, 2) := by decide +kernel
theorem dX9_init_59 : decode cX9_init 59 = .ok (.putfield 28, 3) := by decide +kernel
theorem dX9_init_62 : decode cX9_init 62 = .ok (.aload_n 0, 1) := by decide +kernel
theorem dX9_init_63 : decode cX9_init 63 = .ok (.iconst 5, 1) := by decide +kernel
theorem dX9_init_64 : decode cX9_init 64 = .ok (.newarray .int, 2) := by decide +kernel
theorem dX9_init_66 : decode cX9_init 66 = .ok (.putfield 31, 3) := by decide +kernel
theorem dX9_init_69 : decode cX9_init 69 = .ok (.aload_n 0, 1) := by decide +kernel
theorem dX9_init_70 : decode cX9_init 70 = .ok (.sipush 353, 3) := by decide +kernel
theorem dX9_init_73 : decode cX9_init 73 = .ok (.newarray .int, 2) := by decide +kernel
theorem dX9_init_75 : decode cX9_init 75 = .ok (.putfield 34, 3) := by decide +kernel
theorem dX9_init_78 : decode cX9_init 78 = .ok (.aload_n 0, 1) := by decide +kernel
theorem dX9_init_79 : decode cX9_init 79 = .ok (.iconst 4, 1) := by decide +kernel
theorem dX9_init_80 : decode cX9_init 80 = .ok (.newarray .int, 2) := by decide +kernel
theorem dX9_init_82 : decode cX9_init 82 = .ok (.putfield 37, 3) := by decide +kernel
theorem dX9_init_85 : decode cX9_init 85 = .ok (.aload_n 0, 1) := by decide +kernel
theorem dX9_init_86 : decode cX9_init 86 = .ok (.bipush 24, 2) := by decide +kernel
theorem dX9_init_88 : decode cX9_init 88 = .ok (.newarray .int, 2) := by decide +kernel
theorem dX9_init_90 : decode cX9_init 90 = .ok (.putfield 40, 3) := by decide +kernel
theorem dX9_init_93 : decode cX9_init 93 = .ok (.aload_n 0, 1) := by decide +kernel
theorem dX9_init_94 : decode cX9_init 94 = .ok (.bipush 24, 2) := by decide +kernel
theorem dX9_init_96 : decode cX9_init 96 = .ok (.newarray .int, 2) := by decide +kernel
theorem dX9_init_98 : decode cX9_init 98 = .ok (.putfield 43, 3) := by decide +kernel
theorem dX9_init_101 : decode cX9_init 101 = .ok (.aload_n 0, 1) := by decide +kernel
theorem dX9_init_102 : decode cX9_init 102 = .ok (.sipush 14120, 3) := by decide +kernel
theorem dX9_init_105 : decode cX9_init 105 = .ok (.newarray .int, 2) := by decide +kernel
theorem dX9_init_107 : decode cX9_init 107 = .ok (.putfield 46, 3) := by decide +kernel
theorem dX9_init_110 : decode cX9_init 110 = .ok (.aload_n 0, 1) := by decide +kernel
theorem dX9_init_111 : decode cX9_init 111 = .ok (.sipush 172, 3) := by decide +kernel
theorem dX9_init_114 : decode cX9_init 114 = .ok (.newarray .int, 2) := by decide +kernel
theorem dX9_init_116 : decode cX9_init 116 = .ok (.putfield 49, 3) := by decide +kernel
theorem dX9_init_119 : decode cX9_init 119 = .ok (.aload_n 0, 1) := by decide +kernel
theorem dX9_init_120 : decode cX9_init 120 = .ok (.ldc 52, 2) := by decide +kernel
theorem dX9_init_122 : decode cX9_init 122 = .ok (.newarray .int, 2) := by decide +kernel
theorem dX9_init_124 : decode cX9_init 124 = .ok (.putfield 53, 3) := by decide +kernel
theorem dX9_init_127 : decode cX9_init 127 = .ok (.aload_n 0, 1) := by decide +kernel
theorem dX9_init_128 : decode cX9_init 128 = .ok (.bipush 12, 2) := by decide +kernel
theorem dX9_init_130 : decode cX9_init 130 = .ok (.newarray .int, 2) := by decide +kernel
theorem dX9_init_132 : decode cX9_init 132 = .ok (.putfield 56, 3) := by decide +kernel
theorem dX9_init_135 : decode cX9_init 135 = .ok (.aload_n 0, 1) := by decide +kernel
theorem dX9_init_136 : decode cX9_init 136 = .ok (.sipush 172, 3) := by decide +kernel
theorem dX9_init_139 : decode cX9_init 139 = .ok (.newarray .int, 2) := by decide +kernel
theorem dX9_init_141 : decode cX9_init 141 = .ok (.putfield 59, 3) := by decide +kernel
theorem dX9_init_144 : decode cX9_init 144 = .ok (.aload_n 0, 1) := by decide +kernel
theorem dX9_init_145 : decode cX9_init 145 = .ok (.sipush 353, 3) := by decide +kernel
theorem dX9_init_148 : decode cX9_init 148 = .ok (.newarray .int, 2) := by decide +kernel
theorem dX9_init_150 : decode cX9_init 150 = .ok (.putfield 62, 3) := by decide +kernel
theorem dX9_init_153 : decode cX9_init 153 = .ok (.return_, 1) := by decide +kernel
theorem dX9_thrown_0 : decode cX9_thrown 0 = .ok (.aload_n 0, 1) := by decide +kernel
theorem dX9_thrown_1 : decode cX9_thrown 1 = .ok (.getfield 65, 3) := by decide +kernel
theorem dX9_thrown_4 : decode cX9_thrown 4 = .ok (.ireturn, 1) := by decide +kernel
theorem dX9_byteOf_0 : decode cX9_byteOf 0 = .ok (.iload 5, 2) := by decide +kernel
theorem dX9_byteOf_2 : decode cX9_byteOf 2 = .ok (.iconst 4, 1) := by decide +kernel
theorem dX9_byteOf_3 : decode cX9_byteOf 3 = .ok (.if_icmp .ge 7, 3) := by decide +kernel
theorem dX9_byteOf_6 : decode cX9_byteOf 6 = .ok (.iload_n 0, 1) := by decide +kernel
theorem dX9_byteOf_7 : decode cX9_byteOf 7 = .ok (.goto 38, 3) := by decide +kernel
theorem dX9_byteOf_10 : decode cX9_byteOf 10 = .ok (.iload 5, 2) := by decide +kernel
theorem dX9_byteOf_12 : decode cX9_byteOf 12 = .ok (.bipush 8, 2) := by decide +kernel
theorem dX9_byteOf_14 : decode cX9_byteOf 14 = .ok (.if_icmp .ge 7, 3) := by decide +kernel
theorem dX9_byteOf_17 : decode cX9_byteOf 17 = .ok (.iload_n 1, 1) := by decide +kernel
theorem dX9_byteOf_18 : decode cX9_byteOf 18 = .ok (.goto 27, 3) := by decide +kernel
theorem dX9_byteOf_21 : decode cX9_byteOf 21 = .ok (.iload 5, 2) := by decide +kernel
theorem dX9_byteOf_23 : decode cX9_byteOf 23 = .ok (.bipush 12, 2) := by decide +kernel
theorem dX9_byteOf_25 : decode cX9_byteOf 25 = .ok (.if_icmp .ge 7, 3) := by decide +kernel
theorem dX9_byteOf_28 : decode cX9_byteOf 28 = .ok (.iload_n 2, 1) := by decide +kernel
theorem dX9_byteOf_29 : decode cX9_byteOf 29 = .ok (.goto 16, 3) := by decide +kernel
theorem dX9_byteOf_32 : decode cX9_byteOf 32 = .ok (.iload 5, 2) := by decide +kernel
theorem dX9_byteOf_34 : decode cX9_byteOf 34 = .ok (.bipush 16, 2) := by decide +kernel
theorem dX9_byteOf_36 : decode cX9_byteOf 36 = .ok (.if_icmp .ge 7, 3) := by decide +kernel
theorem dX9_byteOf_39 : decode cX9_byteOf 39 = .ok (.iload_n 3, 1) := by decide +kernel
theorem dX9_byteOf_40 : decode cX9_byteOf 40 = .ok (.goto 5, 3) := by decide +kernel
theorem dX9_byteOf_43 : decode cX9_byteOf 43 = .ok (.iload 4, 2) := by decide +kernel
theorem dX9_byteOf_45 : decode cX9_byteOf 45 = .ok (.istore 6, 2) := by decide +kernel
theorem dX9_byteOf_47 : decode cX9_byteOf 47 = .ok (.iload 6, 2) := by decide +kernel
theorem dX9_byteOf_49 : decode cX9_byteOf 49 = .ok (.bipush 24, 2) := by decide +kernel
theorem dX9_byteOf_51 : decode cX9_byteOf 51 = .ok (.bipush 8, 2) := by decide +kernel
theorem dX9_byteOf_53 : decode cX9_byteOf 53 = .ok (.iload 5, 2) := by decide +kernel
theorem dX9_byteOf_55 : decode cX9_byteOf 55 = .ok (.iconst 4, 1) := by decide +kernel
theorem dX9_byteOf_56 : decode cX9_byteOf 56 = .ok (.irem, 1) := by decide +kernel
theorem dX9_byteOf_57 : decode cX9_byteOf 57 = .ok (.imul, 1) := by decide +kernel
theorem dX9_byteOf_58 : decode cX9_byteOf 58 = .ok (.isub, 1) := by decide +kernel
theorem dX9_byteOf_59 : decode cX9_byteOf 59 = .ok (.ishr, 1) := by decide +kernel
theorem dX9_byteOf_60 : decode cX9_byteOf 60 = .ok (.sipush 255, 3) := by decide +kernel
theorem dX9_byteOf_63 : decode cX9_byteOf 63 = .ok (.iand, 1) := by decide +kernel
theorem dX9_byteOf_64 : decode cX9_byteOf 64 = .ok (.ireturn, 1) := by decide +kernel
theorem dX9_feed_0 : decode cX9_feed 0 = .ok (.iconst 0, 1) := by decide +kernel
theorem dX9_feed_1 : decode cX9_feed 1 = .ok (.istore 6, 2) := by decide +kernel
theorem dX9_feed_3 : decode cX9_feed 3 = .ok (.iconst 0, 1) := by decide +kernel
theorem dX9_feed_4 : decode cX9_feed 4 = .ok (.istore 7, 2) := by decide +kernel
theorem dX9_feed_6 : decode cX9_feed 6 = .ok (.iload 7, 2) := by decide +kernel
theorem dX9_feed_8 : decode cX9_feed 8 = .ok (.bipush 20, 2) := by decide +kernel
theorem dX9_feed_10 : decode cX9_feed 10 = .ok (.if_icmp .ge 34, 3) := by decide +kernel
theorem dX9_feed_13 : decode cX9_feed 13 = .ok (.iload 6, 2) := by decide +kernel
theorem dX9_feed_15 : decode cX9_feed 15 = .ok (.iload_n 1, 1) := by decide +kernel
theorem dX9_feed_16 : decode cX9_feed 16 = .ok (.iload_n 2, 1) := by decide +kernel
theorem dX9_feed_17 : decode cX9_feed 17 = .ok (.iload_n 3, 1) := by decide +kernel
theorem dX9_feed_18 : decode cX9_feed 18 = .ok (.iload 4, 2) := by decide +kernel
theorem dX9_feed_20 : decode cX9_feed 20 = .ok (.iload 5, 2) := by decide +kernel
theorem dX9_feed_22 : decode cX9_feed 22 = .ok (.iload 7, 2) := by decide +kernel
theorem dX9_feed_24 : decode cX9_feed 24 = .ok (.invokestatic 69, 3) := by decide +kernel
theorem dX9_feed_27 : decode cX9_feed 27 = .ok (.ifCond .eq 7, 3) := by decide +kernel
theorem dX9_feed_30 : decode cX9_feed 30 = .ok (.iconst 1, 1) := by decide +kernel
theorem dX9_feed_31 : decode cX9_feed 31 = .ok (.goto 4, 3) := by decide +kernel
theorem dX9_feed_34 : decode cX9_feed 34 = .ok (.iconst 0, 1) := by decide +kernel
theorem dX9_feed_35 : decode cX9_feed 35 = .ok (.iadd, 1) := by decide +kernel
theorem dX9_feed_36 : decode cX9_feed 36 = .ok (.istore 6, 2) := by decide +kernel
theorem dX9_feed_38 : decode cX9_feed 38 = .ok (.iinc 7 1, 3) := by decide +kernel
theorem dX9_feed_41 : decode cX9_feed 41 = .ok (.goto (-35), 3) := by decide +kernel
theorem dX9_feed_44 : decode cX9_feed 44 = .ok (.aload_n 0, 1) := by decide +kernel
theorem dX9_feed_45 : decode cX9_feed 45 = .ok (.getfield 73, 3) := by decide +kernel
theorem dX9_feed_48 : decode cX9_feed 48 = .ok (.iload 6, 2) := by decide +kernel
theorem dX9_feed_50 : decode cX9_feed 50 = .ok (.iadd, 1) := by decide +kernel
theorem dX9_feed_51 : decode cX9_feed 51 = .ok (.sipush 240, 3) := by decide +kernel
theorem dX9_feed_54 : decode cX9_feed 54 = .ok (.if_icmp .le 5, 3) := by decide +kernel
theorem dX9_feed_57 : decode cX9_feed 57 = .ok (.iconst (-1), 1) := by decide +kernel
theorem dX9_feed_58 : decode cX9_feed 58 = .ok (.ireturn, 1) := by decide +kernel
theorem dX9_feed_59 : decode cX9_feed 59 = .ok (.iconst 0, 1) := by decide +kernel
theorem dX9_feed_60 : decode cX9_feed 60 = .ok (.istore 7, 2) := by decide +kernel
theorem dX9_feed_62 : decode cX9_feed 62 = .ok (.iload 7, 2) := by decide +kernel
theorem dX9_feed_64 : decode cX9_feed 64 = .ok (.bipush 20, 2) := by decide +kernel
theorem dX9_feed_66 : decode cX9_feed 66 = .ok (.if_icmp .ge 49, 3) := by decide +kernel
theorem dX9_feed_69 : decode cX9_feed 69 = .ok (.iload_n 1, 1) := by decide +kernel
theorem dX9_feed_70 : decode cX9_feed 70 = .ok (.iload_n 2, 1) := by decide +kernel
theorem dX9_feed_71 : decode cX9_feed 71 = .ok (.iload_n 3, 1) := by decide +kernel
theorem dX9_feed_72 : decode cX9_feed 72 = .ok (.iload 4, 2) := by decide +kernel
theorem dX9_feed_74 : decode cX9_feed 74 = .ok (.iload 5, 2) := by decide +kernel
theorem dX9_feed_76 : decode cX9_feed 76 = .ok (.iload 7, 2) := by decide +kernel
theorem dX9_feed_78 : decode cX9_feed 78 = .ok (.invokestatic 69, 3) := by decide +kernel
theorem dX9_feed_81 : decode cX9_feed 81 = .ok (.istore 8, 2) := by decide +kernel
theorem dX9_feed_83 : decode cX9_feed 83 = .ok (.iload 8, 2) := by decide +kernel
theorem dX9_feed_85 : decode cX9_feed 85 = .ok (.ifCond .eq 24, 3) := by decide +kernel
theorem dX9_feed_88 : decode cX9_feed 88 = .ok (.aload_n 0, 1) := by decide +kernel
theorem dX9_feed_89 : decode cX9_feed 89 = .ok (.getfield 9, 3) := by decide +kernel
theorem dX9_feed_92 : decode cX9_feed 92 = .ok (.aload_n 0, 1) := by decide +kernel
theorem dX9_feed_93 : decode cX9_feed 93 = .ok (.getfield 73, 3) := by decide +kernel
theorem dX9_feed_96 : decode cX9_feed 96 = .ok (.iload 8, 2) := by decide +kernel
theorem dX9_feed_98 : decode cX9_feed 98 = .ok (.iastore, 1) := by decide +kernel
theorem dX9_feed_99 : decode cX9_feed 99 = .ok (.aload_n 0, 1) := by decide +kernel
theorem dX9_feed_100 : decode cX9_feed 100 = .ok (.dup, 1) := by decide +kernel
theorem dX9_feed_101 : decode cX9_feed 101 = .ok (.getfield 73, 3) := by decide +kernel
theorem dX9_feed_104 : decode cX9_feed 104 = .ok (.iconst 1, 1) := by decide +kernel
theorem dX9_feed_105 : decode cX9_feed 105 = .ok (.iadd, 1) := by decide +kernel
theorem dX9_feed_106 : decode cX9_feed 106 = .ok (.putfield 73, 3) := by decide +kernel
theorem dX9_feed_109 : decode cX9_feed 109 = .ok (.iinc 7 1, 3) := by decide +kernel
theorem dX9_feed_112 : decode cX9_feed 112 = .ok (.goto (-50), 3) := by decide +kernel
theorem dX9_feed_115 : decode cX9_feed 115 = .ok (.aload_n 0, 1) := by decide +kernel
theorem dX9_feed_116 : decode cX9_feed 116 = .ok (.getfield 73, 3) := by decide +kernel
theorem dX9_feed_119 : decode cX9_feed 119 = .ok (.ireturn, 1) := by decide +kernel
theorem dX9_end_0 : decode cX9_end 0 = .ok (.iload_n 1, 1) := by decide +kernel
theorem dX9_end_1 : decode cX9_end 1 = .ok (.iconst 0, 1) := by decide +kernel
theorem dX9_end_2 : decode cX9_end 2 = .ok (.aload_n 0, 1) := by decide +kernel
theorem dX9_end_3 : decode cX9_end 3 = .ok (.getfield 73, 3) := by decide +kernel
theorem dX9_end_6 : decode cX9_end 6 = .ok (.invokestatic 76, 3) := by decide +kernel
theorem dX9_end_9 : decode cX9_end 9 = .ok (.ifCond .ne 5, 3) := by decide +kernel
theorem dX9_end_12 : decode cX9_end 12 = .ok (.iconst 0, 1) := by decide +kernel
theorem dX9_end_13 : decode cX9_end 13 = .ok (.ireturn, 1) := by decide +kernel
theorem dX9_end_14 : decode cX9_end 14 = .ok (.aload_n 0, 1) := by decide +kernel
theorem dX9_end_15 : decode cX9_end 15 = .ok (.iload_n 1, 1) := by decide +kernel
theorem dX9_end_16 : decode cX9_end 16 = .ok (.putfield 73, 3) := by decide +kernel
theorem dX9_end_19 : decode cX9_end 19 = .ok (.iconst 1, 1) := by decide +kernel
theorem dX9_end_20 : decode cX9_end 20 = .ok (.ireturn, 1) := by decide +kernel
theorem dX9_here_0 : decode cX9_here 0 = .ok (.aload_n 0, 1) := by decide +kernel
theorem dX9_here_1 : decode cX9_here 1 = .ok (.getfield 80, 3) := by decide +kernel
theorem dX9_here_4 : decode cX9_here 4 = .ok (.aload_n 0, 1) := by decide +kernel
theorem dX9_here_5 : decode cX9_here 5 = .ok (.getfield 73, 3) := by decide +kernel
theorem dX9_here_8 : decode cX9_here 8 = .ok (.if_icmp .ge 15, 3) := by decide +kernel
theorem dX9_here_11 : decode cX9_here 11 = .ok (.aload_n 0, 1) := by decide +kernel
theorem dX9_here_12 : decode cX9_here 12 = .ok (.getfield 9, 3) := by decide +kernel
theorem dX9_here_15 : decode cX9_here 15 = .ok (.aload_n 0, 1) := by decide +kernel
theorem dX9_here_16 : decode cX9_here 16 = .ok (.getfield 80, 3) := by decide +kernel
theorem dX9_here_19 : decode cX9_here 19 = .ok (.iaload, 1) := by decide +kernel
theorem dX9_here_20 : decode cX9_here 20 = .ok (.goto 4, 3) := by decide +kernel
theorem dX9_here_23 : decode cX9_here 23 = .ok (.iconst (-1), 1) := by decide +kernel
theorem dX9_here_24 : decode cX9_here 24 = .ok (.ireturn, 1) := by decide +kernel
theorem dX9_ahead_0 : decode cX9_ahead 0 = .ok (.aload_n 0, 1) := by decide +kernel
theorem dX9_ahead_1 : decode cX9_ahead 1 = .ok (.invokevirtual 83, 3) := by decide +kernel
theorem dX9_ahead_4 : decode cX9_ahead 4 = .ok (.bipush 32, 2) := by decide +kernel
theorem dX9_ahead_6 : decode cX9_ahead 6 = .ok (.if_icmp .ne 16, 3) := by decide +kernel
theorem dX9_ahead_9 : decode cX9_ahead 9 = .ok (.aload_n 0, 1) := by decide +kernel
theorem dX9_ahead_10 : decode cX9_ahead 10 = .ok (.dup, 1) := by decide +kernel
theorem dX9_ahead_11 : decode cX9_ahead 11 = .ok (.getfield 80, 3) := by decide +kernel
theorem dX9_ahead_14 : decode cX9_ahead 14 = .ok (.iconst 1, 1) := by decide +kernel
theorem dX9_ahead_15 : decode cX9_ahead 15 = .ok (.iadd, 1) := by decide +kernel
theorem dX9_ahead_16 : decode cX9_ahead 16 = .ok (.putfield 80, 3) := by decide +kernel
theorem dX9_ahead_19 : decode cX9_ahead 19 = .ok (.goto (-19), 3) := by decide +kernel
theorem dX9_ahead_22 : decode cX9_ahead 22 = .ok (.aload_n 0, 1) := by decide +kernel
theorem dX9_ahead_23 : decode cX9_ahead 23 = .ok (.invokevirtual 83, 3) := by decide +kernel
theorem dX9_ahead_26 : decode cX9_ahead 26 = .ok (.ireturn, 1) := by decide +kernel
theorem dX9_bad_0 : decode cX9_bad 0 = .ok (.aload_n 0, 1) := by decide +kernel
theorem dX9_bad_1 : decode cX9_bad 1 = .ok (.aload_n 0, 1) := by decide +kernel
theorem dX9_bad_2 : decode cX9_bad 2 = .ok (.getfield 87, 3) := by decide +kernel
theorem dX9_bad_5 : decode cX9_bad 5 = .ok (.iconst (-1), 1) := by decide +kernel
theorem dX9_bad_6 : decode cX9_bad 6 = .ok (.if_icmp .ne 10, 3) := by decide +kernel
theorem dX9_bad_9 : decode cX9_bad 9 = .ok (.aload_n 0, 1) := by decide +kernel
theorem dX9_bad_10 : decode cX9_bad 10 = .ok (.getfield 80, 3) := by decide +kernel
theorem dX9_bad_13 : decode cX9_bad 13 = .ok (.goto 7, 3) := by decide +kernel
theorem dX9_bad_16 : decode cX9_bad 16 = .ok (.aload_n 0, 1) := by decide +kernel
theorem dX9_bad_17 : decode cX9_bad 17 = .ok (.getfield 87, 3) := by decide +kernel
theorem dX9_bad_20 : decode cX9_bad 20 = .ok (.putfield 87, 3) := by decide +kernel
theorem dX9_bad_23 : decode cX9_bad 23 = .ok (.return_, 1) := by decide +kernel
theorem dX9_isDigit_0 : decode cX9_isDigit 0 = .ok (.iload_n 0, 1) := by decide +kernel
theorem dX9_isDigit_1 : decode cX9_isDigit 1 = .ok (.bipush 48, 2) := by decide +kernel
theorem dX9_isDigit_3 : decode cX9_isDigit 3 = .ok (.if_icmp .lt 13, 3) := by decide +kernel
theorem dX9_isDigit_6 : decode cX9_isDigit 6 = .ok (.iload_n 0, 1) := by decide +kernel
theorem dX9_isDigit_7 : decode cX9_isDigit 7 = .ok (.bipush 57, 2) := by decide +kernel
theorem dX9_isDigit_9 : decode cX9_isDigit 9 = .ok (.if_icmp .gt 7, 3) := by decide +kernel
theorem dX9_isDigit_12 : decode cX9_isDigit 12 = .ok (.iconst 1, 1) := by decide +kernel
theorem dX9_isDigit_13 : decode cX9_isDigit 13 = .ok (.goto 4, 3) := by decide +kernel
theorem dX9_isDigit_16 : decode cX9_isDigit 16 = .ok (.iconst 0, 1) := by decide +kernel
theorem dX9_isDigit_17 : decode cX9_isDigit 17 = .ok (.ireturn, 1) := by decide +kernel
theorem dX9_number_0 : decode cX9_number 0 = .ok (.aload_n 0, 1) := by decide +kernel
theorem dX9_number_1 : decode cX9_number 1 = .ok (.getfield 87, 3) := by decide +kernel
theorem dX9_number_4 : decode cX9_number 4 = .ok (.iconst (-1), 1) := by decide +kernel
theorem dX9_number_5 : decode cX9_number 5 = .ok (.if_icmp .ne 13, 3) := by decide +kernel
theorem dX9_number_8 : decode cX9_number 8 = .ok (.aload_n 0, 1) := by decide +kernel
theorem dX9_number_9 : decode cX9_number 9 = .ok (.invokevirtual 90, 3) := by decide +kernel
theorem dX9_number_12 : decode cX9_number 12 = .ok (.invokestatic 93, 3) := by decide +kernel
theorem dX9_number_15 : decode cX9_number 15 = .ok (.ifCond .ne 9, 3) := by decide +kernel
theorem dX9_number_18 : decode cX9_number 18 = .ok (.aload_n 0, 1) := by decide +kernel
theorem dX9_number_19 : decode cX9_number 19 = .ok (.invokevirtual 97, 3) := by decide +kernel
theorem dX9_number_22 : decode cX9_number 22 = .ok (.iload_n 1, 1) := by decide +kernel
theorem dX9_number_23 : decode cX9_number 23 = .ok (.ireturn, 1) := by decide +kernel
theorem dX9_number_24 : decode cX9_number 24 = .ok (.iconst 0, 1) := by decide +kernel
theorem dX9_number_25 : decode cX9_number 25 = .ok (.istore_n 3, 1) := by decide +kernel
theorem dX9_number_26 : decode cX9_number 26 = .ok (.iconst 0, 1) := by decide +kernel
theorem dX9_number_27 : decode cX9_number 27 = .ok (.istore 4, 2) := by decide +kernel
theorem dX9_number_29 : decode cX9_number 29 = .ok (.iload 4, 2) := by decide +kernel
theorem dX9_number_31 : decode cX9_number 31 = .ok (.iconst 2, 1) := by decide +kernel
theorem dX9_number_32 : decode cX9_number 32 = .ok (.if_icmp .ge 42, 3) := by decide +kernel
theorem dX9_number_35 : decode cX9_number 35 = .ok (.aload_n 0, 1) := by decide +kernel
theorem dX9_number_36 : decode cX9_number 36 = .ok (.invokevirtual 83, 3) := by decide +kernel
theorem dX9_number_39 : decode cX9_number 39 = .ok (.invokestatic 93, 3) := by decide +kernel
theorem dX9_number_42 : decode cX9_number 42 = .ok (.ifCond .eq 32, 3) := by decide +kernel
theorem dX9_number_45 : decode cX9_number 45 = .ok (.bipush 10, 2) := by decide +kernel
theorem dX9_number_47 : decode cX9_number 47 = .ok (.iload_n 3, 1) := by decide +kernel
theorem dX9_number_48 : decode cX9_number 48 = .ok (.imul, 1) := by decide +kernel
theorem dX9_number_49 : decode cX9_number 49 = .ok (.aload_n 0, 1) := by decide +kernel
theorem dX9_number_50 : decode cX9_number 50 = .ok (.invokevirtual 83, 3) := by decide +kernel
theorem dX9_number_53 : decode cX9_number 53 = .ok (.iadd, 1) := by decide +kernel
theorem dX9_number_54 : decode cX9_number 54 = .ok (.bipush 48, 2) := by decide +kernel
theorem dX9_number_56 : decode cX9_number 56 = .ok (.isub, 1) := by decide +kernel
theorem dX9_number_57 : decode cX9_number 57 = .ok (.istore_n 3, 1) := by decide +kernel
theorem dX9_number_58 : decode cX9_number 58 = .ok (.aload_n 0, 1) := by decide +kernel
theorem dX9_number_59 : decode cX9_number 59 = .ok (.dup, 1) := by decide +kernel
theorem dX9_number_60 : decode cX9_number 60 = .ok (.getfield 80, 3) := by decide +kernel
theorem dX9_number_63 : decode cX9_number 63 = .ok (.iconst 1, 1) := by decide +kernel
theorem dX9_number_64 : decode cX9_number 64 = .ok (.iadd, 1) := by decide +kernel
theorem dX9_number_65 : decode cX9_number 65 = .ok (.putfield 80, 3) := by decide +kernel
theorem dX9_number_68 : decode cX9_number 68 = .ok (.iinc 4 1, 3) := by decide +kernel
theorem dX9_number_71 : decode cX9_number 71 = .ok (.goto (-42), 3) := by decide +kernel
theorem dX9_number_74 : decode cX9_number 74 = .ok (.aload_n 0, 1) := by decide +kernel
theorem dX9_number_75 : decode cX9_number 75 = .ok (.invokevirtual 83, 3) := by decide +kernel
theorem dX9_number_78 : decode cX9_number 78 = .ok (.invokestatic 93, 3) := by decide +kernel
theorem dX9_number_81 : decode cX9_number 81 = .ok (.ifCond .eq 10, 3) := by decide +kernel
theorem dX9_number_84 : decode cX9_number 84 = .ok (.aload_n 0, 1) := by decide +kernel
theorem dX9_number_85 : decode cX9_number 85 = .ok (.invokevirtual 97, 3) := by decide +kernel
theorem dX9_number_88 : decode cX9_number 88 = .ok (.goto 26, 3) := by decide +kernel
theorem dX9_number_91 : decode cX9_number 91 = .ok (.iload_n 3, 1) := by decide +kernel
theorem dX9_number_92 : decode cX9_number 92 = .ok (.iload_n 1, 1) := by decide +kernel
theorem dX9_number_93 : decode cX9_number 93 = .ok (.iload_n 2, 1) := by decide +kernel
theorem dX9_number_94 : decode cX9_number 94 = .ok (.invokestatic 76, 3) := by decide +kernel
theorem dX9_number_97 : decode cX9_number 97 = .ok (.ifCond .ne 17, 3) := by decide +kernel
theorem dX9_number_100 : decode cX9_number 100 = .ok (.aload_n 0, 1) := by decide +kernel
theorem dX9_number_101 : decode cX9_number 101 = .ok (.dup, 1) := by decide +kernel
theorem dX9_number_102 : decode cX9_number 102 = .ok (.getfield 80, 3) := by decide +kernel
theorem dX9_number_105 : decode cX9_number 105 = .ok (.iconst 1, 1) := by decide +kernel
theorem dX9_number_106 : decode cX9_number 106 = .ok (.isub, 1) := by decide +kernel
theorem dX9_number_107 : decode cX9_number 107 = .ok (.putfield 80, 3) := by decide +kernel
theorem dX9_number_110 : decode cX9_number 110 = .ok (.aload_n 0, 1) := by decide +kernel
theorem dX9_number_111 : decode cX9_number 111 = .ok (.invokevirtual 97, 3) := by decide +kernel
theorem dX9_number_114 : decode cX9_number 114 = .ok (.iload_n 3, 1) := by decide +kernel
theorem dX9_number_115 : decode cX9_number 115 = .ok (.ireturn, 1) := by decide +kernel
theorem dX9_ruleOf_0 : decode cX9_ruleOf 0 = .ok (.iload_n 0, 1) := by decide +kernel
theorem dX9_ruleOf_1 : decode cX9_ruleOf 1 = .ok (.tableswitch 125 97 119 #[117, 125, 125, 109, 125, 125, 119, 125, 122, 125, 125, 111, 115, 107, 125, 125, 125, 125, 125, 125, 125, 125, 113], 107) := by decide +kernel
theorem dX9_ruleOf_108 : decode cX9_ruleOf 108 = .ok (.iconst 0, 1) := by decide +kernel
theorem dX9_ruleOf_109 : decode cX9_ruleOf 109 = .ok (.ireturn, 1) := by decide +kernel
theorem dX9_ruleOf_110 : decode cX9_ruleOf 110 = .ok (.iconst 1, 1) := by decide +kernel
theorem dX9_ruleOf_111 : decode cX9_ruleOf 111 = .ok (.ireturn, 1) := by decide +kernel
theorem dX9_ruleOf_112 : decode cX9_ruleOf 112 = .ok (.iconst 2, 1) := by decide +kernel
theorem dX9_ruleOf_113 : decode cX9_ruleOf 113 = .ok (.ireturn, 1) := by decide +kernel
theorem dX9_ruleOf_114 : decode cX9_ruleOf 114 = .ok (.iconst 3, 1) := by decide +kernel
theorem dX9_ruleOf_115 : decode cX9_ruleOf 115 = .ok (.ireturn, 1) := by decide +kernel
theorem dX9_ruleOf_116 : decode cX9_ruleOf 116 = .ok (.iconst 4, 1) := by decide +kernel
theorem dX9_ruleOf_117 : decode cX9_ruleOf 117 = .ok (.ireturn, 1) := by decide +kernel
theorem dX9_ruleOf_118 : decode cX9_ruleOf 118 = .ok (.iconst 5, 1) := by decide +kernel
theorem dX9_ruleOf_119 : decode cX9_ruleOf 119 = .ok (.ireturn, 1) := by decide +kernel
theorem dX9_ruleOf_120 : decode cX9_ruleOf 120 = .ok (.bipush 6, 2) := by decide +kernel
theorem dX9_ruleOf_122 : decode cX9_ruleOf 122 = .ok (.ireturn, 1) := by decide +kernel
theorem dX9_ruleOf_123 : decode cX9_ruleOf 123 = .ok (.bipush 7, 2) := by decide +kernel
theorem dX9_ruleOf_125 : decode cX9_ruleOf 125 = .ok (.ireturn, 1) := by decide +kernel
theorem dX9_ruleOf_126 : decode cX9_ruleOf 126 = .ok (.iconst (-1), 1) := by decide +kernel
theorem dX9_ruleOf_127 : decode cX9_ruleOf 127 = .ok (.ireturn, 1) := by decide +kernel
theorem dX9_itemOf_0 : decode cX9_itemOf 0 = .ok (.iload_n 0, 1) := by decide +kernel
theorem dX9_itemOf_1 : decode cX9_itemOf 1 = .ok (.bipush 115, 2) := by decide +kernel
theorem dX9_itemOf_3 : decode cX9_itemOf 3 = .ok (.if_icmp .ne 8, 3) := by decide +kernel
theorem dX9_itemOf_6 : decode cX9_itemOf 6 = .ok (.iload_n 1, 1) := by decide +kernel
theorem dX9_itemOf_7 : decode cX9_itemOf 7 = .ok (.invokestatic 100, 3) := by decide +kernel
theorem dX9_itemOf_10 : decode cX9_itemOf 10 = .ok (.ireturn, 1) := by decide +kernel
theorem dX9_itemOf_11 : decode cX9_itemOf 11 = .ok (.iload_n 0, 1) := by decide +kernel
theorem dX9_itemOf_12 : decode cX9_itemOf 12 = .ok (.bipush 116, 2) := by decide +kernel
theorem dX9_itemOf_14 : decode cX9_itemOf 14 = .ok (.if_icmp .ne 25, 3) := by decide +kernel
theorem dX9_itemOf_17 : decode cX9_itemOf 17 = .ok (.iload_n 1, 1) := by decide +kernel
theorem dX9_itemOf_18 : decode cX9_itemOf 18 = .ok (.bipush 107, 2) := by decide +kernel
theorem dX9_itemOf_20 : decode cX9_itemOf 20 = .ok (.if_icmp .ne 7, 3) := by decide +kernel
theorem dX9_itemOf_23 : decode cX9_itemOf 23 = .ok (.iconst 0, 1) := by decide +kernel
theorem dX9_itemOf_24 : decode cX9_itemOf 24 = .ok (.goto 14, 3) := by decide +kernel
theorem dX9_itemOf_27 : decode cX9_itemOf 27 = .ok (.iload_n 1, 1) := by decide +kernel
theorem dX9_itemOf_28 : decode cX9_itemOf 28 = .ok (.bipush 117, 2) := by decide +kernel
theorem dX9_itemOf_30 : decode cX9_itemOf 30 = .ok (.if_icmp .ne 7, 3) := by decide +kernel
theorem dX9_itemOf_33 : decode cX9_itemOf 33 = .ok (.iconst 1, 1) := by decide +kernel
theorem dX9_itemOf_34 : decode cX9_itemOf 34 = .ok (.goto 4, 3) := by decide +kernel
theorem dX9_itemOf_37 : decode cX9_itemOf 37 = .ok (.iconst (-1), 1) := by decide +kernel
theorem dX9_itemOf_38 : decode cX9_itemOf 38 = .ok (.ireturn, 1) := by decide +kernel
theorem dX9_itemOf_39 : decode cX9_itemOf 39 = .ok (.iload_n 1, 1) := by decide +kernel
theorem dX9_itemOf_40 : decode cX9_itemOf 40 = .ok (.bipush 116, 2) := by decide +kernel
theorem dX9_itemOf_42 : decode cX9_itemOf 42 = .ok (.if_icmp .ne 7, 3) := by decide +kernel
theorem dX9_itemOf_45 : decode cX9_itemOf 45 = .ok (.iconst 0, 1) := by decide +kernel
theorem dX9_itemOf_46 : decode cX9_itemOf 46 = .ok (.goto 14, 3) := by decide +kernel
theorem dX9_itemOf_49 : decode cX9_itemOf 49 = .ok (.iload_n 1, 1) := by decide +kernel
theorem dX9_itemOf_50 : decode cX9_itemOf 50 = .ok (.bipush 98, 2) := by decide +kernel
theorem dX9_itemOf_52 : decode cX9_itemOf 52 = .ok (.if_icmp .ne 7, 3) := by decide +kernel
theorem dX9_itemOf_55 : decode cX9_itemOf 55 = .ok (.iconst 1, 1) := by decide +kernel
theorem dX9_itemOf_56 : decode cX9_itemOf 56 = .ok (.goto 4, 3) := by decide +kernel
theorem dX9_itemOf_59 : decode cX9_itemOf 59 = .ok (.iconst (-1), 1) := by decide +kernel
theorem dX9_itemOf_60 : decode cX9_itemOf 60 = .ok (.ireturn, 1) := by decide +kernel
theorem dX9_lowest_0 : decode cX9_lowest 0 = .ok (.iload_n 0, 1) := by decide +kernel
theorem dX9_lowest_1 : decode cX9_lowest 1 = .ok (.bipush 115, 2) := by decide +kernel
theorem dX9_lowest_3 : decode cX9_lowest 3 = .ok (.if_icmp .ne 18, 3) := by decide +kernel
theorem dX9_lowest_6 : decode cX9_lowest 6 = .ok (.iload_n 1, 1) := by decide +kernel
theorem dX9_lowest_7 : decode cX9_lowest 7 = .ok (.ifCond .eq 8, 3) := by decide +kernel
theorem dX9_lowest_10 : decode cX9_lowest 10 = .ok (.iload_n 1, 1) := by decide +kernel
theorem dX9_lowest_11 : decode cX9_lowest 11 = .ok (.iconst 2, 1) := by decide +kernel
theorem dX9_lowest_12 : decode cX9_lowest 12 = .ok (.if_icmp .ne 7, 3) := by decide +kernel
theorem dX9_lowest_15 : decode cX9_lowest 15 = .ok (.iconst 4, 1) := by decide +kernel
theorem dX9_lowest_16 : decode cX9_lowest 16 = .ok (.goto 4, 3) := by decide +kernel
theorem dX9_lowest_19 : decode cX9_lowest 19 = .ok (.iconst 1, 1) := by decide +kernel
theorem dX9_lowest_20 : decode cX9_lowest 20 = .ok (.ireturn, 1) := by decide +kernel
theorem dX9_lowest_21 : decode cX9_lowest 21 = .ok (.iload_n 0, 1) := by decide +kernel
theorem dX9_lowest_22 : decode cX9_lowest 22 = .ok (.bipush 102, 2) := by decide +kernel
theorem dX9_lowest_24 : decode cX9_lowest 24 = .ok (.if_icmp .ne 7, 3) := by decide +kernel
theorem dX9_lowest_27 : decode cX9_lowest 27 = .ok (.iload_n 1, 1) := by decide +kernel
theorem dX9_lowest_28 : decode cX9_lowest 28 = .ok (.goto 4, 3) := by decide +kernel
theorem dX9_lowest_31 : decode cX9_lowest 31 = .ok (.iconst 0, 1) := by decide +kernel
theorem dX9_lowest_32 : decode cX9_lowest 32 = .ok (.ireturn, 1) := by decide +kernel
theorem dX9_highest_0 : decode cX9_highest 0 = .ok (.iload_n 0, 1) := by decide +kernel
theorem dX9_highest_1 : decode cX9_highest 1 = .ok (.bipush 115, 2) := by decide +kernel
theorem dX9_highest_3 : decode cX9_highest 3 = .ok (.if_icmp .ne 60, 3) := by decide +kernel
theorem dX9_highest_6 : decode cX9_highest 6 = .ok (.iload_n 1, 1) := by decide +kernel
theorem dX9_highest_7 : decode cX9_highest 7 = .ok (.tableswitch 53 0 5 #[37, 40, 42, 45, 48, 51], 37) := by decide +kernel
theorem dX9_highest_44 : decode cX9_highest 44 = .ok (.bipush 10, 2) := by decide +kernel
theorem dX9_highest_46 : decode cX9_highest 46 = .ok (.ireturn, 1) := by decide +kernel
theorem dX9_highest_47 : decode cX9_highest 47 = .ok (.iconst 3, 1) := by decide +kernel
theorem dX9_highest_48 : decode cX9_highest 48 = .ok (.ireturn, 1) := by decide +kernel
theorem dX9_highest_49 : decode cX9_highest 49 = .ok (.bipush 16, 2) := by decide +kernel
theorem dX9_highest_51 : decode cX9_highest 51 = .ok (.ireturn, 1) := by decide +kernel
theorem dX9_highest_52 : decode cX9_highest 52 = .ok (.bipush 6, 2) := by decide +kernel
theorem dX9_highest_54 : decode cX9_highest 54 = .ok (.ireturn, 1) := by decide +kernel
theorem dX9_highest_55 : decode cX9_highest 55 = .ok (.bipush 9, 2) := by decide +kernel
theorem dX9_highest_57 : decode cX9_highest 57 = .ok (.ireturn, 1) := by decide +kernel
theorem dX9_highest_58 : decode cX9_highest 58 = .ok (.iconst 5, 1) := by decide +kernel
theorem dX9_highest_59 : decode cX9_highest 59 = .ok (.ireturn, 1) := by decide +kernel
theorem dX9_highest_60 : decode cX9_highest 60 = .ok (.bipush 99, 2) := by decide +kernel
theorem dX9_highest_62 : decode cX9_highest 62 = .ok (.ireturn, 1) := by decide +kernel
theorem dX9_highest_63 : decode cX9_highest 63 = .ok (.iload_n 0, 1) := by decide +kernel
theorem dX9_highest_64 : decode cX9_highest 64 = .ok (.bipush 116, 2) := by decide +kernel
theorem dX9_highest_66 : decode cX9_highest 66 = .ok (.if_icmp .ne 8, 3) := by decide +kernel
theorem dX9_highest_69 : decode cX9_highest 69 = .ok (.bipush 99, 2) := by decide +kernel
theorem dX9_highest_71 : decode cX9_highest 71 = .ok (.goto 14, 3) := by decide +kernel
theorem dX9_highest_74 : decode cX9_highest 74 = .ok (.iload_n 1, 1) := by decide +kernel
theorem dX9_highest_75 : decode cX9_highest 75 = .ok (.ifCond .ne 8, 3) := by decide +kernel
theorem dX9_highest_78 : decode cX9_highest 78 = .ok (.bipush 7, 2) := by decide +kernel
theorem dX9_highest_80 : decode cX9_highest 80 = .ok (.goto 5, 3) := by decide +kernel
theorem dX9_highest_83 : decode cX9_highest 83 = .ok (.bipush 9, 2) := by decide +kernel
theorem dX9_highest_85 : decode cX9_highest 85 = .ok (.ireturn, 1) := by decide +kernel
theorem dX9_usual_0 : decode cX9_usual 0 = .ok (.iload_n 0, 1) := by decide +kernel
theorem dX9_usual_1 : decode cX9_usual 1 = .ok (.bipush 115, 2) := by decide +kernel
theorem dX9_usual_3 : decode cX9_usual 3 = .ok (.if_icmp .ne 64, 3) := by decide +kernel
theorem dX9_usual_6 : decode cX9_usual 6 = .ok (.iload_n 1, 1) := by decide +kernel
theorem dX9_usual_7 : decode cX9_usual 7 = .ok (.tableswitch 58 0 7 #[45, 58, 45, 48, 50, 58, 52, 55], 45) := by decide +kernel
theorem dX9_usual_52 : decode cX9_usual 52 = .ok (.bipush 8, 2) := by decide +kernel
theorem dX9_usual_54 : decode cX9_usual 54 = .ok (.ireturn, 1) := by decide +kernel
theorem dX9_usual_55 : decode cX9_usual 55 = .ok (.iconst 4, 1) := by decide +kernel
theorem dX9_usual_56 : decode cX9_usual 56 = .ok (.ireturn, 1) := by decide +kernel
theorem dX9_usual_57 : decode cX9_usual 57 = .ok (.iconst 3, 1) := by decide +kernel
theorem dX9_usual_58 : decode cX9_usual 58 = .ok (.ireturn, 1) := by decide +kernel
theorem dX9_usual_59 : decode cX9_usual 59 = .ok (.bipush 20, 2) := by decide +kernel
theorem dX9_usual_61 : decode cX9_usual 61 = .ok (.ireturn, 1) := by decide +kernel
theorem dX9_usual_62 : decode cX9_usual 62 = .ok (.bipush 30, 2) := by decide +kernel
theorem dX9_usual_64 : decode cX9_usual 64 = .ok (.ireturn, 1) := by decide +kernel
theorem dX9_usual_65 : decode cX9_usual 65 = .ok (.iconst 1, 1) := by decide +kernel
theorem dX9_usual_66 : decode cX9_usual 66 = .ok (.ireturn, 1) := by decide +kernel
theorem dX9_usual_67 : decode cX9_usual 67 = .ok (.iload_n 0, 1) := by decide +kernel
theorem dX9_usual_68 : decode cX9_usual 68 = .ok (.bipush 102, 2) := by decide +kernel
theorem dX9_usual_70 : decode cX9_usual 70 = .ok (.if_icmp .ne 7, 3) := by decide +kernel
theorem dX9_usual_73 : decode cX9_usual 73 = .ok (.iload_n 1, 1) := by decide +kernel
theorem dX9_usual_74 : decode cX9_usual 74 = .ok (.goto 4, 3) := by decide +kernel
theorem dX9_usual_77 : decode cX9_usual 77 = .ok (.iconst 0, 1) := by decide +kernel
theorem dX9_usual_78 : decode cX9_usual 78 = .ok (.ireturn, 1) := by decide +kernel
theorem dX9_items_0 : decode cX9_items 0 = .ok (.iconst 0, 1) := by decide +kernel
theorem dX9_items_1 : decode cX9_items 1 = .ok (.istore 5, 2) := by decide +kernel
theorem dX9_items_3 : decode cX9_items 3 = .ok (.iload 5, 2) := by decide +kernel
theorem dX9_items_5 : decode cX9_items 5 = .ok (.iload 4, 2) := by decide +kernel
theorem dX9_items_7 : decode cX9_items 7 = .ok (.if_icmp .ge 21, 3) := by decide +kernel
theorem dX9_items_10 : decode cX9_items 10 = .ok (.aload_n 2, 1) := by decide +kernel
theorem dX9_items_11 : decode cX9_items 11 = .ok (.iload_n 3, 1) := by decide +kernel
theorem dX9_items_12 : decode cX9_items 12 = .ok (.iload 5, 2) := by decide +kernel
theorem dX9_items_14 : decode cX9_items 14 = .ok (.iadd, 1) := by decide +kernel
theorem dX9_items_15 : decode cX9_items 15 = .ok (.iload_n 1, 1) := by decide +kernel
theorem dX9_items_16 : decode cX9_items 16 = .ok (.iload 5, 2) := by decide +kernel
theorem dX9_items_18 : decode cX9_items 18 = .ok (.invokestatic 104, 3) := by decide +kernel
theorem dX9_items_21 : decode cX9_items 21 = .ok (.iastore, 1) := by decide +kernel
theorem dX9_items_22 : decode cX9_items 22 = .ok (.iinc 5 1, 3) := by decide +kernel
theorem dX9_items_25 : decode cX9_items 25 = .ok (.goto (-22), 3) := by decide +kernel
theorem dX9_items_28 : decode cX9_items 28 = .ok (.iconst 0, 1) := by decide +kernel
theorem dX9_items_29 : decode cX9_items 29 = .ok (.istore 5, 2) := by decide +kernel
theorem dX9_items_31 : decode cX9_items 31 = .ok (.iload_n 1, 1) := by decide +kernel
theorem dX9_items_32 : decode cX9_items 32 = .ok (.aload_n 0, 1) := by decide +kernel
theorem dX9_items_33 : decode cX9_items 33 = .ok (.invokevirtual 90, 3) := by decide +kernel
theorem dX9_items_36 : decode cX9_items 36 = .ok (.invokestatic 108, 3) := by decide +kernel
theorem dX9_items_39 : decode cX9_items 39 = .ok (.istore 6, 2) := by decide +kernel
theorem dX9_items_41 : decode cX9_items 41 = .ok (.aload_n 0, 1) := by decide +kernel
theorem dX9_items_42 : decode cX9_items 42 = .ok (.getfield 87, 3) := by decide +kernel
theorem dX9_items_45 : decode cX9_items 45 = .ok (.iconst (-1), 1) := by decide +kernel
theorem dX9_items_46 : decode cX9_items 46 = .ok (.if_icmp .ne 85, 3) := by decide +kernel
theorem dX9_items_49 : decode cX9_items 49 = .ok (.iload 6, 2) := by decide +kernel
theorem dX9_items_51 : decode cX9_items 51 = .ok (.iconst (-1), 1) := by decide +kernel
theorem dX9_items_52 : decode cX9_items 52 = .ok (.if_icmp .eq 79, 3) := by decide +kernel
theorem dX9_items_55 : decode cX9_items 55 = .ok (.iload 5, 2) := by decide +kernel
theorem dX9_items_57 : decode cX9_items 57 = .ok (.iload 6, 2) := by decide +kernel
theorem dX9_items_59 : decode cX9_items 59 = .ok (.invokestatic 111, 3) := by decide +kernel
theorem dX9_items_62 : decode cX9_items 62 = .ok (.ifCond .ne 69, 3) := by decide +kernel
theorem dX9_items_65 : decode cX9_items 65 = .ok (.iload 5, 2) := by decide +kernel
theorem dX9_items_67 : decode cX9_items 67 = .ok (.iconst 1, 1) := by decide +kernel
theorem dX9_items_68 : decode cX9_items 68 = .ok (.iload 6, 2) := by decide +kernel
theorem dX9_items_70 : decode cX9_items 70 = .ok (.ishl, 1) := by decide +kernel
theorem dX9_items_71 : decode cX9_items 71 = .ok (.ior, 1) := by decide +kernel
theorem dX9_items_72 : decode cX9_items 72 = .ok (.istore 5, 2) := by decide +kernel
theorem dX9_items_74 : decode cX9_items 74 = .ok (.aload_n 0, 1) := by decide +kernel
theorem dX9_items_75 : decode cX9_items 75 = .ok (.dup, 1) := by decide +kernel
theorem dX9_items_76 : decode cX9_items 76 = .ok (.getfield 80, 3) := by decide +kernel
theorem dX9_items_79 : decode cX9_items 79 = .ok (.iconst 1, 1) := by decide +kernel
theorem dX9_items_80 : decode cX9_items 80 = .ok (.iadd, 1) := by decide +kernel
theorem dX9_items_81 : decode cX9_items 81 = .ok (.putfield 80, 3) := by decide +kernel
theorem dX9_items_84 : decode cX9_items 84 = .ok (.aload_n 2, 1) := by decide +kernel
theorem dX9_items_85 : decode cX9_items 85 = .ok (.iload_n 3, 1) := by decide +kernel
theorem dX9_items_86 : decode cX9_items 86 = .ok (.iload 6, 2) := by decide +kernel
theorem dX9_items_88 : decode cX9_items 88 = .ok (.iadd, 1) := by decide +kernel
theorem dX9_items_89 : decode cX9_items 89 = .ok (.aload_n 0, 1) := by decide +kernel
theorem dX9_items_90 : decode cX9_items 90 = .ok (.iload_n 1, 1) := by decide +kernel
theorem dX9_items_91 : decode cX9_items 91 = .ok (.iload 6, 2) := by decide +kernel
theorem dX9_items_93 : decode cX9_items 93 = .ok (.invokestatic 115, 3) := by decide +kernel
theorem dX9_items_96 : decode cX9_items 96 = .ok (.iload_n 1, 1) := by decide +kernel
theorem dX9_items_97 : decode cX9_items 97 = .ok (.iload 6, 2) := by decide +kernel
theorem dX9_items_99 : decode cX9_items 99 = .ok (.invokestatic 118, 3) := by decide +kernel
theorem dX9_items_102 : decode cX9_items 102 = .ok (.invokevirtual 121, 3) := by decide +kernel
theorem dX9_items_105 : decode cX9_items 105 = .ok (.iastore, 1) := by decide +kernel
theorem dX9_items_106 : decode cX9_items 106 = .ok (.aload_n 0, 1) := by decide +kernel
theorem dX9_items_107 : decode cX9_items 107 = .ok (.getfield 87, 3) := by decide +kernel
theorem dX9_items_110 : decode cX9_items 110 = .ok (.iconst (-1), 1) := by decide +kernel
theorem dX9_items_111 : decode cX9_items 111 = .ok (.if_icmp .ne 14, 3) := by decide +kernel
theorem dX9_items_114 : decode cX9_items 114 = .ok (.iload_n 1, 1) := by decide +kernel
theorem dX9_items_115 : decode cX9_items 115 = .ok (.aload_n 0, 1) := by decide +kernel
theorem dX9_items_116 : decode cX9_items 116 = .ok (.invokevirtual 90, 3) := by decide +kernel
theorem dX9_items_119 : decode cX9_items 119 = .ok (.invokestatic 108, 3) := by decide +kernel
theorem dX9_items_122 : decode cX9_items 122 = .ok (.goto 4, 3) := by decide +kernel
theorem dX9_items_125 : decode cX9_items 125 = .ok (.iconst (-1), 1) := by decide +kernel
theorem dX9_items_126 : decode cX9_items 126 = .ok (.istore 6, 2) := by decide +kernel
theorem dX9_items_128 : decode cX9_items 128 = .ok (.goto (-87), 3) := by decide +kernel
theorem dX9_items_131 : decode cX9_items 131 = .ok (.return_, 1) := by decide +kernel
theorem dX9_readHall_0 : decode cX9_readHall 0 = .ok (.aload_n 0, 1) := by decide +kernel
theorem dX9_readHall_1 : decode cX9_readHall 1 = .ok (.iconst 0, 1) := by decide +kernel
theorem dX9_readHall_2 : decode cX9_readHall 2 = .ok (.putfield 80, 3) := by decide +kernel
theorem dX9_readHall_5 : decode cX9_readHall 5 = .ok (.aload_n 0, 1) := by decide +kernel
theorem dX9_readHall_6 : decode cX9_readHall 6 = .ok (.iconst (-1), 1) := by decide +kernel
theorem dX9_readHall_7 : decode cX9_readHall 7 = .ok (.putfield 87, 3) := by decide +kernel
theorem dX9_readHall_10 : decode cX9_readHall 10 = .ok (.aload_n 0, 1) := by decide +kernel
theorem dX9_readHall_11 : decode cX9_readHall 11 = .ok (.iconst 0, 1) := by decide +kernel
theorem dX9_readHall_12 : decode cX9_readHall 12 = .ok (.putfield 124, 3) := by decide +kernel
theorem dX9_readHall_15 : decode cX9_readHall 15 = .ok (.aload_n 0, 1) := by decide +kernel
theorem dX9_readHall_16 : decode cX9_readHall 16 = .ok (.iconst 0, 1) := by decide +kernel
theorem dX9_readHall_17 : decode cX9_readHall 17 = .ok (.putfield 127, 3) := by decide +kernel
theorem dX9_readHall_20 : decode cX9_readHall 20 = .ok (.iconst 0, 1) := by decide +kernel
theorem dX9_readHall_21 : decode cX9_readHall 21 = .ok (.istore_n 1, 1) := by decide +kernel
theorem dX9_readHall_22 : decode cX9_readHall 22 = .ok (.iconst 0, 1) := by decide +kernel
theorem dX9_readHall_23 : decode cX9_readHall 23 = .ok (.istore_n 2, 1) := by decide +kernel
theorem dX9_readHall_24 : decode cX9_readHall 24 = .ok (.iload_n 2, 1) := by decide +kernel
theorem dX9_readHall_25 : decode cX9_readHall 25 = .ok (.bipush 8, 2) := by decide +kernel
theorem dX9_readHall_27 : decode cX9_readHall 27 = .ok (.if_icmp .ge 21, 3) := by decide +kernel
theorem dX9_readHall_30 : decode cX9_readHall 30 = .ok (.aload_n 0, 1) := by decide +kernel
theorem dX9_readHall_31 : decode cX9_readHall 31 = .ok (.getfield 13, 3) := by decide +kernel
theorem dX9_readHall_34 : decode cX9_readHall 34 = .ok (.iload_n 2, 1) := by decide +kernel
theorem dX9_readHall_35 : decode cX9_readHall 35 = .ok (.bipush 115, 2) := by decide +kernel
theorem dX9_readHall_37 : decode cX9_readHall 37 = .ok (.iload_n 2, 1) := by decide +kernel
theorem dX9_readHall_38 : decode cX9_readHall 38 = .ok (.invokestatic 104, 3) := by decide +kernel
theorem dX9_readHall_41 : decode cX9_readHall 41 = .ok (.iastore, 1) := by decide +kernel
theorem dX9_readHall_42 : decode cX9_readHall 42 = .ok (.iinc 2 1, 3) := by decide +kernel
theorem dX9_readHall_45 : decode cX9_readHall 45 = .ok (.goto (-21), 3) := by decide +kernel
theorem dX9_readHall_48 : decode cX9_readHall 48 = .ok (.iconst 1, 1) := by decide +kernel
theorem dX9_readHall_49 : decode cX9_readHall 49 = .ok (.istore_n 2, 1) := by decide +kernel
theorem dX9_readHall_50 : decode cX9_readHall 50 = .ok (.iload_n 2, 1) := by decide +kernel
theorem dX9_readHall_51 : decode cX9_readHall 51 = .ok (.ifCond .eq 209, 3) := by decide +kernel
theorem dX9_readHall_54 : decode cX9_readHall 54 = .ok (.aload_n 0, 1) := by decide +kernel
theorem dX9_readHall_55 : decode cX9_readHall 55 = .ok (.getfield 87, 3) := by decide +kernel
theorem dX9_readHall_58 : decode cX9_readHall 58 = .ok (.iconst (-1), 1) := by decide +kernel
theorem dX9_readHall_59 : decode cX9_readHall 59 = .ok (.if_icmp .ne 201, 3) := by decide +kernel
theorem dX9_readHall_62 : decode cX9_readHall 62 = .ok (.aload_n 0, 1) := by decide +kernel
theorem dX9_readHall_63 : decode cX9_readHall 63 = .ok (.invokevirtual 90, 3) := by decide +kernel
theorem dX9_readHall_66 : decode cX9_readHall 66 = .ok (.istore_n 3, 1) := by decide +kernel
theorem dX9_readHall_67 : decode cX9_readHall 67 = .ok (.iload_n 3, 1) := by decide +kernel
theorem dX9_readHall_68 : decode cX9_readHall 68 = .ok (.bipush 115, 2) := by decide +kernel
theorem dX9_readHall_70 : decode cX9_readHall 70 = .ok (.if_icmp .ne 34, 3) := by decide +kernel
