theorem dX9_rule_31 : decode cX9_rule 31 = .ok (.goto 9, 3) := by decide +kernel
theorem dX9_rule_34 : decode cX9_rule 34 = .ok (.aload_n 0, 1) := by decide +kernel
theorem dX9_rule_35 : decode cX9_rule 35 = .ok (.getfield 22, 3) := by decide +kernel
theorem dX9_rule_38 : decode cX9_rule 38 = .ok (.iload_n 1, 1) := by decide +kernel
theorem dX9_rule_39 : decode cX9_rule 39 = .ok (.iaload, 1) := by decide +kernel
theorem dX9_rule_40 : decode cX9_rule 40 = .ok (.ireturn, 1) := by decide +kernel
theorem dX9_deadOf_0 : decode cX9_deadOf 0 = .ok (.aload_n 0, 1) := by decide +kernel
theorem dX9_deadOf_1 : decode cX9_deadOf 1 = .ok (.getfield 34, 3) := by decide +kernel
theorem dX9_deadOf_4 : decode cX9_deadOf 4 = .ok (.bipush 16, 2) := by decide +kernel
theorem dX9_deadOf_6 : decode cX9_deadOf 6 = .ok (.iload_n 1, 1) := by decide +kernel
theorem dX9_deadOf_7 : decode cX9_deadOf 7 = .ok (.iadd, 1) := by decide +kernel
theorem dX9_deadOf_8 : decode cX9_deadOf 8 = .ok (.iaload, 1) := by decide +kernel
theorem dX9_deadOf_9 : decode cX9_deadOf 9 = .ok (.aload_n 0, 1) := by decide +kernel
theorem dX9_deadOf_10 : decode cX9_deadOf 10 = .ok (.iload_n 1, 1) := by decide +kernel
theorem dX9_deadOf_11 : decode cX9_deadOf 11 = .ok (.invokevirtual 364, 3) := by decide +kernel
theorem dX9_deadOf_14 : decode cX9_deadOf 14 = .ok (.isub, 1) := by decide +kernel
theorem dX9_deadOf_15 : decode cX9_deadOf 15 = .ok (.ireturn, 1) := by decide +kernel
theorem dX9_tape_0 : decode cX9_tape 0 = .ok (.aload_n 0, 1) := by decide +kernel
theorem dX9_tape_1 : decode cX9_tape 1 = .ok (.aload_n 0, 1) := by decide +kernel
theorem dX9_tape_2 : decode cX9_tape 2 = .ok (.iload_n 1, 1) := by decide +kernel
theorem dX9_tape_3 : decode cX9_tape 3 = .ok (.invokevirtual 169, 3) := by decide +kernel
theorem dX9_tape_6 : decode cX9_tape 6 = .ok (.ifCond .eq 17, 3) := by decide +kernel
theorem dX9_tape_9 : decode cX9_tape 9 = .ok (.iload_n 2, 1) := by decide +kernel
theorem dX9_tape_10 : decode cX9_tape 10 = .ok (.iconst 0, 1) := by decide +kernel
theorem dX9_tape_11 : decode cX9_tape 11 = .ok (.bipush 10, 2) := by decide +kernel
theorem dX9_tape_13 : decode cX9_tape 13 = .ok (.invokestatic 76, 3) := by decide +kernel
theorem dX9_tape_16 : decode cX9_tape 16 = .ok (.ifCond .eq 7, 3) := by decide +kernel
theorem dX9_tape_19 : decode cX9_tape 19 = .ok (.iconst 0, 1) := by decide +kernel
theorem dX9_tape_20 : decode cX9_tape 20 = .ok (.goto 4, 3) := by decide +kernel
theorem dX9_tape_23 : decode cX9_tape 23 = .ok (.iconst 1, 1) := by decide +kernel
theorem dX9_tape_24 : decode cX9_tape 24 = .ok (.putfield 65, 3) := by decide +kernel
theorem dX9_tape_27 : decode cX9_tape 27 = .ok (.aload_n 0, 1) := by decide +kernel
theorem dX9_tape_28 : decode cX9_tape 28 = .ok (.getfield 65, 3) := by decide +kernel
theorem dX9_tape_31 : decode cX9_tape 31 = .ok (.iconst 1, 1) := by decide +kernel
theorem dX9_tape_32 : decode cX9_tape 32 = .ok (.if_icmp .ne 5, 3) := by decide +kernel
theorem dX9_tape_35 : decode cX9_tape 35 = .ok (.iconst 0, 1) := by decide +kernel
theorem dX9_tape_36 : decode cX9_tape 36 = .ok (.ireturn, 1) := by decide +kernel
theorem dX9_tape_37 : decode cX9_tape 37 = .ok (.iload_n 2, 1) := by decide +kernel
theorem dX9_tape_38 : decode cX9_tape 38 = .ok (.tableswitch 120 0 10 #[58, 120, 120, 120, 120, 120, 65, 71, 77, 83, 89], 58) := by decide +kernel
theorem dX9_tape_96 : decode cX9_tape 96 = .ok (.aload_n 0, 1) := by decide +kernel
theorem dX9_tape_97 : decode cX9_tape 97 = .ok (.getfield 25, 3) := by decide +kernel
theorem dX9_tape_100 : decode cX9_tape 100 = .ok (.iload_n 1, 1) := by decide +kernel
theorem dX9_tape_101 : decode cX9_tape 101 = .ok (.iaload, 1) := by decide +kernel
theorem dX9_tape_102 : decode cX9_tape 102 = .ok (.ireturn, 1) := by decide +kernel
theorem dX9_tape_103 : decode cX9_tape 103 = .ok (.aload_n 0, 1) := by decide +kernel
theorem dX9_tape_104 : decode cX9_tape 104 = .ok (.iload_n 1, 1) := by decide +kernel
theorem dX9_tape_105 : decode cX9_tape 105 = .ok (.invokevirtual 262, 3) := by decide +kernel
theorem dX9_tape_108 : decode cX9_tape 108 = .ok (.ireturn, 1) := by decide +kernel
theorem dX9_tape_109 : decode cX9_tape 109 = .ok (.aload_n 0, 1) := by decide +kernel
theorem dX9_tape_110 : decode cX9_tape 110 = .ok (.iload_n 1, 1) := by decide +kernel
theorem dX9_tape_111 : decode cX9_tape 111 = .ok (.invokevirtual 364, 3) := by decide +kernel
theorem dX9_tape_114 : decode cX9_tape 114 = .ok (.ireturn, 1) := by decide +kernel
theorem dX9_tape_115 : decode cX9_tape 115 = .ok (.aload_n 0, 1) := by decide +kernel
theorem dX9_tape_116 : decode cX9_tape 116 = .ok (.iload_n 1, 1) := by decide +kernel
theorem dX9_tape_117 : decode cX9_tape 117 = .ok (.invokevirtual 367, 3) := by decide +kernel
theorem dX9_tape_120 : decode cX9_tape 120 = .ok (.ireturn, 1) := by decide +kernel
theorem dX9_tape_121 : decode cX9_tape 121 = .ok (.aload_n 0, 1) := by decide +kernel
theorem dX9_tape_122 : decode cX9_tape 122 = .ok (.iload_n 1, 1) := by decide +kernel
theorem dX9_tape_123 : decode cX9_tape 123 = .ok (.invokevirtual 166, 3) := by decide +kernel
theorem dX9_tape_126 : decode cX9_tape 126 = .ok (.ireturn, 1) := by decide +kernel
theorem dX9_tape_127 : decode cX9_tape 127 = .ok (.aload_n 0, 1) := by decide +kernel
theorem dX9_tape_128 : decode cX9_tape 128 = .ok (.iload_n 1, 1) := by decide +kernel
theorem dX9_tape_129 : decode cX9_tape 129 = .ok (.invokevirtual 209, 3) := by decide +kernel
theorem dX9_tape_132 : decode cX9_tape 132 = .ok (.ifCond .eq 24, 3) := by decide +kernel
theorem dX9_tape_135 : decode cX9_tape 135 = .ok (.aload_n 0, 1) := by decide +kernel
theorem dX9_tape_136 : decode cX9_tape 136 = .ok (.getfield 34, 3) := by decide +kernel
theorem dX9_tape_139 : decode cX9_tape 139 = .ok (.sipush 170, 3) := by decide +kernel
theorem dX9_tape_142 : decode cX9_tape 142 = .ok (.iaload, 1) := by decide +kernel
theorem dX9_tape_143 : decode cX9_tape 143 = .ok (.aload_n 0, 1) := by decide +kernel
theorem dX9_tape_144 : decode cX9_tape 144 = .ok (.getfield 34, 3) := by decide +kernel
theorem dX9_tape_147 : decode cX9_tape 147 = .ok (.bipush 40, 2) := by decide +kernel
theorem dX9_tape_149 : decode cX9_tape 149 = .ok (.iload_n 1, 1) := by decide +kernel
theorem dX9_tape_150 : decode cX9_tape 150 = .ok (.iadd, 1) := by decide +kernel
theorem dX9_tape_151 : decode cX9_tape 151 = .ok (.iaload, 1) := by decide +kernel
theorem dX9_tape_152 : decode cX9_tape 152 = .ok (.isub, 1) := by decide +kernel
theorem dX9_tape_153 : decode cX9_tape 153 = .ok (.goto 4, 3) := by decide +kernel
theorem dX9_tape_156 : decode cX9_tape 156 = .ok (.iconst (-1), 1) := by decide +kernel
theorem dX9_tape_157 : decode cX9_tape 157 = .ok (.ireturn, 1) := by decide +kernel
theorem dX9_tape_158 : decode cX9_tape 158 = .ok (.aload_n 0, 1) := by decide +kernel
theorem dX9_tape_159 : decode cX9_tape 159 = .ok (.getfield 34, 3) := by decide +kernel
theorem dX9_tape_162 : decode cX9_tape 162 = .ok (.bipush 8, 2) := by decide +kernel
theorem dX9_tape_164 : decode cX9_tape 164 = .ok (.iload_n 2, 1) := by decide +kernel
theorem dX9_tape_165 : decode cX9_tape 165 = .ok (.iconst 1, 1) := by decide +kernel
theorem dX9_tape_166 : decode cX9_tape 166 = .ok (.isub, 1) := by decide +kernel
theorem dX9_tape_167 : decode cX9_tape 167 = .ok (.imul, 1) := by decide +kernel
theorem dX9_tape_168 : decode cX9_tape 168 = .ok (.iload_n 1, 1) := by decide +kernel
theorem dX9_tape_169 : decode cX9_tape 169 = .ok (.iadd, 1) := by decide +kernel
theorem dX9_tape_170 : decode cX9_tape 170 = .ok (.iaload, 1) := by decide +kernel
theorem dX9_tape_171 : decode cX9_tape 171 = .ok (.ireturn, 1) := by decide +kernel
theorem dX9_file_0 : decode cX9_file 0 = .ok (.aload_n 0, 1) := by decide +kernel
theorem dX9_file_1 : decode cX9_file 1 = .ok (.iload_n 1, 1) := by decide +kernel
theorem dX9_file_2 : decode cX9_file 2 = .ok (.invokevirtual 160, 3) := by decide +kernel
theorem dX9_file_5 : decode cX9_file 5 = .ok (.ifCond .eq 12, 3) := by decide +kernel
theorem dX9_file_8 : decode cX9_file 8 = .ok (.iload_n 2, 1) := by decide +kernel
theorem dX9_file_9 : decode cX9_file 9 = .ok (.iconst 0, 1) := by decide +kernel
theorem dX9_file_10 : decode cX9_file 10 = .ok (.iconst 4, 1) := by decide +kernel
theorem dX9_file_11 : decode cX9_file 11 = .ok (.invokestatic 76, 3) := by decide +kernel
theorem dX9_file_14 : decode cX9_file 14 = .ok (.ifCond .ne 7, 3) := by decide +kernel
theorem dX9_file_17 : decode cX9_file 17 = .ok (.ldc_w 363, 3) := by decide +kernel
theorem dX9_file_20 : decode cX9_file 20 = .ok (.ireturn, 1) := by decide +kernel
theorem dX9_file_21 : decode cX9_file 21 = .ok (.aload_n 0, 1) := by decide +kernel
theorem dX9_file_22 : decode cX9_file 22 = .ok (.getfield 34, 3) := by decide +kernel
theorem dX9_file_25 : decode cX9_file 25 = .ok (.bipush 48, 2) := by decide +kernel
theorem dX9_file_27 : decode cX9_file 27 = .ok (.iload_n 1, 1) := by decide +kernel
theorem dX9_file_28 : decode cX9_file 28 = .ok (.iadd, 1) := by decide +kernel
theorem dX9_file_29 : decode cX9_file 29 = .ok (.iaload, 1) := by decide +kernel
theorem dX9_file_30 : decode cX9_file 30 = .ok (.iconst (-1), 1) := by decide +kernel
theorem dX9_file_31 : decode cX9_file 31 = .ok (.if_icmp .ne 19, 3) := by decide +kernel
theorem dX9_file_34 : decode cX9_file 34 = .ok (.iload_n 2, 1) := by decide +kernel
theorem dX9_file_35 : decode cX9_file 35 = .ok (.iconst 1, 1) := by decide +kernel
theorem dX9_file_36 : decode cX9_file 36 = .ok (.if_icmp .eq 8, 3) := by decide +kernel
theorem dX9_file_39 : decode cX9_file 39 = .ok (.iload_n 2, 1) := by decide +kernel
theorem dX9_file_40 : decode cX9_file 40 = .ok (.iconst 2, 1) := by decide +kernel
theorem dX9_file_41 : decode cX9_file 41 = .ok (.if_icmp .ne 9, 3) := by decide +kernel
theorem dX9_file_44 : decode cX9_file 44 = .ok (.ldc_w 363, 3) := by decide +kernel
theorem dX9_file_47 : decode cX9_file 47 = .ok (.goto 17, 3) := by decide +kernel
theorem dX9_file_50 : decode cX9_file 50 = .ok (.aload_n 0, 1) := by decide +kernel
theorem dX9_file_51 : decode cX9_file 51 = .ok (.getfield 34, 3) := by decide +kernel
theorem dX9_file_54 : decode cX9_file 54 = .ok (.bipush 48, 2) := by decide +kernel
theorem dX9_file_56 : decode cX9_file 56 = .ok (.bipush 24, 2) := by decide +kernel
theorem dX9_file_58 : decode cX9_file 58 = .ok (.iload_n 2, 1) := by decide +kernel
theorem dX9_file_59 : decode cX9_file 59 = .ok (.imul, 1) := by decide +kernel
theorem dX9_file_60 : decode cX9_file 60 = .ok (.iadd, 1) := by decide +kernel
theorem dX9_file_61 : decode cX9_file 61 = .ok (.iload_n 1, 1) := by decide +kernel
theorem dX9_file_62 : decode cX9_file 62 = .ok (.iadd, 1) := by decide +kernel
theorem dX9_file_63 : decode cX9_file 63 = .ok (.iaload, 1) := by decide +kernel
theorem dX9_file_64 : decode cX9_file 64 = .ok (.ireturn, 1) := by decide +kernel
theorem dX9_drive_0 : decode cX9_drive 0 = .ok (.aload_n 0, 1) := by decide +kernel
theorem dX9_drive_1 : decode cX9_drive 1 = .ok (.invokevirtual 156, 3) := by decide +kernel
theorem dX9_drive_4 : decode cX9_drive 4 = .ok (.ifCond .eq 27, 3) := by decide +kernel
theorem dX9_drive_7 : decode cX9_drive 7 = .ok (.iload_n 1, 1) := by decide +kernel
theorem dX9_drive_8 : decode cX9_drive 8 = .ok (.iconst 0, 1) := by decide +kernel
theorem dX9_drive_9 : decode cX9_drive 9 = .ok (.aload_n 0, 1) := by decide +kernel
theorem dX9_drive_10 : decode cX9_drive 10 = .ok (.getfield 22, 3) := by decide +kernel
theorem dX9_drive_13 : decode cX9_drive 13 = .ok (.iconst 1, 1) := by decide +kernel
theorem dX9_drive_14 : decode cX9_drive 14 = .ok (.iaload, 1) := by decide +kernel
theorem dX9_drive_15 : decode cX9_drive 15 = .ok (.iconst 1, 1) := by decide +kernel
theorem dX9_drive_16 : decode cX9_drive 16 = .ok (.isub, 1) := by decide +kernel
theorem dX9_drive_17 : decode cX9_drive 17 = .ok (.invokestatic 76, 3) := by decide +kernel
theorem dX9_drive_20 : decode cX9_drive 20 = .ok (.ifCond .eq 11, 3) := by decide +kernel
theorem dX9_drive_23 : decode cX9_drive 23 = .ok (.aload_n 0, 1) := by decide +kernel
theorem dX9_drive_24 : decode cX9_drive 24 = .ok (.iload_n 1, 1) := by decide +kernel
theorem dX9_drive_25 : decode cX9_drive 25 = .ok (.invokevirtual 206, 3) := by decide +kernel
theorem dX9_drive_28 : decode cX9_drive 28 = .ok (.goto 4, 3) := by decide +kernel
theorem dX9_drive_31 : decode cX9_drive 31 = .ok (.iconst (-1), 1) := by decide +kernel
theorem dX9_drive_32 : decode cX9_drive 32 = .ok (.ireturn, 1) := by decide +kernel
theorem dX9_labelled_0 : decode cX9_labelled 0 = .ok (.iconst 0, 1) := by decide +kernel
theorem dX9_labelled_1 : decode cX9_labelled 1 = .ok (.istore_n 2, 1) := by decide +kernel
theorem dX9_labelled_2 : decode cX9_labelled 2 = .ok (.iload_n 2, 1) := by decide +kernel
theorem dX9_labelled_3 : decode cX9_labelled 3 = .ok (.aload_n 0, 1) := by decide +kernel
theorem dX9_labelled_4 : decode cX9_labelled 4 = .ok (.getfield 153, 3) := by decide +kernel
theorem dX9_labelled_7 : decode cX9_labelled 7 = .ok (.if_icmp .ge 21, 3) := by decide +kernel
theorem dX9_labelled_10 : decode cX9_labelled 10 = .ok (.aload_n 0, 1) := by decide +kernel
theorem dX9_labelled_11 : decode cX9_labelled 11 = .ok (.getfield 25, 3) := by decide +kernel
theorem dX9_labelled_14 : decode cX9_labelled 14 = .ok (.iload_n 2, 1) := by decide +kernel
theorem dX9_labelled_15 : decode cX9_labelled 15 = .ok (.iaload, 1) := by decide +kernel
theorem dX9_labelled_16 : decode cX9_labelled 16 = .ok (.iload_n 1, 1) := by decide +kernel
theorem dX9_labelled_17 : decode cX9_labelled 17 = .ok (.if_icmp .ne 5, 3) := by decide +kernel
theorem dX9_labelled_20 : decode cX9_labelled 20 = .ok (.iload_n 2, 1) := by decide +kernel
theorem dX9_labelled_21 : decode cX9_labelled 21 = .ok (.ireturn, 1) := by decide +kernel
theorem dX9_labelled_22 : decode cX9_labelled 22 = .ok (.iinc 2 1, 3) := by decide +kernel
theorem dX9_labelled_25 : decode cX9_labelled 25 = .ok (.goto (-23), 3) := by decide +kernel
theorem dX9_labelled_28 : decode cX9_labelled 28 = .ok (.iconst (-1), 1) := by decide +kernel
theorem dX9_labelled_29 : decode cX9_labelled 29 = .ok (.ireturn, 1) := by decide +kernel
theorem dX9_isPlace_0 : decode cX9_isPlace 0 = .ok (.aload_n 0, 1) := by decide +kernel
theorem dX9_isPlace_1 : decode cX9_isPlace 1 = .ok (.invokevirtual 156, 3) := by decide +kernel
theorem dX9_isPlace_4 : decode cX9_isPlace 4 = .ok (.ifCond .eq 30, 3) := by decide +kernel
theorem dX9_isPlace_7 : decode cX9_isPlace 7 = .ok (.iload_n 1, 1) := by decide +kernel
theorem dX9_isPlace_8 : decode cX9_isPlace 8 = .ok (.iconst 0, 1) := by decide +kernel
theorem dX9_isPlace_9 : decode cX9_isPlace 9 = .ok (.aload_n 0, 1) := by decide +kernel
theorem dX9_isPlace_10 : decode cX9_isPlace 10 = .ok (.getfield 22, 3) := by decide +kernel
theorem dX9_isPlace_13 : decode cX9_isPlace 13 = .ok (.iconst 0, 1) := by decide +kernel
theorem dX9_isPlace_14 : decode cX9_isPlace 14 = .ok (.iaload, 1) := by decide +kernel
theorem dX9_isPlace_15 : decode cX9_isPlace 15 = .ok (.aload_n 0, 1) := by decide +kernel
theorem dX9_isPlace_16 : decode cX9_isPlace 16 = .ok (.getfield 22, 3) := by decide +kernel
theorem dX9_isPlace_19 : decode cX9_isPlace 19 = .ok (.iconst 1, 1) := by decide +kernel
theorem dX9_isPlace_20 : decode cX9_isPlace 20 = .ok (.iaload, 1) := by decide +kernel
theorem dX9_isPlace_21 : decode cX9_isPlace 21 = .ok (.iadd, 1) := by decide +kernel
theorem dX9_isPlace_22 : decode cX9_isPlace 22 = .ok (.iconst 1, 1) := by decide +kernel
theorem dX9_isPlace_23 : decode cX9_isPlace 23 = .ok (.isub, 1) := by decide +kernel
theorem dX9_isPlace_24 : decode cX9_isPlace 24 = .ok (.invokestatic 76, 3) := by decide +kernel
theorem dX9_isPlace_27 : decode cX9_isPlace 27 = .ok (.ifCond .eq 7, 3) := by decide +kernel
theorem dX9_isPlace_30 : decode cX9_isPlace 30 = .ok (.iconst 1, 1) := by decide +kernel
theorem dX9_isPlace_31 : decode cX9_isPlace 31 = .ok (.goto 4, 3) := by decide +kernel
theorem dX9_isPlace_34 : decode cX9_isPlace 34 = .ok (.iconst 0, 1) := by decide +kernel
theorem dX9_isPlace_35 : decode cX9_isPlace 35 = .ok (.ireturn, 1) := by decide +kernel
theorem dX9_way_0 : decode cX9_way 0 = .ok (.aload_n 0, 1) := by decide +kernel
theorem dX9_way_1 : decode cX9_way 1 = .ok (.iload_n 1, 1) := by decide +kernel
theorem dX9_way_2 : decode cX9_way 2 = .ok (.invokevirtual 370, 3) := by decide +kernel
theorem dX9_way_5 : decode cX9_way 5 = .ok (.ifCond .eq 26, 3) := by decide +kernel
theorem dX9_way_8 : decode cX9_way 8 = .ok (.aload_n 0, 1) := by decide +kernel
theorem dX9_way_9 : decode cX9_way 9 = .ok (.iload_n 2, 1) := by decide +kernel
theorem dX9_way_10 : decode cX9_way 10 = .ok (.invokevirtual 370, 3) := by decide +kernel
theorem dX9_way_13 : decode cX9_way 13 = .ok (.ifCond .eq 18, 3) := by decide +kernel
theorem dX9_way_16 : decode cX9_way 16 = .ok (.aload_n 0, 1) := by decide +kernel
theorem dX9_way_17 : decode cX9_way 17 = .ok (.getfield 22, 3) := by decide +kernel
theorem dX9_way_20 : decode cX9_way 20 = .ok (.iconst 5, 1) := by decide +kernel
theorem dX9_way_21 : decode cX9_way 21 = .ok (.iaload, 1) := by decide +kernel
theorem dX9_way_22 : decode cX9_way 22 = .ok (.iload_n 1, 1) := by decide +kernel
theorem dX9_way_23 : decode cX9_way 23 = .ok (.iload_n 2, 1) := by decide +kernel
theorem dX9_way_24 : decode cX9_way 24 = .ok (.invokestatic 197, 3) := by decide +kernel
theorem dX9_way_27 : decode cX9_way 27 = .ok (.imul, 1) := by decide +kernel
theorem dX9_way_28 : decode cX9_way 28 = .ok (.goto 4, 3) := by decide +kernel
theorem dX9_way_31 : decode cX9_way 31 = .ok (.iconst (-1), 1) := by decide +kernel
theorem dX9_way_32 : decode cX9_way 32 = .ok (.ireturn, 1) := by decide +kernel
theorem dX9_isBlock_0 : decode cX9_isBlock 0 = .ok (.aload_n 0, 1) := by decide +kernel
theorem dX9_isBlock_1 : decode cX9_isBlock 1 = .ok (.invokevirtual 156, 3) := by decide +kernel
theorem dX9_isBlock_4 : decode cX9_isBlock 4 = .ok (.ifCond .eq 21, 3) := by decide +kernel
theorem dX9_isBlock_7 : decode cX9_isBlock 7 = .ok (.iload_n 1, 1) := by decide +kernel
theorem dX9_isBlock_8 : decode cX9_isBlock 8 = .ok (.iconst 0, 1) := by decide +kernel
theorem dX9_isBlock_9 : decode cX9_isBlock 9 = .ok (.aload_n 0, 1) := by decide +kernel
theorem dX9_isBlock_10 : decode cX9_isBlock 10 = .ok (.invokevirtual 172, 3) := by decide +kernel
theorem dX9_isBlock_13 : decode cX9_isBlock 13 = .ok (.iconst 1, 1) := by decide +kernel
theorem dX9_isBlock_14 : decode cX9_isBlock 14 = .ok (.isub, 1) := by decide +kernel
theorem dX9_isBlock_15 : decode cX9_isBlock 15 = .ok (.invokestatic 76, 3) := by decide +kernel
theorem dX9_isBlock_18 : decode cX9_isBlock 18 = .ok (.ifCond .eq 7, 3) := by decide +kernel
theorem dX9_isBlock_21 : decode cX9_isBlock 21 = .ok (.iconst 1, 1) := by decide +kernel
theorem dX9_isBlock_22 : decode cX9_isBlock 22 = .ok (.goto 4, 3) := by decide +kernel
theorem dX9_isBlock_25 : decode cX9_isBlock 25 = .ok (.iconst 0, 1) := by decide +kernel
theorem dX9_isBlock_26 : decode cX9_isBlock 26 = .ok (.ireturn, 1) := by decide +kernel
theorem dX9_seek_0 : decode cX9_seek 0 = .ok (.aload_n 0, 1) := by decide +kernel
theorem dX9_seek_1 : decode cX9_seek 1 = .ok (.iload_n 1, 1) := by decide +kernel
theorem dX9_seek_2 : decode cX9_seek 2 = .ok (.invokevirtual 373, 3) := by decide +kernel
theorem dX9_seek_5 : decode cX9_seek 5 = .ok (.ifCond .eq 20, 3) := by decide +kernel
theorem dX9_seek_8 : decode cX9_seek 8 = .ok (.aload_n 0, 1) := by decide +kernel
theorem dX9_seek_9 : decode cX9_seek 9 = .ok (.iload_n 2, 1) := by decide +kernel
theorem dX9_seek_10 : decode cX9_seek 10 = .ok (.invokevirtual 373, 3) := by decide +kernel
theorem dX9_seek_13 : decode cX9_seek 13 = .ok (.ifCond .eq 12, 3) := by decide +kernel
theorem dX9_seek_16 : decode cX9_seek 16 = .ok (.aload_n 0, 1) := by decide +kernel
theorem dX9_seek_17 : decode cX9_seek 17 = .ok (.iload_n 1, 1) := by decide +kernel
theorem dX9_seek_18 : decode cX9_seek 18 = .ok (.iload_n 2, 1) := by decide +kernel
theorem dX9_seek_19 : decode cX9_seek 19 = .ok (.invokevirtual 200, 3) := by decide +kernel
theorem dX9_seek_22 : decode cX9_seek 22 = .ok (.goto 4, 3) := by decide +kernel
theorem dX9_seek_25 : decode cX9_seek 25 = .ok (.iconst (-1), 1) := by decide +kernel
theorem dX9_seek_26 : decode cX9_seek 26 = .ok (.ireturn, 1) := by decide +kernel
theorem dX9_path_0 : decode cX9_path 0 = .ok (.aload_n 0, 1) := by decide +kernel
theorem dX9_path_1 : decode cX9_path 1 = .ok (.iload_n 1, 1) := by decide +kernel
theorem dX9_path_2 : decode cX9_path 2 = .ok (.invokevirtual 289, 3) := by decide +kernel
theorem dX9_path_5 : decode cX9_path 5 = .ok (.ifCond .eq 31, 3) := by decide +kernel
theorem dX9_path_8 : decode cX9_path 8 = .ok (.iload_n 2, 1) := by decide +kernel
theorem dX9_path_9 : decode cX9_path 9 = .ok (.iconst 0, 1) := by decide +kernel
theorem dX9_path_10 : decode cX9_path 10 = .ok (.aload_n 0, 1) := by decide +kernel
theorem dX9_path_11 : decode cX9_path 11 = .ok (.getfield 34, 3) := by decide +kernel
theorem dX9_path_14 : decode cX9_path 14 = .ok (.bipush 96, 2) := by decide +kernel
theorem dX9_path_16 : decode cX9_path 16 = .ok (.iload_n 1, 1) := by decide +kernel
theorem dX9_path_17 : decode cX9_path 17 = .ok (.iadd, 1) := by decide +kernel
theorem dX9_path_18 : decode cX9_path 18 = .ok (.iaload, 1) := by decide +kernel
theorem dX9_path_19 : decode cX9_path 19 = .ok (.iconst 1, 1) := by decide +kernel
theorem dX9_path_20 : decode cX9_path 20 = .ok (.isub, 1) := by decide +kernel
theorem dX9_path_21 : decode cX9_path 21 = .ok (.invokestatic 76, 3) := by decide +kernel
theorem dX9_path_24 : decode cX9_path 24 = .ok (.ifCond .eq 12, 3) := by decide +kernel
theorem dX9_path_27 : decode cX9_path 27 = .ok (.iload_n 3, 1) := by decide +kernel
theorem dX9_path_28 : decode cX9_path 28 = .ok (.iconst 0, 1) := by decide +kernel
theorem dX9_path_29 : decode cX9_path 29 = .ok (.iconst 1, 1) := by decide +kernel
theorem dX9_path_30 : decode cX9_path 30 = .ok (.invokestatic 76, 3) := by decide +kernel
theorem dX9_path_33 : decode cX9_path 33 = .ok (.ifCond .ne 5, 3) := by decide +kernel
theorem dX9_path_36 : decode cX9_path 36 = .ok (.iconst (-1), 1) := by decide +kernel
theorem dX9_path_37 : decode cX9_path 37 = .ok (.ireturn, 1) := by decide +kernel
theorem dX9_path_38 : decode cX9_path 38 = .ok (.aload_n 0, 1) := by decide +kernel
theorem dX9_path_39 : decode cX9_path 39 = .ok (.getfield 34, 3) := by decide +kernel
theorem dX9_path_42 : decode cX9_path 42 = .ok (.bipush 72, 2) := by decide +kernel
theorem dX9_path_44 : decode cX9_path 44 = .ok (.iload_n 1, 1) := by decide +kernel
theorem dX9_path_45 : decode cX9_path 45 = .ok (.iadd, 1) := by decide +kernel
theorem dX9_path_46 : decode cX9_path 46 = .ok (.iaload, 1) := by decide +kernel
theorem dX9_path_47 : decode cX9_path 47 = .ok (.iload_n 2, 1) := by decide +kernel
theorem dX9_path_48 : decode cX9_path 48 = .ok (.iadd, 1) := by decide +kernel
theorem dX9_path_49 : decode cX9_path 49 = .ok (.istore 4, 2) := by decide +kernel
theorem dX9_path_51 : decode cX9_path 51 = .ok (.iload_n 3, 1) := by decide +kernel
theorem dX9_path_52 : decode cX9_path 52 = .ok (.ifCond .ne 12, 3) := by decide +kernel
theorem dX9_path_55 : decode cX9_path 55 = .ok (.aload_n 0, 1) := by decide +kernel
theorem dX9_path_56 : decode cX9_path 56 = .ok (.iload 4, 2) := by decide +kernel
theorem dX9_path_58 : decode cX9_path 58 = .ok (.invokevirtual 194, 3) := by decide +kernel
theorem dX9_path_61 : decode cX9_path 61 = .ok (.goto 9, 3) := by decide +kernel
theorem dX9_path_64 : decode cX9_path 64 = .ok (.aload_n 0, 1) := by decide +kernel
theorem dX9_path_65 : decode cX9_path 65 = .ok (.iload 4, 2) := by decide +kernel
theorem dX9_path_67 : decode cX9_path 67 = .ok (.invokevirtual 191, 3) := by decide +kernel
theorem dX9_path_70 : decode cX9_path 70 = .ok (.ireturn, 1) := by decide +kernel
theorem dX9_putAside_0 : decode cX9_putAside 0 = .ok (.iconst 0, 1) := by decide +kernel
theorem dX9_putAside_1 : decode cX9_putAside 1 = .ok (.istore_n 1, 1) := by decide +kernel
theorem dX9_putAside_2 : decode cX9_putAside 2 = .ok (.iload_n 1, 1) := by decide +kernel
theorem dX9_putAside_3 : decode cX9_putAside 3 = .ok (.sipush 172, 3) := by decide +kernel
theorem dX9_putAside_6 : decode cX9_putAside 6 = .ok (.if_icmp .ge 21, 3) := by decide +kernel
theorem dX9_putAside_9 : decode cX9_putAside 9 = .ok (.aload_n 0, 1) := by decide +kernel
theorem dX9_putAside_10 : decode cX9_putAside 10 = .ok (.getfield 49, 3) := by decide +kernel
theorem dX9_putAside_13 : decode cX9_putAside 13 = .ok (.iload_n 1, 1) := by decide +kernel
theorem dX9_putAside_14 : decode cX9_putAside 14 = .ok (.aload_n 0, 1) := by decide +kernel
theorem dX9_putAside_15 : decode cX9_putAside 15 = .ok (.getfield 34, 3) := by decide +kernel
theorem dX9_putAside_18 : decode cX9_putAside 18 = .ok (.iload_n 1, 1) := by decide +kernel
theorem dX9_putAside_19 : decode cX9_putAside 19 = .ok (.iaload, 1) := by decide +kernel
theorem dX9_putAside_20 : decode cX9_putAside 20 = .ok (.iastore, 1) := by decide +kernel
theorem dX9_putAside_21 : decode cX9_putAside 21 = .ok (.iinc 1 1, 3) := by decide +kernel
theorem dX9_putAside_24 : decode cX9_putAside 24 = .ok (.goto (-22), 3) := by decide +kernel
theorem dX9_putAside_27 : decode cX9_putAside 27 = .ok (.return_, 1) := by decide +kernel
theorem dX9_bringBack_0 : decode cX9_bringBack 0 = .ok (.iconst 0, 1) := by decide +kernel
theorem dX9_bringBack_1 : decode cX9_bringBack 1 = .ok (.istore_n 1, 1) := by decide +kernel
theorem dX9_bringBack_2 : decode cX9_bringBack 2 = .ok (.iload_n 1, 1) := by decide +kernel
theorem dX9_bringBack_3 : decode cX9_bringBack 3 = .ok (.sipush 172, 3) := by decide +kernel
theorem dX9_bringBack_6 : decode cX9_bringBack 6 = .ok (.if_icmp .ge 21, 3) := by decide +kernel
theorem dX9_bringBack_9 : decode cX9_bringBack 9 = .ok (.aload_n 0, 1) := by decide +kernel
theorem dX9_bringBack_10 : decode cX9_bringBack 10 = .ok (.getfield 34, 3) := by decide +kernel
theorem dX9_bringBack_13 : decode cX9_bringBack 13 = .ok (.iload_n 1, 1) := by decide +kernel
theorem dX9_bringBack_14 : decode cX9_bringBack 14 = .ok (.aload_n 0, 1) := by decide +kernel
theorem dX9_bringBack_15 : decode cX9_bringBack 15 = .ok (.getfield 49, 3) := by decide +kernel
theorem dX9_bringBack_18 : decode cX9_bringBack 18 = .ok (.iload_n 1, 1) := by decide +kernel
theorem dX9_bringBack_19 : decode cX9_bringBack 19 = .ok (.iaload, 1) := by decide +kernel
theorem dX9_bringBack_20 : decode cX9_bringBack 20 = .ok (.iastore, 1) := by decide +kernel
theorem dX9_bringBack_21 : decode cX9_bringBack 21 = .ok (.iinc 1 1, 3) := by decide +kernel
theorem dX9_bringBack_24 : decode cX9_bringBack 24 = .ok (.goto (-22), 3) := by decide +kernel
theorem dX9_bringBack_27 : decode cX9_bringBack 27 = .ok (.return_, 1) := by decide +kernel
theorem dX9_takes_0 : decode cX9_takes 0 = .ok (.aload_n 0, 1) := by decide +kernel
theorem dX9_takes_1 : decode cX9_takes 1 = .ok (.iload_n 1, 1) := by decide +kernel
theorem dX9_takes_2 : decode cX9_takes 2 = .ok (.invokevirtual 169, 3) := by decide +kernel
theorem dX9_takes_5 : decode cX9_takes 5 = .ok (.ifCond .eq 26, 3) := by decide +kernel
theorem dX9_takes_8 : decode cX9_takes 8 = .ok (.iload_n 2, 1) := by decide +kernel
theorem dX9_takes_9 : decode cX9_takes 9 = .ok (.iconst 0, 1) := by decide +kernel
theorem dX9_takes_10 : decode cX9_takes 10 = .ok (.iconst 2, 1) := by decide +kernel
theorem dX9_takes_11 : decode cX9_takes 11 = .ok (.invokestatic 76, 3) := by decide +kernel
theorem dX9_takes_14 : decode cX9_takes 14 = .ok (.ifCond .eq 17, 3) := by decide +kernel
theorem dX9_takes_17 : decode cX9_takes 17 = .ok (.aload_n 0, 1) := by decide +kernel
theorem dX9_takes_18 : decode cX9_takes 18 = .ok (.iload_n 1, 1) := by decide +kernel
theorem dX9_takes_19 : decode cX9_takes 19 = .ok (.iload_n 2, 1) := by decide +kernel
theorem dX9_takes_20 : decode cX9_takes 20 = .ok (.aload_n 0, 1) := by decide +kernel
theorem dX9_takes_21 : decode cX9_takes 21 = .ok (.iload_n 1, 1) := by decide +kernel
theorem dX9_takes_22 : decode cX9_takes 22 = .ok (.invokevirtual 243, 3) := by decide +kernel
theorem dX9_takes_25 : decode cX9_takes 25 = .ok (.invokevirtual 246, 3) := by decide +kernel
theorem dX9_takes_28 : decode cX9_takes 28 = .ok (.goto 4, 3) := by decide +kernel
theorem dX9_takes_31 : decode cX9_takes 31 = .ok (.iconst (-1), 1) := by decide +kernel
theorem dX9_takes_32 : decode cX9_takes 32 = .ok (.ireturn, 1) := by decide +kernel
theorem dX9_seekTo_0 : decode cX9_seekTo 0 = .ok (.aload_n 0, 1) := by decide +kernel
theorem dX9_seekTo_1 : decode cX9_seekTo 1 = .ok (.iload_n 1, 1) := by decide +kernel
theorem dX9_seekTo_2 : decode cX9_seekTo 2 = .ok (.aload_n 0, 1) := by decide +kernel
theorem dX9_seekTo_3 : decode cX9_seekTo 3 = .ok (.getfield 34, 3) := by decide +kernel
theorem dX9_seekTo_6 : decode cX9_seekTo 6 = .ok (.bipush 72, 2) := by decide +kernel
theorem dX9_seekTo_8 : decode cX9_seekTo 8 = .ok (.iload_n 2, 1) := by decide +kernel
theorem dX9_seekTo_9 : decode cX9_seekTo 9 = .ok (.iadd, 1) := by decide +kernel
theorem dX9_seekTo_10 : decode cX9_seekTo 10 = .ok (.iaload, 1) := by decide +kernel
theorem dX9_seekTo_11 : decode cX9_seekTo 11 = .ok (.invokevirtual 200, 3) := by decide +kernel
theorem dX9_seekTo_14 : decode cX9_seekTo 14 = .ok (.aload_n 0, 1) := by decide +kernel
theorem dX9_seekTo_15 : decode cX9_seekTo 15 = .ok (.getfield 34, 3) := by decide +kernel
theorem dX9_seekTo_18 : decode cX9_seekTo 18 = .ok (.bipush 96, 2) := by decide +kernel
theorem dX9_seekTo_20 : decode cX9_seekTo 20 = .ok (.iload_n 2, 1) := by decide +kernel
theorem dX9_seekTo_21 : decode cX9_seekTo 21 = .ok (.iadd, 1) := by decide +kernel
theorem dX9_seekTo_22 : decode cX9_seekTo 22 = .ok (.iaload, 1) := by decide +kernel
theorem dX9_seekTo_23 : decode cX9_seekTo 23 = .ok (.iadd, 1) := by decide +kernel
theorem dX9_seekTo_24 : decode cX9_seekTo 24 = .ok (.ireturn, 1) := by decide +kernel
theorem dX9_lastBlock_0 : decode cX9_lastBlock 0 = .ok (.aload_n 0, 1) := by decide +kernel
theorem dX9_lastBlock_1 : decode cX9_lastBlock 1 = .ok (.getfield 34, 3) := by decide +kernel
theorem dX9_lastBlock_4 : decode cX9_lastBlock 4 = .ok (.bipush 72, 2) := by decide +kernel
theorem dX9_lastBlock_6 : decode cX9_lastBlock 6 = .ok (.iload_n 1, 1) := by decide +kernel
theorem dX9_lastBlock_7 : decode cX9_lastBlock 7 = .ok (.iadd, 1) := by decide +kernel
theorem dX9_lastBlock_8 : decode cX9_lastBlock 8 = .ok (.iaload, 1) := by decide +kernel
theorem dX9_lastBlock_9 : decode cX9_lastBlock 9 = .ok (.aload_n 0, 1) := by decide +kernel
theorem dX9_lastBlock_10 : decode cX9_lastBlock 10 = .ok (.getfield 34, 3) := by decide +kernel
theorem dX9_lastBlock_13 : decode cX9_lastBlock 13 = .ok (.bipush 96, 2) := by decide +kernel
theorem dX9_lastBlock_15 : decode cX9_lastBlock 15 = .ok (.iload_n 1, 1) := by decide +kernel
theorem dX9_lastBlock_16 : decode cX9_lastBlock 16 = .ok (.iadd, 1) := by decide +kernel
theorem dX9_lastBlock_17 : decode cX9_lastBlock 17 = .ok (.iaload, 1) := by decide +kernel
theorem dX9_lastBlock_18 : decode cX9_lastBlock 18 = .ok (.iadd, 1) := by decide +kernel
theorem dX9_lastBlock_19 : decode cX9_lastBlock 19 = .ok (.iconst 1, 1) := by decide +kernel
theorem dX9_lastBlock_20 : decode cX9_lastBlock 20 = .ok (.isub, 1) := by decide +kernel
theorem dX9_lastBlock_21 : decode cX9_lastBlock 21 = .ok (.ireturn, 1) := by decide +kernel
theorem dX9_leastOf_0 : decode cX9_leastOf 0 = .ok (.aload_n 0, 1) := by decide +kernel
theorem dX9_leastOf_1 : decode cX9_leastOf 1 = .ok (.iload_n 1, 1) := by decide +kernel
theorem dX9_leastOf_2 : decode cX9_leastOf 2 = .ok (.iconst 0, 1) := by decide +kernel
theorem dX9_leastOf_3 : decode cX9_leastOf 3 = .ok (.aload_n 0, 1) := by decide +kernel
theorem dX9_leastOf_4 : decode cX9_leastOf 4 = .ok (.iload_n 1, 1) := by decide +kernel
theorem dX9_leastOf_5 : decode cX9_leastOf 5 = .ok (.invokevirtual 243, 3) := by decide +kernel
theorem dX9_leastOf_8 : decode cX9_leastOf 8 = .ok (.invokevirtual 246, 3) := by decide +kernel
theorem dX9_leastOf_11 : decode cX9_leastOf 11 = .ok (.pop, 1) := by decide +kernel
theorem dX9_leastOf_12 : decode cX9_leastOf 12 = .ok (.iconst (-1), 1) := by decide +kernel
theorem dX9_leastOf_13 : decode cX9_leastOf 13 = .ok (.istore_n 2, 1) := by decide +kernel
theorem dX9_leastOf_14 : decode cX9_leastOf 14 = .ok (.iconst 1, 1) := by decide +kernel
theorem dX9_leastOf_15 : decode cX9_leastOf 15 = .ok (.istore_n 3, 1) := by decide +kernel
theorem dX9_leastOf_16 : decode cX9_leastOf 16 = .ok (.iload_n 3, 1) := by decide +kernel
theorem dX9_leastOf_17 : decode cX9_leastOf 17 = .ok (.iconst 1, 1) := by decide +kernel
theorem dX9_leastOf_18 : decode cX9_leastOf 18 = .ok (.aload_n 0, 1) := by decide +kernel
theorem dX9_leastOf_19 : decode cX9_leastOf 19 = .ok (.getfield 236, 3) := by decide +kernel
theorem dX9_leastOf_22 : decode cX9_leastOf 22 = .ok (.ishl, 1) := by decide +kernel
theorem dX9_leastOf_23 : decode cX9_leastOf 23 = .ok (.if_icmp .ge 215, 3) := by decide +kernel
theorem dX9_leastOf_26 : decode cX9_leastOf 26 = .ok (.iconst 0, 1) := by decide +kernel
theorem dX9_leastOf_27 : decode cX9_leastOf 27 = .ok (.istore 4, 2) := by decide +kernel
theorem dX9_leastOf_29 : decode cX9_leastOf 29 = .ok (.iload 4, 2) := by decide +kernel
theorem dX9_leastOf_31 : decode cX9_leastOf 31 = .ok (.aload_n 0, 1) := by decide +kernel
theorem dX9_leastOf_32 : decode cX9_leastOf 32 = .ok (.getfield 236, 3) := by decide +kernel
theorem dX9_leastOf_35 : decode cX9_leastOf 35 = .ok (.if_icmp .ge 197, 3) := by decide +kernel
theorem dX9_leastOf_38 : decode cX9_leastOf 38 = .ok (.iload_n 3, 1) := by decide +kernel
theorem dX9_leastOf_39 : decode cX9_leastOf 39 = .ok (.iload 4, 2) := by decide +kernel
theorem dX9_leastOf_41 : decode cX9_leastOf 41 = .ok (.invokestatic 111, 3) := by decide +kernel
theorem dX9_leastOf_44 : decode cX9_leastOf 44 = .ok (.ifCond .eq 182, 3) := by decide +kernel
theorem dX9_leastOf_47 : decode cX9_leastOf 47 = .ok (.iload_n 3, 1) := by decide +kernel
theorem dX9_leastOf_48 : decode cX9_leastOf 48 = .ok (.iconst 1, 1) := by decide +kernel
theorem dX9_leastOf_49 : decode cX9_leastOf 49 = .ok (.iload 4, 2) := by decide +kernel
theorem dX9_leastOf_51 : decode cX9_leastOf 51 = .ok (.ishl, 1) := by decide +kernel
theorem dX9_leastOf_52 : decode cX9_leastOf 52 = .ok (.iconst (-1), 1) := by decide +kernel
theorem dX9_leastOf_53 : decode cX9_leastOf 53 = .ok (.ixor, 1) := by decide +kernel
theorem dX9_leastOf_54 : decode cX9_leastOf 54 = .ok (.iand, 1) := by decide +kernel
theorem dX9_leastOf_55 : decode cX9_leastOf 55 = .ok (.istore 5, 2) := by decide +kernel
theorem dX9_leastOf_57 : decode cX9_leastOf 57 = .ok (.iload 5, 2) := by decide +kernel
theorem dX9_leastOf_59 : decode cX9_leastOf 59 = .ok (.ifCond .ne 22, 3) := by decide +kernel
theorem dX9_leastOf_62 : decode cX9_leastOf 62 = .ok (.aload_n 0, 1) := by decide +kernel
theorem dX9_leastOf_63 : decode cX9_leastOf 63 = .ok (.aload_n 0, 1) := by decide +kernel
theorem dX9_leastOf_64 : decode cX9_leastOf 64 = .ok (.iload_n 1, 1) := by decide +kernel
theorem dX9_leastOf_65 : decode cX9_leastOf 65 = .ok (.invokevirtual 243, 3) := by decide +kernel
theorem dX9_leastOf_68 : decode cX9_leastOf 68 = .ok (.aload_n 0, 1) := by decide +kernel
theorem dX9_leastOf_69 : decode cX9_leastOf 69 = .ok (.getfield 40, 3) := by decide +kernel
theorem dX9_leastOf_72 : decode cX9_leastOf 72 = .ok (.iload 4, 2) := by decide +kernel
theorem dX9_leastOf_74 : decode cX9_leastOf 74 = .ok (.iaload, 1) := by decide +kernel
theorem dX9_leastOf_75 : decode cX9_leastOf 75 = .ok (.invokevirtual 376, 3) := by decide +kernel
theorem dX9_leastOf_78 : decode cX9_leastOf 78 = .ok (.goto 4, 3) := by decide +kernel
theorem dX9_leastOf_81 : decode cX9_leastOf 81 = .ok (.iconst (-1), 1) := by decide +kernel
theorem dX9_leastOf_82 : decode cX9_leastOf 82 = .ok (.istore 6, 2) := by decide +kernel
theorem dX9_leastOf_84 : decode cX9_leastOf 84 = .ok (.iconst 0, 1) := by decide +kernel
theorem dX9_leastOf_85 : decode cX9_leastOf 85 = .ok (.istore 7, 2) := by decide +kernel
theorem dX9_leastOf_87 : decode cX9_leastOf 87 = .ok (.iload 7, 2) := by decide +kernel
theorem dX9_leastOf_89 : decode cX9_leastOf 89 = .ok (.aload_n 0, 1) := by decide +kernel
theorem dX9_leastOf_90 : decode cX9_leastOf 90 = .ok (.getfield 236, 3) := by decide +kernel
theorem dX9_leastOf_93 : decode cX9_leastOf 93 = .ok (.if_icmp .ge 89, 3) := by decide +kernel
theorem dX9_leastOf_96 : decode cX9_leastOf 96 = .ok (.iload 5, 2) := by decide +kernel
theorem dX9_leastOf_98 : decode cX9_leastOf 98 = .ok (.iload 7, 2) := by decide +kernel
theorem dX9_leastOf_100 : decode cX9_leastOf 100 = .ok (.invokestatic 111, 3) := by decide +kernel
theorem dX9_leastOf_103 : decode cX9_leastOf 103 = .ok (.ifCond .eq 42, 3) := by decide +kernel
theorem dX9_leastOf_106 : decode cX9_leastOf 106 = .ok (.aload_n 0, 1) := by decide +kernel
theorem dX9_leastOf_107 : decode cX9_leastOf 107 = .ok (.getfield 53, 3) := by decide +kernel
theorem dX9_leastOf_110 : decode cX9_leastOf 110 = .ok (.bipush 12, 2) := by decide +kernel
theorem dX9_leastOf_112 : decode cX9_leastOf 112 = .ok (.iload 5, 2) := by decide +kernel
theorem dX9_leastOf_114 : decode cX9_leastOf 114 = .ok (.imul, 1) := by decide +kernel
theorem dX9_leastOf_115 : decode cX9_leastOf 115 = .ok (.iload 7, 2) := by decide +kernel
theorem dX9_leastOf_117 : decode cX9_leastOf 117 = .ok (.iadd, 1) := by decide +kernel
theorem dX9_leastOf_118 : decode cX9_leastOf 118 = .ok (.iaload, 1) := by decide +kernel
theorem dX9_leastOf_119 : decode cX9_leastOf 119 = .ok (.aload_n 0, 1) := by decide +kernel
theorem dX9_leastOf_120 : decode cX9_leastOf 120 = .ok (.aload_n 0, 1) := by decide +kernel
theorem dX9_leastOf_121 : decode cX9_leastOf 121 = .ok (.aload_n 0, 1) := by decide +kernel
theorem dX9_leastOf_122 : decode cX9_leastOf 122 = .ok (.getfield 40, 3) := by decide +kernel
theorem dX9_leastOf_125 : decode cX9_leastOf 125 = .ok (.iload 7, 2) := by decide +kernel
theorem dX9_leastOf_127 : decode cX9_leastOf 127 = .ok (.iaload, 1) := by decide +kernel
theorem dX9_leastOf_128 : decode cX9_leastOf 128 = .ok (.invokevirtual 379, 3) := by decide +kernel
theorem dX9_leastOf_131 : decode cX9_leastOf 131 = .ok (.aload_n 0, 1) := by decide +kernel
theorem dX9_leastOf_132 : decode cX9_leastOf 132 = .ok (.getfield 40, 3) := by decide +kernel
theorem dX9_leastOf_135 : decode cX9_leastOf 135 = .ok (.iload 4, 2) := by decide +kernel
theorem dX9_leastOf_137 : decode cX9_leastOf 137 = .ok (.iaload, 1) := by decide +kernel
theorem dX9_leastOf_138 : decode cX9_leastOf 138 = .ok (.invokevirtual 376, 3) := by decide +kernel
theorem dX9_leastOf_141 : decode cX9_leastOf 141 = .ok (.iadd, 1) := by decide +kernel
theorem dX9_leastOf_142 : decode cX9_leastOf 142 = .ok (.goto 4, 3) := by decide +kernel
theorem dX9_leastOf_145 : decode cX9_leastOf 145 = .ok (.iconst (-1), 1) := by decide +kernel
theorem dX9_leastOf_146 : decode cX9_leastOf 146 = .ok (.istore 8, 2) := by decide +kernel
theorem dX9_leastOf_148 : decode cX9_leastOf 148 = .ok (.iload 8, 2) := by decide +kernel
theorem dX9_leastOf_150 : decode cX9_leastOf 150 = .ok (.iconst (-1), 1) := by decide +kernel
theorem dX9_leastOf_151 : decode cX9_leastOf 151 = .ok (.if_icmp .eq 21, 3) := by decide +kernel
theorem dX9_leastOf_154 : decode cX9_leastOf 154 = .ok (.iload 6, 2) := by decide +kernel
theorem dX9_leastOf_156 : decode cX9_leastOf 156 = .ok (.iconst (-1), 1) := by decide +kernel
theorem dX9_leastOf_157 : decode cX9_leastOf 157 = .ok (.if_icmp .eq 10, 3) := by decide +kernel
theorem dX9_leastOf_160 : decode cX9_leastOf 160 = .ok (.iload 8, 2) := by decide +kernel
theorem dX9_leastOf_162 : decode cX9_leastOf 162 = .ok (.iload 6, 2) := by decide +kernel
theorem dX9_leastOf_164 : decode cX9_leastOf 164 = .ok (.if_icmp .ge 8, 3) := by decide +kernel
theorem dX9_leastOf_167 : decode cX9_leastOf 167 = .ok (.iload 8, 2) := by decide +kernel
theorem dX9_leastOf_169 : decode cX9_leastOf 169 = .ok (.goto 5, 3) := by decide +kernel
theorem dX9_leastOf_172 : decode cX9_leastOf 172 = .ok (.iload 6, 2) := by decide +kernel
theorem dX9_leastOf_174 : decode cX9_leastOf 174 = .ok (.istore 6, 2) := by decide +kernel
theorem dX9_leastOf_176 : decode cX9_leastOf 176 = .ok (.iinc 7 1, 3) := by decide +kernel
theorem dX9_leastOf_179 : decode cX9_leastOf 179 = .ok (.goto (-92), 3) := by decide +kernel
theorem dX9_leastOf_182 : decode cX9_leastOf 182 = .ok (.aload_n 0, 1) := by decide +kernel
theorem dX9_leastOf_183 : decode cX9_leastOf 183 = .ok (.getfield 53, 3) := by decide +kernel
theorem dX9_leastOf_186 : decode cX9_leastOf 186 = .ok (.bipush 12, 2) := by decide +kernel
theorem dX9_leastOf_188 : decode cX9_leastOf 188 = .ok (.iload_n 3, 1) := by decide +kernel
theorem dX9_leastOf_189 : decode cX9_leastOf 189 = .ok (.imul, 1) := by decide +kernel
theorem dX9_leastOf_190 : decode cX9_leastOf 190 = .ok (.iload 4, 2) := by decide +kernel
theorem dX9_leastOf_192 : decode cX9_leastOf 192 = .ok (.iadd, 1) := by decide +kernel
theorem dX9_leastOf_193 : decode cX9_leastOf 193 = .ok (.iload 6, 2) := by decide +kernel
theorem dX9_leastOf_195 : decode cX9_leastOf 195 = .ok (.iastore, 1) := by decide +kernel
theorem dX9_leastOf_196 : decode cX9_leastOf 196 = .ok (.iload_n 3, 1) := by decide +kernel
theorem dX9_leastOf_197 : decode cX9_leastOf 197 = .ok (.iconst 1, 1) := by decide +kernel
theorem dX9_leastOf_198 : decode cX9_leastOf 198 = .ok (.aload_n 0, 1) := by decide +kernel
theorem dX9_leastOf_199 : decode cX9_leastOf 199 = .ok (.getfield 236, 3) := by decide +kernel
theorem dX9_leastOf_202 : decode cX9_leastOf 202 = .ok (.ishl, 1) := by decide +kernel
theorem dX9_leastOf_203 : decode cX9_leastOf 203 = .ok (.iconst 1, 1) := by decide +kernel
theorem dX9_leastOf_204 : decode cX9_leastOf 204 = .ok (.isub, 1) := by decide +kernel
theorem dX9_leastOf_205 : decode cX9_leastOf 205 = .ok (.if_icmp .ne 19, 3) := by decide +kernel
theorem dX9_leastOf_208 : decode cX9_leastOf 208 = .ok (.iload_n 2, 1) := by decide +kernel
theorem dX9_leastOf_209 : decode cX9_leastOf 209 = .ok (.iconst (-1), 1) := by decide +kernel
theorem dX9_leastOf_210 : decode cX9_leastOf 210 = .ok (.if_icmp .eq 9, 3) := by decide +kernel
theorem dX9_leastOf_213 : decode cX9_leastOf 213 = .ok (.iload 6, 2) := by decide +kernel
theorem dX9_leastOf_215 : decode cX9_leastOf 215 = .ok (.iload_n 2, 1) := by decide +kernel
theorem dX9_leastOf_216 : decode cX9_leastOf 216 = .ok (.if_icmp .ge 8, 3) := by decide +kernel
theorem dX9_leastOf_219 : decode cX9_leastOf 219 = .ok (.iload 6, 2) := by decide +kernel
theorem dX9_leastOf_221 : decode cX9_leastOf 221 = .ok (.goto 4, 3) := by decide +kernel
theorem dX9_leastOf_224 : decode cX9_leastOf 224 = .ok (.iload_n 2, 1) := by decide +kernel
theorem dX9_leastOf_225 : decode cX9_leastOf 225 = .ok (.istore_n 2, 1) := by decide +kernel
theorem dX9_leastOf_226 : decode cX9_leastOf 226 = .ok (.iinc 4 1, 3) := by decide +kernel
theorem dX9_leastOf_229 : decode cX9_leastOf 229 = .ok (.goto (-200), 3) := by decide +kernel
theorem dX9_leastOf_232 : decode cX9_leastOf 232 = .ok (.iinc 3 1, 3) := by decide +kernel
theorem dX9_leastOf_235 : decode cX9_leastOf 235 = .ok (.goto (-219), 3) := by decide +kernel
theorem dX9_leastOf_238 : decode cX9_leastOf 238 = .ok (.iload_n 2, 1) := by decide +kernel
theorem dX9_leastOf_239 : decode cX9_leastOf 239 = .ok (.iconst (-1), 1) := by decide +kernel
theorem dX9_leastOf_240 : decode cX9_leastOf 240 = .ok (.if_icmp .ne 7, 3) := by decide +kernel
theorem dX9_leastOf_243 : decode cX9_leastOf 243 = .ok (.iconst 0, 1) := by decide +kernel
theorem dX9_leastOf_244 : decode cX9_leastOf 244 = .ok (.goto 4, 3) := by decide +kernel
theorem dX9_leastOf_247 : decode cX9_leastOf 247 = .ok (.iload_n 2, 1) := by decide +kernel
theorem dX9_leastOf_248 : decode cX9_leastOf 248 = .ok (.ireturn, 1) := by decide +kernel
theorem dX9_least_0 : decode cX9_least 0 = .ok (.aload_n 0, 1) := by decide +kernel
theorem dX9_least_1 : decode cX9_least 1 = .ok (.iload_n 1, 1) := by decide +kernel
theorem dX9_least_2 : decode cX9_least 2 = .ok (.invokevirtual 169, 3) := by decide +kernel
theorem dX9_least_5 : decode cX9_least 5 = .ok (.ifCond .eq 11, 3) := by decide +kernel
theorem dX9_least_8 : decode cX9_least 8 = .ok (.aload_n 0, 1) := by decide +kernel
theorem dX9_least_9 : decode cX9_least 9 = .ok (.iload_n 1, 1) := by decide +kernel
theorem dX9_least_10 : decode cX9_least 10 = .ok (.invokevirtual 382, 3) := by decide +kernel
theorem dX9_least_13 : decode cX9_least 13 = .ok (.goto 4, 3) := by decide +kernel
theorem dX9_least_16 : decode cX9_least 16 = .ok (.iconst (-1), 1) := by decide +kernel
theorem dX9_least_17 : decode cX9_least 17 = .ok (.ireturn, 1) := by decide +kernel
theorem dX9_layAll_0 : decode cX9_layAll 0 = .ok (.aload_n 0, 1) := by decide +kernel
theorem dX9_layAll_1 : decode cX9_layAll 1 = .ok (.invokevirtual 385, 3) := by decide +kernel
theorem dX9_layAll_4 : decode cX9_layAll 4 = .ok (.aload_n 0, 1) := by decide +kernel
theorem dX9_layAll_5 : decode cX9_layAll 5 = .ok (.iconst 0, 1) := by decide +kernel
theorem dX9_layAll_6 : decode cX9_layAll 6 = .ok (.putfield 226, 3) := by decide +kernel
theorem dX9_layAll_9 : decode cX9_layAll 9 = .ok (.aload_n 0, 1) := by decide +kernel
theorem dX9_layAll_10 : decode cX9_layAll 10 = .ok (.iconst (-1), 1) := by decide +kernel
theorem dX9_layAll_11 : decode cX9_layAll 11 = .ok (.putfield 388, 3) := by decide +kernel
theorem dX9_layAll_14 : decode cX9_layAll 14 = .ok (.aload_n 0, 1) := by decide +kernel
theorem dX9_layAll_15 : decode cX9_layAll 15 = .ok (.iconst 0, 1) := by decide +kernel
theorem dX9_layAll_16 : decode cX9_layAll 16 = .ok (.putfield 391, 3) := by decide +kernel
theorem dX9_layAll_19 : decode cX9_layAll 19 = .ok (.aload_n 0, 1) := by decide +kernel
theorem dX9_layAll_20 : decode cX9_layAll 20 = .ok (.invokevirtual 250, 3) := by decide +kernel
theorem dX9_layAll_23 : decode cX9_layAll 23 = .ok (.iconst (-1), 1) := by decide +kernel
theorem dX9_layAll_24 : decode cX9_layAll 24 = .ok (.if_icmp .eq 65, 3) := by decide +kernel
theorem dX9_layAll_27 : decode cX9_layAll 27 = .ok (.aload_n 0, 1) := by decide +kernel
theorem dX9_layAll_28 : decode cX9_layAll 28 = .ok (.getfield 56, 3) := by decide +kernel
theorem dX9_layAll_31 : decode cX9_layAll 31 = .ok (.aload_n 0, 1) := by decide +kernel
theorem dX9_layAll_32 : decode cX9_layAll 32 = .ok (.getfield 391, 3) := by decide +kernel
theorem dX9_layAll_35 : decode cX9_layAll 35 = .ok (.aload_n 0, 1) := by decide +kernel
theorem dX9_layAll_36 : decode cX9_layAll 36 = .ok (.invokevirtual 307, 3) := by decide +kernel
theorem dX9_layAll_39 : decode cX9_layAll 39 = .ok (.iastore, 1) := by decide +kernel
theorem dX9_layAll_40 : decode cX9_layAll 40 = .ok (.aload_n 0, 1) := by decide +kernel
theorem dX9_layAll_41 : decode cX9_layAll 41 = .ok (.getfield 388, 3) := by decide +kernel
theorem dX9_layAll_44 : decode cX9_layAll 44 = .ok (.iconst (-1), 1) := by decide +kernel
theorem dX9_layAll_45 : decode cX9_layAll 45 = .ok (.if_icmp .ne 31, 3) := by decide +kernel
theorem dX9_layAll_48 : decode cX9_layAll 48 = .ok (.iload_n 1, 1) := by decide +kernel
theorem dX9_layAll_49 : decode cX9_layAll 49 = .ok (.iconst (-1), 1) := by decide +kernel
theorem dX9_layAll_50 : decode cX9_layAll 50 = .ok (.if_icmp .eq 26, 3) := by decide +kernel
theorem dX9_layAll_53 : decode cX9_layAll 53 = .ok (.aload_n 0, 1) := by decide +kernel
theorem dX9_layAll_54 : decode cX9_layAll 54 = .ok (.getfield 34, 3) := by decide +kernel
theorem dX9_layAll_57 : decode cX9_layAll 57 = .ok (.sipush 144, 3) := by decide +kernel
theorem dX9_layAll_60 : decode cX9_layAll 60 = .ok (.iload_n 1, 1) := by decide +kernel
theorem dX9_layAll_61 : decode cX9_layAll 61 = .ok (.iadd, 1) := by decide +kernel
theorem dX9_layAll_62 : decode cX9_layAll 62 = .ok (.iaload, 1) := by decide +kernel
theorem dX9_layAll_63 : decode cX9_layAll 63 = .ok (.ifCond .ne 13, 3) := by decide +kernel
theorem dX9_layAll_66 : decode cX9_layAll 66 = .ok (.aload_n 0, 1) := by decide +kernel
theorem dX9_layAll_67 : decode cX9_layAll 67 = .ok (.aload_n 0, 1) := by decide +kernel
theorem dX9_layAll_68 : decode cX9_layAll 68 = .ok (.getfield 391, 3) := by decide +kernel
theorem dX9_layAll_71 : decode cX9_layAll 71 = .ok (.iconst 1, 1) := by decide +kernel
theorem dX9_layAll_72 : decode cX9_layAll 72 = .ok (.iadd, 1) := by decide +kernel
theorem dX9_layAll_73 : decode cX9_layAll 73 = .ok (.putfield 388, 3) := by decide +kernel
theorem dX9_layAll_76 : decode cX9_layAll 76 = .ok (.aload_n 0, 1) := by decide +kernel
theorem dX9_layAll_77 : decode cX9_layAll 77 = .ok (.dup, 1) := by decide +kernel
theorem dX9_layAll_78 : decode cX9_layAll 78 = .ok (.getfield 391, 3) := by decide +kernel
theorem dX9_layAll_81 : decode cX9_layAll 81 = .ok (.iconst 1, 1) := by decide +kernel
theorem dX9_layAll_82 : decode cX9_layAll 82 = .ok (.iadd, 1) := by decide +kernel
theorem dX9_layAll_83 : decode cX9_layAll 83 = .ok (.putfield 391, 3) := by decide +kernel
theorem dX9_layAll_86 : decode cX9_layAll 86 = .ok (.goto (-67), 3) := by decide +kernel
theorem dX9_layAll_89 : decode cX9_layAll 89 = .ok (.aload_n 0, 1) := by decide +kernel
theorem dX9_layAll_90 : decode cX9_layAll 90 = .ok (.aload_n 0, 1) := by decide +kernel
theorem dX9_layAll_91 : decode cX9_layAll 91 = .ok (.getfield 34, 3) := by decide +kernel
theorem dX9_layAll_94 : decode cX9_layAll 94 = .ok (.sipush 170, 3) := by decide +kernel
theorem dX9_layAll_97 : decode cX9_layAll 97 = .ok (.iaload, 1) := by decide +kernel
theorem dX9_layAll_98 : decode cX9_layAll 98 = .ok (.aload_n 0, 1) := by decide +kernel
theorem dX9_layAll_99 : decode cX9_layAll 99 = .ok (.getfield 49, 3) := by decide +kernel
theorem dX9_layAll_102 : decode cX9_layAll 102 = .ok (.sipush 170, 3) := by decide +kernel
theorem dX9_layAll_105 : decode cX9_layAll 105 = .ok (.iaload, 1) := by decide +kernel
theorem dX9_layAll_106 : decode cX9_layAll 106 = .ok (.isub, 1) := by decide +kernel
theorem dX9_layAll_107 : decode cX9_layAll 107 = .ok (.putfield 394, 3) := by decide +kernel
theorem dX9_layAll_110 : decode cX9_layAll 110 = .ok (.aload_n 0, 1) := by decide +kernel
theorem dX9_layAll_111 : decode cX9_layAll 111 = .ok (.aload_n 0, 1) := by decide +kernel
theorem dX9_layAll_112 : decode cX9_layAll 112 = .ok (.getfield 226, 3) := by decide +kernel
theorem dX9_layAll_115 : decode cX9_layAll 115 = .ok (.putfield 397, 3) := by decide +kernel
theorem dX9_layAll_118 : decode cX9_layAll 118 = .ok (.aload_n 0, 1) := by decide +kernel
theorem dX9_layAll_119 : decode cX9_layAll 119 = .ok (.invokevirtual 400, 3) := by decide +kernel
theorem dX9_layAll_122 : decode cX9_layAll 122 = .ok (.return_, 1) := by decide +kernel
theorem dX9_all_0 : decode cX9_all 0 = .ok (.aload_n 0, 1) := by decide +kernel
theorem dX9_all_1 : decode cX9_all 1 = .ok (.invokevirtual 156, 3) := by decide +kernel
theorem dX9_all_4 : decode cX9_all 4 = .ok (.ifCond .eq 12, 3) := by decide +kernel
theorem dX9_all_7 : decode cX9_all 7 = .ok (.iload_n 1, 1) := by decide +kernel
theorem dX9_all_8 : decode cX9_all 8 = .ok (.iconst 0, 1) := by decide +kernel
theorem dX9_all_9 : decode cX9_all 9 = .ok (.iconst 2, 1) := by decide +kernel
theorem dX9_all_10 : decode cX9_all 10 = .ok (.invokestatic 76, 3) := by decide +kernel
theorem dX9_all_13 : decode cX9_all 13 = .ok (.ifCond .ne 5, 3) := by decide +kernel
theorem dX9_all_16 : decode cX9_all 16 = .ok (.iconst (-1), 1) := by decide +kernel
theorem dX9_all_17 : decode cX9_all 17 = .ok (.ireturn, 1) := by decide +kernel
theorem dX9_all_18 : decode cX9_all 18 = .ok (.aload_n 0, 1) := by decide +kernel
theorem dX9_all_19 : decode cX9_all 19 = .ok (.iconst (-1), 1) := by decide +kernel
theorem dX9_all_20 : decode cX9_all 20 = .ok (.invokevirtual 403, 3) := by decide +kernel
theorem dX9_all_23 : decode cX9_all 23 = .ok (.iload_n 1, 1) := by decide +kernel
theorem dX9_all_24 : decode cX9_all 24 = .ok (.ifCond .ne 10, 3) := by decide +kernel
theorem dX9_all_27 : decode cX9_all 27 = .ok (.aload_n 0, 1) := by decide +kernel
theorem dX9_all_28 : decode cX9_all 28 = .ok (.getfield 394, 3) := by decide +kernel
theorem dX9_all_31 : decode cX9_all 31 = .ok (.goto 19, 3) := by decide +kernel
theorem dX9_all_34 : decode cX9_all 34 = .ok (.iload_n 1, 1) := by decide +kernel
theorem dX9_all_35 : decode cX9_all 35 = .ok (.iconst 1, 1) := by decide +kernel
theorem dX9_all_36 : decode cX9_all 36 = .ok (.if_icmp .ne 10, 3) := by decide +kernel
theorem dX9_all_39 : decode cX9_all 39 = .ok (.aload_n 0, 1) := by decide +kernel
theorem dX9_all_40 : decode cX9_all 40 = .ok (.getfield 397, 3) := by decide +kernel
theorem dX9_all_43 : decode cX9_all 43 = .ok (.goto 7, 3) := by decide +kernel
theorem dX9_all_46 : decode cX9_all 46 = .ok (.aload_n 0, 1) := by decide +kernel
theorem dX9_all_47 : decode cX9_all 47 = .ok (.getfield 391, 3) := by decide +kernel
theorem dX9_all_50 : decode cX9_all 50 = .ok (.ireturn, 1) := by decide +kernel
theorem dX9_served_0 : decode cX9_served 0 = .ok (.aload_n 0, 1) := by decide +kernel
theorem dX9_served_1 : decode cX9_served 1 = .ok (.invokevirtual 156, 3) := by decide +kernel
theorem dX9_served_4 : decode cX9_served 4 = .ok (.ifCond .ne 5, 3) := by decide +kernel
theorem dX9_served_7 : decode cX9_served 7 = .ok (.iconst (-1), 1) := by decide +kernel
theorem dX9_served_8 : decode cX9_served 8 = .ok (.ireturn, 1) := by decide +kernel
theorem dX9_served_9 : decode cX9_served 9 = .ok (.aload_n 0, 1) := by decide +kernel
theorem dX9_served_10 : decode cX9_served 10 = .ok (.iconst (-1), 1) := by decide +kernel
theorem dX9_served_11 : decode cX9_served 11 = .ok (.invokevirtual 403, 3) := by decide +kernel
theorem dX9_served_14 : decode cX9_served 14 = .ok (.iload_n 1, 1) := by decide +kernel
theorem dX9_served_15 : decode cX9_served 15 = .ok (.iconst 0, 1) := by decide +kernel
theorem dX9_served_16 : decode cX9_served 16 = .ok (.aload_n 0, 1) := by decide +kernel
theorem dX9_served_17 : decode cX9_served 17 = .ok (.getfield 391, 3) := by decide +kernel
theorem dX9_served_20 : decode cX9_served 20 = .ok (.iconst 1, 1) := by decide +kernel
theorem dX9_served_21 : decode cX9_served 21 = .ok (.isub, 1) := by decide +kernel
theorem dX9_served_22 : decode cX9_served 22 = .ok (.invokestatic 76, 3) := by decide +kernel
theorem dX9_served_25 : decode cX9_served 25 = .ok (.ifCond .eq 12, 3) := by decide +kernel
theorem dX9_served_28 : decode cX9_served 28 = .ok (.aload_n 0, 1) := by decide +kernel
theorem dX9_served_29 : decode cX9_served 29 = .ok (.getfield 56, 3) := by decide +kernel
theorem dX9_served_32 : decode cX9_served 32 = .ok (.iload_n 1, 1) := by decide +kernel
theorem dX9_served_33 : decode cX9_served 33 = .ok (.iaload, 1) := by decide +kernel
theorem dX9_served_34 : decode cX9_served 34 = .ok (.goto 4, 3) := by decide +kernel
theorem dX9_served_37 : decode cX9_served 37 = .ok (.iconst (-1), 1) := by decide +kernel
theorem dX9_served_38 : decode cX9_served 38 = .ok (.ireturn, 1) := by decide +kernel
theorem dX9_soon_0 : decode cX9_soon 0 = .ok (.aload_n 0, 1) := by decide +kernel
theorem dX9_soon_1 : decode cX9_soon 1 = .ok (.iload_n 1, 1) := by decide +kernel
theorem dX9_soon_2 : decode cX9_soon 2 = .ok (.invokevirtual 289, 3) := by decide +kernel
theorem dX9_soon_5 : decode cX9_soon 5 = .ok (.ifCond .eq 16, 3) := by decide +kernel
theorem dX9_soon_8 : decode cX9_soon 8 = .ok (.aload_n 0, 1) := by decide +kernel
theorem dX9_soon_9 : decode cX9_soon 9 = .ok (.getfield 34, 3) := by decide +kernel
theorem dX9_soon_12 : decode cX9_soon 12 = .ok (.sipush 144, 3) := by decide +kernel
theorem dX9_soon_15 : decode cX9_soon 15 = .ok (.iload_n 1, 1) := by decide +kernel
theorem dX9_soon_16 : decode cX9_soon 16 = .ok (.iadd, 1) := by decide +kernel
theorem dX9_soon_17 : decode cX9_soon 17 = .ok (.iaload, 1) := by decide +kernel
theorem dX9_soon_18 : decode cX9_soon 18 = .ok (.ifCond .ne 5, 3) := by decide +kernel
theorem dX9_soon_21 : decode cX9_soon 21 = .ok (.iconst (-1), 1) := by decide +kernel
theorem dX9_soon_22 : decode cX9_soon 22 = .ok (.ireturn, 1) := by decide +kernel
theorem dX9_soon_23 : decode cX9_soon 23 = .ok (.aload_n 0, 1) := by decide +kernel
theorem dX9_soon_24 : decode cX9_soon 24 = .ok (.iload_n 1, 1) := by decide +kernel
theorem dX9_soon_25 : decode cX9_soon 25 = .ok (.invokevirtual 403, 3) := by decide +kernel
theorem dX9_soon_28 : decode cX9_soon 28 = .ok (.aload_n 0, 1) := by decide +kernel
theorem dX9_soon_29 : decode cX9_soon 29 = .ok (.getfield 388, 3) := by decide +kernel
theorem dX9_soon_32 : decode cX9_soon 32 = .ok (.ireturn, 1) := by decide +kernel
theorem dX9_target_0 : decode cX9_target 0 = .ok (.aload_n 0, 1) := by decide +kernel
theorem dX9_target_1 : decode cX9_target 1 = .ok (.iload_n 1, 1) := by decide +kernel
theorem dX9_target_2 : decode cX9_target 2 = .ok (.invokevirtual 169, 3) := by decide +kernel
theorem dX9_target_5 : decode cX9_target 5 = .ok (.ifCond .eq 19, 3) := by decide +kernel
theorem dX9_target_8 : decode cX9_target 8 = .ok (.aload_n 0, 1) := by decide +kernel
theorem dX9_target_9 : decode cX9_target 9 = .ok (.iload_n 1, 1) := by decide +kernel
theorem dX9_target_10 : decode cX9_target 10 = .ok (.invokevirtual 262, 3) := by decide +kernel
theorem dX9_target_13 : decode cX9_target 13 = .ok (.ifCond .le 11, 3) := by decide +kernel
theorem dX9_target_16 : decode cX9_target 16 = .ok (.aload_n 0, 1) := by decide +kernel
theorem dX9_target_17 : decode cX9_target 17 = .ok (.iload_n 1, 1) := by decide +kernel
theorem dX9_target_18 : decode cX9_target 18 = .ok (.invokevirtual 274, 3) := by decide +kernel
theorem dX9_target_21 : decode cX9_target 21 = .ok (.goto 4, 3) := by decide +kernel
theorem dX9_target_24 : decode cX9_target 24 = .ok (.iconst (-1), 1) := by decide +kernel
theorem dX9_target_25 : decode cX9_target 25 = .ok (.ireturn, 1) := by decide +kernel
theorem dX9_cheap_0 : decode cX9_cheap 0 = .ok (.iconst (-1), 1) := by decide +kernel
theorem dX9_cheap_1 : decode cX9_cheap 1 = .ok (.istore_n 2, 1) := by decide +kernel
theorem dX9_cheap_2 : decode cX9_cheap 2 = .ok (.iconst 0, 1) := by decide +kernel
theorem dX9_cheap_3 : decode cX9_cheap 3 = .ok (.istore_n 3, 1) := by decide +kernel
theorem dX9_cheap_4 : decode cX9_cheap 4 = .ok (.iconst 0, 1) := by decide +kernel
theorem dX9_cheap_5 : decode cX9_cheap 5 = .ok (.istore 4, 2) := by decide +kernel
theorem dX9_cheap_7 : decode cX9_cheap 7 = .ok (.iload 4, 2) := by decide +kernel
theorem dX9_cheap_9 : decode cX9_cheap 9 = .ok (.aload_n 0, 1) := by decide +kernel
theorem dX9_cheap_10 : decode cX9_cheap 10 = .ok (.getfield 153, 3) := by decide +kernel
theorem dX9_cheap_13 : decode cX9_cheap 13 = .ok (.if_icmp .ge 72, 3) := by decide +kernel
theorem dX9_cheap_16 : decode cX9_cheap 16 = .ok (.aload_n 0, 1) := by decide +kernel
theorem dX9_cheap_17 : decode cX9_cheap 17 = .ok (.iload 4, 2) := by decide +kernel
theorem dX9_cheap_19 : decode cX9_cheap 19 = .ok (.iload_n 1, 1) := by decide +kernel
theorem dX9_cheap_20 : decode cX9_cheap 20 = .ok (.invokevirtual 298, 3) := by decide +kernel
theorem dX9_cheap_23 : decode cX9_cheap 23 = .ok (.iconst (-1), 1) := by decide +kernel
theorem dX9_cheap_24 : decode cX9_cheap 24 = .ok (.if_icmp .ne 55, 3) := by decide +kernel
theorem dX9_cheap_27 : decode cX9_cheap 27 = .ok (.aload_n 0, 1) := by decide +kernel
theorem dX9_cheap_28 : decode cX9_cheap 28 = .ok (.invokevirtual 385, 3) := by decide +kernel
theorem dX9_cheap_31 : decode cX9_cheap 31 = .ok (.aload_n 0, 1) := by decide +kernel
theorem dX9_cheap_32 : decode cX9_cheap 32 = .ok (.iload 4, 2) := by decide +kernel
theorem dX9_cheap_34 : decode cX9_cheap 34 = .ok (.iload_n 1, 1) := by decide +kernel
theorem dX9_cheap_35 : decode cX9_cheap 35 = .ok (.invokevirtual 310, 3) := by decide +kernel
theorem dX9_cheap_38 : decode cX9_cheap 38 = .ok (.pop, 1) := by decide +kernel
theorem dX9_cheap_39 : decode cX9_cheap 39 = .ok (.aload_n 0, 1) := by decide +kernel
theorem dX9_cheap_40 : decode cX9_cheap 40 = .ok (.getfield 34, 3) := by decide +kernel
theorem dX9_cheap_43 : decode cX9_cheap 43 = .ok (.sipush 170, 3) := by decide +kernel
theorem dX9_cheap_46 : decode cX9_cheap 46 = .ok (.iaload, 1) := by decide +kernel
theorem dX9_cheap_47 : decode cX9_cheap 47 = .ok (.aload_n 0, 1) := by decide +kernel
theorem dX9_cheap_48 : decode cX9_cheap 48 = .ok (.getfield 49, 3) := by decide +kernel
theorem dX9_cheap_51 : decode cX9_cheap 51 = .ok (.sipush 170, 3) := by decide +kernel
theorem dX9_cheap_54 : decode cX9_cheap 54 = .ok (.iaload, 1) := by decide +kernel
theorem dX9_cheap_55 : decode cX9_cheap 55 = .ok (.isub, 1) := by decide +kernel
theorem dX9_cheap_56 : decode cX9_cheap 56 = .ok (.istore 5, 2) := by decide +kernel
theorem dX9_cheap_58 : decode cX9_cheap 58 = .ok (.aload_n 0, 1) := by decide +kernel
theorem dX9_cheap_59 : decode cX9_cheap 59 = .ok (.invokevirtual 400, 3) := by decide +kernel
theorem dX9_cheap_62 : decode cX9_cheap 62 = .ok (.iload_n 2, 1) := by decide +kernel
theorem dX9_cheap_63 : decode cX9_cheap 63 = .ok (.iconst (-1), 1) := by decide +kernel
theorem dX9_cheap_64 : decode cX9_cheap 64 = .ok (.if_icmp .eq 9, 3) := by decide +kernel
theorem dX9_cheap_67 : decode cX9_cheap 67 = .ok (.iload 5, 2) := by decide +kernel
theorem dX9_cheap_69 : decode cX9_cheap 69 = .ok (.iload_n 3, 1) := by decide +kernel
theorem dX9_cheap_70 : decode cX9_cheap 70 = .ok (.if_icmp .ge 9, 3) := by decide +kernel
theorem dX9_cheap_73 : decode cX9_cheap 73 = .ok (.iload 4, 2) := by decide +kernel
theorem dX9_cheap_75 : decode cX9_cheap 75 = .ok (.istore_n 2, 1) := by decide +kernel
theorem dX9_cheap_76 : decode cX9_cheap 76 = .ok (.iload 5, 2) := by decide +kernel
theorem dX9_cheap_78 : decode cX9_cheap 78 = .ok (.istore_n 3, 1) := by decide +kernel
theorem dX9_cheap_79 : decode cX9_cheap 79 = .ok (.iinc 4 1, 3) := by decide +kernel
theorem dX9_cheap_82 : decode cX9_cheap 82 = .ok (.goto (-75), 3) := by decide +kernel
theorem dX9_cheap_85 : decode cX9_cheap 85 = .ok (.iload_n 2, 1) := by decide +kernel
theorem dX9_cheap_86 : decode cX9_cheap 86 = .ok (.ireturn, 1) := by decide +kernel
theorem dX9_idle_0 : decode cX9_idle 0 = .ok (.aload_n 0, 1) := by decide +kernel
theorem dX9_idle_1 : decode cX9_idle 1 = .ok (.invokevirtual 156, 3) := by decide +kernel
theorem dX9_idle_4 : decode cX9_idle 4 = .ok (.ifCond .eq 30, 3) := by decide +kernel
theorem dX9_idle_7 : decode cX9_idle 7 = .ok (.iload_n 1, 1) := by decide +kernel
theorem dX9_idle_8 : decode cX9_idle 8 = .ok (.iconst 1, 1) := by decide +kernel
theorem dX9_idle_9 : decode cX9_idle 9 = .ok (.bipush 99, 2) := by decide +kernel
theorem dX9_idle_11 : decode cX9_idle 11 = .ok (.invokestatic 76, 3) := by decide +kernel
theorem dX9_idle_14 : decode cX9_idle 14 = .ok (.ifCond .eq 20, 3) := by decide +kernel
theorem dX9_idle_17 : decode cX9_idle 17 = .ok (.aload_n 0, 1) := by decide +kernel
theorem dX9_idle_18 : decode cX9_idle 18 = .ok (.aload_n 0, 1) := by decide +kernel
theorem dX9_idle_19 : decode cX9_idle 19 = .ok (.getfield 34, 3) := by decide +kernel
theorem dX9_idle_22 : decode cX9_idle 22 = .ok (.sipush 170, 3) := by decide +kernel
theorem dX9_idle_25 : decode cX9_idle 25 = .ok (.iaload, 1) := by decide +kernel
theorem dX9_idle_26 : decode cX9_idle 26 = .ok (.iload_n 1, 1) := by decide +kernel
theorem dX9_idle_27 : decode cX9_idle 27 = .ok (.iadd, 1) := by decide +kernel
theorem dX9_idle_28 : decode cX9_idle 28 = .ok (.invokevirtual 280, 3) := by decide +kernel
theorem dX9_idle_31 : decode cX9_idle 31 = .ok (.goto 4, 3) := by decide +kernel
theorem dX9_idle_34 : decode cX9_idle 34 = .ok (.iconst (-1), 1) := by decide +kernel
theorem dX9_idle_35 : decode cX9_idle 35 = .ok (.ireturn, 1) := by decide +kernel
theorem dX9_shares_0 : decode cX9_shares 0 = .ok (.aload_n 0, 1) := by decide +kernel
theorem dX9_shares_1 : decode cX9_shares 1 = .ok (.iload_n 1, 1) := by decide +kernel
theorem dX9_shares_2 : decode cX9_shares 2 = .ok (.invokevirtual 169, 3) := by decide +kernel
theorem dX9_shares_5 : decode cX9_shares 5 = .ok (.ifCond .eq 14, 3) := by decide +kernel
theorem dX9_shares_8 : decode cX9_shares 8 = .ok (.iload_n 2, 1) := by decide +kernel
theorem dX9_shares_9 : decode cX9_shares 9 = .ok (.iconst 0, 1) := by decide +kernel
theorem dX9_shares_10 : decode cX9_shares 10 = .ok (.sipush 999, 3) := by decide +kernel
theorem dX9_shares_13 : decode cX9_shares 13 = .ok (.invokestatic 76, 3) := by decide +kernel
theorem dX9_shares_16 : decode cX9_shares 16 = .ok (.ifCond .ne 5, 3) := by decide +kernel
theorem dX9_shares_19 : decode cX9_shares 19 = .ok (.iconst (-1), 1) := by decide +kernel
theorem dX9_shares_20 : decode cX9_shares 20 = .ok (.ireturn, 1) := by decide +kernel
theorem dX9_shares_21 : decode cX9_shares 21 = .ok (.iconst 0, 1) := by decide +kernel
theorem dX9_shares_22 : decode cX9_shares 22 = .ok (.istore_n 3, 1) := by decide +kernel
theorem dX9_shares_23 : decode cX9_shares 23 = .ok (.iconst 0, 1) := by decide +kernel
theorem dX9_shares_24 : decode cX9_shares 24 = .ok (.istore 4, 2) := by decide +kernel
theorem dX9_shares_26 : decode cX9_shares 26 = .ok (.iload 4, 2) := by decide +kernel
theorem dX9_shares_28 : decode cX9_shares 28 = .ok (.aload_n 0, 1) := by decide +kernel
theorem dX9_shares_29 : decode cX9_shares 29 = .ok (.getfield 153, 3) := by decide +kernel
theorem dX9_shares_32 : decode cX9_shares 32 = .ok (.if_icmp .ge 18, 3) := by decide +kernel
theorem dX9_shares_35 : decode cX9_shares 35 = .ok (.iload_n 3, 1) := by decide +kernel
theorem dX9_shares_36 : decode cX9_shares 36 = .ok (.aload_n 0, 1) := by decide +kernel
theorem dX9_shares_37 : decode cX9_shares 37 = .ok (.iload 4, 2) := by decide +kernel
theorem dX9_shares_39 : decode cX9_shares 39 = .ok (.invokevirtual 364, 3) := by decide +kernel
theorem dX9_shares_42 : decode cX9_shares 42 = .ok (.iadd, 1) := by decide +kernel
theorem dX9_shares_43 : decode cX9_shares 43 = .ok (.istore_n 3, 1) := by decide +kernel
theorem dX9_shares_44 : decode cX9_shares 44 = .ok (.iinc 4 1, 3) := by decide +kernel
theorem dX9_shares_47 : decode cX9_shares 47 = .ok (.goto (-21), 3) := by decide +kernel
theorem dX9_shares_50 : decode cX9_shares 50 = .ok (.iload_n 3, 1) := by decide +kernel
theorem dX9_shares_51 : decode cX9_shares 51 = .ok (.ifCond .ne 7, 3) := by decide +kernel
theorem dX9_shares_54 : decode cX9_shares 54 = .ok (.iconst 0, 1) := by decide +kernel
theorem dX9_shares_55 : decode cX9_shares 55 = .ok (.goto 12, 3) := by decide +kernel
theorem dX9_shares_58 : decode cX9_shares 58 = .ok (.iload_n 2, 1) := by decide +kernel
theorem dX9_shares_59 : decode cX9_shares 59 = .ok (.aload_n 0, 1) := by decide +kernel
theorem dX9_shares_60 : decode cX9_shares 60 = .ok (.iload_n 1, 1) := by decide +kernel
theorem dX9_shares_61 : decode cX9_shares 61 = .ok (.invokevirtual 364, 3) := by decide +kernel
theorem dX9_shares_64 : decode cX9_shares 64 = .ok (.imul, 1) := by decide +kernel
theorem dX9_shares_65 : decode cX9_shares 65 = .ok (.iload_n 3, 1) := by decide +kernel
theorem dX9_shares_66 : decode cX9_shares 66 = .ok (.idiv, 1) := by decide +kernel
theorem dX9_shares_67 : decode cX9_shares 67 = .ok (.ireturn, 1) := by decide +kernel
theorem dX9_isScript_0 : decode cX9_isScript 0 = .ok (.iload_n 1, 1) := by decide +kernel
theorem dX9_isScript_1 : decode cX9_isScript 1 = .ok (.iconst 0, 1) := by decide +kernel
theorem dX9_isScript_2 : decode cX9_isScript 2 = .ok (.aload_n 0, 1) := by decide +kernel
theorem dX9_isScript_3 : decode cX9_isScript 3 = .ok (.getfield 188, 3) := by decide +kernel
theorem dX9_isScript_6 : decode cX9_isScript 6 = .ok (.iconst 1, 1) := by decide +kernel
theorem dX9_isScript_7 : decode cX9_isScript 7 = .ok (.isub, 1) := by decide +kernel
theorem dX9_isScript_8 : decode cX9_isScript 8 = .ok (.invokestatic 76, 3) := by decide +kernel
theorem dX9_isScript_11 : decode cX9_isScript 11 = .ok (.ireturn, 1) := by decide +kernel
theorem dX9_step_0 : decode cX9_step 0 = .ok (.aload_n 0, 1) := by decide +kernel
theorem dX9_step_1 : decode cX9_step 1 = .ok (.iload_n 1, 1) := by decide +kernel
theorem dX9_step_2 : decode cX9_step 2 = .ok (.invokevirtual 406, 3) := by decide +kernel
theorem dX9_step_5 : decode cX9_step 5 = .ok (.ifCond .eq 46, 3) := by decide +kernel
theorem dX9_step_8 : decode cX9_step 8 = .ok (.iload_n 2, 1) := by decide +kernel
theorem dX9_step_9 : decode cX9_step 9 = .ok (.iconst 0, 1) := by decide +kernel
theorem dX9_step_10 : decode cX9_step 10 = .ok (.aload_n 0, 1) := by decide +kernel
theorem dX9_step_11 : decode cX9_step 11 = .ok (.getfield 31, 3) := by decide +kernel
theorem dX9_step_14 : decode cX9_step 14 = .ok (.iload_n 1, 1) := by decide +kernel
theorem dX9_step_15 : decode cX9_step 15 = .ok (.iaload, 1) := by decide +kernel
theorem dX9_step_16 : decode cX9_step 16 = .ok (.iconst 1, 1) := by decide +kernel
theorem dX9_step_17 : decode cX9_step 17 = .ok (.isub, 1) := by decide +kernel
theorem dX9_step_18 : decode cX9_step 18 = .ok (.invokestatic 76, 3) := by decide +kernel
theorem dX9_step_21 : decode cX9_step 21 = .ok (.ifCond .eq 30, 3) := by decide +kernel
theorem dX9_step_24 : decode cX9_step 24 = .ok (.iload_n 3, 1) := by decide +kernel
theorem dX9_step_25 : decode cX9_step 25 = .ok (.iconst 0, 1) := by decide +kernel
theorem dX9_step_26 : decode cX9_step 26 = .ok (.iconst 2, 1) := by decide +kernel
theorem dX9_step_27 : decode cX9_step 27 = .ok (.invokestatic 76, 3) := by decide +kernel
theorem dX9_step_30 : decode cX9_step 30 = .ok (.ifCond .eq 21, 3) := by decide +kernel
theorem dX9_step_33 : decode cX9_step 33 = .ok (.aload_n 0, 1) := by decide +kernel
theorem dX9_step_34 : decode cX9_step 34 = .ok (.getfield 28, 3) := by decide +kernel
theorem dX9_step_37 : decode cX9_step 37 = .ok (.iconst 3, 1) := by decide +kernel
theorem dX9_step_38 : decode cX9_step 38 = .ok (.bipush 16, 2) := by decide +kernel
theorem dX9_step_40 : decode cX9_step 40 = .ok (.iload_n 1, 1) := by decide +kernel
theorem dX9_step_41 : decode cX9_step 41 = .ok (.imul, 1) := by decide +kernel
theorem dX9_step_42 : decode cX9_step 42 = .ok (.iload_n 2, 1) := by decide +kernel
theorem dX9_step_43 : decode cX9_step 43 = .ok (.iadd, 1) := by decide +kernel
theorem dX9_step_44 : decode cX9_step 44 = .ok (.imul, 1) := by decide +kernel
theorem dX9_step_45 : decode cX9_step 45 = .ok (.iload_n 3, 1) := by decide +kernel
theorem dX9_step_46 : decode cX9_step 46 = .ok (.iadd, 1) := by decide +kernel
theorem dX9_step_47 : decode cX9_step 47 = .ok (.iaload, 1) := by decide +kernel
theorem dX9_step_48 : decode cX9_step 48 = .ok (.goto 6, 3) := by decide +kernel
theorem dX9_step_51 : decode cX9_step 51 = .ok (.ldc_w 363, 3) := by decide +kernel
theorem dX9_step_54 : decode cX9_step 54 = .ok (.ireturn, 1) := by decide +kernel
theorem dX9_actOf_0 : decode cX9_actOf 0 = .ok (.iload_n 0, 1) := by decide +kernel
theorem dX9_actOf_1 : decode cX9_actOf 1 = .ok (.tableswitch 79 0 9 #[55, 57, 59, 61, 63, 65, 67, 70, 73, 76], 55) := by decide +kernel
theorem dX9_actOf_56 : decode cX9_actOf 56 = .ok (.iconst 0, 1) := by decide +kernel
theorem dX9_actOf_57 : decode cX9_actOf 57 = .ok (.ireturn, 1) := by decide +kernel
theorem dX9_actOf_58 : decode cX9_actOf 58 = .ok (.iconst 1, 1) := by decide +kernel
theorem dX9_actOf_59 : decode cX9_actOf 59 = .ok (.ireturn, 1) := by decide +kernel
theorem dX9_actOf_60 : decode cX9_actOf 60 = .ok (.iconst 2, 1) := by decide +kernel
theorem dX9_actOf_61 : decode cX9_actOf 61 = .ok (.ireturn, 1) := by decide +kernel
theorem dX9_actOf_62 : decode cX9_actOf 62 = .ok (.iconst 3, 1) := by decide +kernel
theorem dX9_actOf_63 : decode cX9_actOf 63 = .ok (.ireturn, 1) := by decide +kernel
theorem dX9_actOf_64 : decode cX9_actOf 64 = .ok (.iconst 4, 1) := by decide +kernel
theorem dX9_actOf_65 : decode cX9_actOf 65 = .ok (.ireturn, 1) := by decide +kernel
theorem dX9_actOf_66 : decode cX9_actOf 66 = .ok (.iconst 5, 1) := by decide +kernel
theorem dX9_actOf_67 : decode cX9_actOf 67 = .ok (.ireturn, 1) := by decide +kernel
theorem dX9_actOf_68 : decode cX9_actOf 68 = .ok (.bipush 6, 2) := by decide +kernel
theorem dX9_actOf_70 : decode cX9_actOf 70 = .ok (.ireturn, 1) := by decide +kernel
theorem dX9_actOf_71 : decode cX9_actOf 71 = .ok (.bipush 7, 2) := by decide +kernel
theorem dX9_actOf_73 : decode cX9_actOf 73 = .ok (.ireturn, 1) := by decide +kernel
theorem dX9_actOf_74 : decode cX9_actOf 74 = .ok (.bipush 8, 2) := by decide +kernel
theorem dX9_actOf_76 : decode cX9_actOf 76 = .ok (.ireturn, 1) := by decide +kernel
theorem dX9_actOf_77 : decode cX9_actOf 77 = .ok (.bipush 9, 2) := by decide +kernel
theorem dX9_actOf_79 : decode cX9_actOf 79 = .ok (.ireturn, 1) := by decide +kernel
theorem dX9_actOf_80 : decode cX9_actOf 80 = .ok (.bipush 10, 2) := by decide +kernel
theorem dX9_actOf_82 : decode cX9_actOf 82 = .ok (.ireturn, 1) := by decide +kernel
theorem dX9_goSteps_0 : decode cX9_goSteps 0 = .ok (.iconst 0, 1) := by decide +kernel
theorem dX9_goSteps_1 : decode cX9_goSteps 1 = .ok (.istore_n 3, 1) := by decide +kernel
theorem dX9_goSteps_2 : decode cX9_goSteps 2 = .ok (.iload_n 3, 1) := by decide +kernel
theorem dX9_goSteps_3 : decode cX9_goSteps 3 = .ok (.aload_n 0, 1) := by decide +kernel
theorem dX9_goSteps_4 : decode cX9_goSteps 4 = .ok (.getfield 31, 3) := by decide +kernel
theorem dX9_goSteps_7 : decode cX9_goSteps 7 = .ok (.iload_n 1, 1) := by decide +kernel
theorem dX9_goSteps_8 : decode cX9_goSteps 8 = .ok (.iaload, 1) := by decide +kernel
theorem dX9_goSteps_9 : decode cX9_goSteps 9 = .ok (.if_icmp .ge 118, 3) := by decide +kernel
theorem dX9_goSteps_12 : decode cX9_goSteps 12 = .ok (.iconst 3, 1) := by decide +kernel
theorem dX9_goSteps_13 : decode cX9_goSteps 13 = .ok (.bipush 16, 2) := by decide +kernel
theorem dX9_goSteps_15 : decode cX9_goSteps 15 = .ok (.iload_n 1, 1) := by decide +kernel
theorem dX9_goSteps_16 : decode cX9_goSteps 16 = .ok (.imul, 1) := by decide +kernel
theorem dX9_goSteps_17 : decode cX9_goSteps 17 = .ok (.iload_n 3, 1) := by decide +kernel
theorem dX9_goSteps_18 : decode cX9_goSteps 18 = .ok (.iadd, 1) := by decide +kernel
theorem dX9_goSteps_19 : decode cX9_goSteps 19 = .ok (.imul, 1) := by decide +kernel
theorem dX9_goSteps_20 : decode cX9_goSteps 20 = .ok (.istore 4, 2) := by decide +kernel
theorem dX9_goSteps_22 : decode cX9_goSteps 22 = .ok (.aload_n 0, 1) := by decide +kernel
theorem dX9_goSteps_23 : decode cX9_goSteps 23 = .ok (.getfield 28, 3) := by decide +kernel
theorem dX9_goSteps_26 : decode cX9_goSteps 26 = .ok (.iload 4, 2) := by decide +kernel
theorem dX9_goSteps_28 : decode cX9_goSteps 28 = .ok (.iaload, 1) := by decide +kernel
theorem dX9_goSteps_29 : decode cX9_goSteps 29 = .ok (.invokestatic 409, 3) := by decide +kernel
theorem dX9_goSteps_32 : decode cX9_goSteps 32 = .ok (.istore 5, 2) := by decide +kernel
theorem dX9_goSteps_34 : decode cX9_goSteps 34 = .ok (.aload_n 0, 1) := by decide +kernel
theorem dX9_goSteps_35 : decode cX9_goSteps 35 = .ok (.iload 5, 2) := by decide +kernel
theorem dX9_goSteps_37 : decode cX9_goSteps 37 = .ok (.aload_n 0, 1) := by decide +kernel
theorem dX9_goSteps_38 : decode cX9_goSteps 38 = .ok (.getfield 28, 3) := by decide +kernel
theorem dX9_goSteps_41 : decode cX9_goSteps 41 = .ok (.iload 4, 2) := by decide +kernel
theorem dX9_goSteps_43 : decode cX9_goSteps 43 = .ok (.iconst 1, 1) := by decide +kernel
theorem dX9_goSteps_44 : decode cX9_goSteps 44 = .ok (.iadd, 1) := by decide +kernel
theorem dX9_goSteps_45 : decode cX9_goSteps 45 = .ok (.iaload, 1) := by decide +kernel
theorem dX9_goSteps_46 : decode cX9_goSteps 46 = .ok (.aload_n 0, 1) := by decide +kernel
theorem dX9_goSteps_47 : decode cX9_goSteps 47 = .ok (.getfield 28, 3) := by decide +kernel
theorem dX9_goSteps_50 : decode cX9_goSteps 50 = .ok (.iload 4, 2) := by decide +kernel
theorem dX9_goSteps_52 : decode cX9_goSteps 52 = .ok (.iconst 2, 1) := by decide +kernel
theorem dX9_goSteps_53 : decode cX9_goSteps 53 = .ok (.iadd, 1) := by decide +kernel
theorem dX9_goSteps_54 : decode cX9_goSteps 54 = .ok (.iaload, 1) := by decide +kernel
theorem dX9_goSteps_55 : decode cX9_goSteps 55 = .ok (.invokevirtual 337, 3) := by decide +kernel
theorem dX9_goSteps_58 : decode cX9_goSteps 58 = .ok (.iconst (-1), 1) := by decide +kernel
theorem dX9_goSteps_59 : decode cX9_goSteps 59 = .ok (.if_icmp .eq 5, 3) := by decide +kernel
theorem dX9_goSteps_62 : decode cX9_goSteps 62 = .ok (.iload_n 3, 1) := by decide +kernel
theorem dX9_goSteps_63 : decode cX9_goSteps 63 = .ok (.ireturn, 1) := by decide +kernel
theorem dX9_goSteps_64 : decode cX9_goSteps 64 = .ok (.iload_n 2, 1) := by decide +kernel
theorem dX9_goSteps_65 : decode cX9_goSteps 65 = .ok (.ifCond .eq 31, 3) := by decide +kernel
theorem dX9_goSteps_68 : decode cX9_goSteps 68 = .ok (.aload_n 0, 1) := by decide +kernel
theorem dX9_goSteps_69 : decode cX9_goSteps 69 = .ok (.iload 5, 2) := by decide +kernel
theorem dX9_goSteps_71 : decode cX9_goSteps 71 = .ok (.aload_n 0, 1) := by decide +kernel
theorem dX9_goSteps_72 : decode cX9_goSteps 72 = .ok (.getfield 28, 3) := by decide +kernel
theorem dX9_goSteps_75 : decode cX9_goSteps 75 = .ok (.iload 4, 2) := by decide +kernel
theorem dX9_goSteps_77 : decode cX9_goSteps 77 = .ok (.iconst 1, 1) := by decide +kernel
theorem dX9_goSteps_78 : decode cX9_goSteps 78 = .ok (.iadd, 1) := by decide +kernel
theorem dX9_goSteps_79 : decode cX9_goSteps 79 = .ok (.iaload, 1) := by decide +kernel
theorem dX9_goSteps_80 : decode cX9_goSteps 80 = .ok (.aload_n 0, 1) := by decide +kernel
theorem dX9_goSteps_81 : decode cX9_goSteps 81 = .ok (.getfield 28, 3) := by decide +kernel
theorem dX9_goSteps_84 : decode cX9_goSteps 84 = .ok (.iload 4, 2) := by decide +kernel
theorem dX9_goSteps_86 : decode cX9_goSteps 86 = .ok (.iconst 2, 1) := by decide +kernel
theorem dX9_goSteps_87 : decode cX9_goSteps 87 = .ok (.iadd, 1) := by decide +kernel
theorem dX9_goSteps_88 : decode cX9_goSteps 88 = .ok (.iaload, 1) := by decide +kernel
theorem dX9_goSteps_89 : decode cX9_goSteps 89 = .ok (.invokevirtual 340, 3) := by decide +kernel
theorem dX9_goSteps_92 : decode cX9_goSteps 92 = .ok (.pop, 1) := by decide +kernel
theorem dX9_goSteps_93 : decode cX9_goSteps 93 = .ok (.goto 28, 3) := by decide +kernel
theorem dX9_goSteps_96 : decode cX9_goSteps 96 = .ok (.aload_n 0, 1) := by decide +kernel
theorem dX9_goSteps_97 : decode cX9_goSteps 97 = .ok (.iload 5, 2) := by decide +kernel
theorem dX9_goSteps_99 : decode cX9_goSteps 99 = .ok (.aload_n 0, 1) := by decide +kernel
theorem dX9_goSteps_100 : decode cX9_goSteps 100 = .ok (.getfield 28, 3) := by decide +kernel
theorem dX9_goSteps_103 : decode cX9_goSteps 103 = .ok (.iload 4, 2) := by decide +kernel
theorem dX9_goSteps_105 : decode cX9_goSteps 105 = .ok (.iconst 1, 1) := by decide +kernel
theorem dX9_goSteps_106 : decode cX9_goSteps 106 = .ok (.iadd, 1) := by decide +kernel
theorem dX9_goSteps_107 : decode cX9_goSteps 107 = .ok (.iaload, 1) := by decide +kernel
theorem dX9_goSteps_108 : decode cX9_goSteps 108 = .ok (.aload_n 0, 1) := by decide +kernel
theorem dX9_goSteps_109 : decode cX9_goSteps 109 = .ok (.getfield 28, 3) := by decide +kernel
theorem dX9_goSteps_112 : decode cX9_goSteps 112 = .ok (.iload 4, 2) := by decide +kernel
theorem dX9_goSteps_114 : decode cX9_goSteps 114 = .ok (.iconst 2, 1) := by decide +kernel
theorem dX9_goSteps_115 : decode cX9_goSteps 115 = .ok (.iadd, 1) := by decide +kernel
theorem dX9_goSteps_116 : decode cX9_goSteps 116 = .ok (.iaload, 1) := by decide +kernel
theorem dX9_goSteps_117 : decode cX9_goSteps 117 = .ok (.invokevirtual 331, 3) := by decide +kernel
theorem dX9_goSteps_120 : decode cX9_goSteps 120 = .ok (.pop, 1) := by decide +kernel
theorem dX9_goSteps_121 : decode cX9_goSteps 121 = .ok (.iinc 3 1, 3) := by decide +kernel
theorem dX9_goSteps_124 : decode cX9_goSteps 124 = .ok (.goto (-122), 3) := by decide +kernel
theorem dX9_goSteps_127 : decode cX9_goSteps 127 = .ok (.aload_n 0, 1) := by decide +kernel
theorem dX9_goSteps_128 : decode cX9_goSteps 128 = .ok (.getfield 31, 3) := by decide +kernel
theorem dX9_goSteps_131 : decode cX9_goSteps 131 = .ok (.iload_n 1, 1) := by decide +kernel
theorem dX9_goSteps_132 : decode cX9_goSteps 132 = .ok (.iaload, 1) := by decide +kernel
theorem dX9_goSteps_133 : decode cX9_goSteps 133 = .ok (.ireturn, 1) := by decide +kernel
theorem dX9_run_0 : decode cX9_run 0 = .ok (.aload_n 0, 1) := by decide +kernel
theorem dX9_run_1 : decode cX9_run 1 = .ok (.iload_n 1, 1) := by decide +kernel
theorem dX9_run_2 : decode cX9_run 2 = .ok (.invokevirtual 406, 3) := by decide +kernel
theorem dX9_run_5 : decode cX9_run 5 = .ok (.ifCond .eq 19, 3) := by decide +kernel
theorem dX9_run_8 : decode cX9_run 8 = .ok (.aload_n 0, 1) := by decide +kernel
theorem dX9_run_9 : decode cX9_run 9 = .ok (.invokevirtual 156, 3) := by decide +kernel
theorem dX9_run_12 : decode cX9_run 12 = .ok (.ifCond .eq 12, 3) := by decide +kernel
theorem dX9_run_15 : decode cX9_run 15 = .ok (.iload_n 2, 1) := by decide +kernel
theorem dX9_run_16 : decode cX9_run 16 = .ok (.iconst 0, 1) := by decide +kernel
theorem dX9_run_17 : decode cX9_run 17 = .ok (.iconst 1, 1) := by decide +kernel
theorem dX9_run_18 : decode cX9_run 18 = .ok (.invokestatic 76, 3) := by decide +kernel
theorem dX9_run_21 : decode cX9_run 21 = .ok (.ifCond .ne 7, 3) := by decide +kernel
theorem dX9_run_24 : decode cX9_run 24 = .ok (.ldc_w 363, 3) := by decide +kernel
theorem dX9_run_27 : decode cX9_run 27 = .ok (.ireturn, 1) := by decide +kernel
theorem dX9_run_28 : decode cX9_run 28 = .ok (.aload_n 0, 1) := by decide +kernel
theorem dX9_run_29 : decode cX9_run 29 = .ok (.invokevirtual 412, 3) := by decide +kernel
theorem dX9_run_32 : decode cX9_run 32 = .ok (.aload_n 0, 1) := by decide +kernel
theorem dX9_run_33 : decode cX9_run 33 = .ok (.iload_n 1, 1) := by decide +kernel
theorem dX9_run_34 : decode cX9_run 34 = .ok (.iconst 0, 1) := by decide +kernel
theorem dX9_run_35 : decode cX9_run 35 = .ok (.invokevirtual 415, 3) := by decide +kernel
theorem dX9_run_38 : decode cX9_run 38 = .ok (.istore_n 3, 1) := by decide +kernel
theorem dX9_run_39 : decode cX9_run 39 = .ok (.aload_n 0, 1) := by decide +kernel
theorem dX9_run_40 : decode cX9_run 40 = .ok (.getfield 34, 3) := by decide +kernel
theorem dX9_run_43 : decode cX9_run 43 = .ok (.sipush 170, 3) := by decide +kernel
theorem dX9_run_46 : decode cX9_run 46 = .ok (.iaload, 1) := by decide +kernel
theorem dX9_run_47 : decode cX9_run 47 = .ok (.istore 4, 2) := by decide +kernel
theorem dX9_run_49 : decode cX9_run 49 = .ok (.iconst 0, 1) := by decide +kernel
theorem dX9_run_50 : decode cX9_run 50 = .ok (.istore 5, 2) := by decide +kernel
theorem dX9_run_52 : decode cX9_run 52 = .ok (.iload 5, 2) := by decide +kernel
theorem dX9_run_54 : decode cX9_run 54 = .ok (.sipush 172, 3) := by decide +kernel
theorem dX9_run_57 : decode cX9_run 57 = .ok (.if_icmp .ge 23, 3) := by decide +kernel
theorem dX9_run_60 : decode cX9_run 60 = .ok (.aload_n 0, 1) := by decide +kernel
theorem dX9_run_61 : decode cX9_run 61 = .ok (.getfield 34, 3) := by decide +kernel
theorem dX9_run_64 : decode cX9_run 64 = .ok (.iload 5, 2) := by decide +kernel
theorem dX9_run_66 : decode cX9_run 66 = .ok (.aload_n 0, 1) := by decide +kernel
theorem dX9_run_67 : decode cX9_run 67 = .ok (.getfield 59, 3) := by decide +kernel
theorem dX9_run_70 : decode cX9_run 70 = .ok (.iload 5, 2) := by decide +kernel
theorem dX9_run_72 : decode cX9_run 72 = .ok (.iaload, 1) := by decide +kernel
theorem dX9_run_73 : decode cX9_run 73 = .ok (.iastore, 1) := by decide +kernel
theorem dX9_run_74 : decode cX9_run 74 = .ok (.iinc 5 1, 3) := by decide +kernel
theorem dX9_run_77 : decode cX9_run 77 = .ok (.goto (-25), 3) := by decide +kernel
theorem dX9_run_80 : decode cX9_run 80 = .ok (.iload_n 2, 1) := by decide +kernel
theorem dX9_run_81 : decode cX9_run 81 = .ok (.iconst 1, 1) := by decide +kernel
theorem dX9_run_82 : decode cX9_run 82 = .ok (.if_icmp .ne 8, 3) := by decide +kernel
theorem dX9_run_85 : decode cX9_run 85 = .ok (.iload 4, 2) := by decide +kernel
theorem dX9_run_87 : decode cX9_run 87 = .ok (.goto 18, 3) := by decide +kernel
theorem dX9_run_90 : decode cX9_run 90 = .ok (.iload_n 3, 1) := by decide +kernel
theorem dX9_run_91 : decode cX9_run 91 = .ok (.aload_n 0, 1) := by decide +kernel
theorem dX9_run_92 : decode cX9_run 92 = .ok (.getfield 31, 3) := by decide +kernel
theorem dX9_run_95 : decode cX9_run 95 = .ok (.iload_n 1, 1) := by decide +kernel
theorem dX9_run_96 : decode cX9_run 96 = .ok (.iaload, 1) := by decide +kernel
theorem dX9_run_97 : decode cX9_run 97 = .ok (.if_icmp .ne 7, 3) := by decide +kernel
theorem dX9_run_100 : decode cX9_run 100 = .ok (.iconst (-1), 1) := by decide +kernel
theorem dX9_run_101 : decode cX9_run 101 = .ok (.goto 4, 3) := by decide +kernel
theorem dX9_run_104 : decode cX9_run 104 = .ok (.iload_n 3, 1) := by decide +kernel
theorem dX9_run_105 : decode cX9_run 105 = .ok (.ireturn, 1) := by decide +kernel
theorem dX9_putRunAside_0 : decode cX9_putRunAside 0 = .ok (.iconst 0, 1) := by decide +kernel
theorem dX9_putRunAside_1 : decode cX9_putRunAside 1 = .ok (.istore_n 1, 1) := by decide +kernel
theorem dX9_putRunAside_2 : decode cX9_putRunAside 2 = .ok (.iload_n 1, 1) := by decide +kernel
theorem dX9_putRunAside_3 : decode cX9_putRunAside 3 = .ok (.sipush 172, 3) := by decide +kernel
theorem dX9_putRunAside_6 : decode cX9_putRunAside 6 = .ok (.if_icmp .ge 21, 3) := by decide +kernel
theorem dX9_putRunAside_9 : decode cX9_putRunAside 9 = .ok (.aload_n 0, 1) := by decide +kernel
theorem dX9_putRunAside_10 : decode cX9_putRunAside 10 = .ok (.getfield 59, 3) := by decide +kernel
theorem dX9_putRunAside_13 : decode cX9_putRunAside 13 = .ok (.iload_n 1, 1) := by decide +kernel
theorem dX9_putRunAside_14 : decode cX9_putRunAside 14 = .ok (.aload_n 0, 1) := by decide +kernel
theorem dX9_putRunAside_15 : decode cX9_putRunAside 15 = .ok (.getfield 34, 3) := by decide +kernel
theorem dX9_putRunAside_18 : decode cX9_putRunAside 18 = .ok (.iload_n 1, 1) := by decide +kernel
theorem dX9_putRunAside_19 : decode cX9_putRunAside 19 = .ok (.iaload, 1) := by decide +kernel
theorem dX9_putRunAside_20 : decode cX9_putRunAside 20 = .ok (.iastore, 1) := by decide +kernel
theorem dX9_putRunAside_21 : decode cX9_putRunAside 21 = .ok (.iinc 1 1, 3) := by decide +kernel
theorem dX9_putRunAside_24 : decode cX9_putRunAside 24 = .ok (.goto (-22), 3) := by decide +kernel
theorem dX9_putRunAside_27 : decode cX9_putRunAside 27 = .ok (.return_, 1) := by decide +kernel
theorem dX9_perform_0 : decode cX9_perform 0 = .ok (.aload_n 0, 1) := by decide +kernel
theorem dX9_perform_1 : decode cX9_perform 1 = .ok (.iload_n 1, 1) := by decide +kernel
theorem dX9_perform_2 : decode cX9_perform 2 = .ok (.invokevirtual 406, 3) := by decide +kernel
theorem dX9_perform_5 : decode cX9_perform 5 = .ok (.ifCond .eq 19, 3) := by decide +kernel
theorem dX9_perform_8 : decode cX9_perform 8 = .ok (.aload_n 0, 1) := by decide +kernel
theorem dX9_perform_9 : decode cX9_perform 9 = .ok (.invokevirtual 156, 3) := by decide +kernel
theorem dX9_perform_12 : decode cX9_perform 12 = .ok (.ifCond .eq 12, 3) := by decide +kernel
theorem dX9_perform_15 : decode cX9_perform 15 = .ok (.aload_n 0, 1) := by decide +kernel
theorem dX9_perform_16 : decode cX9_perform 16 = .ok (.iload_n 1, 1) := by decide +kernel
theorem dX9_perform_17 : decode cX9_perform 17 = .ok (.iconst 1, 1) := by decide +kernel
theorem dX9_perform_18 : decode cX9_perform 18 = .ok (.invokevirtual 415, 3) := by decide +kernel
theorem dX9_perform_21 : decode cX9_perform 21 = .ok (.goto 4, 3) := by decide +kernel
theorem dX9_perform_24 : decode cX9_perform 24 = .ok (.iconst (-1), 1) := by decide +kernel
theorem dX9_perform_25 : decode cX9_perform 25 = .ok (.ireturn, 1) := by decide +kernel
theorem dX9_driven_0 : decode cX9_driven 0 = .ok (.iconst 0, 1) := by decide +kernel
theorem dX9_driven_1 : decode cX9_driven 1 = .ok (.istore_n 1, 1) := by decide +kernel
theorem dX9_driven_2 : decode cX9_driven 2 = .ok (.iconst 0, 1) := by decide +kernel
theorem dX9_driven_3 : decode cX9_driven 3 = .ok (.istore_n 2, 1) := by decide +kernel
theorem dX9_driven_4 : decode cX9_driven 4 = .ok (.iload_n 2, 1) := by decide +kernel
theorem dX9_driven_5 : decode cX9_driven 5 = .ok (.aload_n 0, 1) := by decide +kernel
theorem dX9_driven_6 : decode cX9_driven 6 = .ok (.getfield 153, 3) := by decide +kernel
theorem dX9_driven_9 : decode cX9_driven 9 = .ok (.if_icmp .ge 27, 3) := by decide +kernel
theorem dX9_driven_12 : decode cX9_driven 12 = .ok (.iload_n 1, 1) := by decide +kernel
theorem dX9_driven_13 : decode cX9_driven 13 = .ok (.aload_n 0, 1) := by decide +kernel
theorem dX9_driven_14 : decode cX9_driven 14 = .ok (.iload_n 2, 1) := by decide +kernel
theorem dX9_driven_15 : decode cX9_driven 15 = .ok (.invokevirtual 209, 3) := by decide +kernel
theorem dX9_driven_18 : decode cX9_driven 18 = .ok (.ifCond .eq 9, 3) := by decide +kernel
theorem dX9_driven_21 : decode cX9_driven 21 = .ok (.iconst 1, 1) := by decide +kernel
theorem dX9_driven_22 : decode cX9_driven 22 = .ok (.iload_n 2, 1) := by decide +kernel
theorem dX9_driven_23 : decode cX9_driven 23 = .ok (.ishl, 1) := by decide +kernel
theorem dX9_driven_24 : decode cX9_driven 24 = .ok (.goto 4, 3) := by decide +kernel
theorem dX9_driven_27 : decode cX9_driven 27 = .ok (.iconst 0, 1) := by decide +kernel
theorem dX9_driven_28 : decode cX9_driven 28 = .ok (.ior, 1) := by decide +kernel
theorem dX9_driven_29 : decode cX9_driven 29 = .ok (.istore_n 1, 1) := by decide +kernel
theorem dX9_driven_30 : decode cX9_driven 30 = .ok (.iinc 2 1, 3) := by decide +kernel
theorem dX9_driven_33 : decode cX9_driven 33 = .ok (.goto (-29), 3) := by decide +kernel
theorem dX9_driven_36 : decode cX9_driven 36 = .ok (.iload_n 1, 1) := by decide +kernel
theorem dX9_driven_37 : decode cX9_driven 37 = .ok (.ireturn, 1) := by decide +kernel
theorem dX9_heldMany_0 : decode cX9_heldMany 0 = .ok (.iconst 0, 1) := by decide +kernel
theorem dX9_heldMany_1 : decode cX9_heldMany 1 = .ok (.istore_n 1, 1) := by decide +kernel
theorem dX9_heldMany_2 : decode cX9_heldMany 2 = .ok (.iconst 0, 1) := by decide +kernel
theorem dX9_heldMany_3 : decode cX9_heldMany 3 = .ok (.istore_n 2, 1) := by decide +kernel
theorem dX9_heldMany_4 : decode cX9_heldMany 4 = .ok (.iload_n 2, 1) := by decide +kernel
theorem dX9_heldMany_5 : decode cX9_heldMany 5 = .ok (.aload_n 0, 1) := by decide +kernel
theorem dX9_heldMany_6 : decode cX9_heldMany 6 = .ok (.getfield 34, 3) := by decide +kernel
theorem dX9_heldMany_9 : decode cX9_heldMany 9 = .ok (.sipush 168, 3) := by decide +kernel
theorem dX9_heldMany_12 : decode cX9_heldMany 12 = .ok (.iaload, 1) := by decide +kernel
theorem dX9_heldMany_13 : decode cX9_heldMany 13 = .ok (.if_icmp .ge 30, 3) := by decide +kernel
theorem dX9_heldMany_16 : decode cX9_heldMany 16 = .ok (.iload_n 1, 1) := by decide +kernel
theorem dX9_heldMany_17 : decode cX9_heldMany 17 = .ok (.aload_n 0, 1) := by decide +kernel
theorem dX9_heldMany_18 : decode cX9_heldMany 18 = .ok (.getfield 34, 3) := by decide +kernel
theorem dX9_heldMany_21 : decode cX9_heldMany 21 = .ok (.bipush 48, 2) := by decide +kernel
theorem dX9_heldMany_23 : decode cX9_heldMany 23 = .ok (.iload_n 2, 1) := by decide +kernel
theorem dX9_heldMany_24 : decode cX9_heldMany 24 = .ok (.iadd, 1) := by decide +kernel
theorem dX9_heldMany_25 : decode cX9_heldMany 25 = .ok (.iaload, 1) := by decide +kernel
theorem dX9_heldMany_26 : decode cX9_heldMany 26 = .ok (.iconst (-1), 1) := by decide +kernel
theorem dX9_heldMany_27 : decode cX9_heldMany 27 = .ok (.if_icmp .eq 7, 3) := by decide +kernel
theorem dX9_heldMany_30 : decode cX9_heldMany 30 = .ok (.iconst 1, 1) := by decide +kernel
theorem dX9_heldMany_31 : decode cX9_heldMany 31 = .ok (.goto 4, 3) := by decide +kernel
theorem dX9_heldMany_34 : decode cX9_heldMany 34 = .ok (.iconst 0, 1) := by decide +kernel
theorem dX9_heldMany_35 : decode cX9_heldMany 35 = .ok (.iadd, 1) := by decide +kernel
theorem dX9_heldMany_36 : decode cX9_heldMany 36 = .ok (.istore_n 1, 1) := by decide +kernel
theorem dX9_heldMany_37 : decode cX9_heldMany 37 = .ok (.iinc 2 1, 3) := by decide +kernel
theorem dX9_heldMany_40 : decode cX9_heldMany 40 = .ok (.goto (-36), 3) := by decide +kernel
theorem dX9_heldMany_43 : decode cX9_heldMany 43 = .ok (.iload_n 1, 1) := by decide +kernel
theorem dX9_heldMany_44 : decode cX9_heldMany 44 = .ok (.ireturn, 1) := by decide +kernel
theorem dX9_mendedOfAll_0 : decode cX9_mendedOfAll 0 = .ok (.iconst 0, 1) := by decide +kernel
theorem dX9_mendedOfAll_1 : decode cX9_mendedOfAll 1 = .ok (.istore_n 1, 1) := by decide +kernel
theorem dX9_mendedOfAll_2 : decode cX9_mendedOfAll 2 = .ok (.iconst 0, 1) := by decide +kernel
theorem dX9_mendedOfAll_3 : decode cX9_mendedOfAll 3 = .ok (.istore_n 2, 1) := by decide +kernel
theorem dX9_mendedOfAll_4 : decode cX9_mendedOfAll 4 = .ok (.iload_n 2, 1) := by decide +kernel
theorem dX9_mendedOfAll_5 : decode cX9_mendedOfAll 5 = .ok (.aload_n 0, 1) := by decide +kernel
theorem dX9_mendedOfAll_6 : decode cX9_mendedOfAll 6 = .ok (.getfield 153, 3) := by decide +kernel
theorem dX9_mendedOfAll_9 : decode cX9_mendedOfAll 9 = .ok (.if_icmp .ge 21, 3) := by decide +kernel
theorem dX9_mendedOfAll_12 : decode cX9_mendedOfAll 12 = .ok (.iload_n 1, 1) := by decide +kernel
theorem dX9_mendedOfAll_13 : decode cX9_mendedOfAll 13 = .ok (.aload_n 0, 1) := by decide +kernel
theorem dX9_mendedOfAll_14 : decode cX9_mendedOfAll 14 = .ok (.getfield 34, 3) := by decide +kernel
theorem dX9_mendedOfAll_17 : decode cX9_mendedOfAll 17 = .ok (.bipush 32, 2) := by decide +kernel
theorem dX9_mendedOfAll_19 : decode cX9_mendedOfAll 19 = .ok (.iload_n 2, 1) := by decide +kernel
theorem dX9_mendedOfAll_20 : decode cX9_mendedOfAll 20 = .ok (.iadd, 1) := by decide +kernel
theorem dX9_mendedOfAll_21 : decode cX9_mendedOfAll 21 = .ok (.iaload, 1) := by decide +kernel
theorem dX9_mendedOfAll_22 : decode cX9_mendedOfAll 22 = .ok (.iadd, 1) := by decide +kernel
theorem dX9_mendedOfAll_23 : decode cX9_mendedOfAll 23 = .ok (.istore_n 1, 1) := by decide +kernel
theorem dX9_mendedOfAll_24 : decode cX9_mendedOfAll 24 = .ok (.iinc 2 1, 3) := by decide +kernel
theorem dX9_mendedOfAll_27 : decode cX9_mendedOfAll 27 = .ok (.goto (-23), 3) := by decide +kernel
theorem dX9_mendedOfAll_30 : decode cX9_mendedOfAll 30 = .ok (.iload_n 1, 1) := by decide +kernel
theorem dX9_mendedOfAll_31 : decode cX9_mendedOfAll 31 = .ok (.ireturn, 1) := by decide +kernel
theorem dX9_roomiest_0 : decode cX9_roomiest 0 = .ok (.iconst 0, 1) := by decide +kernel
theorem dX9_roomiest_1 : decode cX9_roomiest 1 = .ok (.istore_n 1, 1) := by decide +kernel
theorem dX9_roomiest_2 : decode cX9_roomiest 2 = .ok (.iconst 1, 1) := by decide +kernel
theorem dX9_roomiest_3 : decode cX9_roomiest 3 = .ok (.istore_n 2, 1) := by decide +kernel
theorem dX9_roomiest_4 : decode cX9_roomiest 4 = .ok (.iload_n 2, 1) := by decide +kernel
theorem dX9_roomiest_5 : decode cX9_roomiest 5 = .ok (.aload_n 0, 1) := by decide +kernel
theorem dX9_roomiest_6 : decode cX9_roomiest 6 = .ok (.getfield 153, 3) := by decide +kernel
theorem dX9_roomiest_9 : decode cX9_roomiest 9 = .ok (.if_icmp .ge 36, 3) := by decide +kernel
theorem dX9_roomiest_12 : decode cX9_roomiest 12 = .ok (.aload_n 0, 1) := by decide +kernel
theorem dX9_roomiest_13 : decode cX9_roomiest 13 = .ok (.getfield 34, 3) := by decide +kernel
theorem dX9_roomiest_16 : decode cX9_roomiest 16 = .ok (.bipush 16, 2) := by decide +kernel
theorem dX9_roomiest_18 : decode cX9_roomiest 18 = .ok (.iload_n 2, 1) := by decide +kernel
theorem dX9_roomiest_19 : decode cX9_roomiest 19 = .ok (.iadd, 1) := by decide +kernel
theorem dX9_roomiest_20 : decode cX9_roomiest 20 = .ok (.iaload, 1) := by decide +kernel
theorem dX9_roomiest_21 : decode cX9_roomiest 21 = .ok (.aload_n 0, 1) := by decide +kernel
theorem dX9_roomiest_22 : decode cX9_roomiest 22 = .ok (.getfield 34, 3) := by decide +kernel
theorem dX9_roomiest_25 : decode cX9_roomiest 25 = .ok (.bipush 16, 2) := by decide +kernel
theorem dX9_roomiest_27 : decode cX9_roomiest 27 = .ok (.iload_n 1, 1) := by decide +kernel
theorem dX9_roomiest_28 : decode cX9_roomiest 28 = .ok (.iadd, 1) := by decide +kernel
theorem dX9_roomiest_29 : decode cX9_roomiest 29 = .ok (.iaload, 1) := by decide +kernel
theorem dX9_roomiest_30 : decode cX9_roomiest 30 = .ok (.if_icmp .ge 7, 3) := by decide +kernel
theorem dX9_roomiest_33 : decode cX9_roomiest 33 = .ok (.iload_n 2, 1) := by decide +kernel
theorem dX9_roomiest_34 : decode cX9_roomiest 34 = .ok (.goto 4, 3) := by decide +kernel
theorem dX9_roomiest_37 : decode cX9_roomiest 37 = .ok (.iload_n 1, 1) := by decide +kernel
theorem dX9_roomiest_38 : decode cX9_roomiest 38 = .ok (.istore_n 1, 1) := by decide +kernel
theorem dX9_roomiest_39 : decode cX9_roomiest 39 = .ok (.iinc 2 1, 3) := by decide +kernel
theorem dX9_roomiest_42 : decode cX9_roomiest 42 = .ok (.goto (-38), 3) := by decide +kernel
theorem dX9_roomiest_45 : decode cX9_roomiest 45 = .ok (.iload_n 1, 1) := by decide +kernel
theorem dX9_roomiest_46 : decode cX9_roomiest 46 = .ok (.ireturn, 1) := by decide +kernel
theorem dX9_emptyOnes_0 : decode cX9_emptyOnes 0 = .ok (.iconst 0, 1) := by decide +kernel
theorem dX9_emptyOnes_1 : decode cX9_emptyOnes 1 = .ok (.istore_n 1, 1) := by decide +kernel
theorem dX9_emptyOnes_2 : decode cX9_emptyOnes 2 = .ok (.iconst 0, 1) := by decide +kernel
theorem dX9_emptyOnes_3 : decode cX9_emptyOnes 3 = .ok (.istore_n 2, 1) := by decide +kernel
theorem dX9_emptyOnes_4 : decode cX9_emptyOnes 4 = .ok (.iload_n 2, 1) := by decide +kernel
theorem dX9_emptyOnes_5 : decode cX9_emptyOnes 5 = .ok (.aload_n 0, 1) := by decide +kernel
theorem dX9_emptyOnes_6 : decode cX9_emptyOnes 6 = .ok (.getfield 153, 3) := by decide +kernel
theorem dX9_emptyOnes_9 : decode cX9_emptyOnes 9 = .ok (.if_icmp .ge 31, 3) := by decide +kernel
theorem dX9_emptyOnes_12 : decode cX9_emptyOnes 12 = .ok (.iload_n 1, 1) := by decide +kernel
theorem dX9_emptyOnes_13 : decode cX9_emptyOnes 13 = .ok (.aload_n 0, 1) := by decide +kernel
theorem dX9_emptyOnes_14 : decode cX9_emptyOnes 14 = .ok (.getfield 34, 3) := by decide +kernel
theorem dX9_emptyOnes_17 : decode cX9_emptyOnes 17 = .ok (.bipush 16, 2) := by decide +kernel
theorem dX9_emptyOnes_19 : decode cX9_emptyOnes 19 = .ok (.iload_n 2, 1) := by decide +kernel
theorem dX9_emptyOnes_20 : decode cX9_emptyOnes 20 = .ok (.iadd, 1) := by decide +kernel
theorem dX9_emptyOnes_21 : decode cX9_emptyOnes 21 = .ok (.iaload, 1) := by decide +kernel
theorem dX9_emptyOnes_22 : decode cX9_emptyOnes 22 = .ok (.ifCond .ne 9, 3) := by decide +kernel
theorem dX9_emptyOnes_25 : decode cX9_emptyOnes 25 = .ok (.iconst 1, 1) := by decide +kernel
theorem dX9_emptyOnes_26 : decode cX9_emptyOnes 26 = .ok (.iload_n 2, 1) := by decide +kernel
theorem dX9_emptyOnes_27 : decode cX9_emptyOnes 27 = .ok (.ishl, 1) := by decide +kernel
theorem dX9_emptyOnes_28 : decode cX9_emptyOnes 28 = .ok (.goto 4, 3) := by decide +kernel
theorem dX9_emptyOnes_31 : decode cX9_emptyOnes 31 = .ok (.iconst 0, 1) := by decide +kernel
theorem dX9_emptyOnes_32 : decode cX9_emptyOnes 32 = .ok (.ior, 1) := by decide +kernel
theorem dX9_emptyOnes_33 : decode cX9_emptyOnes 33 = .ok (.istore_n 1, 1) := by decide +kernel
theorem dX9_emptyOnes_34 : decode cX9_emptyOnes 34 = .ok (.iinc 2 1, 3) := by decide +kernel
theorem dX9_emptyOnes_37 : decode cX9_emptyOnes 37 = .ok (.goto (-33), 3) := by decide +kernel
theorem dX9_emptyOnes_40 : decode cX9_emptyOnes 40 = .ok (.iload_n 1, 1) := by decide +kernel
theorem dX9_emptyOnes_41 : decode cX9_emptyOnes 41 = .ok (.ireturn, 1) := by decide +kernel
theorem dX9_most_0 : decode cX9_most 0 = .ok (.aload_n 0, 1) := by decide +kernel
theorem dX9_most_1 : decode cX9_most 1 = .ok (.invokevirtual 156, 3) := by decide +kernel
theorem dX9_most_4 : decode cX9_most 4 = .ok (.ifCond .eq 13, 3) := by decide +kernel
theorem dX9_most_7 : decode cX9_most 7 = .ok (.iload_n 1, 1) := by decide +kernel
theorem dX9_most_8 : decode cX9_most 8 = .ok (.iconst 0, 1) := by decide +kernel
theorem dX9_most_9 : decode cX9_most 9 = .ok (.bipush 10, 2) := by decide +kernel
theorem dX9_most_11 : decode cX9_most 11 = .ok (.invokestatic 76, 3) := by decide +kernel
theorem dX9_most_14 : decode cX9_most 14 = .ok (.ifCond .ne 7, 3) := by decide +kernel
theorem dX9_most_17 : decode cX9_most 17 = .ok (.ldc_w 363, 3) := by decide +kernel
theorem dX9_most_20 : decode cX9_most 20 = .ok (.ireturn, 1) := by decide +kernel
theorem dX9_most_21 : decode cX9_most 21 = .ok (.iload_n 1, 1) := by decide +kernel
theorem dX9_most_22 : decode cX9_most 22 = .ok (.tableswitch 112 0 9 #[54, 63, 72, 77, 82, 87, 92, 97, 102, 107], 54) := by decide +kernel
theorem dX9_most_76 : decode cX9_most 76 = .ok (.aload_n 0, 1) := by decide +kernel
theorem dX9_most_77 : decode cX9_most 77 = .ok (.getfield 34, 3) := by decide +kernel
theorem dX9_most_80 : decode cX9_most 80 = .ok (.sipush 170, 3) := by decide +kernel
theorem dX9_most_83 : decode cX9_most 83 = .ok (.iaload, 1) := by decide +kernel
theorem dX9_most_84 : decode cX9_most 84 = .ok (.ireturn, 1) := by decide +kernel
theorem dX9_most_85 : decode cX9_most 85 = .ok (.aload_n 0, 1) := by decide +kernel
theorem dX9_most_86 : decode cX9_most 86 = .ok (.getfield 34, 3) := by decide +kernel
theorem dX9_most_89 : decode cX9_most 89 = .ok (.sipush 169, 3) := by decide +kernel
theorem dX9_most_92 : decode cX9_most 92 = .ok (.iaload, 1) := by decide +kernel
theorem dX9_most_93 : decode cX9_most 93 = .ok (.ireturn, 1) := by decide +kernel
theorem dX9_most_94 : decode cX9_most 94 = .ok (.aload_n 0, 1) := by decide +kernel
theorem dX9_most_95 : decode cX9_most 95 = .ok (.invokevirtual 419, 3) := by decide +kernel
theorem dX9_most_98 : decode cX9_most 98 = .ok (.ireturn, 1) := by decide +kernel
theorem dX9_most_99 : decode cX9_most 99 = .ok (.aload_n 0, 1) := by decide +kernel
theorem dX9_most_100 : decode cX9_most 100 = .ok (.invokevirtual 271, 3) := by decide +kernel
theorem dX9_most_103 : decode cX9_most 103 = .ok (.ireturn, 1) := by decide +kernel
theorem dX9_most_104 : decode cX9_most 104 = .ok (.aload_n 0, 1) := by decide +kernel
theorem dX9_most_105 : decode cX9_most 105 = .ok (.invokevirtual 422, 3) := by decide +kernel
theorem dX9_most_108 : decode cX9_most 108 = .ok (.ireturn, 1) := by decide +kernel
theorem dX9_most_109 : decode cX9_most 109 = .ok (.aload_n 0, 1) := by decide +kernel
theorem dX9_most_110 : decode cX9_most 110 = .ok (.invokevirtual 286, 3) := by decide +kernel
theorem dX9_most_113 : decode cX9_most 113 = .ok (.ireturn, 1) := by decide +kernel
theorem dX9_most_114 : decode cX9_most 114 = .ok (.aload_n 0, 1) := by decide +kernel
theorem dX9_most_115 : decode cX9_most 115 = .ok (.invokevirtual 292, 3) := by decide +kernel
theorem dX9_most_118 : decode cX9_most 118 = .ok (.ireturn, 1) := by decide +kernel
theorem dX9_most_119 : decode cX9_most 119 = .ok (.aload_n 0, 1) := by decide +kernel
theorem dX9_most_120 : decode cX9_most 120 = .ok (.invokevirtual 425, 3) := by decide +kernel
theorem dX9_most_123 : decode cX9_most 123 = .ok (.ireturn, 1) := by decide +kernel
theorem dX9_most_124 : decode cX9_most 124 = .ok (.aload_n 0, 1) := by decide +kernel
theorem dX9_most_125 : decode cX9_most 125 = .ok (.invokevirtual 428, 3) := by decide +kernel
theorem dX9_most_128 : decode cX9_most 128 = .ok (.ireturn, 1) := by decide +kernel
theorem dX9_most_129 : decode cX9_most 129 = .ok (.aload_n 0, 1) := by decide +kernel
theorem dX9_most_130 : decode cX9_most 130 = .ok (.invokevirtual 215, 3) := by decide +kernel
theorem dX9_most_133 : decode cX9_most 133 = .ok (.ireturn, 1) := by decide +kernel
theorem dX9_most_134 : decode cX9_most 134 = .ok (.aload_n 0, 1) := by decide +kernel
theorem dX9_most_135 : decode cX9_most 135 = .ok (.invokevirtual 431, 3) := by decide +kernel
theorem dX9_most_138 : decode cX9_most 138 = .ok (.ireturn, 1) := by decide +kernel
theorem dX9_image_0 : decode cX9_image 0 = .ok (.aload_n 0, 1) := by decide +kernel
theorem dX9_image_1 : decode cX9_image 1 = .ok (.invokevirtual 156, 3) := by decide +kernel
theorem dX9_image_4 : decode cX9_image 4 = .ok (.ifCond .ne 5, 3) := by decide +kernel
theorem dX9_image_7 : decode cX9_image 7 = .ok (.iconst (-1), 1) := by decide +kernel
theorem dX9_image_8 : decode cX9_image 8 = .ok (.ireturn, 1) := by decide +kernel
theorem dX9_image_9 : decode cX9_image 9 = .ok (.iconst 0, 1) := by decide +kernel
theorem dX9_image_10 : decode cX9_image 10 = .ok (.istore_n 1, 1) := by decide +kernel
theorem dX9_image_11 : decode cX9_image 11 = .ok (.iload_n 1, 1) := by decide +kernel
theorem dX9_image_12 : decode cX9_image 12 = .ok (.sipush 353, 3) := by decide +kernel
theorem dX9_image_15 : decode cX9_image 15 = .ok (.if_icmp .ge 21, 3) := by decide +kernel
theorem dX9_image_18 : decode cX9_image 18 = .ok (.aload_n 0, 1) := by decide +kernel
theorem dX9_image_19 : decode cX9_image 19 = .ok (.getfield 62, 3) := by decide +kernel
theorem dX9_image_22 : decode cX9_image 22 = .ok (.iload_n 1, 1) := by decide +kernel
theorem dX9_image_23 : decode cX9_image 23 = .ok (.aload_n 0, 1) := by decide +kernel
theorem dX9_image_24 : decode cX9_image 24 = .ok (.getfield 34, 3) := by decide +kernel
theorem dX9_image_27 : decode cX9_image 27 = .ok (.iload_n 1, 1) := by decide +kernel
theorem dX9_image_28 : decode cX9_image 28 = .ok (.iaload, 1) := by decide +kernel
theorem dX9_image_29 : decode cX9_image 29 = .ok (.iastore, 1) := by decide +kernel
theorem dX9_image_30 : decode cX9_image 30 = .ok (.iinc 1 1, 3) := by decide +kernel
theorem dX9_image_33 : decode cX9_image 33 = .ok (.goto (-22), 3) := by decide +kernel
theorem dX9_image_36 : decode cX9_image 36 = .ok (.aload_n 0, 1) := by decide +kernel
theorem dX9_image_37 : decode cX9_image 37 = .ok (.iconst 1, 1) := by decide +kernel
theorem dX9_image_38 : decode cX9_image 38 = .ok (.putfield 181, 3) := by decide +kernel
theorem dX9_image_41 : decode cX9_image 41 = .ok (.aload_n 0, 1) := by decide +kernel
theorem dX9_image_42 : decode cX9_image 42 = .ok (.getfield 34, 3) := by decide +kernel
theorem dX9_image_45 : decode cX9_image 45 = .ok (.sipush 170, 3) := by decide +kernel
theorem dX9_image_48 : decode cX9_image 48 = .ok (.iaload, 1) := by decide +kernel
theorem dX9_image_49 : decode cX9_image 49 = .ok (.ireturn, 1) := by decide +kernel
theorem dX9_back_0 : decode cX9_back 0 = .ok (.aload_n 0, 1) := by decide +kernel
theorem dX9_back_1 : decode cX9_back 1 = .ok (.getfield 181, 3) := by decide +kernel
theorem dX9_back_4 : decode cX9_back 4 = .ok (.ifCond .ne 5, 3) := by decide +kernel
theorem dX9_back_7 : decode cX9_back 7 = .ok (.iconst (-1), 1) := by decide +kernel
theorem dX9_back_8 : decode cX9_back 8 = .ok (.ireturn, 1) := by decide +kernel
theorem dX9_back_9 : decode cX9_back 9 = .ok (.iconst 0, 1) := by decide +kernel
theorem dX9_back_10 : decode cX9_back 10 = .ok (.istore_n 1, 1) := by decide +kernel
theorem dX9_back_11 : decode cX9_back 11 = .ok (.iload_n 1, 1) := by decide +kernel
theorem dX9_back_12 : decode cX9_back 12 = .ok (.sipush 353, 3) := by decide +kernel
theorem dX9_back_15 : decode cX9_back 15 = .ok (.if_icmp .ge 21, 3) := by decide +kernel
theorem dX9_back_18 : decode cX9_back 18 = .ok (.aload_n 0, 1) := by decide +kernel
theorem dX9_back_19 : decode cX9_back 19 = .ok (.getfield 34, 3) := by decide +kernel
theorem dX9_back_22 : decode cX9_back 22 = .ok (.iload_n 1, 1) := by decide +kernel
theorem dX9_back_23 : decode cX9_back 23 = .ok (.aload_n 0, 1) := by decide +kernel
theorem dX9_back_24 : decode cX9_back 24 = .ok (.getfield 62, 3) := by decide +kernel
theorem dX9_back_27 : decode cX9_back 27 = .ok (.iload_n 1, 1) := by decide +kernel
theorem dX9_back_28 : decode cX9_back 28 = .ok (.iaload, 1) := by decide +kernel
theorem dX9_back_29 : decode cX9_back 29 = .ok (.iastore, 1) := by decide +kernel
theorem dX9_back_30 : decode cX9_back 30 = .ok (.iinc 1 1, 3) := by decide +kernel
theorem dX9_back_33 : decode cX9_back 33 = .ok (.goto (-22), 3) := by decide +kernel
theorem dX9_back_36 : decode cX9_back 36 = .ok (.aload_n 0, 1) := by decide +kernel
theorem dX9_back_37 : decode cX9_back 37 = .ok (.iconst 0, 1) := by decide +kernel
theorem dX9_back_38 : decode cX9_back 38 = .ok (.putfield 178, 3) := by decide +kernel
theorem dX9_back_41 : decode cX9_back 41 = .ok (.aload_n 0, 1) := by decide +kernel
theorem dX9_back_42 : decode cX9_back 42 = .ok (.getfield 34, 3) := by decide +kernel
theorem dX9_back_45 : decode cX9_back 45 = .ok (.sipush 170, 3) := by decide +kernel
theorem dX9_back_48 : decode cX9_back 48 = .ok (.iaload, 1) := by decide +kernel
theorem dX9_back_49 : decode cX9_back 49 = .ok (.ireturn, 1) := by decide +kernel
theorem dX9_count_0 : decode cX9_count 0 = .ok (.iload_n 1, 1) := by decide +kernel
theorem dX9_count_1 : decode cX9_count 1 = .ok (.tableswitch 77 0 5 #[39, 44, 49, 54, 63, 68], 39) := by decide +kernel
theorem dX9_count_40 : decode cX9_count 40 = .ok (.aload_n 0, 1) := by decide +kernel
theorem dX9_count_41 : decode cX9_count 41 = .ok (.getfield 153, 3) := by decide +kernel
theorem dX9_count_44 : decode cX9_count 44 = .ok (.ireturn, 1) := by decide +kernel
theorem dX9_count_45 : decode cX9_count 45 = .ok (.aload_n 0, 1) := by decide +kernel
theorem dX9_count_46 : decode cX9_count 46 = .ok (.getfield 188, 3) := by decide +kernel
theorem dX9_count_49 : decode cX9_count 49 = .ok (.ireturn, 1) := by decide +kernel
theorem dX9_count_50 : decode cX9_count 50 = .ok (.aload_n 0, 1) := by decide +kernel
theorem dX9_count_51 : decode cX9_count 51 = .ok (.getfield 73, 3) := by decide +kernel
theorem dX9_count_54 : decode cX9_count 54 = .ok (.ireturn, 1) := by decide +kernel
theorem dX9_count_55 : decode cX9_count 55 = .ok (.aload_n 0, 1) := by decide +kernel
theorem dX9_count_56 : decode cX9_count 56 = .ok (.getfield 34, 3) := by decide +kernel
theorem dX9_count_59 : decode cX9_count 59 = .ok (.sipush 172, 3) := by decide +kernel
theorem dX9_count_62 : decode cX9_count 62 = .ok (.iaload, 1) := by decide +kernel
theorem dX9_count_63 : decode cX9_count 63 = .ok (.ireturn, 1) := by decide +kernel
theorem dX9_count_64 : decode cX9_count 64 = .ok (.aload_n 0, 1) := by decide +kernel
theorem dX9_count_65 : decode cX9_count 65 = .ok (.getfield 178, 3) := by decide +kernel
theorem dX9_count_68 : decode cX9_count 68 = .ok (.ireturn, 1) := by decide +kernel
theorem dX9_count_69 : decode cX9_count 69 = .ok (.aload_n 0, 1) := by decide +kernel
theorem dX9_count_70 : decode cX9_count 70 = .ok (.getfield 34, 3) := by decide +kernel
theorem dX9_count_73 : decode cX9_count 73 = .ok (.sipush 168, 3) := by decide +kernel
theorem dX9_count_76 : decode cX9_count 76 = .ok (.iaload, 1) := by decide +kernel
theorem dX9_count_77 : decode cX9_count 77 = .ok (.ireturn, 1) := by decide +kernel
theorem dX9_count_78 : decode cX9_count 78 = .ok (.ldc_w 363, 3) := by decide +kernel
theorem dX9_count_81 : decode cX9_count 81 = .ok (.ireturn, 1) := by decide +kernel
theorem dJ11_isValidCodePoint_9a6ad_0 : decode cJ11_isValidCodePoint_9a6ad 0 = .ok (.iload_n 0, 1) := by decide +kernel
theorem dJ11_isValidCodePoint_9a6ad_1 : decode cJ11_isValidCodePoint_9a6ad 1 = .ok (.bipush 16, 2) := by decide +kernel
theorem dJ11_isValidCodePoint_9a6ad_3 : decode cJ11_isValidCodePoint_9a6ad 3 = .ok (.iushr, 1) := by decide +kernel
theorem dJ11_isValidCodePoint_9a6ad_4 : decode cJ11_isValidCodePoint_9a6ad 4 = .ok (.istore_n 1, 1) := by decide +kernel
theorem dJ11_isValidCodePoint_9a6ad_5 : decode cJ11_isValidCodePoint_9a6ad 5 = .ok (.iload_n 1, 1) := by decide +kernel
theorem dJ11_isValidCodePoint_9a6ad_6 : decode cJ11_isValidCodePoint_9a6ad 6 = .ok (.bipush 17, 2) := by decide +kernel
theorem dJ11_isValidCodePoint_9a6ad_8 : decode cJ11_isValidCodePoint_9a6ad 8 = .ok (.if_icmp .ge 7, 3) := by decide +kernel
theorem dJ11_isValidCodePoint_9a6ad_11 : decode cJ11_isValidCodePoint_9a6ad 11 = .ok (.iconst 1, 1) := by decide +kernel
theorem dJ11_isValidCodePoint_9a6ad_12 : decode cJ11_isValidCodePoint_9a6ad 12 = .ok (.goto 4, 3) := by decide +kernel
theorem dJ11_isValidCodePoint_9a6ad_15 : decode cJ11_isValidCodePoint_9a6ad 15 = .ok (.iconst 0, 1) := by decide +kernel
theorem dJ11_isValidCodePoint_9a6ad_16 : decode cJ11_isValidCodePoint_9a6ad 16 = .ok (.ireturn, 1) := by decide +kernel
theorem dJ11_highSurrogate_5068e_0 : decode cJ11_highSurrogate_5068e 0 = .ok (.iload_n 0, 1) := by decide +kernel
theorem dJ11_highSurrogate_5068e_1 : decode cJ11_highSurrogate_5068e 1 = .ok (.bipush 10, 2) := by decide +kernel
theorem dJ11_highSurrogate_5068e_3 : decode cJ11_highSurrogate_5068e 3 = .ok (.iushr, 1) := by decide +kernel
theorem dJ11_highSurrogate_5068e_4 : decode cJ11_highSurrogate_5068e 4 = .ok (.ldc 110, 2) := by decide +kernel
theorem dJ11_highSurrogate_5068e_6 : decode cJ11_highSurrogate_5068e 6 = .ok (.iadd, 1) := by decide +kernel
theorem dJ11_highSurrogate_5068e_7 : decode cJ11_highSurrogate_5068e 7 = .ok (.i2c, 1) := by decide +kernel
theorem dJ11_highSurrogate_5068e_8 : decode cJ11_highSurrogate_5068e 8 = .ok (.ireturn, 1) := by decide +kernel
theorem dJ11_lowSurrogate_5068e_0 : decode cJ11_lowSurrogate_5068e 0 = .ok (.iload_n 0, 1) := by decide +kernel
theorem dJ11_lowSurrogate_5068e_1 : decode cJ11_lowSurrogate_5068e 1 = .ok (.sipush 1023, 3) := by decide +kernel
theorem dJ11_lowSurrogate_5068e_4 : decode cJ11_lowSurrogate_5068e 4 = .ok (.iand, 1) := by decide +kernel
theorem dJ11_lowSurrogate_5068e_5 : decode cJ11_lowSurrogate_5068e 5 = .ok (.ldc 76, 2) := by decide +kernel
theorem dJ11_lowSurrogate_5068e_7 : decode cJ11_lowSurrogate_5068e 7 = .ok (.iadd, 1) := by decide +kernel
theorem dJ11_lowSurrogate_5068e_8 : decode cJ11_lowSurrogate_5068e 8 = .ok (.i2c, 1) := by decide +kernel
theorem dJ11_lowSurrogate_5068e_9 : decode cJ11_lowSurrogate_5068e 9 = .ok (.ireturn, 1) := by decide +kernel
theorem dJ6_bitCount_0f7a4_0 : decode cJ6_bitCount_0f7a4 0 = .ok (.iload_n 0, 1) := by decide +kernel
theorem dJ6_bitCount_0f7a4_1 : decode cJ6_bitCount_0f7a4 1 = .ok (.iload_n 0, 1) := by decide +kernel
theorem dJ6_bitCount_0f7a4_2 : decode cJ6_bitCount_0f7a4 2 = .ok (.iconst 1, 1) := by decide +kernel
theorem dJ6_bitCount_0f7a4_3 : decode cJ6_bitCount_0f7a4 3 = .ok (.iushr, 1) := by decide +kernel
theorem dJ6_bitCount_0f7a4_4 : decode cJ6_bitCount_0f7a4 4 = .ok (.ldc_w 265, 3) := by decide +kernel
theorem dJ6_bitCount_0f7a4_7 : decode cJ6_bitCount_0f7a4 7 = .ok (.iand, 1) := by decide +kernel
theorem dJ6_bitCount_0f7a4_8 : decode cJ6_bitCount_0f7a4 8 = .ok (.isub, 1) := by decide +kernel
theorem dJ6_bitCount_0f7a4_9 : decode cJ6_bitCount_0f7a4 9 = .ok (.istore_n 0, 1) := by decide +kernel
theorem dJ6_bitCount_0f7a4_10 : decode cJ6_bitCount_0f7a4 10 = .ok (.iload_n 0, 1) := by decide +kernel
theorem dJ6_bitCount_0f7a4_11 : decode cJ6_bitCount_0f7a4 11 = .ok (.ldc_w 266, 3) := by decide +kernel
theorem dJ6_bitCount_0f7a4_14 : decode cJ6_bitCount_0f7a4 14 = .ok (.iand, 1) := by decide +kernel
theorem dJ6_bitCount_0f7a4_15 : decode cJ6_bitCount_0f7a4 15 = .ok (.iload_n 0, 1) := by decide +kernel
theorem dJ6_bitCount_0f7a4_16 : decode cJ6_bitCount_0f7a4 16 = .ok (.iconst 2, 1) := by decide +kernel
theorem dJ6_bitCount_0f7a4_17 : decode cJ6_bitCount_0f7a4 17 = .ok (.iushr, 1) := by decide +kernel
theorem dJ6_bitCount_0f7a4_18 : decode cJ6_bitCount_0f7a4 18 = .ok (.ldc_w 266, 3) := by decide +kernel
theorem dJ6_bitCount_0f7a4_21 : decode cJ6_bitCount_0f7a4 21 = .ok (.iand, 1) := by decide +kernel
theorem dJ6_bitCount_0f7a4_22 : decode cJ6_bitCount_0f7a4 22 = .ok (.iadd, 1) := by decide +kernel
theorem dJ6_bitCount_0f7a4_23 : decode cJ6_bitCount_0f7a4 23 = .ok (.istore_n 0, 1) := by decide +kernel
theorem dJ6_bitCount_0f7a4_24 : decode cJ6_bitCount_0f7a4 24 = .ok (.iload_n 0, 1) := by decide +kernel
theorem dJ6_bitCount_0f7a4_25 : decode cJ6_bitCount_0f7a4 25 = .ok (.iload_n 0, 1) := by decide +kernel
theorem dJ6_bitCount_0f7a4_26 : decode cJ6_bitCount_0f7a4 26 = .ok (.iconst 4, 1) := by decide +kernel
theorem dJ6_bitCount_0f7a4_27 : decode cJ6_bitCount_0f7a4 27 = .ok (.iushr, 1) := by decide +kernel
theorem dJ6_bitCount_0f7a4_28 : decode cJ6_bitCount_0f7a4 28 = .ok (.iadd, 1) := by decide +kernel
theorem dJ6_bitCount_0f7a4_29 : decode cJ6_bitCount_0f7a4 29 = .ok (.ldc_w 267, 3) := by decide +kernel
theorem dJ6_bitCount_0f7a4_32 : decode cJ6_bitCount_0f7a4 32 = .ok (.iand, 1) := by decide +kernel
theorem dJ6_bitCount_0f7a4_33 : decode cJ6_bitCount_0f7a4 33 = .ok (.istore_n 0, 1) := by decide +kernel
theorem dJ6_bitCount_0f7a4_34 : decode cJ6_bitCount_0f7a4 34 = .ok (.iload_n 0, 1) := by decide +kernel
theorem dJ6_bitCount_0f7a4_35 : decode cJ6_bitCount_0f7a4 35 = .ok (.iload_n 0, 1) := by decide +kernel
theorem dJ6_bitCount_0f7a4_36 : decode cJ6_bitCount_0f7a4 36 = .ok (.bipush 8, 2) := by decide +kernel
theorem dJ6_bitCount_0f7a4_38 : decode cJ6_bitCount_0f7a4 38 = .ok (.iushr, 1) := by decide +kernel
theorem dJ6_bitCount_0f7a4_39 : decode cJ6_bitCount_0f7a4 39 = .ok (.iadd, 1) := by decide +kernel
theorem dJ6_bitCount_0f7a4_40 : decode cJ6_bitCount_0f7a4 40 = .ok (.istore_n 0, 1) := by decide +kernel
theorem dJ6_bitCount_0f7a4_41 : decode cJ6_bitCount_0f7a4 41 = .ok (.iload_n 0, 1) := by decide +kernel
theorem dJ6_bitCount_0f7a4_42 : decode cJ6_bitCount_0f7a4 42 = .ok (.iload_n 0, 1) := by decide +kernel
theorem dJ6_bitCount_0f7a4_43 : decode cJ6_bitCount_0f7a4 43 = .ok (.bipush 16, 2) := by decide +kernel
theorem dJ6_bitCount_0f7a4_45 : decode cJ6_bitCount_0f7a4 45 = .ok (.iushr, 1) := by decide +kernel
theorem dJ6_bitCount_0f7a4_46 : decode cJ6_bitCount_0f7a4 46 = .ok (.iadd, 1) := by decide +kernel
theorem dJ6_bitCount_0f7a4_47 : decode cJ6_bitCount_0f7a4 47 = .ok (.istore_n 0, 1) := by decide +kernel
theorem dJ6_bitCount_0f7a4_48 : decode cJ6_bitCount_0f7a4 48 = .ok (.iload_n 0, 1) := by decide +kernel
theorem dJ6_bitCount_0f7a4_49 : decode cJ6_bitCount_0f7a4 49 = .ok (.bipush 63, 2) := by decide +kernel
theorem dJ6_bitCount_0f7a4_51 : decode cJ6_bitCount_0f7a4 51 = .ok (.iand, 1) := by decide +kernel
theorem dJ6_bitCount_0f7a4_52 : decode cJ6_bitCount_0f7a4 52 = .ok (.ireturn, 1) := by decide +kernel
theorem dJ9_max_7cf53_0 : decode cJ9_max_7cf53 0 = .ok (.iload_n 0, 1) := by decide +kernel
theorem dJ9_max_7cf53_1 : decode cJ9_max_7cf53 1 = .ok (.iload_n 1, 1) := by decide +kernel
theorem dJ9_max_7cf53_2 : decode cJ9_max_7cf53 2 = .ok (.if_icmp .lt 7, 3) := by decide +kernel
theorem dJ9_max_7cf53_5 : decode cJ9_max_7cf53 5 = .ok (.iload_n 0, 1) := by decide +kernel
theorem dJ9_max_7cf53_6 : decode cJ9_max_7cf53 6 = .ok (.goto 4, 3) := by decide +kernel
theorem dJ9_max_7cf53_9 : decode cJ9_max_7cf53 9 = .ok (.iload_n 1, 1) := by decide +kernel
theorem dJ9_max_7cf53_10 : decode cJ9_max_7cf53 10 = .ok (.ireturn, 1) := by decide +kernel
theorem dJ9_min_7cf53_0 : decode cJ9_min_7cf53 0 = .ok (.iload_n 0, 1) := by decide +kernel
theorem dJ9_min_7cf53_1 : decode cJ9_min_7cf53 1 = .ok (.iload_n 1, 1) := by decide +kernel
theorem dJ9_min_7cf53_2 : decode cJ9_min_7cf53 2 = .ok (.if_icmp .gt 7, 3) := by decide +kernel
theorem dJ9_min_7cf53_5 : decode cJ9_min_7cf53 5 = .ok (.iload_n 0, 1) := by decide +kernel
theorem dJ9_min_7cf53_6 : decode cJ9_min_7cf53 6 = .ok (.goto 4, 3) := by decide +kernel
theorem dJ9_min_7cf53_9 : decode cJ9_min_7cf53 9 = .ok (.iload_n 1, 1) := by decide +kernel
theorem dJ9_min_7cf53_10 : decode cJ9_min_7cf53 10 = .ok (.ireturn, 1) := by decide +kernel
theorem dJ0_length_8abf5_0 : decode cJ0_length_8abf5 0 = .ok (.aload_n 0, 1) := by decide +kernel
theorem dJ0_length_8abf5_1 : decode cJ0_length_8abf5 1 = .ok (.getfield 9, 3) := by decide +kernel
theorem dJ0_length_8abf5_4 : decode cJ0_length_8abf5 4 = .ok (.arraylength, 1) := by decide +kernel
theorem dJ0_length_8abf5_5 : decode cJ0_length_8abf5 5 = .ok (.aload_n 0, 1) := by decide +kernel
theorem dJ0_length_8abf5_6 : decode cJ0_length_8abf5 6 = .ok (.invokevirtual 335, 3) := by decide +kernel
theorem dJ0_length_8abf5_9 : decode cJ0_length_8abf5 9 = .ok (.ishr, 1) := by decide +kernel
theorem dJ0_length_8abf5_10 : decode cJ0_length_8abf5 10 = .ok (.ireturn, 1) := by decide +kernel
theorem dJ0_indexOf_0f7a4_0 : decode cJ0_indexOf_0f7a4 0 = .ok (.aload_n 0, 1) := by decide +kernel
theorem dJ0_indexOf_0f7a4_1 : decode cJ0_indexOf_0f7a4 1 = .ok (.iload_n 1, 1) := by decide +kernel
theorem dJ0_indexOf_0f7a4_2 : decode cJ0_indexOf_0f7a4 2 = .ok (.iconst 0, 1) := by decide +kernel
theorem dJ0_indexOf_0f7a4_3 : decode cJ0_indexOf_0f7a4 3 = .ok (.invokevirtual 633, 3) := by decide +kernel
theorem dJ0_indexOf_0f7a4_6 : decode cJ0_indexOf_0f7a4 6 = .ok (.ireturn, 1) := by decide +kernel
theorem dJ0_indexOf_7cf53_0 : decode cJ0_indexOf_7cf53 0 = .ok (.aload_n 0, 1) := by decide +kernel
theorem dJ0_indexOf_7cf53_1 : decode cJ0_indexOf_7cf53 1 = .ok (.invokevirtual 492, 3) := by decide +kernel
theorem dJ0_indexOf_7cf53_4 : decode cJ0_indexOf_7cf53 4 = .ok (.ifCond .eq 19, 3) := by decide +kernel
theorem dJ0_indexOf_7cf53_7 : decode cJ0_indexOf_7cf53 7 = .ok (.aload_n 0, 1) := by decide +kernel
theorem dJ0_indexOf_7cf53_8 : decode cJ0_indexOf_7cf53 8 = .ok (.getfield 9, 3) := by decide +kernel
theorem dJ0_indexOf_7cf53_11 : decode cJ0_indexOf_7cf53 11 = .ok (.iload_n 1, 1) := by decide +kernel
theorem dJ0_indexOf_7cf53_12 : decode cJ0_indexOf_7cf53 12 = .ok (.iload_n 2, 1) := by decide +kernel
theorem dJ0_indexOf_7cf53_13 : decode cJ0_indexOf_7cf53 13 = .ok (.aload_n 0, 1) := by decide +kernel
theorem dJ0_indexOf_7cf53_14 : decode cJ0_indexOf_7cf53 14 = .ok (.invokevirtual 505, 3) := by decide +kernel
theorem dJ0_indexOf_7cf53_17 : decode cJ0_indexOf_7cf53 17 = .ok (.invokestatic 637, 3) := by decide +kernel
theorem dJ0_indexOf_7cf53_20 : decode cJ0_indexOf_7cf53 20 = .ok (.goto 16, 3) := by decide +kernel
theorem dJ0_indexOf_7cf53_23 : decode cJ0_indexOf_7cf53 23 = .ok (.aload_n 0, 1) := by decide +kernel
theorem dJ0_indexOf_7cf53_24 : decode cJ0_indexOf_7cf53 24 = .ok (.getfield 9, 3) := by decide +kernel
theorem dJ0_indexOf_7cf53_27 : decode cJ0_indexOf_7cf53 27 = .ok (.iload_n 1, 1) := by decide +kernel
theorem dJ0_indexOf_7cf53_28 : decode cJ0_indexOf_7cf53 28 = .ok (.iload_n 2, 1) := by decide +kernel
theorem dJ0_indexOf_7cf53_29 : decode cJ0_indexOf_7cf53 29 = .ok (.aload_n 0, 1) := by decide +kernel
theorem dJ0_indexOf_7cf53_30 : decode cJ0_indexOf_7cf53 30 = .ok (.invokevirtual 505, 3) := by decide +kernel
theorem dJ0_indexOf_7cf53_33 : decode cJ0_indexOf_7cf53 33 = .ok (.invokestatic 640, 3) := by decide +kernel
theorem dJ0_indexOf_7cf53_36 : decode cJ0_indexOf_7cf53 36 = .ok (.ireturn, 1) := by decide +kernel
theorem dJ0_coder_7d493_0 : decode cJ0_coder_7d493 0 = .ok (.getstatic 38, 3) := by decide +kernel
theorem dJ0_coder_7d493_3 : decode cJ0_coder_7d493 3 = .ok (.ifCond .eq 10, 3) := by decide +kernel
theorem dJ0_coder_7d493_6 : decode cJ0_coder_7d493 6 = .ok (.aload_n 0, 1) := by decide +kernel
theorem dJ0_coder_7d493_7 : decode cJ0_coder_7d493 7 = .ok (.getfield 15, 3) := by decide +kernel
theorem dJ0_coder_7d493_10 : decode cJ0_coder_7d493 10 = .ok (.goto 4, 3) := by decide +kernel
theorem dJ0_coder_7d493_13 : decode cJ0_coder_7d493 13 = .ok (.iconst 1, 1) := by decide +kernel
theorem dJ0_coder_7d493_14 : decode cJ0_coder_7d493 14 = .ok (.ireturn, 1) := by decide +kernel
theorem dJ0_isLatin1_aae02_0 : decode cJ0_isLatin1_aae02 0 = .ok (.getstatic 38, 3) := by decide +kernel
theorem dJ0_isLatin1_aae02_3 : decode cJ0_isLatin1_aae02 3 = .ok (.ifCond .eq 14, 3) := by decide +kernel
theorem dJ0_isLatin1_aae02_6 : decode cJ0_isLatin1_aae02 6 = .ok (.aload_n 0, 1) := by decide +kernel
theorem dJ0_isLatin1_aae02_7 : decode cJ0_isLatin1_aae02 7 = .ok (.getfield 15, 3) := by decide +kernel
theorem dJ0_isLatin1_aae02_10 : decode cJ0_isLatin1_aae02 10 = .ok (.ifCond .ne 7, 3) := by decide +kernel
theorem dJ0_isLatin1_aae02_13 : decode cJ0_isLatin1_aae02 13 = .ok (.iconst 1, 1) := by decide +kernel
theorem dJ0_isLatin1_aae02_14 : decode cJ0_isLatin1_aae02 14 = .ok (.goto 4, 3) := by decide +kernel
theorem dJ0_isLatin1_aae02_17 : decode cJ0_isLatin1_aae02 17 = .ok (.iconst 0, 1) := by decide +kernel
theorem dJ0_isLatin1_aae02_18 : decode cJ0_isLatin1_aae02 18 = .ok (.ireturn, 1) := by decide +kernel
theorem dJ0_checkBoundsBeginEnd_23922_0 : decode cJ0_checkBoundsBeginEnd_23922 0 = .ok (.iload_n 0, 1) := by decide +kernel
theorem dJ0_checkBoundsBeginEnd_23922_1 : decode cJ0_checkBoundsBeginEnd_23922 1 = .ok (.iload_n 1, 1) := by decide +kernel
theorem dJ0_checkBoundsBeginEnd_23922_2 : decode cJ0_checkBoundsBeginEnd_23922 2 = .ok (.iload_n 2, 1) := by decide +kernel
theorem dJ0_checkBoundsBeginEnd_23922_3 : decode cJ0_checkBoundsBeginEnd_23922 3 = .ok (.getstatic 1053, 3) := by decide +kernel
theorem dJ0_checkBoundsBeginEnd_23922_6 : decode cJ0_checkBoundsBeginEnd_23922 6 = .ok (.invokestatic 1062, 3) := by decide +kernel
theorem dJ0_checkBoundsBeginEnd_23922_9 : decode cJ0_checkBoundsBeginEnd_23922 9 = .ok (.pop, 1) := by decide +kernel
theorem dJ0_checkBoundsBeginEnd_23922_10 : decode cJ0_checkBoundsBeginEnd_23922 10 = .ok (.return_, 1) := by decide +kernel
theorem dJ1_canEncode_9a6ad_0 : decode cJ1_canEncode_9a6ad 0 = .ok (.iload_n 0, 1) := by decide +kernel
theorem dJ1_canEncode_9a6ad_1 : decode cJ1_canEncode_9a6ad 1 = .ok (.ifCond .lt 14, 3) := by decide +kernel
theorem dJ1_canEncode_9a6ad_4 : decode cJ1_canEncode_9a6ad 4 = .ok (.iload_n 0, 1) := by decide +kernel
theorem dJ1_canEncode_9a6ad_5 : decode cJ1_canEncode_9a6ad 5 = .ok (.sipush 255, 3) := by decide +kernel
theorem dJ1_canEncode_9a6ad_8 : decode cJ1_canEncode_9a6ad 8 = .ok (.if_icmp .gt 7, 3) := by decide +kernel
