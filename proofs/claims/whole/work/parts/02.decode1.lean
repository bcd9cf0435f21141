theorem dX5_readStep_53 : decode cX5_readStep 53 = .ok (.aload_n 0, 1) := by decide +kernel
theorem dX5_readStep_54 : decode cX5_readStep 54 = .ok (.iconst 0, 1) := by decide +kernel
theorem dX5_readStep_55 : decode cX5_readStep 55 = .ok (.bipush 99, 2) := by decide +kernel
theorem dX5_readStep_57 : decode cX5_readStep 57 = .ok (.invokevirtual 101, 3) := by decide +kernel
theorem dX5_readStep_60 : decode cX5_readStep 60 = .ok (.goto 7, 3) := by decide +kernel
theorem dX5_readStep_63 : decode cX5_readStep 63 = .ok (.aload_n 0, 1) := by decide +kernel
theorem dX5_readStep_64 : decode cX5_readStep 64 = .ok (.invokevirtual 125, 3) := by decide +kernel
theorem dX5_readStep_67 : decode cX5_readStep 67 = .ok (.istore 4, 2) := by decide +kernel
theorem dX5_readStep_69 : decode cX5_readStep 69 = .ok (.aload_n 0, 1) := by decide +kernel
theorem dX5_readStep_70 : decode cX5_readStep 70 = .ok (.getfield 104, 3) := by decide +kernel
theorem dX5_readStep_73 : decode cX5_readStep 73 = .ok (.istore 5, 2) := by decide +kernel
theorem dX5_readStep_75 : decode cX5_readStep 75 = .ok (.iload 4, 2) := by decide +kernel
theorem dX5_readStep_77 : decode cX5_readStep 77 = .ok (.iconst (-1), 1) := by decide +kernel
theorem dX5_readStep_78 : decode cX5_readStep 78 = .ok (.if_icmp .ne 26, 3) := by decide +kernel
theorem dX5_readStep_81 : decode cX5_readStep 81 = .ok (.iload_n 3, 1) := by decide +kernel
theorem dX5_readStep_82 : decode cX5_readStep 82 = .ok (.iconst 3, 1) := by decide +kernel
theorem dX5_readStep_83 : decode cX5_readStep 83 = .ok (.if_icmp .ne 21, 3) := by decide +kernel
theorem dX5_readStep_86 : decode cX5_readStep 86 = .ok (.aload_n 0, 1) := by decide +kernel
theorem dX5_readStep_87 : decode cX5_readStep 87 = .ok (.invokevirtual 128, 3) := by decide +kernel
theorem dX5_readStep_90 : decode cX5_readStep 90 = .ok (.istore 4, 2) := by decide +kernel
theorem dX5_readStep_92 : decode cX5_readStep 92 = .ok (.iload 4, 2) := by decide +kernel
theorem dX5_readStep_94 : decode cX5_readStep 94 = .ok (.iconst (-1), 1) := by decide +kernel
theorem dX5_readStep_95 : decode cX5_readStep 95 = .ok (.if_icmp .ne 9, 3) := by decide +kernel
theorem dX5_readStep_98 : decode cX5_readStep 98 = .ok (.aload_n 0, 1) := by decide +kernel
theorem dX5_readStep_99 : decode cX5_readStep 99 = .ok (.invokevirtual 125, 3) := by decide +kernel
theorem dX5_readStep_102 : decode cX5_readStep 102 = .ok (.istore 4, 2) := by decide +kernel
theorem dX5_readStep_104 : decode cX5_readStep 104 = .ok (.iload 4, 2) := by decide +kernel
theorem dX5_readStep_106 : decode cX5_readStep 106 = .ok (.iconst (-1), 1) := by decide +kernel
theorem dX5_readStep_107 : decode cX5_readStep 107 = .ok (.if_icmp .ne 23, 3) := by decide +kernel
theorem dX5_readStep_110 : decode cX5_readStep 110 = .ok (.aload_n 1, 1) := by decide +kernel
theorem dX5_readStep_111 : decode cX5_readStep 111 = .ok (.iload_n 2, 1) := by decide +kernel
theorem dX5_readStep_112 : decode cX5_readStep 112 = .ok (.iload 5, 2) := by decide +kernel
theorem dX5_readStep_114 : decode cX5_readStep 114 = .ok (.iload_n 3, 1) := by decide +kernel
theorem dX5_readStep_115 : decode cX5_readStep 115 = .ok (.iconst 3, 1) := by decide +kernel
theorem dX5_readStep_116 : decode cX5_readStep 116 = .ok (.if_icmp .ne 10, 3) := by decide +kernel
theorem dX5_readStep_119 : decode cX5_readStep 119 = .ok (.aload_n 0, 1) := by decide +kernel
theorem dX5_readStep_120 : decode cX5_readStep 120 = .ok (.getfield 104, 3) := by decide +kernel
theorem dX5_readStep_123 : decode cX5_readStep 123 = .ok (.goto 4, 3) := by decide +kernel
theorem dX5_readStep_126 : decode cX5_readStep 126 = .ok (.iconst (-1), 1) := by decide +kernel
theorem dX5_readStep_127 : decode cX5_readStep 127 = .ok (.invokevirtual 121, 3) := by decide +kernel
theorem dX5_readStep_130 : decode cX5_readStep 130 = .ok (.iload 4, 2) := by decide +kernel
theorem dX5_readStep_132 : decode cX5_readStep 132 = .ok (.ireturn, 1) := by decide +kernel
theorem dX5_readNumber_0 : decode cX5_readNumber 0 = .ok (.aload_n 0, 1) := by decide +kernel
theorem dX5_readNumber_1 : decode cX5_readNumber 1 = .ok (.invokevirtual 125, 3) := by decide +kernel
theorem dX5_readNumber_4 : decode cX5_readNumber 4 = .ok (.istore_n 3, 1) := by decide +kernel
theorem dX5_readNumber_5 : decode cX5_readNumber 5 = .ok (.iload_n 3, 1) := by decide +kernel
theorem dX5_readNumber_6 : decode cX5_readNumber 6 = .ok (.iconst (-1), 1) := by decide +kernel
theorem dX5_readNumber_7 : decode cX5_readNumber 7 = .ok (.if_icmp .eq 5, 3) := by decide +kernel
theorem dX5_readNumber_10 : decode cX5_readNumber 10 = .ok (.iload_n 3, 1) := by decide +kernel
theorem dX5_readNumber_11 : decode cX5_readNumber 11 = .ok (.ireturn, 1) := by decide +kernel
theorem dX5_readNumber_12 : decode cX5_readNumber 12 = .ok (.aload_n 0, 1) := by decide +kernel
theorem dX5_readNumber_13 : decode cX5_readNumber 13 = .ok (.getfield 19, 3) := by decide +kernel
theorem dX5_readNumber_16 : decode cX5_readNumber 16 = .ok (.aload_n 0, 1) := by decide +kernel
theorem dX5_readNumber_17 : decode cX5_readNumber 17 = .ok (.getfield 32, 3) := by decide +kernel
theorem dX5_readNumber_20 : decode cX5_readNumber 20 = .ok (.invokevirtual 40, 3) := by decide +kernel
theorem dX5_readNumber_23 : decode cX5_readNumber 23 = .ok (.invokestatic 131, 3) := by decide +kernel
theorem dX5_readNumber_26 : decode cX5_readNumber 26 = .ok (.ifCond .eq 39, 3) := by decide +kernel
theorem dX5_readNumber_29 : decode cX5_readNumber 29 = .ok (.aload_n 0, 1) := by decide +kernel
theorem dX5_readNumber_30 : decode cX5_readNumber 30 = .ok (.aload_n 0, 1) := by decide +kernel
theorem dX5_readNumber_31 : decode cX5_readNumber 31 = .ok (.getfield 104, 3) := by decide +kernel
theorem dX5_readNumber_34 : decode cX5_readNumber 34 = .ok (.bipush 10, 2) := by decide +kernel
theorem dX5_readNumber_36 : decode cX5_readNumber 36 = .ok (.imul, 1) := by decide +kernel
theorem dX5_readNumber_37 : decode cX5_readNumber 37 = .ok (.aload_n 0, 1) := by decide +kernel
theorem dX5_readNumber_38 : decode cX5_readNumber 38 = .ok (.getfield 19, 3) := by decide +kernel
theorem dX5_readNumber_41 : decode cX5_readNumber 41 = .ok (.aload_n 0, 1) := by decide +kernel
theorem dX5_readNumber_42 : decode cX5_readNumber 42 = .ok (.getfield 32, 3) := by decide +kernel
theorem dX5_readNumber_45 : decode cX5_readNumber 45 = .ok (.invokevirtual 40, 3) := by decide +kernel
theorem dX5_readNumber_48 : decode cX5_readNumber 48 = .ok (.iadd, 1) := by decide +kernel
theorem dX5_readNumber_49 : decode cX5_readNumber 49 = .ok (.bipush 48, 2) := by decide +kernel
theorem dX5_readNumber_51 : decode cX5_readNumber 51 = .ok (.isub, 1) := by decide +kernel
theorem dX5_readNumber_52 : decode cX5_readNumber 52 = .ok (.putfield 104, 3) := by decide +kernel
theorem dX5_readNumber_55 : decode cX5_readNumber 55 = .ok (.aload_n 0, 1) := by decide +kernel
theorem dX5_readNumber_56 : decode cX5_readNumber 56 = .ok (.dup, 1) := by decide +kernel
theorem dX5_readNumber_57 : decode cX5_readNumber 57 = .ok (.getfield 32, 3) := by decide +kernel
theorem dX5_readNumber_60 : decode cX5_readNumber 60 = .ok (.iconst 1, 1) := by decide +kernel
theorem dX5_readNumber_61 : decode cX5_readNumber 61 = .ok (.iadd, 1) := by decide +kernel
theorem dX5_readNumber_62 : decode cX5_readNumber 62 = .ok (.putfield 32, 3) := by decide +kernel
theorem dX5_readNumber_65 : decode cX5_readNumber 65 = .ok (.aload_n 0, 1) := by decide +kernel
theorem dX5_readNumber_66 : decode cX5_readNumber 66 = .ok (.getfield 19, 3) := by decide +kernel
theorem dX5_readNumber_69 : decode cX5_readNumber 69 = .ok (.aload_n 0, 1) := by decide +kernel
theorem dX5_readNumber_70 : decode cX5_readNumber 70 = .ok (.getfield 32, 3) := by decide +kernel
theorem dX5_readNumber_73 : decode cX5_readNumber 73 = .ok (.invokevirtual 40, 3) := by decide +kernel
theorem dX5_readNumber_76 : decode cX5_readNumber 76 = .ok (.invokestatic 131, 3) := by decide +kernel
theorem dX5_readNumber_79 : decode cX5_readNumber 79 = .ok (.ifCond .eq 8, 3) := by decide +kernel
theorem dX5_readNumber_82 : decode cX5_readNumber 82 = .ok (.aload_n 0, 1) := by decide +kernel
theorem dX5_readNumber_83 : decode cX5_readNumber 83 = .ok (.getfield 32, 3) := by decide +kernel
theorem dX5_readNumber_86 : decode cX5_readNumber 86 = .ok (.ireturn, 1) := by decide +kernel
theorem dX5_readNumber_87 : decode cX5_readNumber 87 = .ok (.aload_n 0, 1) := by decide +kernel
theorem dX5_readNumber_88 : decode cX5_readNumber 88 = .ok (.getfield 104, 3) := by decide +kernel
theorem dX5_readNumber_91 : decode cX5_readNumber 91 = .ok (.iload_n 1, 1) := by decide +kernel
theorem dX5_readNumber_92 : decode cX5_readNumber 92 = .ok (.if_icmp .lt 11, 3) := by decide +kernel
theorem dX5_readNumber_95 : decode cX5_readNumber 95 = .ok (.aload_n 0, 1) := by decide +kernel
theorem dX5_readNumber_96 : decode cX5_readNumber 96 = .ok (.getfield 104, 3) := by decide +kernel
theorem dX5_readNumber_99 : decode cX5_readNumber 99 = .ok (.iload_n 2, 1) := by decide +kernel
theorem dX5_readNumber_100 : decode cX5_readNumber 100 = .ok (.if_icmp .le 12, 3) := by decide +kernel
theorem dX5_readNumber_103 : decode cX5_readNumber 103 = .ok (.aload_n 0, 1) := by decide +kernel
theorem dX5_readNumber_104 : decode cX5_readNumber 104 = .ok (.getfield 32, 3) := by decide +kernel
theorem dX5_readNumber_107 : decode cX5_readNumber 107 = .ok (.iconst 1, 1) := by decide +kernel
theorem dX5_readNumber_108 : decode cX5_readNumber 108 = .ok (.isub, 1) := by decide +kernel
theorem dX5_readNumber_109 : decode cX5_readNumber 109 = .ok (.goto 4, 3) := by decide +kernel
theorem dX5_readNumber_112 : decode cX5_readNumber 112 = .ok (.iconst (-1), 1) := by decide +kernel
theorem dX5_readNumber_113 : decode cX5_readNumber 113 = .ok (.ireturn, 1) := by decide +kernel
theorem dX5_readDigit_0 : decode cX5_readDigit 0 = .ok (.aload_n 0, 1) := by decide +kernel
theorem dX5_readDigit_1 : decode cX5_readDigit 1 = .ok (.invokevirtual 57, 3) := by decide +kernel
theorem dX5_readDigit_4 : decode cX5_readDigit 4 = .ok (.istore_n 1, 1) := by decide +kernel
theorem dX5_readDigit_5 : decode cX5_readDigit 5 = .ok (.iload_n 1, 1) := by decide +kernel
theorem dX5_readDigit_6 : decode cX5_readDigit 6 = .ok (.invokestatic 131, 3) := by decide +kernel
theorem dX5_readDigit_9 : decode cX5_readDigit 9 = .ok (.ifCond .ne 8, 3) := by decide +kernel
theorem dX5_readDigit_12 : decode cX5_readDigit 12 = .ok (.aload_n 0, 1) := by decide +kernel
theorem dX5_readDigit_13 : decode cX5_readDigit 13 = .ok (.getfield 32, 3) := by decide +kernel
theorem dX5_readDigit_16 : decode cX5_readDigit 16 = .ok (.ireturn, 1) := by decide +kernel
theorem dX5_readDigit_17 : decode cX5_readDigit 17 = .ok (.aload_n 0, 1) := by decide +kernel
theorem dX5_readDigit_18 : decode cX5_readDigit 18 = .ok (.iload_n 1, 1) := by decide +kernel
theorem dX5_readDigit_19 : decode cX5_readDigit 19 = .ok (.bipush 48, 2) := by decide +kernel
theorem dX5_readDigit_21 : decode cX5_readDigit 21 = .ok (.isub, 1) := by decide +kernel
theorem dX5_readDigit_22 : decode cX5_readDigit 22 = .ok (.putfield 104, 3) := by decide +kernel
theorem dX5_readDigit_25 : decode cX5_readDigit 25 = .ok (.aload_n 0, 1) := by decide +kernel
theorem dX5_readDigit_26 : decode cX5_readDigit 26 = .ok (.dup, 1) := by decide +kernel
theorem dX5_readDigit_27 : decode cX5_readDigit 27 = .ok (.getfield 32, 3) := by decide +kernel
theorem dX5_readDigit_30 : decode cX5_readDigit 30 = .ok (.iconst 1, 1) := by decide +kernel
theorem dX5_readDigit_31 : decode cX5_readDigit 31 = .ok (.iadd, 1) := by decide +kernel
theorem dX5_readDigit_32 : decode cX5_readDigit 32 = .ok (.putfield 32, 3) := by decide +kernel
theorem dX5_readDigit_35 : decode cX5_readDigit 35 = .ok (.iconst (-1), 1) := by decide +kernel
theorem dX5_readDigit_36 : decode cX5_readDigit 36 = .ok (.ireturn, 1) := by decide +kernel
theorem dX5_readComma_0 : decode cX5_readComma 0 = .ok (.aload_n 0, 1) := by decide +kernel
theorem dX5_readComma_1 : decode cX5_readComma 1 = .ok (.invokevirtual 57, 3) := by decide +kernel
theorem dX5_readComma_4 : decode cX5_readComma 4 = .ok (.bipush 44, 2) := by decide +kernel
theorem dX5_readComma_6 : decode cX5_readComma 6 = .ok (.if_icmp .eq 8, 3) := by decide +kernel
theorem dX5_readComma_9 : decode cX5_readComma 9 = .ok (.aload_n 0, 1) := by decide +kernel
theorem dX5_readComma_10 : decode cX5_readComma 10 = .ok (.getfield 32, 3) := by decide +kernel
theorem dX5_readComma_13 : decode cX5_readComma 13 = .ok (.ireturn, 1) := by decide +kernel
theorem dX5_readComma_14 : decode cX5_readComma 14 = .ok (.aload_n 0, 1) := by decide +kernel
theorem dX5_readComma_15 : decode cX5_readComma 15 = .ok (.dup, 1) := by decide +kernel
theorem dX5_readComma_16 : decode cX5_readComma 16 = .ok (.getfield 32, 3) := by decide +kernel
theorem dX5_readComma_19 : decode cX5_readComma 19 = .ok (.iconst 1, 1) := by decide +kernel
theorem dX5_readComma_20 : decode cX5_readComma 20 = .ok (.iadd, 1) := by decide +kernel
theorem dX5_readComma_21 : decode cX5_readComma 21 = .ok (.putfield 32, 3) := by decide +kernel
theorem dX5_readComma_24 : decode cX5_readComma 24 = .ok (.iconst (-1), 1) := by decide +kernel
theorem dX5_readComma_25 : decode cX5_readComma 25 = .ok (.ireturn, 1) := by decide +kernel
theorem dX5_nextSign_0 : decode cX5_nextSign 0 = .ok (.aload_n 0, 1) := by decide +kernel
theorem dX5_nextSign_1 : decode cX5_nextSign 1 = .ok (.getfield 32, 3) := by decide +kernel
theorem dX5_nextSign_4 : decode cX5_nextSign 4 = .ok (.aload_n 0, 1) := by decide +kernel
theorem dX5_nextSign_5 : decode cX5_nextSign 5 = .ok (.getfield 19, 3) := by decide +kernel
theorem dX5_nextSign_8 : decode cX5_nextSign 8 = .ok (.getfield 52, 3) := by decide +kernel
theorem dX5_nextSign_11 : decode cX5_nextSign 11 = .ok (.if_icmp .ge 32, 3) := by decide +kernel
theorem dX5_nextSign_14 : decode cX5_nextSign 14 = .ok (.aload_n 0, 1) := by decide +kernel
theorem dX5_nextSign_15 : decode cX5_nextSign 15 = .ok (.getfield 19, 3) := by decide +kernel
theorem dX5_nextSign_18 : decode cX5_nextSign 18 = .ok (.aload_n 0, 1) := by decide +kernel
theorem dX5_nextSign_19 : decode cX5_nextSign 19 = .ok (.getfield 32, 3) := by decide +kernel
theorem dX5_nextSign_22 : decode cX5_nextSign 22 = .ok (.invokevirtual 40, 3) := by decide +kernel
theorem dX5_nextSign_25 : decode cX5_nextSign 25 = .ok (.bipush 32, 2) := by decide +kernel
theorem dX5_nextSign_27 : decode cX5_nextSign 27 = .ok (.if_icmp .ne 16, 3) := by decide +kernel
theorem dX5_nextSign_30 : decode cX5_nextSign 30 = .ok (.aload_n 0, 1) := by decide +kernel
theorem dX5_nextSign_31 : decode cX5_nextSign 31 = .ok (.dup, 1) := by decide +kernel
theorem dX5_nextSign_32 : decode cX5_nextSign 32 = .ok (.getfield 32, 3) := by decide +kernel
theorem dX5_nextSign_35 : decode cX5_nextSign 35 = .ok (.iconst 1, 1) := by decide +kernel
theorem dX5_nextSign_36 : decode cX5_nextSign 36 = .ok (.iadd, 1) := by decide +kernel
theorem dX5_nextSign_37 : decode cX5_nextSign 37 = .ok (.putfield 32, 3) := by decide +kernel
theorem dX5_nextSign_40 : decode cX5_nextSign 40 = .ok (.goto (-40), 3) := by decide +kernel
theorem dX5_nextSign_43 : decode cX5_nextSign 43 = .ok (.aload_n 0, 1) := by decide +kernel
theorem dX5_nextSign_44 : decode cX5_nextSign 44 = .ok (.getfield 19, 3) := by decide +kernel
theorem dX5_nextSign_47 : decode cX5_nextSign 47 = .ok (.aload_n 0, 1) := by decide +kernel
theorem dX5_nextSign_48 : decode cX5_nextSign 48 = .ok (.getfield 32, 3) := by decide +kernel
theorem dX5_nextSign_51 : decode cX5_nextSign 51 = .ok (.invokevirtual 40, 3) := by decide +kernel
theorem dX5_nextSign_54 : decode cX5_nextSign 54 = .ok (.ireturn, 1) := by decide +kernel
theorem dX5_indexIn_0 : decode cX5_indexIn 0 = .ok (.iload_n 1, 1) := by decide +kernel
theorem dX5_indexIn_1 : decode cX5_indexIn 1 = .ok (.iconst (-1), 1) := by decide +kernel
theorem dX5_indexIn_2 : decode cX5_indexIn 2 = .ok (.if_icmp .ne 7, 3) := by decide +kernel
theorem dX5_indexIn_5 : decode cX5_indexIn 5 = .ok (.iconst (-1), 1) := by decide +kernel
theorem dX5_indexIn_6 : decode cX5_indexIn 6 = .ok (.goto 9, 3) := by decide +kernel
theorem dX5_indexIn_9 : decode cX5_indexIn 9 = .ok (.aload_n 0, 1) := by decide +kernel
theorem dX5_indexIn_10 : decode cX5_indexIn 10 = .ok (.iload_n 1, 1) := by decide +kernel
theorem dX5_indexIn_11 : decode cX5_indexIn 11 = .ok (.i2c, 1) := by decide +kernel
theorem dX5_indexIn_12 : decode cX5_indexIn 12 = .ok (.invokevirtual 135, 3) := by decide +kernel
theorem dX5_indexIn_15 : decode cX5_indexIn 15 = .ok (.ireturn, 1) := by decide +kernel
theorem dX5_isDigit_0 : decode cX5_isDigit 0 = .ok (.iload_n 0, 1) := by decide +kernel
theorem dX5_isDigit_1 : decode cX5_isDigit 1 = .ok (.bipush 48, 2) := by decide +kernel
theorem dX5_isDigit_3 : decode cX5_isDigit 3 = .ok (.if_icmp .lt 13, 3) := by decide +kernel
theorem dX5_isDigit_6 : decode cX5_isDigit 6 = .ok (.iload_n 0, 1) := by decide +kernel
theorem dX5_isDigit_7 : decode cX5_isDigit 7 = .ok (.bipush 57, 2) := by decide +kernel
theorem dX5_isDigit_9 : decode cX5_isDigit 9 = .ok (.if_icmp .gt 7, 3) := by decide +kernel
theorem dX5_isDigit_12 : decode cX5_isDigit 12 = .ok (.iconst 1, 1) := by decide +kernel
theorem dX5_isDigit_13 : decode cX5_isDigit 13 = .ok (.goto 4, 3) := by decide +kernel
theorem dX5_isDigit_16 : decode cX5_isDigit 16 = .ok (.iconst 0, 1) := by decide +kernel
theorem dX5_isDigit_17 : decode cX5_isDigit 17 = .ok (.ireturn, 1) := by decide +kernel
theorem dX6_init_0 : decode cX6_init 0 = .ok (.aload_n 0, 1) := by decide +kernel
theorem dX6_init_1 : decode cX6_init 1 = .ok (.invokespecial 3, 3) := by decide +kernel
theorem dX6_init_4 : decode cX6_init 4 = .ok (.aload_n 0, 1) := by decide +kernel
theorem dX6_init_5 : decode cX6_init 5 = .ok (.bipush 16, 2) := by decide +kernel
theorem dX6_init_7 : decode cX6_init 7 = .ok (.newarray .int, 2) := by decide +kernel
theorem dX6_init_9 : decode cX6_init 9 = .ok (.putfield 9, 3) := by decide +kernel
theorem dX6_init_12 : decode cX6_init 12 = .ok (.aload_n 0, 1) := by decide +kernel
theorem dX6_init_13 : decode cX6_init 13 = .ok (.bipush 16, 2) := by decide +kernel
theorem dX6_init_15 : decode cX6_init 15 = .ok (.newarray .int, 2) := by decide +kernel
theorem dX6_init_17 : decode cX6_init 17 = .ok (.putfield 15, 3) := by decide +kernel
theorem dX6_init_20 : decode cX6_init 20 = .ok (.aload_n 0, 1) := by decide +kernel
theorem dX6_init_21 : decode cX6_init 21 = .ok (.bipush 16, 2) := by decide +kernel
theorem dX6_init_23 : decode cX6_init 23 = .ok (.newarray .int, 2) := by decide +kernel
theorem dX6_init_25 : decode cX6_init 25 = .ok (.putfield 18, 3) := by decide +kernel
theorem dX6_init_28 : decode cX6_init 28 = .ok (.return_, 1) := by decide +kernel
theorem dX6_add_0 : decode cX6_add 0 = .ok (.aload_n 0, 1) := by decide +kernel
theorem dX6_add_1 : decode cX6_add 1 = .ok (.getfield 21, 3) := by decide +kernel
theorem dX6_add_4 : decode cX6_add 4 = .ok (.bipush 16, 2) := by decide +kernel
theorem dX6_add_6 : decode cX6_add 6 = .ok (.if_icmp .ge 43, 3) := by decide +kernel
theorem dX6_add_9 : decode cX6_add 9 = .ok (.aload_n 0, 1) := by decide +kernel
theorem dX6_add_10 : decode cX6_add 10 = .ok (.getfield 9, 3) := by decide +kernel
theorem dX6_add_13 : decode cX6_add 13 = .ok (.aload_n 0, 1) := by decide +kernel
theorem dX6_add_14 : decode cX6_add 14 = .ok (.getfield 21, 3) := by decide +kernel
theorem dX6_add_17 : decode cX6_add 17 = .ok (.iload_n 1, 1) := by decide +kernel
theorem dX6_add_18 : decode cX6_add 18 = .ok (.iastore, 1) := by decide +kernel
theorem dX6_add_19 : decode cX6_add 19 = .ok (.aload_n 0, 1) := by decide +kernel
theorem dX6_add_20 : decode cX6_add 20 = .ok (.getfield 15, 3) := by decide +kernel
theorem dX6_add_23 : decode cX6_add 23 = .ok (.aload_n 0, 1) := by decide +kernel
theorem dX6_add_24 : decode cX6_add 24 = .ok (.getfield 21, 3) := by decide +kernel
theorem dX6_add_27 : decode cX6_add 27 = .ok (.iload_n 2, 1) := by decide +kernel
theorem dX6_add_28 : decode cX6_add 28 = .ok (.iastore, 1) := by decide +kernel
theorem dX6_add_29 : decode cX6_add 29 = .ok (.aload_n 0, 1) := by decide +kernel
theorem dX6_add_30 : decode cX6_add 30 = .ok (.getfield 18, 3) := by decide +kernel
theorem dX6_add_33 : decode cX6_add 33 = .ok (.aload_n 0, 1) := by decide +kernel
theorem dX6_add_34 : decode cX6_add 34 = .ok (.getfield 21, 3) := by decide +kernel
theorem dX6_add_37 : decode cX6_add 37 = .ok (.iload_n 3, 1) := by decide +kernel
theorem dX6_add_38 : decode cX6_add 38 = .ok (.iastore, 1) := by decide +kernel
theorem dX6_add_39 : decode cX6_add 39 = .ok (.aload_n 0, 1) := by decide +kernel
theorem dX6_add_40 : decode cX6_add 40 = .ok (.dup, 1) := by decide +kernel
theorem dX6_add_41 : decode cX6_add 41 = .ok (.getfield 21, 3) := by decide +kernel
theorem dX6_add_44 : decode cX6_add 44 = .ok (.iconst 1, 1) := by decide +kernel
theorem dX6_add_45 : decode cX6_add 45 = .ok (.iadd, 1) := by decide +kernel
theorem dX6_add_46 : decode cX6_add 46 = .ok (.putfield 21, 3) := by decide +kernel
theorem dX6_add_49 : decode cX6_add 49 = .ok (.return_, 1) := by decide +kernel
theorem dX6_become_0 : decode cX6_become 0 = .ok (.aload_n 0, 1) := by decide +kernel
theorem dX6_become_1 : decode cX6_become 1 = .ok (.aload_n 1, 1) := by decide +kernel
theorem dX6_become_2 : decode cX6_become 2 = .ok (.getfield 21, 3) := by decide +kernel
theorem dX6_become_5 : decode cX6_become 5 = .ok (.putfield 21, 3) := by decide +kernel
theorem dX6_become_8 : decode cX6_become 8 = .ok (.aload_n 1, 1) := by decide +kernel
theorem dX6_become_9 : decode cX6_become 9 = .ok (.getfield 9, 3) := by decide +kernel
theorem dX6_become_12 : decode cX6_become 12 = .ok (.iconst 0, 1) := by decide +kernel
theorem dX6_become_13 : decode cX6_become 13 = .ok (.aload_n 0, 1) := by decide +kernel
theorem dX6_become_14 : decode cX6_become 14 = .ok (.getfield 9, 3) := by decide +kernel
theorem dX6_become_17 : decode cX6_become 17 = .ok (.iconst 0, 1) := by decide +kernel
theorem dX6_become_18 : decode cX6_become 18 = .ok (.bipush 16, 2) := by decide +kernel
theorem dX6_become_20 : decode cX6_become 20 = .ok (.invokestatic 25, 3) := by decide +kernel
theorem dX6_become_23 : decode cX6_become 23 = .ok (.aload_n 1, 1) := by decide +kernel
theorem dX6_become_24 : decode cX6_become 24 = .ok (.getfield 15, 3) := by decide +kernel
theorem dX6_become_27 : decode cX6_become 27 = .ok (.iconst 0, 1) := by decide +kernel
theorem dX6_become_28 : decode cX6_become 28 = .ok (.aload_n 0, 1) := by decide +kernel
theorem dX6_become_29 : decode cX6_become 29 = .ok (.getfield 15, 3) := by decide +kernel
theorem dX6_become_32 : decode cX6_become 32 = .ok (.iconst 0, 1) := by decide +kernel
theorem dX6_become_33 : decode cX6_become 33 = .ok (.bipush 16, 2) := by decide +kernel
theorem dX6_become_35 : decode cX6_become 35 = .ok (.invokestatic 25, 3) := by decide +kernel
theorem dX6_become_38 : decode cX6_become 38 = .ok (.aload_n 1, 1) := by decide +kernel
theorem dX6_become_39 : decode cX6_become 39 = .ok (.getfield 18, 3) := by decide +kernel
theorem dX6_become_42 : decode cX6_become 42 = .ok (.iconst 0, 1) := by decide +kernel
theorem dX6_become_43 : decode cX6_become 43 = .ok (.aload_n 0, 1) := by decide +kernel
theorem dX6_become_44 : decode cX6_become 44 = .ok (.getfield 18, 3) := by decide +kernel
theorem dX6_become_47 : decode cX6_become 47 = .ok (.iconst 0, 1) := by decide +kernel
theorem dX6_become_48 : decode cX6_become 48 = .ok (.bipush 16, 2) := by decide +kernel
theorem dX6_become_50 : decode cX6_become 50 = .ok (.invokestatic 25, 3) := by decide +kernel
theorem dX6_become_53 : decode cX6_become 53 = .ok (.return_, 1) := by decide +kernel
theorem dX7_init_0 : decode cX7_init 0 = .ok (.aload_n 0, 1) := by decide +kernel
theorem dX7_init_1 : decode cX7_init 1 = .ok (.invokespecial 3, 3) := by decide +kernel
theorem dX7_init_4 : decode cX7_init 4 = .ok (.aload_n 0, 1) := by decide +kernel
theorem dX7_init_5 : decode cX7_init 5 = .ok (.bipush 8, 2) := by decide +kernel
theorem dX7_init_7 : decode cX7_init 7 = .ok (.newarray .int, 2) := by decide +kernel
theorem dX7_init_9 : decode cX7_init 9 = .ok (.putfield 9, 3) := by decide +kernel
theorem dX7_init_12 : decode cX7_init 12 = .ok (.aload_n 0, 1) := by decide +kernel
theorem dX7_init_13 : decode cX7_init 13 = .ok (.bipush 8, 2) := by decide +kernel
theorem dX7_init_15 : decode cX7_init 15 = .ok (.newarray .int, 2) := by decide +kernel
theorem dX7_init_17 : decode cX7_init 17 = .ok (.putfield 15, 3) := by decide +kernel
theorem dX7_init_20 : decode cX7_init 20 = .ok (.aload_n 0, 1) := by decide +kernel
theorem dX7_init_21 : decode cX7_init 21 = .ok (.bipush 8, 2) := by decide +kernel
theorem dX7_init_23 : decode cX7_init 23 = .ok (.newarray .int, 2) := by decide +kernel
theorem dX7_init_25 : decode cX7_init 25 = .ok (.putfield 18, 3) := by decide +kernel
theorem dX7_init_28 : decode cX7_init 28 = .ok (.aload_n 0, 1) := by decide +kernel
theorem dX7_init_29 : decode cX7_init 29 = .ok (.bipush 8, 2) := by decide +kernel
theorem dX7_init_31 : decode cX7_init 31 = .ok (.newarray .int, 2) := by decide +kernel
theorem dX7_init_33 : decode cX7_init 33 = .ok (.putfield 21, 3) := by decide +kernel
theorem dX7_init_36 : decode cX7_init 36 = .ok (.aload_n 0, 1) := by decide +kernel
theorem dX7_init_37 : decode cX7_init 37 = .ok (.bipush 8, 2) := by decide +kernel
theorem dX7_init_39 : decode cX7_init 39 = .ok (.newarray .int, 2) := by decide +kernel
theorem dX7_init_41 : decode cX7_init 41 = .ok (.putfield 24, 3) := by decide +kernel
theorem dX7_init_44 : decode cX7_init 44 = .ok (.aload_n 0, 1) := by decide +kernel
theorem dX7_init_45 : decode cX7_init 45 = .ok (.bipush 8, 2) := by decide +kernel
theorem dX7_init_47 : decode cX7_init 47 = .ok (.newarray .int, 2) := by decide +kernel
theorem dX7_init_49 : decode cX7_init 49 = .ok (.putfield 27, 3) := by decide +kernel
theorem dX7_init_52 : decode cX7_init 52 = .ok (.aload_n 0, 1) := by decide +kernel
theorem dX7_init_53 : decode cX7_init 53 = .ok (.bipush 24, 2) := by decide +kernel
theorem dX7_init_55 : decode cX7_init 55 = .ok (.newarray .int, 2) := by decide +kernel
theorem dX7_init_57 : decode cX7_init 57 = .ok (.putfield 30, 3) := by decide +kernel
theorem dX7_init_60 : decode cX7_init 60 = .ok (.aload_n 0, 1) := by decide +kernel
theorem dX7_init_61 : decode cX7_init 61 = .ok (.bipush 24, 2) := by decide +kernel
theorem dX7_init_63 : decode cX7_init 63 = .ok (.newarray .int, 2) := by decide +kernel
theorem dX7_init_65 : decode cX7_init 65 = .ok (.putfield 33, 3) := by decide +kernel
theorem dX7_init_68 : decode cX7_init 68 = .ok (.aload_n 0, 1) := by decide +kernel
theorem dX7_init_69 : decode cX7_init 69 = .ok (.bipush 24, 2) := by decide +kernel
theorem dX7_init_71 : decode cX7_init 71 = .ok (.newarray .int, 2) := by decide +kernel
theorem dX7_init_73 : decode cX7_init 73 = .ok (.putfield 36, 3) := by decide +kernel
theorem dX7_init_76 : decode cX7_init 76 = .ok (.aload_n 0, 1) := by decide +kernel
theorem dX7_init_77 : decode cX7_init 77 = .ok (.bipush 24, 2) := by decide +kernel
theorem dX7_init_79 : decode cX7_init 79 = .ok (.newarray .int, 2) := by decide +kernel
theorem dX7_init_81 : decode cX7_init 81 = .ok (.putfield 39, 3) := by decide +kernel
theorem dX7_init_84 : decode cX7_init 84 = .ok (.aload_n 0, 1) := by decide +kernel
theorem dX7_init_85 : decode cX7_init 85 = .ok (.bipush 24, 2) := by decide +kernel
theorem dX7_init_87 : decode cX7_init 87 = .ok (.newarray .int, 2) := by decide +kernel
theorem dX7_init_89 : decode cX7_init 89 = .ok (.putfield 42, 3) := by decide +kernel
theorem dX7_init_92 : decode cX7_init 92 = .ok (.aload_n 0, 1) := by decide +kernel
theorem dX7_init_93 : decode cX7_init 93 = .ok (.aload_n 1, 1) := by decide +kernel
theorem dX7_init_94 : decode cX7_init 94 = .ok (.putfield 45, 3) := by decide +kernel
theorem dX7_init_97 : decode cX7_init 97 = .ok (.aload_n 0, 1) := by decide +kernel
theorem dX7_init_98 : decode cX7_init 98 = .ok (.aload_n 2, 1) := by decide +kernel
theorem dX7_init_99 : decode cX7_init 99 = .ok (.putfield 49, 3) := by decide +kernel
theorem dX7_init_102 : decode cX7_init 102 = .ok (.return_, 1) := by decide +kernel
theorem dX7_begin_0 : decode cX7_begin 0 = .ok (.aload_n 0, 1) := by decide +kernel
theorem dX7_begin_1 : decode cX7_begin 1 = .ok (.iconst 0, 1) := by decide +kernel
theorem dX7_begin_2 : decode cX7_begin 2 = .ok (.putfield 53, 3) := by decide +kernel
theorem dX7_begin_5 : decode cX7_begin 5 = .ok (.aload_n 0, 1) := by decide +kernel
theorem dX7_begin_6 : decode cX7_begin 6 = .ok (.iconst 0, 1) := by decide +kernel
theorem dX7_begin_7 : decode cX7_begin 7 = .ok (.putfield 57, 3) := by decide +kernel
theorem dX7_begin_10 : decode cX7_begin 10 = .ok (.aload_n 0, 1) := by decide +kernel
theorem dX7_begin_11 : decode cX7_begin 11 = .ok (.iconst 0, 1) := by decide +kernel
theorem dX7_begin_12 : decode cX7_begin 12 = .ok (.putfield 60, 3) := by decide +kernel
theorem dX7_begin_15 : decode cX7_begin 15 = .ok (.aload_n 0, 1) := by decide +kernel
theorem dX7_begin_16 : decode cX7_begin 16 = .ok (.iconst 0, 1) := by decide +kernel
theorem dX7_begin_17 : decode cX7_begin 17 = .ok (.putfield 63, 3) := by decide +kernel
theorem dX7_begin_20 : decode cX7_begin 20 = .ok (.iconst 0, 1) := by decide +kernel
theorem dX7_begin_21 : decode cX7_begin 21 = .ok (.istore_n 1, 1) := by decide +kernel
theorem dX7_begin_22 : decode cX7_begin 22 = .ok (.iload_n 1, 1) := by decide +kernel
theorem dX7_begin_23 : decode cX7_begin 23 = .ok (.bipush 8, 2) := by decide +kernel
theorem dX7_begin_25 : decode cX7_begin 25 = .ok (.if_icmp .ge 59, 3) := by decide +kernel
theorem dX7_begin_28 : decode cX7_begin 28 = .ok (.aload_n 0, 1) := by decide +kernel
theorem dX7_begin_29 : decode cX7_begin 29 = .ok (.getfield 9, 3) := by decide +kernel
theorem dX7_begin_32 : decode cX7_begin 32 = .ok (.iload_n 1, 1) := by decide +kernel
theorem dX7_begin_33 : decode cX7_begin 33 = .ok (.iconst (-1), 1) := by decide +kernel
theorem dX7_begin_34 : decode cX7_begin 34 = .ok (.iastore, 1) := by decide +kernel
theorem dX7_begin_35 : decode cX7_begin 35 = .ok (.aload_n 0, 1) := by decide +kernel
theorem dX7_begin_36 : decode cX7_begin 36 = .ok (.getfield 15, 3) := by decide +kernel
theorem dX7_begin_39 : decode cX7_begin 39 = .ok (.iload_n 1, 1) := by decide +kernel
theorem dX7_begin_40 : decode cX7_begin 40 = .ok (.iconst 0, 1) := by decide +kernel
theorem dX7_begin_41 : decode cX7_begin 41 = .ok (.iastore, 1) := by decide +kernel
theorem dX7_begin_42 : decode cX7_begin 42 = .ok (.aload_n 0, 1) := by decide +kernel
theorem dX7_begin_43 : decode cX7_begin 43 = .ok (.getfield 18, 3) := by decide +kernel
theorem dX7_begin_46 : decode cX7_begin 46 = .ok (.iload_n 1, 1) := by decide +kernel
theorem dX7_begin_47 : decode cX7_begin 47 = .ok (.iconst 0, 1) := by decide +kernel
theorem dX7_begin_48 : decode cX7_begin 48 = .ok (.iastore, 1) := by decide +kernel
theorem dX7_begin_49 : decode cX7_begin 49 = .ok (.aload_n 0, 1) := by decide +kernel
theorem dX7_begin_50 : decode cX7_begin 50 = .ok (.getfield 21, 3) := by decide +kernel
theorem dX7_begin_53 : decode cX7_begin 53 = .ok (.iload_n 1, 1) := by decide +kernel
theorem dX7_begin_54 : decode cX7_begin 54 = .ok (.aload_n 0, 1) := by decide +kernel
theorem dX7_begin_55 : decode cX7_begin 55 = .ok (.getfield 45, 3) := by decide +kernel
theorem dX7_begin_58 : decode cX7_begin 58 = .ok (.getfield 66, 3) := by decide +kernel
theorem dX7_begin_61 : decode cX7_begin 61 = .ok (.iload_n 1, 1) := by decide +kernel
theorem dX7_begin_62 : decode cX7_begin 62 = .ok (.iaload, 1) := by decide +kernel
theorem dX7_begin_63 : decode cX7_begin 63 = .ok (.iastore, 1) := by decide +kernel
theorem dX7_begin_64 : decode cX7_begin 64 = .ok (.aload_n 0, 1) := by decide +kernel
theorem dX7_begin_65 : decode cX7_begin 65 = .ok (.getfield 24, 3) := by decide +kernel
theorem dX7_begin_68 : decode cX7_begin 68 = .ok (.iload_n 1, 1) := by decide +kernel
theorem dX7_begin_69 : decode cX7_begin 69 = .ok (.iconst 0, 1) := by decide +kernel
theorem dX7_begin_70 : decode cX7_begin 70 = .ok (.iastore, 1) := by decide +kernel
theorem dX7_begin_71 : decode cX7_begin 71 = .ok (.aload_n 0, 1) := by decide +kernel
theorem dX7_begin_72 : decode cX7_begin 72 = .ok (.getfield 27, 3) := by decide +kernel
theorem dX7_begin_75 : decode cX7_begin 75 = .ok (.iload_n 1, 1) := by decide +kernel
theorem dX7_begin_76 : decode cX7_begin 76 = .ok (.iconst 0, 1) := by decide +kernel
theorem dX7_begin_77 : decode cX7_begin 77 = .ok (.iastore, 1) := by decide +kernel
theorem dX7_begin_78 : decode cX7_begin 78 = .ok (.iinc 1 1, 3) := by decide +kernel
theorem dX7_begin_81 : decode cX7_begin 81 = .ok (.goto (-59), 3) := by decide +kernel
theorem dX7_begin_84 : decode cX7_begin 84 = .ok (.iconst 0, 1) := by decide +kernel
theorem dX7_begin_85 : decode cX7_begin 85 = .ok (.istore_n 1, 1) := by decide +kernel
theorem dX7_begin_86 : decode cX7_begin 86 = .ok (.iload_n 1, 1) := by decide +kernel
theorem dX7_begin_87 : decode cX7_begin 87 = .ok (.aload_n 0, 1) := by decide +kernel
theorem dX7_begin_88 : decode cX7_begin 88 = .ok (.getfield 45, 3) := by decide +kernel
theorem dX7_begin_91 : decode cX7_begin 91 = .ok (.getfield 71, 3) := by decide +kernel
theorem dX7_begin_94 : decode cX7_begin 94 = .ok (.if_icmp .ge 75, 3) := by decide +kernel
theorem dX7_begin_97 : decode cX7_begin 97 = .ok (.aload_n 0, 1) := by decide +kernel
theorem dX7_begin_98 : decode cX7_begin 98 = .ok (.getfield 45, 3) := by decide +kernel
theorem dX7_begin_101 : decode cX7_begin 101 = .ok (.aload_n 0, 1) := by decide +kernel
theorem dX7_begin_102 : decode cX7_begin 102 = .ok (.getfield 45, 3) := by decide +kernel
theorem dX7_begin_105 : decode cX7_begin 105 = .ok (.getfield 72, 3) := by decide +kernel
theorem dX7_begin_108 : decode cX7_begin 108 = .ok (.iload_n 1, 1) := by decide +kernel
theorem dX7_begin_109 : decode cX7_begin 109 = .ok (.iaload, 1) := by decide +kernel
theorem dX7_begin_110 : decode cX7_begin 110 = .ok (.invokevirtual 75, 3) := by decide +kernel
theorem dX7_begin_113 : decode cX7_begin 113 = .ok (.ifCond .eq 50, 3) := by decide +kernel
theorem dX7_begin_116 : decode cX7_begin 116 = .ok (.aload_n 0, 1) := by decide +kernel
theorem dX7_begin_117 : decode cX7_begin 117 = .ok (.aload_n 0, 1) := by decide +kernel
theorem dX7_begin_118 : decode cX7_begin 118 = .ok (.getfield 45, 3) := by decide +kernel
theorem dX7_begin_121 : decode cX7_begin 121 = .ok (.getfield 72, 3) := by decide +kernel
theorem dX7_begin_124 : decode cX7_begin 124 = .ok (.iload_n 1, 1) := by decide +kernel
theorem dX7_begin_125 : decode cX7_begin 125 = .ok (.iaload, 1) := by decide +kernel
theorem dX7_begin_126 : decode cX7_begin 126 = .ok (.aload_n 0, 1) := by decide +kernel
theorem dX7_begin_127 : decode cX7_begin 127 = .ok (.getfield 45, 3) := by decide +kernel
theorem dX7_begin_130 : decode cX7_begin 130 = .ok (.getfield 79, 3) := by decide +kernel
theorem dX7_begin_133 : decode cX7_begin 133 = .ok (.iload_n 1, 1) := by decide +kernel
theorem dX7_begin_134 : decode cX7_begin 134 = .ok (.iaload, 1) := by decide +kernel
theorem dX7_begin_135 : decode cX7_begin 135 = .ok (.invokevirtual 82, 3) := by decide +kernel
theorem dX7_begin_138 : decode cX7_begin 138 = .ok (.ifCond .eq 25, 3) := by decide +kernel
theorem dX7_begin_141 : decode cX7_begin 141 = .ok (.aload_n 0, 1) := by decide +kernel
theorem dX7_begin_142 : decode cX7_begin 142 = .ok (.aload_n 0, 1) := by decide +kernel
theorem dX7_begin_143 : decode cX7_begin 143 = .ok (.getfield 45, 3) := by decide +kernel
theorem dX7_begin_146 : decode cX7_begin 146 = .ok (.getfield 72, 3) := by decide +kernel
theorem dX7_begin_149 : decode cX7_begin 149 = .ok (.iload_n 1, 1) := by decide +kernel
theorem dX7_begin_150 : decode cX7_begin 150 = .ok (.iaload, 1) := by decide +kernel
theorem dX7_begin_151 : decode cX7_begin 151 = .ok (.aload_n 0, 1) := by decide +kernel
theorem dX7_begin_152 : decode cX7_begin 152 = .ok (.getfield 45, 3) := by decide +kernel
theorem dX7_begin_155 : decode cX7_begin 155 = .ok (.getfield 79, 3) := by decide +kernel
theorem dX7_begin_158 : decode cX7_begin 158 = .ok (.iload_n 1, 1) := by decide +kernel
theorem dX7_begin_159 : decode cX7_begin 159 = .ok (.iaload, 1) := by decide +kernel
theorem dX7_begin_160 : decode cX7_begin 160 = .ok (.invokevirtual 86, 3) := by decide +kernel
theorem dX7_begin_163 : decode cX7_begin 163 = .ok (.iinc 1 1, 3) := by decide +kernel
theorem dX7_begin_166 : decode cX7_begin 166 = .ok (.goto (-80), 3) := by decide +kernel
theorem dX7_begin_169 : decode cX7_begin 169 = .ok (.return_, 1) := by decide +kernel
theorem dX7_store_0 : decode cX7_store 0 = .ok (.aload_n 1, 1) := by decide +kernel
theorem dX7_store_1 : decode cX7_store 1 = .ok (.iload_n 2, 1) := by decide +kernel
theorem dX7_store_2 : decode cX7_store 2 = .ok (.aload_n 0, 1) := by decide +kernel
theorem dX7_store_3 : decode cX7_store 3 = .ok (.getfield 53, 3) := by decide +kernel
theorem dX7_store_6 : decode cX7_store 6 = .ok (.iastore, 1) := by decide +kernel
theorem dX7_store_7 : decode cX7_store 7 = .ok (.aload_n 1, 1) := by decide +kernel
theorem dX7_store_8 : decode cX7_store 8 = .ok (.iload_n 2, 1) := by decide +kernel
theorem dX7_store_9 : decode cX7_store 9 = .ok (.iconst 1, 1) := by decide +kernel
theorem dX7_store_10 : decode cX7_store 10 = .ok (.iadd, 1) := by decide +kernel
theorem dX7_store_11 : decode cX7_store 11 = .ok (.aload_n 0, 1) := by decide +kernel
theorem dX7_store_12 : decode cX7_store 12 = .ok (.getfield 57, 3) := by decide +kernel
theorem dX7_store_15 : decode cX7_store 15 = .ok (.iastore, 1) := by decide +kernel
theorem dX7_store_16 : decode cX7_store 16 = .ok (.aload_n 1, 1) := by decide +kernel
theorem dX7_store_17 : decode cX7_store 17 = .ok (.iload_n 2, 1) := by decide +kernel
theorem dX7_store_18 : decode cX7_store 18 = .ok (.iconst 2, 1) := by decide +kernel
theorem dX7_store_19 : decode cX7_store 19 = .ok (.iadd, 1) := by decide +kernel
theorem dX7_store_20 : decode cX7_store 20 = .ok (.aload_n 0, 1) := by decide +kernel
theorem dX7_store_21 : decode cX7_store 21 = .ok (.getfield 60, 3) := by decide +kernel
theorem dX7_store_24 : decode cX7_store 24 = .ok (.iastore, 1) := by decide +kernel
theorem dX7_store_25 : decode cX7_store 25 = .ok (.aload_n 1, 1) := by decide +kernel
theorem dX7_store_26 : decode cX7_store 26 = .ok (.iload_n 2, 1) := by decide +kernel
theorem dX7_store_27 : decode cX7_store 27 = .ok (.iconst 3, 1) := by decide +kernel
theorem dX7_store_28 : decode cX7_store 28 = .ok (.iadd, 1) := by decide +kernel
theorem dX7_store_29 : decode cX7_store 29 = .ok (.aload_n 0, 1) := by decide +kernel
theorem dX7_store_30 : decode cX7_store 30 = .ok (.getfield 63, 3) := by decide +kernel
theorem dX7_store_33 : decode cX7_store 33 = .ok (.iastore, 1) := by decide +kernel
theorem dX7_store_34 : decode cX7_store 34 = .ok (.iload_n 2, 1) := by decide +kernel
theorem dX7_store_35 : decode cX7_store 35 = .ok (.iconst 4, 1) := by decide +kernel
theorem dX7_store_36 : decode cX7_store 36 = .ok (.iadd, 1) := by decide +kernel
theorem dX7_store_37 : decode cX7_store 37 = .ok (.istore_n 3, 1) := by decide +kernel
theorem dX7_store_38 : decode cX7_store 38 = .ok (.aload_n 0, 1) := by decide +kernel
theorem dX7_store_39 : decode cX7_store 39 = .ok (.getfield 9, 3) := by decide +kernel
theorem dX7_store_42 : decode cX7_store 42 = .ok (.iconst 0, 1) := by decide +kernel
theorem dX7_store_43 : decode cX7_store 43 = .ok (.aload_n 1, 1) := by decide +kernel
theorem dX7_store_44 : decode cX7_store 44 = .ok (.iload_n 3, 1) := by decide +kernel
theorem dX7_store_45 : decode cX7_store 45 = .ok (.bipush 8, 2) := by decide +kernel
theorem dX7_store_47 : decode cX7_store 47 = .ok (.invokestatic 90, 3) := by decide +kernel
theorem dX7_store_50 : decode cX7_store 50 = .ok (.aload_n 0, 1) := by decide +kernel
theorem dX7_store_51 : decode cX7_store 51 = .ok (.getfield 15, 3) := by decide +kernel
theorem dX7_store_54 : decode cX7_store 54 = .ok (.iconst 0, 1) := by decide +kernel
theorem dX7_store_55 : decode cX7_store 55 = .ok (.aload_n 1, 1) := by decide +kernel
theorem dX7_store_56 : decode cX7_store 56 = .ok (.iload_n 3, 1) := by decide +kernel
theorem dX7_store_57 : decode cX7_store 57 = .ok (.bipush 8, 2) := by decide +kernel
theorem dX7_store_59 : decode cX7_store 59 = .ok (.iadd, 1) := by decide +kernel
theorem dX7_store_60 : decode cX7_store 60 = .ok (.bipush 8, 2) := by decide +kernel
theorem dX7_store_62 : decode cX7_store 62 = .ok (.invokestatic 90, 3) := by decide +kernel
theorem dX7_store_65 : decode cX7_store 65 = .ok (.aload_n 0, 1) := by decide +kernel
theorem dX7_store_66 : decode cX7_store 66 = .ok (.getfield 18, 3) := by decide +kernel
theorem dX7_store_69 : decode cX7_store 69 = .ok (.iconst 0, 1) := by decide +kernel
theorem dX7_store_70 : decode cX7_store 70 = .ok (.aload_n 1, 1) := by decide +kernel
theorem dX7_store_71 : decode cX7_store 71 = .ok (.iload_n 3, 1) := by decide +kernel
theorem dX7_store_72 : decode cX7_store 72 = .ok (.bipush 16, 2) := by decide +kernel
theorem dX7_store_74 : decode cX7_store 74 = .ok (.iadd, 1) := by decide +kernel
theorem dX7_store_75 : decode cX7_store 75 = .ok (.bipush 8, 2) := by decide +kernel
theorem dX7_store_77 : decode cX7_store 77 = .ok (.invokestatic 90, 3) := by decide +kernel
theorem dX7_store_80 : decode cX7_store 80 = .ok (.aload_n 0, 1) := by decide +kernel
theorem dX7_store_81 : decode cX7_store 81 = .ok (.getfield 21, 3) := by decide +kernel
theorem dX7_store_84 : decode cX7_store 84 = .ok (.iconst 0, 1) := by decide +kernel
theorem dX7_store_85 : decode cX7_store 85 = .ok (.aload_n 1, 1) := by decide +kernel
theorem dX7_store_86 : decode cX7_store 86 = .ok (.iload_n 3, 1) := by decide +kernel
theorem dX7_store_87 : decode cX7_store 87 = .ok (.bipush 24, 2) := by decide +kernel
theorem dX7_store_89 : decode cX7_store 89 = .ok (.iadd, 1) := by decide +kernel
theorem dX7_store_90 : decode cX7_store 90 = .ok (.bipush 8, 2) := by decide +kernel
theorem dX7_store_92 : decode cX7_store 92 = .ok (.invokestatic 90, 3) := by decide +kernel
theorem dX7_store_95 : decode cX7_store 95 = .ok (.aload_n 0, 1) := by decide +kernel
theorem dX7_store_96 : decode cX7_store 96 = .ok (.getfield 24, 3) := by decide +kernel
theorem dX7_store_99 : decode cX7_store 99 = .ok (.iconst 0, 1) := by decide +kernel
theorem dX7_store_100 : decode cX7_store 100 = .ok (.aload_n 1, 1) := by decide +kernel
theorem dX7_store_101 : decode cX7_store 101 = .ok (.iload_n 3, 1) := by decide +kernel
theorem dX7_store_102 : decode cX7_store 102 = .ok (.bipush 32, 2) := by decide +kernel
theorem dX7_store_104 : decode cX7_store 104 = .ok (.iadd, 1) := by decide +kernel
theorem dX7_store_105 : decode cX7_store 105 = .ok (.bipush 8, 2) := by decide +kernel
theorem dX7_store_107 : decode cX7_store 107 = .ok (.invokestatic 90, 3) := by decide +kernel
theorem dX7_store_110 : decode cX7_store 110 = .ok (.aload_n 0, 1) := by decide +kernel
theorem dX7_store_111 : decode cX7_store 111 = .ok (.getfield 27, 3) := by decide +kernel
theorem dX7_store_114 : decode cX7_store 114 = .ok (.iconst 0, 1) := by decide +kernel
theorem dX7_store_115 : decode cX7_store 115 = .ok (.aload_n 1, 1) := by decide +kernel
theorem dX7_store_116 : decode cX7_store 116 = .ok (.iload_n 3, 1) := by decide +kernel
theorem dX7_store_117 : decode cX7_store 117 = .ok (.bipush 40, 2) := by decide +kernel
theorem dX7_store_119 : decode cX7_store 119 = .ok (.iadd, 1) := by decide +kernel
theorem dX7_store_120 : decode cX7_store 120 = .ok (.bipush 8, 2) := by decide +kernel
theorem dX7_store_122 : decode cX7_store 122 = .ok (.invokestatic 90, 3) := by decide +kernel
theorem dX7_store_125 : decode cX7_store 125 = .ok (.iload_n 3, 1) := by decide +kernel
theorem dX7_store_126 : decode cX7_store 126 = .ok (.bipush 48, 2) := by decide +kernel
theorem dX7_store_128 : decode cX7_store 128 = .ok (.iadd, 1) := by decide +kernel
theorem dX7_store_129 : decode cX7_store 129 = .ok (.istore 4, 2) := by decide +kernel
theorem dX7_store_131 : decode cX7_store 131 = .ok (.aload_n 0, 1) := by decide +kernel
theorem dX7_store_132 : decode cX7_store 132 = .ok (.getfield 30, 3) := by decide +kernel
theorem dX7_store_135 : decode cX7_store 135 = .ok (.iconst 0, 1) := by decide +kernel
theorem dX7_store_136 : decode cX7_store 136 = .ok (.aload_n 1, 1) := by decide +kernel
theorem dX7_store_137 : decode cX7_store 137 = .ok (.iload 4, 2) := by decide +kernel
theorem dX7_store_139 : decode cX7_store 139 = .ok (.bipush 24, 2) := by decide +kernel
theorem dX7_store_141 : decode cX7_store 141 = .ok (.invokestatic 90, 3) := by decide +kernel
theorem dX7_store_144 : decode cX7_store 144 = .ok (.aload_n 0, 1) := by decide +kernel
theorem dX7_store_145 : decode cX7_store 145 = .ok (.getfield 33, 3) := by decide +kernel
theorem dX7_store_148 : decode cX7_store 148 = .ok (.iconst 0, 1) := by decide +kernel
theorem dX7_store_149 : decode cX7_store 149 = .ok (.aload_n 1, 1) := by decide +kernel
theorem dX7_store_150 : decode cX7_store 150 = .ok (.iload 4, 2) := by decide +kernel
theorem dX7_store_152 : decode cX7_store 152 = .ok (.bipush 24, 2) := by decide +kernel
theorem dX7_store_154 : decode cX7_store 154 = .ok (.iadd, 1) := by decide +kernel
theorem dX7_store_155 : decode cX7_store 155 = .ok (.bipush 24, 2) := by decide +kernel
theorem dX7_store_157 : decode cX7_store 157 = .ok (.invokestatic 90, 3) := by decide +kernel
theorem dX7_store_160 : decode cX7_store 160 = .ok (.aload_n 0, 1) := by decide +kernel
theorem dX7_store_161 : decode cX7_store 161 = .ok (.getfield 36, 3) := by decide +kernel
theorem dX7_store_164 : decode cX7_store 164 = .ok (.iconst 0, 1) := by decide +kernel
theorem dX7_store_165 : decode cX7_store 165 = .ok (.aload_n 1, 1) := by decide +kernel
theorem dX7_store_166 : decode cX7_store 166 = .ok (.iload 4, 2) := by decide +kernel
theorem dX7_store_168 : decode cX7_store 168 = .ok (.bipush 48, 2) := by decide +kernel
theorem dX7_store_170 : decode cX7_store 170 = .ok (.iadd, 1) := by decide +kernel
theorem dX7_store_171 : decode cX7_store 171 = .ok (.bipush 24, 2) := by decide +kernel
theorem dX7_store_173 : decode cX7_store 173 = .ok (.invokestatic 90, 3) := by decide +kernel
theorem dX7_store_176 : decode cX7_store 176 = .ok (.aload_n 0, 1) := by decide +kernel
theorem dX7_store_177 : decode cX7_store 177 = .ok (.getfield 39, 3) := by decide +kernel
theorem dX7_store_180 : decode cX7_store 180 = .ok (.iconst 0, 1) := by decide +kernel
theorem dX7_store_181 : decode cX7_store 181 = .ok (.aload_n 1, 1) := by decide +kernel
theorem dX7_store_182 : decode cX7_store 182 = .ok (.iload 4, 2) := by decide +kernel
theorem dX7_store_184 : decode cX7_store 184 = .ok (.bipush 72, 2) := by decide +kernel
theorem dX7_store_186 : decode cX7_store 186 = .ok (.iadd, 1) := by decide +kernel
theorem dX7_store_187 : decode cX7_store 187 = .ok (.bipush 24, 2) := by decide +kernel
theorem dX7_store_189 : decode cX7_store 189 = .ok (.invokestatic 90, 3) := by decide +kernel
theorem dX7_store_192 : decode cX7_store 192 = .ok (.aload_n 0, 1) := by decide +kernel
theorem dX7_store_193 : decode cX7_store 193 = .ok (.getfield 42, 3) := by decide +kernel
theorem dX7_store_196 : decode cX7_store 196 = .ok (.iconst 0, 1) := by decide +kernel
theorem dX7_store_197 : decode cX7_store 197 = .ok (.aload_n 1, 1) := by decide +kernel
theorem dX7_store_198 : decode cX7_store 198 = .ok (.iload 4, 2) := by decide +kernel
theorem dX7_store_200 : decode cX7_store 200 = .ok (.bipush 96, 2) := by decide +kernel
theorem dX7_store_202 : decode cX7_store 202 = .ok (.iadd, 1) := by decide +kernel
theorem dX7_store_203 : decode cX7_store 203 = .ok (.bipush 24, 2) := by decide +kernel
theorem dX7_store_205 : decode cX7_store 205 = .ok (.invokestatic 90, 3) := by decide +kernel
theorem dX7_store_208 : decode cX7_store 208 = .ok (.return_, 1) := by decide +kernel
theorem dX7_load_0 : decode cX7_load 0 = .ok (.aload_n 0, 1) := by decide +kernel
theorem dX7_load_1 : decode cX7_load 1 = .ok (.aload_n 1, 1) := by decide +kernel
theorem dX7_load_2 : decode cX7_load 2 = .ok (.iload_n 2, 1) := by decide +kernel
theorem dX7_load_3 : decode cX7_load 3 = .ok (.iaload, 1) := by decide +kernel
theorem dX7_load_4 : decode cX7_load 4 = .ok (.putfield 53, 3) := by decide +kernel
theorem dX7_load_7 : decode cX7_load 7 = .ok (.aload_n 0, 1) := by decide +kernel
theorem dX7_load_8 : decode cX7_load 8 = .ok (.aload_n 1, 1) := by decide +kernel
theorem dX7_load_9 : decode cX7_load 9 = .ok (.iload_n 2, 1) := by decide +kernel
theorem dX7_load_10 : decode cX7_load 10 = .ok (.iconst 1, 1) := by decide +kernel
theorem dX7_load_11 : decode cX7_load 11 = .ok (.iadd, 1) := by decide +kernel
theorem dX7_load_12 : decode cX7_load 12 = .ok (.iaload, 1) := by decide +kernel
theorem dX7_load_13 : decode cX7_load 13 = .ok (.putfield 57, 3) := by decide +kernel
theorem dX7_load_16 : decode cX7_load 16 = .ok (.aload_n 0, 1) := by decide +kernel
theorem dX7_load_17 : decode cX7_load 17 = .ok (.aload_n 1, 1) := by decide +kernel
theorem dX7_load_18 : decode cX7_load 18 = .ok (.iload_n 2, 1) := by decide +kernel
theorem dX7_load_19 : decode cX7_load 19 = .ok (.iconst 2, 1) := by decide +kernel
theorem dX7_load_20 : decode cX7_load 20 = .ok (.iadd, 1) := by decide +kernel
theorem dX7_load_21 : decode cX7_load 21 = .ok (.iaload, 1) := by decide +kernel
theorem dX7_load_22 : decode cX7_load 22 = .ok (.putfield 60, 3) := by decide +kernel
theorem dX7_load_25 : decode cX7_load 25 = .ok (.aload_n 0, 1) := by decide +kernel
theorem dX7_load_26 : decode cX7_load 26 = .ok (.aload_n 1, 1) := by decide +kernel
theorem dX7_load_27 : decode cX7_load 27 = .ok (.iload_n 2, 1) := by decide +kernel
theorem dX7_load_28 : decode cX7_load 28 = .ok (.iconst 3, 1) := by decide +kernel
theorem dX7_load_29 : decode cX7_load 29 = .ok (.iadd, 1) := by decide +kernel
theorem dX7_load_30 : decode cX7_load 30 = .ok (.iaload, 1) := by decide +kernel
theorem dX7_load_31 : decode cX7_load 31 = .ok (.putfield 63, 3) := by decide +kernel
theorem dX7_load_34 : decode cX7_load 34 = .ok (.iload_n 2, 1) := by decide +kernel
theorem dX7_load_35 : decode cX7_load 35 = .ok (.iconst 4, 1) := by decide +kernel
theorem dX7_load_36 : decode cX7_load 36 = .ok (.iadd, 1) := by decide +kernel
theorem dX7_load_37 : decode cX7_load 37 = .ok (.istore_n 3, 1) := by decide +kernel
theorem dX7_load_38 : decode cX7_load 38 = .ok (.aload_n 1, 1) := by decide +kernel
theorem dX7_load_39 : decode cX7_load 39 = .ok (.iload_n 3, 1) := by decide +kernel
theorem dX7_load_40 : decode cX7_load 40 = .ok (.aload_n 0, 1) := by decide +kernel
theorem dX7_load_41 : decode cX7_load 41 = .ok (.getfield 9, 3) := by decide +kernel
theorem dX7_load_44 : decode cX7_load 44 = .ok (.iconst 0, 1) := by decide +kernel
theorem dX7_load_45 : decode cX7_load 45 = .ok (.bipush 8, 2) := by decide +kernel
theorem dX7_load_47 : decode cX7_load 47 = .ok (.invokestatic 90, 3) := by decide +kernel
theorem dX7_load_50 : decode cX7_load 50 = .ok (.aload_n 1, 1) := by decide +kernel
theorem dX7_load_51 : decode cX7_load 51 = .ok (.iload_n 3, 1) := by decide +kernel
theorem dX7_load_52 : decode cX7_load 52 = .ok (.bipush 8, 2) := by decide +kernel
theorem dX7_load_54 : decode cX7_load 54 = .ok (.iadd, 1) := by decide +kernel
theorem dX7_load_55 : decode cX7_load 55 = .ok (.aload_n 0, 1) := by decide +kernel
theorem dX7_load_56 : decode cX7_load 56 = .ok (.getfield 15, 3) := by decide +kernel
theorem dX7_load_59 : decode cX7_load 59 = .ok (.iconst 0, 1) := by decide +kernel
theorem dX7_load_60 : decode cX7_load 60 = .ok (.bipush 8, 2) := by decide +kernel
theorem dX7_load_62 : decode cX7_load 62 = .ok (.invokestatic 90, 3) := by decide +kernel
theorem dX7_load_65 : decode cX7_load 65 = .ok (.aload_n 1, 1) := by decide +kernel
theorem dX7_load_66 : decode cX7_load 66 = .ok (.iload_n 3, 1) := by decide +kernel
theorem dX7_load_67 : decode cX7_load 67 = .ok (.bipush 16, 2) := by decide +kernel
theorem dX7_load_69 : decode cX7_load 69 = .ok (.iadd, 1) := by decide +kernel
theorem dX7_load_70 : decode cX7_load 70 = .ok (.aload_n 0, 1) := by decide +kernel
theorem dX7_load_71 : decode cX7_load 71 = .ok (.getfield 18, 3) := by decide +kernel
theorem dX7_load_74 : decode cX7_load 74 = .ok (.iconst 0, 1) := by decide +kernel
theorem dX7_load_75 : decode cX7_load 75 = .ok (.bipush 8, 2) := by decide +kernel
theorem dX7_load_77 : decode cX7_load 77 = .ok (.invokestatic 90, 3) := by decide +kernel
theorem dX7_load_80 : decode cX7_load 80 = .ok (.aload_n 1, 1) := by decide +kernel
theorem dX7_load_81 : decode cX7_load 81 = .ok (.iload_n 3, 1) := by decide +kernel
theorem dX7_load_82 : decode cX7_load 82 = .ok (.bipush 24, 2) := by decide +kernel
theorem dX7_load_84 : decode cX7_load 84 = .ok (.iadd, 1) := by decide +kernel
theorem dX7_load_85 : decode cX7_load 85 = .ok (.aload_n 0, 1) := by decide +kernel
theorem dX7_load_86 : decode cX7_load 86 = .ok (.getfield 21, 3) := by decide +kernel
theorem dX7_load_89 : decode cX7_load 89 = .ok (.iconst 0, 1) := by decide +kernel
theorem dX7_load_90 : decode cX7_load 90 = .ok (.bipush 8, 2) := by decide +kernel
theorem dX7_load_92 : decode cX7_load 92 = .ok (.invokestatic 90, 3) := by decide +kernel
theorem dX7_load_95 : decode cX7_load 95 = .ok (.aload_n 1, 1) := by decide +kernel
theorem dX7_load_96 : decode cX7_load 96 = .ok (.iload_n 3, 1) := by decide +kernel
theorem dX7_load_97 : decode cX7_load 97 = .ok (.bipush 32, 2) := by decide +kernel
theorem dX7_load_99 : decode cX7_load 99 = .ok (.iadd, 1) := by decide +kernel
theorem dX7_load_100 : decode cX7_load 100 = .ok (.aload_n 0, 1) := by decide +kernel
theorem dX7_load_101 : decode cX7_load 101 = .ok (.getfield 24, 3) := by decide +kernel
theorem dX7_load_104 : decode cX7_load 104 = .ok (.iconst 0, 1) := by decide +kernel
theorem dX7_load_105 : decode cX7_load 105 = .ok (.bipush 8, 2) := by decide +kernel
theorem dX7_load_107 : decode cX7_load 107 = .ok (.invokestatic 90, 3) := by decide +kernel
theorem dX7_load_110 : decode cX7_load 110 = .ok (.aload_n 1, 1) := by decide +kernel
theorem dX7_load_111 : decode cX7_load 111 = .ok (.iload_n 3, 1) := by decide +kernel
theorem dX7_load_112 : decode cX7_load 112 = .ok (.bipush 40, 2) := by decide +kernel
theorem dX7_load_114 : decode cX7_load 114 = .ok (.iadd, 1) := by decide +kernel
theorem dX7_load_115 : decode cX7_load 115 = .ok (.aload_n 0, 1) := by decide +kernel
theorem dX7_load_116 : decode cX7_load 116 = .ok (.getfield 27, 3) := by decide +kernel
theorem dX7_load_119 : decode cX7_load 119 = .ok (.iconst 0, 1) := by decide +kernel
theorem dX7_load_120 : decode cX7_load 120 = .ok (.bipush 8, 2) := by decide +kernel
theorem dX7_load_122 : decode cX7_load 122 = .ok (.invokestatic 90, 3) := by decide +kernel
theorem dX7_load_125 : decode cX7_load 125 = .ok (.iload_n 3, 1) := by decide +kernel
theorem dX7_load_126 : decode cX7_load 126 = .ok (.bipush 48, 2) := by decide +kernel
theorem dX7_load_128 : decode cX7_load 128 = .ok (.iadd, 1) := by decide +kernel
theorem dX7_load_129 : decode cX7_load 129 = .ok (.istore 4, 2) := by decide +kernel
theorem dX7_load_131 : decode cX7_load 131 = .ok (.aload_n 1, 1) := by decide +kernel
theorem dX7_load_132 : decode cX7_load 132 = .ok (.iload 4, 2) := by decide +kernel
theorem dX7_load_134 : decode cX7_load 134 = .ok (.aload_n 0, 1) := by decide +kernel
theorem dX7_load_135 : decode cX7_load 135 = .ok (.getfield 30, 3) := by decide +kernel
theorem dX7_load_138 : decode cX7_load 138 = .ok (.iconst 0, 1) := by decide +kernel
theorem dX7_load_139 : decode cX7_load 139 = .ok (.bipush 24, 2) := by decide +kernel
theorem dX7_load_141 : decode cX7_load 141 = .ok (.invokestatic 90, 3) := by decide +kernel
theorem dX7_load_144 : decode cX7_load 144 = .ok (.aload_n 1, 1) := by decide +kernel
theorem dX7_load_145 : decode cX7_load 145 = .ok (.iload 4, 2) := by decide +kernel
theorem dX7_load_147 : decode cX7_load 147 = .ok (.bipush 24, 2) := by decide +kernel
theorem dX7_load_149 : decode cX7_load 149 = .ok (.iadd, 1) := by decide +kernel
theorem dX7_load_150 : decode cX7_load 150 = .ok (.aload_n 0, 1) := by decide +kernel
theorem dX7_load_151 : decode cX7_load 151 = .ok (.getfield 33, 3) := by decide +kernel
theorem dX7_load_154 : decode cX7_load 154 = .ok (.iconst 0, 1) := by decide +kernel
theorem dX7_load_155 : decode cX7_load 155 = .ok (.bipush 24, 2) := by decide +kernel
theorem dX7_load_157 : decode cX7_load 157 = .ok (.invokestatic 90, 3) := by decide +kernel
theorem dX7_load_160 : decode cX7_load 160 = .ok (.aload_n 1, 1) := by decide +kernel
theorem dX7_load_161 : decode cX7_load 161 = .ok (.iload 4, 2) := by decide +kernel
theorem dX7_load_163 : decode cX7_load 163 = .ok (.bipush 48, 2) := by decide +kernel
theorem dX7_load_165 : decode cX7_load 165 = .ok (.iadd, 1) := by decide +kernel
theorem dX7_load_166 : decode cX7_load 166 = .ok (.aload_n 0, 1) := by decide +kernel
theorem dX7_load_167 : decode cX7_load 167 = .ok (.getfield 36, 3) := by decide +kernel
theorem dX7_load_170 : decode cX7_load 170 = .ok (.iconst 0, 1) := by decide +kernel
theorem dX7_load_171 : decode cX7_load 171 = .ok (.bipush 24, 2) := by decide +kernel
theorem dX7_load_173 : decode cX7_load 173 = .ok (.invokestatic 90, 3) := by decide +kernel
theorem dX7_load_176 : decode cX7_load 176 = .ok (.aload_n 1, 1) := by decide +kernel
theorem dX7_load_177 : decode cX7_load 177 = .ok (.iload 4, 2) := by decide +kernel
theorem dX7_load_179 : decode cX7_load 179 = .ok (.bipush 72, 2) := by decide +kernel
theorem dX7_load_181 : decode cX7_load 181 = .ok (.iadd, 1) := by decide +kernel
theorem dX7_load_182 : decode cX7_load 182 = .ok (.aload_n 0, 1) := by decide +kernel
theorem dX7_load_183 : decode cX7_load 183 = .ok (.getfield 39, 3) := by decide +kernel
theorem dX7_load_186 : decode cX7_load 186 = .ok (.iconst 0, 1) := by decide +kernel
theorem dX7_load_187 : decode cX7_load 187 = .ok (.bipush 24, 2) := by decide +kernel
theorem dX7_load_189 : decode cX7_load 189 = .ok (.invokestatic 90, 3) := by decide +kernel
theorem dX7_load_192 : decode cX7_load 192 = .ok (.aload_n 1, 1) := by decide +kernel
theorem dX7_load_193 : decode cX7_load 193 = .ok (.iload 4, 2) := by decide +kernel
theorem dX7_load_195 : decode cX7_load 195 = .ok (.bipush 96, 2) := by decide +kernel
theorem dX7_load_197 : decode cX7_load 197 = .ok (.iadd, 1) := by decide +kernel
theorem dX7_load_198 : decode cX7_load 198 = .ok (.aload_n 0, 1) := by decide +kernel
theorem dX7_load_199 : decode cX7_load 199 = .ok (.getfield 42, 3) := by decide +kernel
theorem dX7_load_202 : decode cX7_load 202 = .ok (.iconst 0, 1) := by decide +kernel
theorem dX7_load_203 : decode cX7_load 203 = .ok (.bipush 24, 2) := by decide +kernel
theorem dX7_load_205 : decode cX7_load 205 = .ok (.invokestatic 90, 3) := by decide +kernel
theorem dX7_load_208 : decode cX7_load 208 = .ok (.return_, 1) := by decide +kernel
theorem dX7_refusal_0 : decode cX7_refusal 0 = .ok (.iload_n 1, 1) := by decide +kernel
theorem dX7_refusal_1 : decode cX7_refusal 1 = .ok (.tableswitch 164 0 8 #[51, 164, 57, 64, 78, 109, 140, 164, 147], 51) := by decide +kernel
theorem dX7_refusal_52 : decode cX7_refusal 52 = .ok (.aload_n 0, 1) := by decide +kernel
theorem dX7_refusal_53 : decode cX7_refusal 53 = .ok (.iload_n 2, 1) := by decide +kernel
theorem dX7_refusal_54 : decode cX7_refusal 54 = .ok (.invokevirtual 96, 3) := by decide +kernel
theorem dX7_refusal_57 : decode cX7_refusal 57 = .ok (.ireturn, 1) := by decide +kernel
theorem dX7_refusal_58 : decode cX7_refusal 58 = .ok (.aload_n 0, 1) := by decide +kernel
theorem dX7_refusal_59 : decode cX7_refusal 59 = .ok (.iload_n 2, 1) := by decide +kernel
theorem dX7_refusal_60 : decode cX7_refusal 60 = .ok (.iload_n 3, 1) := by decide +kernel
theorem dX7_refusal_61 : decode cX7_refusal 61 = .ok (.invokevirtual 100, 3) := by decide +kernel
theorem dX7_refusal_64 : decode cX7_refusal 64 = .ok (.ireturn, 1) := by decide +kernel
theorem dX7_refusal_65 : decode cX7_refusal 65 = .ok (.aload_n 0, 1) := by decide +kernel
theorem dX7_refusal_66 : decode cX7_refusal 66 = .ok (.iload_n 2, 1) := by decide +kernel
theorem dX7_refusal_67 : decode cX7_refusal 67 = .ok (.invokevirtual 104, 3) := by decide +kernel
theorem dX7_refusal_70 : decode cX7_refusal 70 = .ok (.ifCond .eq 7, 3) := by decide +kernel
theorem dX7_refusal_73 : decode cX7_refusal 73 = .ok (.iconst (-1), 1) := by decide +kernel
theorem dX7_refusal_74 : decode cX7_refusal 74 = .ok (.goto 4, 3) := by decide +kernel
theorem dX7_refusal_77 : decode cX7_refusal 77 = .ok (.iconst 0, 1) := by decide +kernel
theorem dX7_refusal_78 : decode cX7_refusal 78 = .ok (.ireturn, 1) := by decide +kernel
theorem dX7_refusal_79 : decode cX7_refusal 79 = .ok (.aload_n 0, 1) := by decide +kernel
theorem dX7_refusal_80 : decode cX7_refusal 80 = .ok (.getfield 45, 3) := by decide +kernel
theorem dX7_refusal_83 : decode cX7_refusal 83 = .ok (.iload_n 2, 1) := by decide +kernel
theorem dX7_refusal_84 : decode cX7_refusal 84 = .ok (.invokevirtual 75, 3) := by decide +kernel
theorem dX7_refusal_87 : decode cX7_refusal 87 = .ok (.ifCond .ne 7, 3) := by decide +kernel
theorem dX7_refusal_90 : decode cX7_refusal 90 = .ok (.iconst 0, 1) := by decide +kernel
theorem dX7_refusal_91 : decode cX7_refusal 91 = .ok (.goto 18, 3) := by decide +kernel
theorem dX7_refusal_94 : decode cX7_refusal 94 = .ok (.aload_n 0, 1) := by decide +kernel
theorem dX7_refusal_95 : decode cX7_refusal 95 = .ok (.getfield 9, 3) := by decide +kernel
theorem dX7_refusal_98 : decode cX7_refusal 98 = .ok (.iload_n 2, 1) := by decide +kernel
theorem dX7_refusal_99 : decode cX7_refusal 99 = .ok (.iaload, 1) := by decide +kernel
theorem dX7_refusal_100 : decode cX7_refusal 100 = .ok (.iconst (-1), 1) := by decide +kernel
theorem dX7_refusal_101 : decode cX7_refusal 101 = .ok (.if_icmp .eq 7, 3) := by decide +kernel
theorem dX7_refusal_104 : decode cX7_refusal 104 = .ok (.iconst 2, 1) := by decide +kernel
theorem dX7_refusal_105 : decode cX7_refusal 105 = .ok (.goto 4, 3) := by decide +kernel
theorem dX7_refusal_108 : decode cX7_refusal 108 = .ok (.iconst (-1), 1) := by decide +kernel
theorem dX7_refusal_109 : decode cX7_refusal 109 = .ok (.ireturn, 1) := by decide +kernel
theorem dX7_refusal_110 : decode cX7_refusal 110 = .ok (.aload_n 0, 1) := by decide +kernel
theorem dX7_refusal_111 : decode cX7_refusal 111 = .ok (.getfield 45, 3) := by decide +kernel
theorem dX7_refusal_114 : decode cX7_refusal 114 = .ok (.iload_n 2, 1) := by decide +kernel
theorem dX7_refusal_115 : decode cX7_refusal 115 = .ok (.invokevirtual 75, 3) := by decide +kernel
theorem dX7_refusal_118 : decode cX7_refusal 118 = .ok (.ifCond .ne 7, 3) := by decide +kernel
theorem dX7_refusal_121 : decode cX7_refusal 121 = .ok (.iconst 0, 1) := by decide +kernel
theorem dX7_refusal_122 : decode cX7_refusal 122 = .ok (.goto 18, 3) := by decide +kernel
theorem dX7_refusal_125 : decode cX7_refusal 125 = .ok (.aload_n 0, 1) := by decide +kernel
theorem dX7_refusal_126 : decode cX7_refusal 126 = .ok (.getfield 9, 3) := by decide +kernel
theorem dX7_refusal_129 : decode cX7_refusal 129 = .ok (.iload_n 2, 1) := by decide +kernel
theorem dX7_refusal_130 : decode cX7_refusal 130 = .ok (.iaload, 1) := by decide +kernel
theorem dX7_refusal_131 : decode cX7_refusal 131 = .ok (.iconst (-1), 1) := by decide +kernel
theorem dX7_refusal_132 : decode cX7_refusal 132 = .ok (.if_icmp .ne 7, 3) := by decide +kernel
theorem dX7_refusal_135 : decode cX7_refusal 135 = .ok (.iconst 2, 1) := by decide +kernel
theorem dX7_refusal_136 : decode cX7_refusal 136 = .ok (.goto 4, 3) := by decide +kernel
theorem dX7_refusal_139 : decode cX7_refusal 139 = .ok (.iconst (-1), 1) := by decide +kernel
theorem dX7_refusal_140 : decode cX7_refusal 140 = .ok (.ireturn, 1) := by decide +kernel
theorem dX7_refusal_141 : decode cX7_refusal 141 = .ok (.aload_n 0, 1) := by decide +kernel
theorem dX7_refusal_142 : decode cX7_refusal 142 = .ok (.iload_n 2, 1) := by decide +kernel
theorem dX7_refusal_143 : decode cX7_refusal 143 = .ok (.iload_n 3, 1) := by decide +kernel
theorem dX7_refusal_144 : decode cX7_refusal 144 = .ok (.invokevirtual 107, 3) := by decide +kernel
theorem dX7_refusal_147 : decode cX7_refusal 147 = .ok (.ireturn, 1) := by decide +kernel
theorem dX7_refusal_148 : decode cX7_refusal 148 = .ok (.aload_n 0, 1) := by decide +kernel
theorem dX7_refusal_149 : decode cX7_refusal 149 = .ok (.getfield 45, 3) := by decide +kernel
theorem dX7_refusal_152 : decode cX7_refusal 152 = .ok (.iload_n 2, 1) := by decide +kernel
theorem dX7_refusal_153 : decode cX7_refusal 153 = .ok (.invokevirtual 75, 3) := by decide +kernel
theorem dX7_refusal_156 : decode cX7_refusal 156 = .ok (.ifCond .eq 7, 3) := by decide +kernel
theorem dX7_refusal_159 : decode cX7_refusal 159 = .ok (.iconst (-1), 1) := by decide +kernel
theorem dX7_refusal_160 : decode cX7_refusal 160 = .ok (.goto 4, 3) := by decide +kernel
theorem dX7_refusal_163 : decode cX7_refusal 163 = .ok (.iconst 0, 1) := by decide +kernel
theorem dX7_refusal_164 : decode cX7_refusal 164 = .ok (.ireturn, 1) := by decide +kernel
theorem dX7_refusal_165 : decode cX7_refusal 165 = .ok (.aload_n 0, 1) := by decide +kernel
theorem dX7_refusal_166 : decode cX7_refusal 166 = .ok (.getfield 45, 3) := by decide +kernel
theorem dX7_refusal_169 : decode cX7_refusal 169 = .ok (.invokevirtual 110, 3) := by decide +kernel
theorem dX7_refusal_172 : decode cX7_refusal 172 = .ok (.ifCond .eq 12, 3) := by decide +kernel
theorem dX7_refusal_175 : decode cX7_refusal 175 = .ok (.aload_n 0, 1) := by decide +kernel
theorem dX7_refusal_176 : decode cX7_refusal 176 = .ok (.iload_n 1, 1) := by decide +kernel
theorem dX7_refusal_177 : decode cX7_refusal 177 = .ok (.iload_n 2, 1) := by decide +kernel
theorem dX7_refusal_178 : decode cX7_refusal 178 = .ok (.invokevirtual 114, 3) := by decide +kernel
theorem dX7_refusal_181 : decode cX7_refusal 181 = .ok (.goto 4, 3) := by decide +kernel
theorem dX7_refusal_184 : decode cX7_refusal 184 = .ok (.iconst 0, 1) := by decide +kernel
theorem dX7_refusal_185 : decode cX7_refusal 185 = .ok (.ireturn, 1) := by decide +kernel
theorem dX7_askingRefusal_0 : decode cX7_askingRefusal 0 = .ok (.aload_n 0, 1) := by decide +kernel
theorem dX7_askingRefusal_1 : decode cX7_askingRefusal 1 = .ok (.iload_n 1, 1) := by decide +kernel
theorem dX7_askingRefusal_2 : decode cX7_askingRefusal 2 = .ok (.invokevirtual 104, 3) := by decide +kernel
theorem dX7_askingRefusal_5 : decode cX7_askingRefusal 5 = .ok (.ifCond .ne 5, 3) := by decide +kernel
theorem dX7_askingRefusal_8 : decode cX7_askingRefusal 8 = .ok (.iconst 0, 1) := by decide +kernel
theorem dX7_askingRefusal_9 : decode cX7_askingRefusal 9 = .ok (.ireturn, 1) := by decide +kernel
theorem dX7_askingRefusal_10 : decode cX7_askingRefusal 10 = .ok (.aload_n 0, 1) := by decide +kernel
theorem dX7_askingRefusal_11 : decode cX7_askingRefusal 11 = .ok (.getfield 39, 3) := by decide +kernel
theorem dX7_askingRefusal_14 : decode cX7_askingRefusal 14 = .ok (.iload_n 1, 1) := by decide +kernel
theorem dX7_askingRefusal_15 : decode cX7_askingRefusal 15 = .ok (.iaload, 1) := by decide +kernel
theorem dX7_askingRefusal_16 : decode cX7_askingRefusal 16 = .ok (.ifCond .eq 12, 3) := by decide +kernel
theorem dX7_askingRefusal_19 : decode cX7_askingRefusal 19 = .ok (.aload_n 0, 1) := by decide +kernel
theorem dX7_askingRefusal_20 : decode cX7_askingRefusal 20 = .ok (.getfield 42, 3) := by decide +kernel
theorem dX7_askingRefusal_23 : decode cX7_askingRefusal 23 = .ok (.iload_n 1, 1) := by decide +kernel
theorem dX7_askingRefusal_24 : decode cX7_askingRefusal 24 = .ok (.iaload, 1) := by decide +kernel
theorem dX7_askingRefusal_25 : decode cX7_askingRefusal 25 = .ok (.ifCond .eq 5, 3) := by decide +kernel
theorem dX7_askingRefusal_28 : decode cX7_askingRefusal 28 = .ok (.iconst 2, 1) := by decide +kernel
theorem dX7_askingRefusal_29 : decode cX7_askingRefusal 29 = .ok (.ireturn, 1) := by decide +kernel
theorem dX7_askingRefusal_30 : decode cX7_askingRefusal 30 = .ok (.aload_n 0, 1) := by decide +kernel
theorem dX7_askingRefusal_31 : decode cX7_askingRefusal 31 = .ok (.invokevirtual 117, 3) := by decide +kernel
theorem dX7_askingRefusal_34 : decode cX7_askingRefusal 34 = .ok (.bipush 12, 2) := by decide +kernel
theorem dX7_askingRefusal_36 : decode cX7_askingRefusal 36 = .ok (.if_icmp .lt 7, 3) := by decide +kernel
theorem dX7_askingRefusal_39 : decode cX7_askingRefusal 39 = .ok (.iconst 3, 1) := by decide +kernel
theorem dX7_askingRefusal_40 : decode cX7_askingRefusal 40 = .ok (.goto 4, 3) := by decide +kernel
theorem dX7_askingRefusal_43 : decode cX7_askingRefusal 43 = .ok (.iconst (-1), 1) := by decide +kernel
theorem dX7_askingRefusal_44 : decode cX7_askingRefusal 44 = .ok (.ireturn, 1) := by decide +kernel
theorem dX7_writingRefusal_0 : decode cX7_writingRefusal 0 = .ok (.aload_n 0, 1) := by decide +kernel
theorem dX7_writingRefusal_1 : decode cX7_writingRefusal 1 = .ok (.getfield 45, 3) := by decide +kernel
theorem dX7_writingRefusal_4 : decode cX7_writingRefusal 4 = .ok (.iload_n 1, 1) := by decide +kernel
theorem dX7_writingRefusal_5 : decode cX7_writingRefusal 5 = .ok (.invokevirtual 75, 3) := by decide +kernel
theorem dX7_writingRefusal_8 : decode cX7_writingRefusal 8 = .ok (.ifCond .ne 5, 3) := by decide +kernel
theorem dX7_writingRefusal_11 : decode cX7_writingRefusal 11 = .ok (.iconst 0, 1) := by decide +kernel
theorem dX7_writingRefusal_12 : decode cX7_writingRefusal 12 = .ok (.ireturn, 1) := by decide +kernel
theorem dX7_writingRefusal_13 : decode cX7_writingRefusal 13 = .ok (.iload_n 2, 1) := by decide +kernel
theorem dX7_writingRefusal_14 : decode cX7_writingRefusal 14 = .ok (.iconst 1, 1) := by decide +kernel
theorem dX7_writingRefusal_15 : decode cX7_writingRefusal 15 = .ok (.if_icmp .lt 9, 3) := by decide +kernel
theorem dX7_writingRefusal_18 : decode cX7_writingRefusal 18 = .ok (.iload_n 2, 1) := by decide +kernel
theorem dX7_writingRefusal_19 : decode cX7_writingRefusal 19 = .ok (.bipush 9, 2) := by decide +kernel
theorem dX7_writingRefusal_21 : decode cX7_writingRefusal 21 = .ok (.if_icmp .le 5, 3) := by decide +kernel
theorem dX7_writingRefusal_24 : decode cX7_writingRefusal 24 = .ok (.iconst 1, 1) := by decide +kernel
theorem dX7_writingRefusal_25 : decode cX7_writingRefusal 25 = .ok (.ireturn, 1) := by decide +kernel
theorem dX7_writingRefusal_26 : decode cX7_writingRefusal 26 = .ok (.aload_n 0, 1) := by decide +kernel
theorem dX7_writingRefusal_27 : decode cX7_writingRefusal 27 = .ok (.getfield 63, 3) := by decide +kernel
theorem dX7_writingRefusal_30 : decode cX7_writingRefusal 30 = .ok (.bipush 24, 2) := by decide +kernel
theorem dX7_writingRefusal_32 : decode cX7_writingRefusal 32 = .ok (.if_icmp .ge 12, 3) := by decide +kernel
theorem dX7_writingRefusal_35 : decode cX7_writingRefusal 35 = .ok (.aload_n 0, 1) := by decide +kernel
theorem dX7_writingRefusal_36 : decode cX7_writingRefusal 36 = .ok (.iload_n 1, 1) := by decide +kernel
theorem dX7_writingRefusal_37 : decode cX7_writingRefusal 37 = .ok (.iload_n 2, 1) := by decide +kernel
theorem dX7_writingRefusal_38 : decode cX7_writingRefusal 38 = .ok (.invokevirtual 82, 3) := by decide +kernel
theorem dX7_writingRefusal_41 : decode cX7_writingRefusal 41 = .ok (.ifCond .ne 7, 3) := by decide +kernel
theorem dX7_writingRefusal_44 : decode cX7_writingRefusal 44 = .ok (.iconst 3, 1) := by decide +kernel
theorem dX7_writingRefusal_45 : decode cX7_writingRefusal 45 = .ok (.goto 4, 3) := by decide +kernel
theorem dX7_writingRefusal_48 : decode cX7_writingRefusal 48 = .ok (.iconst (-1), 1) := by decide +kernel
theorem dX7_writingRefusal_49 : decode cX7_writingRefusal 49 = .ok (.ireturn, 1) := by decide +kernel
theorem dX7_copyingRefusal_0 : decode cX7_copyingRefusal 0 = .ok (.aload_n 0, 1) := by decide +kernel
theorem dX7_copyingRefusal_1 : decode cX7_copyingRefusal 1 = .ok (.getfield 45, 3) := by decide +kernel
theorem dX7_copyingRefusal_4 : decode cX7_copyingRefusal 4 = .ok (.iload_n 1, 1) := by decide +kernel
theorem dX7_copyingRefusal_5 : decode cX7_copyingRefusal 5 = .ok (.invokevirtual 75, 3) := by decide +kernel
theorem dX7_copyingRefusal_8 : decode cX7_copyingRefusal 8 = .ok (.ifCond .eq 14, 3) := by decide +kernel
theorem dX7_copyingRefusal_11 : decode cX7_copyingRefusal 11 = .ok (.aload_n 0, 1) := by decide +kernel
theorem dX7_copyingRefusal_12 : decode cX7_copyingRefusal 12 = .ok (.getfield 45, 3) := by decide +kernel
theorem dX7_copyingRefusal_15 : decode cX7_copyingRefusal 15 = .ok (.iload_n 2, 1) := by decide +kernel
theorem dX7_copyingRefusal_16 : decode cX7_copyingRefusal 16 = .ok (.invokevirtual 75, 3) := by decide +kernel
theorem dX7_copyingRefusal_19 : decode cX7_copyingRefusal 19 = .ok (.ifCond .ne 5, 3) := by decide +kernel
theorem dX7_copyingRefusal_22 : decode cX7_copyingRefusal 22 = .ok (.iconst 0, 1) := by decide +kernel
theorem dX7_copyingRefusal_23 : decode cX7_copyingRefusal 23 = .ok (.ireturn, 1) := by decide +kernel
theorem dX7_copyingRefusal_24 : decode cX7_copyingRefusal 24 = .ok (.iload_n 1, 1) := by decide +kernel
theorem dX7_copyingRefusal_25 : decode cX7_copyingRefusal 25 = .ok (.iload_n 2, 1) := by decide +kernel
theorem dX7_copyingRefusal_26 : decode cX7_copyingRefusal 26 = .ok (.if_icmp .eq 20, 3) := by decide +kernel
theorem dX7_copyingRefusal_29 : decode cX7_copyingRefusal 29 = .ok (.aload_n 0, 1) := by decide +kernel
theorem dX7_copyingRefusal_30 : decode cX7_copyingRefusal 30 = .ok (.getfield 18, 3) := by decide +kernel
theorem dX7_copyingRefusal_33 : decode cX7_copyingRefusal 33 = .ok (.iload_n 2, 1) := by decide +kernel
theorem dX7_copyingRefusal_34 : decode cX7_copyingRefusal 34 = .ok (.iaload, 1) := by decide +kernel
theorem dX7_copyingRefusal_35 : decode cX7_copyingRefusal 35 = .ok (.ifCond .ne 11, 3) := by decide +kernel
theorem dX7_copyingRefusal_38 : decode cX7_copyingRefusal 38 = .ok (.aload_n 0, 1) := by decide +kernel
theorem dX7_copyingRefusal_39 : decode cX7_copyingRefusal 39 = .ok (.iload_n 1, 1) := by decide +kernel
theorem dX7_copyingRefusal_40 : decode cX7_copyingRefusal 40 = .ok (.invokevirtual 121, 3) := by decide +kernel
theorem dX7_copyingRefusal_43 : decode cX7_copyingRefusal 43 = .ok (.ifCond .ne 7, 3) := by decide +kernel
theorem dX7_copyingRefusal_46 : decode cX7_copyingRefusal 46 = .ok (.iconst 2, 1) := by decide +kernel
theorem dX7_copyingRefusal_47 : decode cX7_copyingRefusal 47 = .ok (.goto 4, 3) := by decide +kernel
theorem dX7_copyingRefusal_50 : decode cX7_copyingRefusal 50 = .ok (.iconst (-1), 1) := by decide +kernel
theorem dX7_copyingRefusal_51 : decode cX7_copyingRefusal 51 = .ok (.ireturn, 1) := by decide +kernel
theorem dX7_hallRefusal_0 : decode cX7_hallRefusal 0 = .ok (.iload_n 1, 1) := by decide +kernel
theorem dX7_hallRefusal_1 : decode cX7_hallRefusal 1 = .ok (.lookupswitch 78 #[(1, 35), (7, 48), (9, 61)], 35) := by decide +kernel
theorem dX7_hallRefusal_36 : decode cX7_hallRefusal 36 = .ok (.aload_n 0, 1) := by decide +kernel
theorem dX7_hallRefusal_37 : decode cX7_hallRefusal 37 = .ok (.invokevirtual 117, 3) := by decide +kernel
theorem dX7_hallRefusal_40 : decode cX7_hallRefusal 40 = .ok (.ifCond .ne 7, 3) := by decide +kernel
theorem dX7_hallRefusal_43 : decode cX7_hallRefusal 43 = .ok (.iconst 2, 1) := by decide +kernel
theorem dX7_hallRefusal_44 : decode cX7_hallRefusal 44 = .ok (.goto 4, 3) := by decide +kernel
theorem dX7_hallRefusal_47 : decode cX7_hallRefusal 47 = .ok (.iconst (-1), 1) := by decide +kernel
theorem dX7_hallRefusal_48 : decode cX7_hallRefusal 48 = .ok (.ireturn, 1) := by decide +kernel
theorem dX7_hallRefusal_49 : decode cX7_hallRefusal 49 = .ok (.aload_n 0, 1) := by decide +kernel
theorem dX7_hallRefusal_50 : decode cX7_hallRefusal 50 = .ok (.invokevirtual 124, 3) := by decide +kernel
theorem dX7_hallRefusal_53 : decode cX7_hallRefusal 53 = .ok (.ifCond .ne 7, 3) := by decide +kernel
theorem dX7_hallRefusal_56 : decode cX7_hallRefusal 56 = .ok (.iconst 2, 1) := by decide +kernel
theorem dX7_hallRefusal_57 : decode cX7_hallRefusal 57 = .ok (.goto 4, 3) := by decide +kernel
theorem dX7_hallRefusal_60 : decode cX7_hallRefusal 60 = .ok (.iconst (-1), 1) := by decide +kernel
theorem dX7_hallRefusal_61 : decode cX7_hallRefusal 61 = .ok (.ireturn, 1) := by decide +kernel
theorem dX7_hallRefusal_62 : decode cX7_hallRefusal 62 = .ok (.iload_n 2, 1) := by decide +kernel
theorem dX7_hallRefusal_63 : decode cX7_hallRefusal 63 = .ok (.iconst 1, 1) := by decide +kernel
theorem dX7_hallRefusal_64 : decode cX7_hallRefusal 64 = .ok (.if_icmp .lt 9, 3) := by decide +kernel
theorem dX7_hallRefusal_67 : decode cX7_hallRefusal 67 = .ok (.iload_n 2, 1) := by decide +kernel
theorem dX7_hallRefusal_68 : decode cX7_hallRefusal 68 = .ok (.bipush 99, 2) := by decide +kernel
theorem dX7_hallRefusal_70 : decode cX7_hallRefusal 70 = .ok (.if_icmp .le 7, 3) := by decide +kernel
theorem dX7_hallRefusal_73 : decode cX7_hallRefusal 73 = .ok (.iconst 1, 1) := by decide +kernel
theorem dX7_hallRefusal_74 : decode cX7_hallRefusal 74 = .ok (.goto 4, 3) := by decide +kernel
theorem dX7_hallRefusal_77 : decode cX7_hallRefusal 77 = .ok (.iconst (-1), 1) := by decide +kernel
theorem dX7_hallRefusal_78 : decode cX7_hallRefusal 78 = .ok (.ireturn, 1) := by decide +kernel
theorem dX7_hallRefusal_79 : decode cX7_hallRefusal 79 = .ok (.aload_n 0, 1) := by decide +kernel
theorem dX7_hallRefusal_80 : decode cX7_hallRefusal 80 = .ok (.invokevirtual 127, 3) := by decide +kernel
theorem dX7_hallRefusal_83 : decode cX7_hallRefusal 83 = .ok (.ifCond .eq 7, 3) := by decide +kernel
theorem dX7_hallRefusal_86 : decode cX7_hallRefusal 86 = .ok (.iconst (-1), 1) := by decide +kernel
theorem dX7_hallRefusal_87 : decode cX7_hallRefusal 87 = .ok (.goto 4, 3) := by decide +kernel
theorem dX7_hallRefusal_90 : decode cX7_hallRefusal 90 = .ok (.iconst 2, 1) := by decide +kernel
theorem dX7_hallRefusal_91 : decode cX7_hallRefusal 91 = .ok (.ireturn, 1) := by decide +kernel
theorem dX7_canRescue_0 : decode cX7_canRescue 0 = .ok (.aload_n 0, 1) := by decide +kernel
theorem dX7_canRescue_1 : decode cX7_canRescue 1 = .ok (.invokevirtual 130, 3) := by decide +kernel
theorem dX7_canRescue_4 : decode cX7_canRescue 4 = .ok (.istore_n 1, 1) := by decide +kernel
theorem dX7_canRescue_5 : decode cX7_canRescue 5 = .ok (.iconst 0, 1) := by decide +kernel
theorem dX7_canRescue_6 : decode cX7_canRescue 6 = .ok (.istore_n 2, 1) := by decide +kernel
theorem dX7_canRescue_7 : decode cX7_canRescue 7 = .ok (.iload_n 2, 1) := by decide +kernel
theorem dX7_canRescue_8 : decode cX7_canRescue 8 = .ok (.aload_n 0, 1) := by decide +kernel
theorem dX7_canRescue_9 : decode cX7_canRescue 9 = .ok (.getfield 45, 3) := by decide +kernel
theorem dX7_canRescue_12 : decode cX7_canRescue 12 = .ok (.getfield 133, 3) := by decide +kernel
theorem dX7_canRescue_15 : decode cX7_canRescue 15 = .ok (.if_icmp .ge 29, 3) := by decide +kernel
theorem dX7_canRescue_18 : decode cX7_canRescue 18 = .ok (.iload_n 1, 1) := by decide +kernel
theorem dX7_canRescue_19 : decode cX7_canRescue 19 = .ok (.iload_n 2, 1) := by decide +kernel
theorem dX7_canRescue_20 : decode cX7_canRescue 20 = .ok (.ishr, 1) := by decide +kernel
theorem dX7_canRescue_21 : decode cX7_canRescue 21 = .ok (.iconst 1, 1) := by decide +kernel
theorem dX7_canRescue_22 : decode cX7_canRescue 22 = .ok (.iand, 1) := by decide +kernel
theorem dX7_canRescue_23 : decode cX7_canRescue 23 = .ok (.iconst 1, 1) := by decide +kernel
theorem dX7_canRescue_24 : decode cX7_canRescue 24 = .ok (.if_icmp .ne 14, 3) := by decide +kernel
theorem dX7_canRescue_27 : decode cX7_canRescue 27 = .ok (.aload_n 0, 1) := by decide +kernel
theorem dX7_canRescue_28 : decode cX7_canRescue 28 = .ok (.iload_n 2, 1) := by decide +kernel
theorem dX7_canRescue_29 : decode cX7_canRescue 29 = .ok (.invokevirtual 136, 3) := by decide +kernel
theorem dX7_canRescue_32 : decode cX7_canRescue 32 = .ok (.iconst (-1), 1) := by decide +kernel
theorem dX7_canRescue_33 : decode cX7_canRescue 33 = .ok (.if_icmp .eq 5, 3) := by decide +kernel
theorem dX7_canRescue_36 : decode cX7_canRescue 36 = .ok (.iconst 1, 1) := by decide +kernel
theorem dX7_canRescue_37 : decode cX7_canRescue 37 = .ok (.ireturn, 1) := by decide +kernel
theorem dX7_canRescue_38 : decode cX7_canRescue 38 = .ok (.iinc 2 1, 3) := by decide +kernel
theorem dX7_canRescue_41 : decode cX7_canRescue 41 = .ok (.goto (-34), 3) := by decide +kernel
theorem dX7_canRescue_44 : decode cX7_canRescue 44 = .ok (.iconst 0, 1) := by decide +kernel
theorem dX7_canRescue_45 : decode cX7_canRescue 45 = .ok (.ireturn, 1) := by decide +kernel
theorem dX7_carryOut_0 : decode cX7_carryOut 0 = .ok (.iload_n 1, 1) := by decide +kernel
theorem dX7_carryOut_1 : decode cX7_carryOut 1 = .ok (.tableswitch 115 0 9 #[55, 61, 66, 73, 79, 85, 91, 98, 103, 109], 55) := by decide +kernel
theorem dX7_carryOut_56 : decode cX7_carryOut 56 = .ok (.aload_n 0, 1) := by decide +kernel
theorem dX7_carryOut_57 : decode cX7_carryOut 57 = .ok (.iload_n 2, 1) := by decide +kernel
theorem dX7_carryOut_58 : decode cX7_carryOut 58 = .ok (.invokevirtual 139, 3) := by decide +kernel
theorem dX7_carryOut_61 : decode cX7_carryOut 61 = .ok (.ireturn, 1) := by decide +kernel
theorem dX7_carryOut_62 : decode cX7_carryOut 62 = .ok (.aload_n 0, 1) := by decide +kernel
theorem dX7_carryOut_63 : decode cX7_carryOut 63 = .ok (.invokevirtual 142, 3) := by decide +kernel
theorem dX7_carryOut_66 : decode cX7_carryOut 66 = .ok (.ireturn, 1) := by decide +kernel
theorem dX7_carryOut_67 : decode cX7_carryOut 67 = .ok (.aload_n 0, 1) := by decide +kernel
theorem dX7_carryOut_68 : decode cX7_carryOut 68 = .ok (.iload_n 2, 1) := by decide +kernel
theorem dX7_carryOut_69 : decode cX7_carryOut 69 = .ok (.iload_n 3, 1) := by decide +kernel
theorem dX7_carryOut_70 : decode cX7_carryOut 70 = .ok (.invokevirtual 145, 3) := by decide +kernel
theorem dX7_carryOut_73 : decode cX7_carryOut 73 = .ok (.ireturn, 1) := by decide +kernel
theorem dX7_carryOut_74 : decode cX7_carryOut 74 = .ok (.aload_n 0, 1) := by decide +kernel
theorem dX7_carryOut_75 : decode cX7_carryOut 75 = .ok (.iload_n 2, 1) := by decide +kernel
theorem dX7_carryOut_76 : decode cX7_carryOut 76 = .ok (.invokevirtual 148, 3) := by decide +kernel
theorem dX7_carryOut_79 : decode cX7_carryOut 79 = .ok (.ireturn, 1) := by decide +kernel
theorem dX7_carryOut_80 : decode cX7_carryOut 80 = .ok (.aload_n 0, 1) := by decide +kernel
theorem dX7_carryOut_81 : decode cX7_carryOut 81 = .ok (.iload_n 2, 1) := by decide +kernel
theorem dX7_carryOut_82 : decode cX7_carryOut 82 = .ok (.invokevirtual 151, 3) := by decide +kernel
theorem dX7_carryOut_85 : decode cX7_carryOut 85 = .ok (.ireturn, 1) := by decide +kernel
theorem dX7_carryOut_86 : decode cX7_carryOut 86 = .ok (.aload_n 0, 1) := by decide +kernel
theorem dX7_carryOut_87 : decode cX7_carryOut 87 = .ok (.iload_n 2, 1) := by decide +kernel
theorem dX7_carryOut_88 : decode cX7_carryOut 88 = .ok (.invokevirtual 154, 3) := by decide +kernel
theorem dX7_carryOut_91 : decode cX7_carryOut 91 = .ok (.ireturn, 1) := by decide +kernel
theorem dX7_carryOut_92 : decode cX7_carryOut 92 = .ok (.aload_n 0, 1) := by decide +kernel
theorem dX7_carryOut_93 : decode cX7_carryOut 93 = .ok (.iload_n 2, 1) := by decide +kernel
theorem dX7_carryOut_94 : decode cX7_carryOut 94 = .ok (.iload_n 3, 1) := by decide +kernel
theorem dX7_carryOut_95 : decode cX7_carryOut 95 = .ok (.invokevirtual 157, 3) := by decide +kernel
theorem dX7_carryOut_98 : decode cX7_carryOut 98 = .ok (.ireturn, 1) := by decide +kernel
theorem dX7_carryOut_99 : decode cX7_carryOut 99 = .ok (.aload_n 0, 1) := by decide +kernel
theorem dX7_carryOut_100 : decode cX7_carryOut 100 = .ok (.invokevirtual 160, 3) := by decide +kernel
theorem dX7_carryOut_103 : decode cX7_carryOut 103 = .ok (.ireturn, 1) := by decide +kernel
theorem dX7_carryOut_104 : decode cX7_carryOut 104 = .ok (.aload_n 0, 1) := by decide +kernel
theorem dX7_carryOut_105 : decode cX7_carryOut 105 = .ok (.iload_n 2, 1) := by decide +kernel
theorem dX7_carryOut_106 : decode cX7_carryOut 106 = .ok (.invokevirtual 163, 3) := by decide +kernel
theorem dX7_carryOut_109 : decode cX7_carryOut 109 = .ok (.ireturn, 1) := by decide +kernel
theorem dX7_carryOut_110 : decode cX7_carryOut 110 = .ok (.aload_n 0, 1) := by decide +kernel
theorem dX7_carryOut_111 : decode cX7_carryOut 111 = .ok (.iload_n 2, 1) := by decide +kernel
theorem dX7_carryOut_112 : decode cX7_carryOut 112 = .ok (.invokevirtual 166, 3) := by decide +kernel
theorem dX7_carryOut_115 : decode cX7_carryOut 115 = .ok (.ireturn, 1) := by decide +kernel
theorem dX7_carryOut_116 : decode cX7_carryOut 116 = .ok (.aload_n 0, 1) := by decide +kernel
theorem dX7_carryOut_117 : decode cX7_carryOut 117 = .ok (.invokevirtual 169, 3) := by decide +kernel
theorem dX7_carryOut_120 : decode cX7_carryOut 120 = .ok (.ireturn, 1) := by decide +kernel
theorem dX7_askFor_0 : decode cX7_askFor 0 = .ok (.aload_n 0, 1) := by decide +kernel
theorem dX7_askFor_1 : decode cX7_askFor 1 = .ok (.dup, 1) := by decide +kernel
theorem dX7_askFor_2 : decode cX7_askFor 2 = .ok (.getfield 60, 3) := by decide +kernel
theorem dX7_askFor_5 : decode cX7_askFor 5 = .ok (.iconst 1, 1) := by decide +kernel
theorem dX7_askFor_6 : decode cX7_askFor 6 = .ok (.iadd, 1) := by decide +kernel
theorem dX7_askFor_7 : decode cX7_askFor 7 = .ok (.putfield 60, 3) := by decide +kernel
theorem dX7_askFor_10 : decode cX7_askFor 10 = .ok (.aload_n 0, 1) := by decide +kernel
theorem dX7_askFor_11 : decode cX7_askFor 11 = .ok (.getfield 42, 3) := by decide +kernel
theorem dX7_askFor_14 : decode cX7_askFor 14 = .ok (.iload_n 1, 1) := by decide +kernel
theorem dX7_askFor_15 : decode cX7_askFor 15 = .ok (.aload_n 0, 1) := by decide +kernel
theorem dX7_askFor_16 : decode cX7_askFor 16 = .ok (.getfield 60, 3) := by decide +kernel
theorem dX7_askFor_19 : decode cX7_askFor 19 = .ok (.iastore, 1) := by decide +kernel
theorem dX7_askFor_20 : decode cX7_askFor 20 = .ok (.aload_n 0, 1) := by decide +kernel
theorem dX7_askFor_21 : decode cX7_askFor 21 = .ok (.getfield 60, 3) := by decide +kernel
theorem dX7_askFor_24 : decode cX7_askFor 24 = .ok (.ireturn, 1) := by decide +kernel
theorem dX7_serveNext_0 : decode cX7_serveNext 0 = .ok (.aload_n 0, 1) := by decide +kernel
theorem dX7_serveNext_1 : decode cX7_serveNext 1 = .ok (.invokevirtual 172, 3) := by decide +kernel
theorem dX7_serveNext_4 : decode cX7_serveNext 4 = .ok (.istore_n 1, 1) := by decide +kernel
theorem dX7_serveNext_5 : decode cX7_serveNext 5 = .ok (.iload_n 1, 1) := by decide +kernel
theorem dX7_serveNext_6 : decode cX7_serveNext 6 = .ok (.iconst (-1), 1) := by decide +kernel
theorem dX7_serveNext_7 : decode cX7_serveNext 7 = .ok (.if_icmp .ne 5, 3) := by decide +kernel
theorem dX7_serveNext_10 : decode cX7_serveNext 10 = .ok (.iconst (-1), 1) := by decide +kernel
theorem dX7_serveNext_11 : decode cX7_serveNext 11 = .ok (.ireturn, 1) := by decide +kernel
theorem dX7_serveNext_12 : decode cX7_serveNext 12 = .ok (.aload_n 0, 1) := by decide +kernel
theorem dX7_serveNext_13 : decode cX7_serveNext 13 = .ok (.iload_n 1, 1) := by decide +kernel
theorem dX7_serveNext_14 : decode cX7_serveNext 14 = .ok (.invokevirtual 151, 3) := by decide +kernel
theorem dX7_serveNext_17 : decode cX7_serveNext 17 = .ok (.pop, 1) := by decide +kernel
theorem dX7_serveNext_18 : decode cX7_serveNext 18 = .ok (.aload_n 0, 1) := by decide +kernel
theorem dX7_serveNext_19 : decode cX7_serveNext 19 = .ok (.getfield 49, 3) := by decide +kernel
theorem dX7_serveNext_22 : decode cX7_serveNext 22 = .ok (.aload_n 0, 1) := by decide +kernel
theorem dX7_serveNext_23 : decode cX7_serveNext 23 = .ok (.iload_n 1, 1) := by decide +kernel
theorem dX7_serveNext_24 : decode cX7_serveNext 24 = .ok (.invokevirtual 175, 3) := by decide +kernel
theorem dX7_serveNext_27 : decode cX7_serveNext 27 = .ok (.aload_n 0, 1) := by decide +kernel
theorem dX7_serveNext_28 : decode cX7_serveNext 28 = .ok (.getfield 49, 3) := by decide +kernel
theorem dX7_serveNext_31 : decode cX7_serveNext 31 = .ok (.invokevirtual 181, 3) := by decide +kernel
theorem dX7_serveNext_34 : decode cX7_serveNext 34 = .ok (.iconst 0, 1) := by decide +kernel
theorem dX7_serveNext_35 : decode cX7_serveNext 35 = .ok (.istore_n 2, 1) := by decide +kernel
theorem dX7_serveNext_36 : decode cX7_serveNext 36 = .ok (.iload_n 2, 1) := by decide +kernel
theorem dX7_serveNext_37 : decode cX7_serveNext 37 = .ok (.aload_n 0, 1) := by decide +kernel
theorem dX7_serveNext_38 : decode cX7_serveNext 38 = .ok (.getfield 49, 3) := by decide +kernel
theorem dX7_serveNext_41 : decode cX7_serveNext 41 = .ok (.getfield 184, 3) := by decide +kernel
theorem dX7_serveNext_44 : decode cX7_serveNext 44 = .ok (.if_icmp .ge 42, 3) := by decide +kernel
theorem dX7_serveNext_47 : decode cX7_serveNext 47 = .ok (.aload_n 0, 1) := by decide +kernel
theorem dX7_serveNext_48 : decode cX7_serveNext 48 = .ok (.getfield 49, 3) := by decide +kernel
theorem dX7_serveNext_51 : decode cX7_serveNext 51 = .ok (.iload_n 2, 1) := by decide +kernel
theorem dX7_serveNext_52 : decode cX7_serveNext 52 = .ok (.invokevirtual 187, 3) := by decide +kernel
theorem dX7_serveNext_55 : decode cX7_serveNext 55 = .ok (.istore_n 3, 1) := by decide +kernel
theorem dX7_serveNext_56 : decode cX7_serveNext 56 = .ok (.aload_n 0, 1) := by decide +kernel
theorem dX7_serveNext_57 : decode cX7_serveNext 57 = .ok (.iload_n 1, 1) := by decide +kernel
theorem dX7_serveNext_58 : decode cX7_serveNext 58 = .ok (.aload_n 0, 1) := by decide +kernel
theorem dX7_serveNext_59 : decode cX7_serveNext 59 = .ok (.getfield 33, 3) := by decide +kernel
theorem dX7_serveNext_62 : decode cX7_serveNext 62 = .ok (.iload_n 3, 1) := by decide +kernel
theorem dX7_serveNext_63 : decode cX7_serveNext 63 = .ok (.iaload, 1) := by decide +kernel
theorem dX7_serveNext_64 : decode cX7_serveNext 64 = .ok (.aload_n 0, 1) := by decide +kernel
theorem dX7_serveNext_65 : decode cX7_serveNext 65 = .ok (.getfield 36, 3) := by decide +kernel
theorem dX7_serveNext_68 : decode cX7_serveNext 68 = .ok (.iload_n 3, 1) := by decide +kernel
theorem dX7_serveNext_69 : decode cX7_serveNext 69 = .ok (.iaload, 1) := by decide +kernel
theorem dX7_serveNext_70 : decode cX7_serveNext 70 = .ok (.invokevirtual 190, 3) := by decide +kernel
theorem dX7_serveNext_73 : decode cX7_serveNext 73 = .ok (.aload_n 0, 1) := by decide +kernel
theorem dX7_serveNext_74 : decode cX7_serveNext 74 = .ok (.getfield 42, 3) := by decide +kernel
theorem dX7_serveNext_77 : decode cX7_serveNext 77 = .ok (.iload_n 3, 1) := by decide +kernel
theorem dX7_serveNext_78 : decode cX7_serveNext 78 = .ok (.iconst 0, 1) := by decide +kernel
theorem dX7_serveNext_79 : decode cX7_serveNext 79 = .ok (.iastore, 1) := by decide +kernel
theorem dX7_serveNext_80 : decode cX7_serveNext 80 = .ok (.iinc 2 1, 3) := by decide +kernel
theorem dX7_serveNext_83 : decode cX7_serveNext 83 = .ok (.goto (-47), 3) := by decide +kernel
theorem dX7_serveNext_86 : decode cX7_serveNext 86 = .ok (.iload_n 1, 1) := by decide +kernel
theorem dX7_serveNext_87 : decode cX7_serveNext 87 = .ok (.ireturn, 1) := by decide +kernel
theorem dX7_nextServed_0 : decode cX7_nextServed 0 = .ok (.iconst (-1), 1) := by decide +kernel
theorem dX7_nextServed_1 : decode cX7_nextServed 1 = .ok (.istore_n 1, 1) := by decide +kernel
theorem dX7_nextServed_2 : decode cX7_nextServed 2 = .ok (.iconst 0, 1) := by decide +kernel
theorem dX7_nextServed_3 : decode cX7_nextServed 3 = .ok (.istore_n 2, 1) := by decide +kernel
theorem dX7_nextServed_4 : decode cX7_nextServed 4 = .ok (.iconst (-1), 1) := by decide +kernel
theorem dX7_nextServed_5 : decode cX7_nextServed 5 = .ok (.istore_n 3, 1) := by decide +kernel
theorem dX7_nextServed_6 : decode cX7_nextServed 6 = .ok (.iconst 0, 1) := by decide +kernel
theorem dX7_nextServed_7 : decode cX7_nextServed 7 = .ok (.istore 4, 2) := by decide +kernel
theorem dX7_nextServed_9 : decode cX7_nextServed 9 = .ok (.iconst 0, 1) := by decide +kernel
theorem dX7_nextServed_10 : decode cX7_nextServed 10 = .ok (.istore 5, 2) := by decide +kernel
theorem dX7_nextServed_12 : decode cX7_nextServed 12 = .ok (.iload 5, 2) := by decide +kernel
theorem dX7_nextServed_14 : decode cX7_nextServed 14 = .ok (.aload_n 0, 1) := by decide +kernel
theorem dX7_nextServed_15 : decode cX7_nextServed 15 = .ok (.getfield 45, 3) := by decide +kernel
theorem dX7_nextServed_18 : decode cX7_nextServed 18 = .ok (.getfield 133, 3) := by decide +kernel
theorem dX7_nextServed_21 : decode cX7_nextServed 21 = .ok (.if_icmp .ge 54, 3) := by decide +kernel
theorem dX7_nextServed_24 : decode cX7_nextServed 24 = .ok (.aload_n 0, 1) := by decide +kernel
theorem dX7_nextServed_25 : decode cX7_nextServed 25 = .ok (.iload 5, 2) := by decide +kernel
theorem dX7_nextServed_27 : decode cX7_nextServed 27 = .ok (.invokevirtual 194, 3) := by decide +kernel
theorem dX7_nextServed_30 : decode cX7_nextServed 30 = .ok (.istore 6, 2) := by decide +kernel
theorem dX7_nextServed_32 : decode cX7_nextServed 32 = .ok (.aload_n 0, 1) := by decide +kernel
theorem dX7_nextServed_33 : decode cX7_nextServed 33 = .ok (.getfield 9, 3) := by decide +kernel
theorem dX7_nextServed_36 : decode cX7_nextServed 36 = .ok (.iload 5, 2) := by decide +kernel
theorem dX7_nextServed_38 : decode cX7_nextServed 38 = .ok (.iaload, 1) := by decide +kernel
theorem dX7_nextServed_39 : decode cX7_nextServed 39 = .ok (.iconst (-1), 1) := by decide +kernel
theorem dX7_nextServed_40 : decode cX7_nextServed 40 = .ok (.if_icmp .eq 15, 3) := by decide +kernel
theorem dX7_nextServed_43 : decode cX7_nextServed 43 = .ok (.iload 6, 2) := by decide +kernel
theorem dX7_nextServed_45 : decode cX7_nextServed 45 = .ok (.iload_n 2, 1) := by decide +kernel
theorem dX7_nextServed_46 : decode cX7_nextServed 46 = .ok (.if_icmp .le 9, 3) := by decide +kernel
theorem dX7_nextServed_49 : decode cX7_nextServed 49 = .ok (.iload 5, 2) := by decide +kernel
theorem dX7_nextServed_51 : decode cX7_nextServed 51 = .ok (.istore_n 1, 1) := by decide +kernel
theorem dX7_nextServed_52 : decode cX7_nextServed 52 = .ok (.iload 6, 2) := by decide +kernel
theorem dX7_nextServed_54 : decode cX7_nextServed 54 = .ok (.istore_n 2, 1) := by decide +kernel
theorem dX7_nextServed_55 : decode cX7_nextServed 55 = .ok (.iload 6, 2) := by decide +kernel
theorem dX7_nextServed_57 : decode cX7_nextServed 57 = .ok (.iload 4, 2) := by decide +kernel
theorem dX7_nextServed_59 : decode cX7_nextServed 59 = .ok (.if_icmp .le 10, 3) := by decide +kernel
theorem dX7_nextServed_62 : decode cX7_nextServed 62 = .ok (.iload 5, 2) := by decide +kernel
theorem dX7_nextServed_64 : decode cX7_nextServed 64 = .ok (.istore_n 3, 1) := by decide +kernel
theorem dX7_nextServed_65 : decode cX7_nextServed 65 = .ok (.iload 6, 2) := by decide +kernel
theorem dX7_nextServed_67 : decode cX7_nextServed 67 = .ok (.istore 4, 2) := by decide +kernel
theorem dX7_nextServed_69 : decode cX7_nextServed 69 = .ok (.iinc 5 1, 3) := by decide +kernel
theorem dX7_nextServed_72 : decode cX7_nextServed 72 = .ok (.goto (-60), 3) := by decide +kernel
theorem dX7_nextServed_75 : decode cX7_nextServed 75 = .ok (.iload_n 1, 1) := by decide +kernel
theorem dX7_nextServed_76 : decode cX7_nextServed 76 = .ok (.iconst (-1), 1) := by decide +kernel
theorem dX7_nextServed_77 : decode cX7_nextServed 77 = .ok (.if_icmp .eq 7, 3) := by decide +kernel
theorem dX7_nextServed_80 : decode cX7_nextServed 80 = .ok (.iload_n 1, 1) := by decide +kernel
theorem dX7_nextServed_81 : decode cX7_nextServed 81 = .ok (.goto 4, 3) := by decide +kernel
theorem dX7_nextServed_84 : decode cX7_nextServed 84 = .ok (.iload_n 3, 1) := by decide +kernel
theorem dX7_nextServed_85 : decode cX7_nextServed 85 = .ok (.ireturn, 1) := by decide +kernel
theorem dX7_writeNew_0 : decode cX7_writeNew 0 = .ok (.aload_n 0, 1) := by decide +kernel
theorem dX7_writeNew_1 : decode cX7_writeNew 1 = .ok (.iload_n 1, 1) := by decide +kernel
theorem dX7_writeNew_2 : decode cX7_writeNew 2 = .ok (.invokevirtual 151, 3) := by decide +kernel
theorem dX7_writeNew_5 : decode cX7_writeNew 5 = .ok (.pop, 1) := by decide +kernel
theorem dX7_writeNew_6 : decode cX7_writeNew 6 = .ok (.aload_n 0, 1) := by decide +kernel
theorem dX7_writeNew_7 : decode cX7_writeNew 7 = .ok (.iload_n 1, 1) := by decide +kernel
theorem dX7_writeNew_8 : decode cX7_writeNew 8 = .ok (.aload_n 0, 1) := by decide +kernel
theorem dX7_writeNew_9 : decode cX7_writeNew 9 = .ok (.getfield 18, 3) := by decide +kernel
theorem dX7_writeNew_12 : decode cX7_writeNew 12 = .ok (.iload_n 1, 1) := by decide +kernel
theorem dX7_writeNew_13 : decode cX7_writeNew 13 = .ok (.iaload, 1) := by decide +kernel
theorem dX7_writeNew_14 : decode cX7_writeNew 14 = .ok (.iload_n 2, 1) := by decide +kernel
theorem dX7_writeNew_15 : decode cX7_writeNew 15 = .ok (.invokevirtual 197, 3) := by decide +kernel
theorem dX7_writeNew_18 : decode cX7_writeNew 18 = .ok (.aload_n 0, 1) := by decide +kernel
theorem dX7_writeNew_19 : decode cX7_writeNew 19 = .ok (.iload_n 1, 1) := by decide +kernel
theorem dX7_writeNew_20 : decode cX7_writeNew 20 = .ok (.iload_n 2, 1) := by decide +kernel
theorem dX7_writeNew_21 : decode cX7_writeNew 21 = .ok (.invokevirtual 86, 3) := by decide +kernel
theorem dX7_writeNew_24 : decode cX7_writeNew 24 = .ok (.aload_n 0, 1) := by decide +kernel
theorem dX7_writeNew_25 : decode cX7_writeNew 25 = .ok (.getfield 63, 3) := by decide +kernel
theorem dX7_writeNew_28 : decode cX7_writeNew 28 = .ok (.iconst 1, 1) := by decide +kernel
theorem dX7_writeNew_29 : decode cX7_writeNew 29 = .ok (.isub, 1) := by decide +kernel
theorem dX7_writeNew_30 : decode cX7_writeNew 30 = .ok (.ireturn, 1) := by decide +kernel
theorem dX7_dropFile_0 : decode cX7_dropFile 0 = .ok (.aload_n 0, 1) := by decide +kernel
theorem dX7_dropFile_1 : decode cX7_dropFile 1 = .ok (.getfield 30, 3) := by decide +kernel
theorem dX7_dropFile_4 : decode cX7_dropFile 4 = .ok (.iload_n 1, 1) := by decide +kernel
theorem dX7_dropFile_5 : decode cX7_dropFile 5 = .ok (.iconst (-1), 1) := by decide +kernel
theorem dX7_dropFile_6 : decode cX7_dropFile 6 = .ok (.iastore, 1) := by decide +kernel
theorem dX7_dropFile_7 : decode cX7_dropFile 7 = .ok (.aload_n 0, 1) := by decide +kernel
theorem dX7_dropFile_8 : decode cX7_dropFile 8 = .ok (.getfield 39, 3) := by decide +kernel
theorem dX7_dropFile_11 : decode cX7_dropFile 11 = .ok (.iload_n 1, 1) := by decide +kernel
theorem dX7_dropFile_12 : decode cX7_dropFile 12 = .ok (.iconst 0, 1) := by decide +kernel
theorem dX7_dropFile_13 : decode cX7_dropFile 13 = .ok (.iastore, 1) := by decide +kernel
theorem dX7_dropFile_14 : decode cX7_dropFile 14 = .ok (.aload_n 0, 1) := by decide +kernel
theorem dX7_dropFile_15 : decode cX7_dropFile 15 = .ok (.getfield 42, 3) := by decide +kernel
theorem dX7_dropFile_18 : decode cX7_dropFile 18 = .ok (.iload_n 1, 1) := by decide +kernel
theorem dX7_dropFile_19 : decode cX7_dropFile 19 = .ok (.iconst 0, 1) := by decide +kernel
theorem dX7_dropFile_20 : decode cX7_dropFile 20 = .ok (.iastore, 1) := by decide +kernel
theorem dX7_dropFile_21 : decode cX7_dropFile 21 = .ok (.aload_n 0, 1) := by decide +kernel
theorem dX7_dropFile_22 : decode cX7_dropFile 22 = .ok (.getfield 36, 3) := by decide +kernel
theorem dX7_dropFile_25 : decode cX7_dropFile 25 = .ok (.iload_n 1, 1) := by decide +kernel
theorem dX7_dropFile_26 : decode cX7_dropFile 26 = .ok (.iaload, 1) := by decide +kernel
theorem dX7_dropFile_27 : decode cX7_dropFile 27 = .ok (.ireturn, 1) := by decide +kernel
theorem dX7_bringIn_0 : decode cX7_bringIn 0 = .ok (.aload_n 0, 1) := by decide +kernel
theorem dX7_bringIn_1 : decode cX7_bringIn 1 = .ok (.getfield 9, 3) := by decide +kernel
theorem dX7_bringIn_4 : decode cX7_bringIn 4 = .ok (.iload_n 1, 1) := by decide +kernel
theorem dX7_bringIn_5 : decode cX7_bringIn 5 = .ok (.iaload, 1) := by decide +kernel
theorem dX7_bringIn_6 : decode cX7_bringIn 6 = .ok (.iconst (-1), 1) := by decide +kernel
theorem dX7_bringIn_7 : decode cX7_bringIn 7 = .ok (.if_icmp .eq 10, 3) := by decide +kernel
theorem dX7_bringIn_10 : decode cX7_bringIn 10 = .ok (.aload_n 0, 1) := by decide +kernel
theorem dX7_bringIn_11 : decode cX7_bringIn 11 = .ok (.getfield 9, 3) := by decide +kernel
theorem dX7_bringIn_14 : decode cX7_bringIn 14 = .ok (.iload_n 1, 1) := by decide +kernel
theorem dX7_bringIn_15 : decode cX7_bringIn 15 = .ok (.iaload, 1) := by decide +kernel
theorem dX7_bringIn_16 : decode cX7_bringIn 16 = .ok (.ireturn, 1) := by decide +kernel
theorem dX7_bringIn_17 : decode cX7_bringIn 17 = .ok (.aload_n 0, 1) := by decide +kernel
theorem dX7_bringIn_18 : decode cX7_bringIn 18 = .ok (.invokevirtual 200, 3) := by decide +kernel
theorem dX7_bringIn_21 : decode cX7_bringIn 21 = .ok (.istore_n 2, 1) := by decide +kernel
theorem dX7_bringIn_22 : decode cX7_bringIn 22 = .ok (.iload_n 2, 1) := by decide +kernel
theorem dX7_bringIn_23 : decode cX7_bringIn 23 = .ok (.iconst (-1), 1) := by decide +kernel
theorem dX7_bringIn_24 : decode cX7_bringIn 24 = .ok (.if_icmp .ne 12, 3) := by decide +kernel
theorem dX7_bringIn_27 : decode cX7_bringIn 27 = .ok (.aload_n 0, 1) := by decide +kernel
theorem dX7_bringIn_28 : decode cX7_bringIn 28 = .ok (.aload_n 0, 1) := by decide +kernel
theorem dX7_bringIn_29 : decode cX7_bringIn 29 = .ok (.invokevirtual 203, 3) := by decide +kernel
theorem dX7_bringIn_32 : decode cX7_bringIn 32 = .ok (.invokevirtual 154, 3) := by decide +kernel
theorem dX7_bringIn_35 : decode cX7_bringIn 35 = .ok (.istore_n 2, 1) := by decide +kernel
theorem dX7_bringIn_36 : decode cX7_bringIn 36 = .ok (.aload_n 0, 1) := by decide +kernel
theorem dX7_bringIn_37 : decode cX7_bringIn 37 = .ok (.getfield 45, 3) := by decide +kernel
theorem dX7_bringIn_40 : decode cX7_bringIn 40 = .ok (.getfield 206, 3) := by decide +kernel
theorem dX7_bringIn_43 : decode cX7_bringIn 43 = .ok (.iconst 0, 1) := by decide +kernel
theorem dX7_bringIn_44 : decode cX7_bringIn 44 = .ok (.iaload, 1) := by decide +kernel
theorem dX7_bringIn_45 : decode cX7_bringIn 45 = .ok (.iload_n 2, 1) := by decide +kernel
theorem dX7_bringIn_46 : decode cX7_bringIn 46 = .ok (.iadd, 1) := by decide +kernel
theorem dX7_bringIn_47 : decode cX7_bringIn 47 = .ok (.istore_n 3, 1) := by decide +kernel
theorem dX7_bringIn_48 : decode cX7_bringIn 48 = .ok (.aload_n 0, 1) := by decide +kernel
theorem dX7_bringIn_49 : decode cX7_bringIn 49 = .ok (.dup, 1) := by decide +kernel
theorem dX7_bringIn_50 : decode cX7_bringIn 50 = .ok (.getfield 53, 3) := by decide +kernel
theorem dX7_bringIn_53 : decode cX7_bringIn 53 = .ok (.aload_n 0, 1) := by decide +kernel
theorem dX7_bringIn_54 : decode cX7_bringIn 54 = .ok (.getfield 45, 3) := by decide +kernel
theorem dX7_bringIn_57 : decode cX7_bringIn 57 = .ok (.aload_n 0, 1) := by decide +kernel
theorem dX7_bringIn_58 : decode cX7_bringIn 58 = .ok (.getfield 57, 3) := by decide +kernel
theorem dX7_bringIn_61 : decode cX7_bringIn 61 = .ok (.iload_n 1, 1) := by decide +kernel
theorem dX7_bringIn_62 : decode cX7_bringIn 62 = .ok (.invokevirtual 209, 3) := by decide +kernel
theorem dX7_bringIn_65 : decode cX7_bringIn 65 = .ok (.aload_n 0, 1) := by decide +kernel
theorem dX7_bringIn_66 : decode cX7_bringIn 66 = .ok (.getfield 45, 3) := by decide +kernel
theorem dX7_bringIn_69 : decode cX7_bringIn 69 = .ok (.iload_n 1, 1) := by decide +kernel
theorem dX7_bringIn_70 : decode cX7_bringIn 70 = .ok (.iload_n 3, 1) := by decide +kernel
theorem dX7_bringIn_71 : decode cX7_bringIn 71 = .ok (.invokevirtual 209, 3) := by decide +kernel
theorem dX7_bringIn_74 : decode cX7_bringIn 74 = .ok (.iadd, 1) := by decide +kernel
theorem dX7_bringIn_75 : decode cX7_bringIn 75 = .ok (.aload_n 0, 1) := by decide +kernel
theorem dX7_bringIn_76 : decode cX7_bringIn 76 = .ok (.getfield 45, 3) := by decide +kernel
theorem dX7_bringIn_79 : decode cX7_bringIn 79 = .ok (.getfield 206, 3) := by decide +kernel
theorem dX7_bringIn_82 : decode cX7_bringIn 82 = .ok (.iconst 4, 1) := by decide +kernel
theorem dX7_bringIn_83 : decode cX7_bringIn 83 = .ok (.iaload, 1) := by decide +kernel
theorem dX7_bringIn_84 : decode cX7_bringIn 84 = .ok (.iadd, 1) := by decide +kernel
theorem dX7_bringIn_85 : decode cX7_bringIn 85 = .ok (.iadd, 1) := by decide +kernel
theorem dX7_bringIn_86 : decode cX7_bringIn 86 = .ok (.putfield 53, 3) := by decide +kernel
theorem dX7_bringIn_89 : decode cX7_bringIn 89 = .ok (.aload_n 0, 1) := by decide +kernel
theorem dX7_bringIn_90 : decode cX7_bringIn 90 = .ok (.iload_n 3, 1) := by decide +kernel
theorem dX7_bringIn_91 : decode cX7_bringIn 91 = .ok (.putfield 57, 3) := by decide +kernel
theorem dX7_bringIn_94 : decode cX7_bringIn 94 = .ok (.aload_n 0, 1) := by decide +kernel
theorem dX7_bringIn_95 : decode cX7_bringIn 95 = .ok (.getfield 9, 3) := by decide +kernel
theorem dX7_bringIn_98 : decode cX7_bringIn 98 = .ok (.iload_n 1, 1) := by decide +kernel
theorem dX7_bringIn_99 : decode cX7_bringIn 99 = .ok (.iload_n 2, 1) := by decide +kernel
theorem dX7_bringIn_100 : decode cX7_bringIn 100 = .ok (.iastore, 1) := by decide +kernel
theorem dX7_bringIn_101 : decode cX7_bringIn 101 = .ok (.aload_n 0, 1) := by decide +kernel
theorem dX7_bringIn_102 : decode cX7_bringIn 102 = .ok (.getfield 15, 3) := by decide +kernel
theorem dX7_bringIn_105 : decode cX7_bringIn 105 = .ok (.iload_n 1, 1) := by decide +kernel
theorem dX7_bringIn_106 : decode cX7_bringIn 106 = .ok (.iconst 0, 1) := by decide +kernel
theorem dX7_bringIn_107 : decode cX7_bringIn 107 = .ok (.iastore, 1) := by decide +kernel
theorem dX7_bringIn_108 : decode cX7_bringIn 108 = .ok (.aload_n 0, 1) := by decide +kernel
theorem dX7_bringIn_109 : decode cX7_bringIn 109 = .ok (.getfield 21, 3) := by decide +kernel
theorem dX7_bringIn_112 : decode cX7_bringIn 112 = .ok (.iload_n 1, 1) := by decide +kernel
theorem dX7_bringIn_113 : decode cX7_bringIn 113 = .ok (.aload_n 0, 1) := by decide +kernel
theorem dX7_bringIn_114 : decode cX7_bringIn 114 = .ok (.getfield 21, 3) := by decide +kernel
theorem dX7_bringIn_117 : decode cX7_bringIn 117 = .ok (.iload_n 1, 1) := by decide +kernel
theorem dX7_bringIn_118 : decode cX7_bringIn 118 = .ok (.iaload, 1) := by decide +kernel
theorem dX7_bringIn_119 : decode cX7_bringIn 119 = .ok (.iconst 1, 1) := by decide +kernel
theorem dX7_bringIn_120 : decode cX7_bringIn 120 = .ok (.iadd, 1) := by decide +kernel
theorem dX7_bringIn_121 : decode cX7_bringIn 121 = .ok (.bipush 99, 2) := by decide +kernel
theorem dX7_bringIn_123 : decode cX7_bringIn 123 = .ok (.invokestatic 212, 3) := by decide +kernel
theorem dX7_bringIn_126 : decode cX7_bringIn 126 = .ok (.iastore, 1) := by decide +kernel
theorem dX7_bringIn_127 : decode cX7_bringIn 127 = .ok (.aload_n 0, 1) := by decide +kernel
theorem dX7_bringIn_128 : decode cX7_bringIn 128 = .ok (.getfield 27, 3) := by decide +kernel
theorem dX7_bringIn_131 : decode cX7_bringIn 131 = .ok (.iload_n 1, 1) := by decide +kernel
theorem dX7_bringIn_132 : decode cX7_bringIn 132 = .ok (.aload_n 0, 1) := by decide +kernel
theorem dX7_bringIn_133 : decode cX7_bringIn 133 = .ok (.getfield 53, 3) := by decide +kernel
theorem dX7_bringIn_136 : decode cX7_bringIn 136 = .ok (.iastore, 1) := by decide +kernel
theorem dX7_bringIn_137 : decode cX7_bringIn 137 = .ok (.aload_n 0, 1) := by decide +kernel
theorem dX7_bringIn_138 : decode cX7_bringIn 138 = .ok (.dup, 1) := by decide +kernel
theorem dX7_bringIn_139 : decode cX7_bringIn 139 = .ok (.getfield 217, 3) := by decide +kernel
theorem dX7_bringIn_142 : decode cX7_bringIn 142 = .ok (.iconst 1, 1) := by decide +kernel
theorem dX7_bringIn_143 : decode cX7_bringIn 143 = .ok (.iadd, 1) := by decide +kernel
theorem dX7_bringIn_144 : decode cX7_bringIn 144 = .ok (.putfield 217, 3) := by decide +kernel
theorem dX7_bringIn_147 : decode cX7_bringIn 147 = .ok (.iload_n 2, 1) := by decide +kernel
theorem dX7_bringIn_148 : decode cX7_bringIn 148 = .ok (.ireturn, 1) := by decide +kernel
theorem dX7_putAway_0 : decode cX7_putAway 0 = .ok (.aload_n 0, 1) := by decide +kernel
theorem dX7_putAway_1 : decode cX7_putAway 1 = .ok (.getfield 45, 3) := by decide +kernel
theorem dX7_putAway_4 : decode cX7_putAway 4 = .ok (.iload_n 1, 1) := by decide +kernel
theorem dX7_putAway_5 : decode cX7_putAway 5 = .ok (.invokevirtual 75, 3) := by decide +kernel
theorem dX7_putAway_8 : decode cX7_putAway 8 = .ok (.ifCond .ne 5, 3) := by decide +kernel
theorem dX7_putAway_11 : decode cX7_putAway 11 = .ok (.iconst 0, 1) := by decide +kernel
theorem dX7_putAway_12 : decode cX7_putAway 12 = .ok (.ireturn, 1) := by decide +kernel
theorem dX7_putAway_13 : decode cX7_putAway 13 = .ok (.aload_n 0, 1) := by decide +kernel
theorem dX7_putAway_14 : decode cX7_putAway 14 = .ok (.getfield 9, 3) := by decide +kernel
theorem dX7_putAway_17 : decode cX7_putAway 17 = .ok (.iload_n 1, 1) := by decide +kernel
theorem dX7_putAway_18 : decode cX7_putAway 18 = .ok (.iaload, 1) := by decide +kernel
theorem dX7_putAway_19 : decode cX7_putAway 19 = .ok (.istore_n 2, 1) := by decide +kernel
theorem dX7_putAway_20 : decode cX7_putAway 20 = .ok (.aload_n 0, 1) := by decide +kernel
theorem dX7_putAway_21 : decode cX7_putAway 21 = .ok (.getfield 45, 3) := by decide +kernel
theorem dX7_putAway_24 : decode cX7_putAway 24 = .ok (.getfield 206, 3) := by decide +kernel
theorem dX7_putAway_27 : decode cX7_putAway 27 = .ok (.iconst 0, 1) := by decide +kernel
theorem dX7_putAway_28 : decode cX7_putAway 28 = .ok (.iaload, 1) := by decide +kernel
theorem dX7_putAway_29 : decode cX7_putAway 29 = .ok (.iload_n 2, 1) := by decide +kernel
theorem dX7_putAway_30 : decode cX7_putAway 30 = .ok (.iadd, 1) := by decide +kernel
theorem dX7_putAway_31 : decode cX7_putAway 31 = .ok (.istore_n 3, 1) := by decide +kernel
theorem dX7_putAway_32 : decode cX7_putAway 32 = .ok (.aload_n 0, 1) := by decide +kernel
theorem dX7_putAway_33 : decode cX7_putAway 33 = .ok (.dup, 1) := by decide +kernel
theorem dX7_putAway_34 : decode cX7_putAway 34 = .ok (.getfield 53, 3) := by decide +kernel
theorem dX7_putAway_37 : decode cX7_putAway 37 = .ok (.aload_n 0, 1) := by decide +kernel
theorem dX7_putAway_38 : decode cX7_putAway 38 = .ok (.getfield 45, 3) := by decide +kernel
theorem dX7_putAway_41 : decode cX7_putAway 41 = .ok (.aload_n 0, 1) := by decide +kernel
theorem dX7_putAway_42 : decode cX7_putAway 42 = .ok (.getfield 15, 3) := by decide +kernel
theorem dX7_putAway_45 : decode cX7_putAway 45 = .ok (.iload_n 1, 1) := by decide +kernel
theorem dX7_putAway_46 : decode cX7_putAway 46 = .ok (.iaload, 1) := by decide +kernel
theorem dX7_putAway_47 : decode cX7_putAway 47 = .ok (.iconst 0, 1) := by decide +kernel
theorem dX7_putAway_48 : decode cX7_putAway 48 = .ok (.invokevirtual 220, 3) := by decide +kernel
theorem dX7_putAway_51 : decode cX7_putAway 51 = .ok (.aload_n 0, 1) := by decide +kernel
theorem dX7_putAway_52 : decode cX7_putAway 52 = .ok (.getfield 45, 3) := by decide +kernel
theorem dX7_putAway_55 : decode cX7_putAway 55 = .ok (.getfield 206, 3) := by decide +kernel
theorem dX7_putAway_58 : decode cX7_putAway 58 = .ok (.iconst 4, 1) := by decide +kernel
theorem dX7_putAway_59 : decode cX7_putAway 59 = .ok (.iaload, 1) := by decide +kernel
theorem dX7_putAway_60 : decode cX7_putAway 60 = .ok (.iadd, 1) := by decide +kernel
theorem dX7_putAway_61 : decode cX7_putAway 61 = .ok (.iadd, 1) := by decide +kernel
theorem dX7_putAway_62 : decode cX7_putAway 62 = .ok (.putfield 53, 3) := by decide +kernel
theorem dX7_putAway_65 : decode cX7_putAway 65 = .ok (.aload_n 0, 1) := by decide +kernel
theorem dX7_putAway_66 : decode cX7_putAway 66 = .ok (.dup, 1) := by decide +kernel
theorem dX7_putAway_67 : decode cX7_putAway 67 = .ok (.getfield 53, 3) := by decide +kernel
theorem dX7_putAway_70 : decode cX7_putAway 70 = .ok (.aload_n 0, 1) := by decide +kernel
theorem dX7_putAway_71 : decode cX7_putAway 71 = .ok (.getfield 45, 3) := by decide +kernel
theorem dX7_putAway_74 : decode cX7_putAway 74 = .ok (.aload_n 0, 1) := by decide +kernel
theorem dX7_putAway_75 : decode cX7_putAway 75 = .ok (.getfield 57, 3) := by decide +kernel
theorem dX7_putAway_78 : decode cX7_putAway 78 = .ok (.iload_n 3, 1) := by decide +kernel
theorem dX7_putAway_79 : decode cX7_putAway 79 = .ok (.invokevirtual 209, 3) := by decide +kernel
theorem dX7_putAway_82 : decode cX7_putAway 82 = .ok (.aload_n 0, 1) := by decide +kernel
theorem dX7_putAway_83 : decode cX7_putAway 83 = .ok (.getfield 45, 3) := by decide +kernel
theorem dX7_putAway_86 : decode cX7_putAway 86 = .ok (.iload_n 3, 1) := by decide +kernel
theorem dX7_putAway_87 : decode cX7_putAway 87 = .ok (.iload_n 1, 1) := by decide +kernel
theorem dX7_putAway_88 : decode cX7_putAway 88 = .ok (.invokevirtual 209, 3) := by decide +kernel
theorem dX7_putAway_91 : decode cX7_putAway 91 = .ok (.iadd, 1) := by decide +kernel
theorem dX7_putAway_92 : decode cX7_putAway 92 = .ok (.iadd, 1) := by decide +kernel
theorem dX7_putAway_93 : decode cX7_putAway 93 = .ok (.putfield 53, 3) := by decide +kernel
theorem dX7_putAway_96 : decode cX7_putAway 96 = .ok (.aload_n 0, 1) := by decide +kernel
theorem dX7_putAway_97 : decode cX7_putAway 97 = .ok (.iload_n 1, 1) := by decide +kernel
theorem dX7_putAway_98 : decode cX7_putAway 98 = .ok (.putfield 57, 3) := by decide +kernel
theorem dX7_putAway_101 : decode cX7_putAway 101 = .ok (.aload_n 0, 1) := by decide +kernel
theorem dX7_putAway_102 : decode cX7_putAway 102 = .ok (.getfield 9, 3) := by decide +kernel
theorem dX7_putAway_105 : decode cX7_putAway 105 = .ok (.iload_n 1, 1) := by decide +kernel
theorem dX7_putAway_106 : decode cX7_putAway 106 = .ok (.iconst (-1), 1) := by decide +kernel
theorem dX7_putAway_107 : decode cX7_putAway 107 = .ok (.iastore, 1) := by decide +kernel
theorem dX7_putAway_108 : decode cX7_putAway 108 = .ok (.aload_n 0, 1) := by decide +kernel
theorem dX7_putAway_109 : decode cX7_putAway 109 = .ok (.getfield 15, 3) := by decide +kernel
theorem dX7_putAway_112 : decode cX7_putAway 112 = .ok (.iload_n 1, 1) := by decide +kernel
theorem dX7_putAway_113 : decode cX7_putAway 113 = .ok (.iconst 0, 1) := by decide +kernel
theorem dX7_putAway_114 : decode cX7_putAway 114 = .ok (.iastore, 1) := by decide +kernel
theorem dX7_putAway_115 : decode cX7_putAway 115 = .ok (.iload_n 2, 1) := by decide +kernel
theorem dX7_putAway_116 : decode cX7_putAway 116 = .ok (.ireturn, 1) := by decide +kernel
theorem dX7_readRow_0 : decode cX7_readRow 0 = .ok (.aload_n 0, 1) := by decide +kernel
theorem dX7_readRow_1 : decode cX7_readRow 1 = .ok (.iload_n 1, 1) := by decide +kernel
theorem dX7_readRow_2 : decode cX7_readRow 2 = .ok (.iload_n 2, 1) := by decide +kernel
theorem dX7_readRow_3 : decode cX7_readRow 3 = .ok (.iload_n 3, 1) := by decide +kernel
theorem dX7_readRow_4 : decode cX7_readRow 4 = .ok (.invokevirtual 197, 3) := by decide +kernel
theorem dX7_readRow_7 : decode cX7_readRow 7 = .ok (.aload_n 0, 1) := by decide +kernel
theorem dX7_readRow_8 : decode cX7_readRow 8 = .ok (.getfield 21, 3) := by decide +kernel
theorem dX7_readRow_11 : decode cX7_readRow 11 = .ok (.iload_n 1, 1) := by decide +kernel
theorem dX7_readRow_12 : decode cX7_readRow 12 = .ok (.iaload, 1) := by decide +kernel
theorem dX7_readRow_13 : decode cX7_readRow 13 = .ok (.aload_n 0, 1) := by decide +kernel
theorem dX7_readRow_14 : decode cX7_readRow 14 = .ok (.getfield 45, 3) := by decide +kernel
theorem dX7_readRow_17 : decode cX7_readRow 17 = .ok (.getfield 206, 3) := by decide +kernel
theorem dX7_readRow_20 : decode cX7_readRow 20 = .ok (.bipush 6, 2) := by decide +kernel
theorem dX7_readRow_22 : decode cX7_readRow 22 = .ok (.iaload, 1) := by decide +kernel
theorem dX7_readRow_23 : decode cX7_readRow 23 = .ok (.if_icmp .le 13, 3) := by decide +kernel
theorem dX7_readRow_26 : decode cX7_readRow 26 = .ok (.aload_n 0, 1) := by decide +kernel
theorem dX7_readRow_27 : decode cX7_readRow 27 = .ok (.getfield 24, 3) := by decide +kernel
theorem dX7_readRow_30 : decode cX7_readRow 30 = .ok (.iload_n 1, 1) := by decide +kernel
theorem dX7_readRow_31 : decode cX7_readRow 31 = .ok (.dup2, 1) := by decide +kernel
theorem dX7_readRow_32 : decode cX7_readRow 32 = .ok (.iaload, 1) := by decide +kernel
theorem dX7_readRow_33 : decode cX7_readRow 33 = .ok (.iload_n 3, 1) := by decide +kernel
theorem dX7_readRow_34 : decode cX7_readRow 34 = .ok (.iadd, 1) := by decide +kernel
theorem dX7_readRow_35 : decode cX7_readRow 35 = .ok (.iastore, 1) := by decide +kernel
theorem dX7_readRow_36 : decode cX7_readRow 36 = .ok (.return_, 1) := by decide +kernel
theorem dX7_writeRow_0 : decode cX7_writeRow 0 = .ok (.aload_n 0, 1) := by decide +kernel
theorem dX7_writeRow_1 : decode cX7_writeRow 1 = .ok (.dup, 1) := by decide +kernel
theorem dX7_writeRow_2 : decode cX7_writeRow 2 = .ok (.getfield 53, 3) := by decide +kernel
theorem dX7_writeRow_5 : decode cX7_writeRow 5 = .ok (.aload_n 0, 1) := by decide +kernel
theorem dX7_writeRow_6 : decode cX7_writeRow 6 = .ok (.getfield 45, 3) := by decide +kernel
theorem dX7_writeRow_9 : decode cX7_writeRow 9 = .ok (.aload_n 0, 1) := by decide +kernel
theorem dX7_writeRow_10 : decode cX7_writeRow 10 = .ok (.getfield 15, 3) := by decide +kernel
theorem dX7_writeRow_13 : decode cX7_writeRow 13 = .ok (.iload_n 1, 1) := by decide +kernel
theorem dX7_writeRow_14 : decode cX7_writeRow 14 = .ok (.iaload, 1) := by decide +kernel
theorem dX7_writeRow_15 : decode cX7_writeRow 15 = .ok (.iload_n 2, 1) := by decide +kernel
theorem dX7_writeRow_16 : decode cX7_writeRow 16 = .ok (.invokevirtual 220, 3) := by decide +kernel
theorem dX7_writeRow_19 : decode cX7_writeRow 19 = .ok (.iload_n 3, 1) := by decide +kernel
theorem dX7_writeRow_20 : decode cX7_writeRow 20 = .ok (.iadd, 1) := by decide +kernel
theorem dX7_writeRow_21 : decode cX7_writeRow 21 = .ok (.iadd, 1) := by decide +kernel
theorem dX7_writeRow_22 : decode cX7_writeRow 22 = .ok (.putfield 53, 3) := by decide +kernel
theorem dX7_writeRow_25 : decode cX7_writeRow 25 = .ok (.aload_n 0, 1) := by decide +kernel
theorem dX7_writeRow_26 : decode cX7_writeRow 26 = .ok (.getfield 15, 3) := by decide +kernel
theorem dX7_writeRow_29 : decode cX7_writeRow 29 = .ok (.iload_n 1, 1) := by decide +kernel
theorem dX7_writeRow_30 : decode cX7_writeRow 30 = .ok (.iload_n 2, 1) := by decide +kernel
theorem dX7_writeRow_31 : decode cX7_writeRow 31 = .ok (.iload_n 3, 1) := by decide +kernel
theorem dX7_writeRow_32 : decode cX7_writeRow 32 = .ok (.iadd, 1) := by decide +kernel
theorem dX7_writeRow_33 : decode cX7_writeRow 33 = .ok (.iconst 1, 1) := by decide +kernel
theorem dX7_writeRow_34 : decode cX7_writeRow 34 = .ok (.isub, 1) := by decide +kernel
theorem dX7_writeRow_35 : decode cX7_writeRow 35 = .ok (.iastore, 1) := by decide +kernel
theorem dX7_writeRow_36 : decode cX7_writeRow 36 = .ok (.aload_n 0, 1) := by decide +kernel
theorem dX7_writeRow_37 : decode cX7_writeRow 37 = .ok (.getfield 27, 3) := by decide +kernel
theorem dX7_writeRow_40 : decode cX7_writeRow 40 = .ok (.iload_n 1, 1) := by decide +kernel
theorem dX7_writeRow_41 : decode cX7_writeRow 41 = .ok (.aload_n 0, 1) := by decide +kernel
theorem dX7_writeRow_42 : decode cX7_writeRow 42 = .ok (.getfield 53, 3) := by decide +kernel
theorem dX7_writeRow_45 : decode cX7_writeRow 45 = .ok (.iastore, 1) := by decide +kernel
theorem dX7_writeRow_46 : decode cX7_writeRow 46 = .ok (.return_, 1) := by decide +kernel
theorem dX7_copyTo_0 : decode cX7_copyTo 0 = .ok (.aload_n 0, 1) := by decide +kernel
theorem dX7_copyTo_1 : decode cX7_copyTo 1 = .ok (.iload_n 1, 1) := by decide +kernel
theorem dX7_copyTo_2 : decode cX7_copyTo 2 = .ok (.invokevirtual 151, 3) := by decide +kernel
theorem dX7_copyTo_5 : decode cX7_copyTo 5 = .ok (.pop, 1) := by decide +kernel
theorem dX7_copyTo_6 : decode cX7_copyTo 6 = .ok (.iconst 0, 1) := by decide +kernel
theorem dX7_copyTo_7 : decode cX7_copyTo 7 = .ok (.istore_n 3, 1) := by decide +kernel
theorem dX7_copyTo_8 : decode cX7_copyTo 8 = .ok (.iconst 0, 1) := by decide +kernel
theorem dX7_copyTo_9 : decode cX7_copyTo 9 = .ok (.istore 4, 2) := by decide +kernel
theorem dX7_copyTo_11 : decode cX7_copyTo 11 = .ok (.iload 4, 2) := by decide +kernel
theorem dX7_copyTo_13 : decode cX7_copyTo 13 = .ok (.aload_n 0, 1) := by decide +kernel
theorem dX7_copyTo_14 : decode cX7_copyTo 14 = .ok (.getfield 63, 3) := by decide +kernel
theorem dX7_copyTo_17 : decode cX7_copyTo 17 = .ok (.if_icmp .ge 61, 3) := by decide +kernel
theorem dX7_copyTo_20 : decode cX7_copyTo 20 = .ok (.aload_n 0, 1) := by decide +kernel
theorem dX7_copyTo_21 : decode cX7_copyTo 21 = .ok (.iload_n 1, 1) := by decide +kernel
theorem dX7_copyTo_22 : decode cX7_copyTo 22 = .ok (.iload_n 3, 1) := by decide +kernel
theorem dX7_copyTo_23 : decode cX7_copyTo 23 = .ok (.invokevirtual 223, 3) := by decide +kernel
theorem dX7_copyTo_26 : decode cX7_copyTo 26 = .ok (.istore 5, 2) := by decide +kernel
theorem dX7_copyTo_28 : decode cX7_copyTo 28 = .ok (.iload 5, 2) := by decide +kernel
theorem dX7_copyTo_30 : decode cX7_copyTo 30 = .ok (.iconst (-1), 1) := by decide +kernel
theorem dX7_copyTo_31 : decode cX7_copyTo 31 = .ok (.if_icmp .ne 6, 3) := by decide +kernel
theorem dX7_copyTo_34 : decode cX7_copyTo 34 = .ok (.goto 44, 3) := by decide +kernel
theorem dX7_copyTo_37 : decode cX7_copyTo 37 = .ok (.aload_n 0, 1) := by decide +kernel
theorem dX7_copyTo_38 : decode cX7_copyTo 38 = .ok (.iload_n 1, 1) := by decide +kernel
theorem dX7_copyTo_39 : decode cX7_copyTo 39 = .ok (.aload_n 0, 1) := by decide +kernel
theorem dX7_copyTo_40 : decode cX7_copyTo 40 = .ok (.getfield 33, 3) := by decide +kernel
theorem dX7_copyTo_43 : decode cX7_copyTo 43 = .ok (.iload 5, 2) := by decide +kernel
theorem dX7_copyTo_45 : decode cX7_copyTo 45 = .ok (.iaload, 1) := by decide +kernel
theorem dX7_copyTo_46 : decode cX7_copyTo 46 = .ok (.aload_n 0, 1) := by decide +kernel
theorem dX7_copyTo_47 : decode cX7_copyTo 47 = .ok (.getfield 36, 3) := by decide +kernel
theorem dX7_copyTo_50 : decode cX7_copyTo 50 = .ok (.iload 5, 2) := by decide +kernel
theorem dX7_copyTo_52 : decode cX7_copyTo 52 = .ok (.iaload, 1) := by decide +kernel
theorem dX7_copyTo_53 : decode cX7_copyTo 53 = .ok (.invokevirtual 190, 3) := by decide +kernel
theorem dX7_copyTo_56 : decode cX7_copyTo 56 = .ok (.aload_n 0, 1) := by decide +kernel
theorem dX7_copyTo_57 : decode cX7_copyTo 57 = .ok (.getfield 33, 3) := by decide +kernel
theorem dX7_copyTo_60 : decode cX7_copyTo 60 = .ok (.iload 5, 2) := by decide +kernel
theorem dX7_copyTo_62 : decode cX7_copyTo 62 = .ok (.iaload, 1) := by decide +kernel
theorem dX7_copyTo_63 : decode cX7_copyTo 63 = .ok (.aload_n 0, 1) := by decide +kernel
theorem dX7_copyTo_64 : decode cX7_copyTo 64 = .ok (.getfield 36, 3) := by decide +kernel
theorem dX7_copyTo_67 : decode cX7_copyTo 67 = .ok (.iload 5, 2) := by decide +kernel
theorem dX7_copyTo_69 : decode cX7_copyTo 69 = .ok (.iaload, 1) := by decide +kernel
theorem dX7_copyTo_70 : decode cX7_copyTo 70 = .ok (.iadd, 1) := by decide +kernel
theorem dX7_copyTo_71 : decode cX7_copyTo 71 = .ok (.istore_n 3, 1) := by decide +kernel
theorem dX7_copyTo_72 : decode cX7_copyTo 72 = .ok (.iinc 4 1, 3) := by decide +kernel
theorem dX7_copyTo_75 : decode cX7_copyTo 75 = .ok (.goto (-64), 3) := by decide +kernel
theorem dX7_copyTo_78 : decode cX7_copyTo 78 = .ok (.aload_n 0, 1) := by decide +kernel
theorem dX7_copyTo_79 : decode cX7_copyTo 79 = .ok (.iload_n 2, 1) := by decide +kernel
theorem dX7_copyTo_80 : decode cX7_copyTo 80 = .ok (.invokevirtual 151, 3) := by decide +kernel
theorem dX7_copyTo_83 : decode cX7_copyTo 83 = .ok (.pop, 1) := by decide +kernel
theorem dX7_copyTo_84 : decode cX7_copyTo 84 = .ok (.iconst 0, 1) := by decide +kernel
theorem dX7_copyTo_85 : decode cX7_copyTo 85 = .ok (.istore 4, 2) := by decide +kernel
theorem dX7_copyTo_87 : decode cX7_copyTo 87 = .ok (.iconst 0, 1) := by decide +kernel
theorem dX7_copyTo_88 : decode cX7_copyTo 88 = .ok (.istore 5, 2) := by decide +kernel
theorem dX7_copyTo_90 : decode cX7_copyTo 90 = .ok (.iload 5, 2) := by decide +kernel
theorem dX7_copyTo_92 : decode cX7_copyTo 92 = .ok (.aload_n 0, 1) := by decide +kernel
theorem dX7_copyTo_93 : decode cX7_copyTo 93 = .ok (.getfield 63, 3) := by decide +kernel
theorem dX7_copyTo_96 : decode cX7_copyTo 96 = .ok (.if_icmp .ge 54, 3) := by decide +kernel
theorem dX7_copyTo_99 : decode cX7_copyTo 99 = .ok (.aload_n 0, 1) := by decide +kernel
theorem dX7_copyTo_100 : decode cX7_copyTo 100 = .ok (.iload_n 1, 1) := by decide +kernel
theorem dX7_copyTo_101 : decode cX7_copyTo 101 = .ok (.iconst 0, 1) := by decide +kernel
theorem dX7_copyTo_102 : decode cX7_copyTo 102 = .ok (.invokevirtual 223, 3) := by decide +kernel
theorem dX7_copyTo_105 : decode cX7_copyTo 105 = .ok (.istore 6, 2) := by decide +kernel
theorem dX7_copyTo_107 : decode cX7_copyTo 107 = .ok (.iload 6, 2) := by decide +kernel
theorem dX7_copyTo_109 : decode cX7_copyTo 109 = .ok (.iconst (-1), 1) := by decide +kernel
theorem dX7_copyTo_110 : decode cX7_copyTo 110 = .ok (.if_icmp .ne 6, 3) := by decide +kernel
theorem dX7_copyTo_113 : decode cX7_copyTo 113 = .ok (.goto 37, 3) := by decide +kernel
theorem dX7_copyTo_116 : decode cX7_copyTo 116 = .ok (.aload_n 0, 1) := by decide +kernel
theorem dX7_copyTo_117 : decode cX7_copyTo 117 = .ok (.iload_n 2, 1) := by decide +kernel
theorem dX7_copyTo_118 : decode cX7_copyTo 118 = .ok (.aload_n 0, 1) := by decide +kernel
theorem dX7_copyTo_119 : decode cX7_copyTo 119 = .ok (.getfield 18, 3) := by decide +kernel
theorem dX7_copyTo_122 : decode cX7_copyTo 122 = .ok (.iload_n 2, 1) := by decide +kernel
theorem dX7_copyTo_123 : decode cX7_copyTo 123 = .ok (.iaload, 1) := by decide +kernel
theorem dX7_copyTo_124 : decode cX7_copyTo 124 = .ok (.aload_n 0, 1) := by decide +kernel
theorem dX7_copyTo_125 : decode cX7_copyTo 125 = .ok (.getfield 36, 3) := by decide +kernel
theorem dX7_copyTo_128 : decode cX7_copyTo 128 = .ok (.iload 6, 2) := by decide +kernel
theorem dX7_copyTo_130 : decode cX7_copyTo 130 = .ok (.iaload, 1) := by decide +kernel
theorem dX7_copyTo_131 : decode cX7_copyTo 131 = .ok (.invokevirtual 197, 3) := by decide +kernel
theorem dX7_copyTo_134 : decode cX7_copyTo 134 = .ok (.aload_n 0, 1) := by decide +kernel
theorem dX7_copyTo_135 : decode cX7_copyTo 135 = .ok (.iload 6, 2) := by decide +kernel
theorem dX7_copyTo_137 : decode cX7_copyTo 137 = .ok (.iload_n 2, 1) := by decide +kernel
theorem dX7_copyTo_138 : decode cX7_copyTo 138 = .ok (.invokevirtual 226, 3) := by decide +kernel
theorem dX7_copyTo_141 : decode cX7_copyTo 141 = .ok (.iinc 4 1, 3) := by decide +kernel
theorem dX7_copyTo_144 : decode cX7_copyTo 144 = .ok (.iinc 5 1, 3) := by decide +kernel
theorem dX7_copyTo_147 : decode cX7_copyTo 147 = .ok (.goto (-57), 3) := by decide +kernel
theorem dX7_copyTo_150 : decode cX7_copyTo 150 = .ok (.aload_n 0, 1) := by decide +kernel
theorem dX7_copyTo_151 : decode cX7_copyTo 151 = .ok (.getfield 18, 3) := by decide +kernel
theorem dX7_copyTo_154 : decode cX7_copyTo 154 = .ok (.iload_n 1, 1) := by decide +kernel
theorem dX7_copyTo_155 : decode cX7_copyTo 155 = .ok (.iconst 0, 1) := by decide +kernel
theorem dX7_copyTo_156 : decode cX7_copyTo 156 = .ok (.iastore, 1) := by decide +kernel
theorem dX7_copyTo_157 : decode cX7_copyTo 157 = .ok (.aload_n 0, 1) := by decide +kernel
theorem dX7_copyTo_158 : decode cX7_copyTo 158 = .ok (.getfield 24, 3) := by decide +kernel
theorem dX7_copyTo_161 : decode cX7_copyTo 161 = .ok (.iload_n 1, 1) := by decide +kernel
theorem dX7_copyTo_162 : decode cX7_copyTo 162 = .ok (.iconst 0, 1) := by decide +kernel
