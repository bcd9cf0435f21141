theorem dX9_nextTape_14 : decode cX9_nextTape 14 = .ok (.iconst 0, 1) := by decide +kernel
theorem dX9_nextTape_15 : decode cX9_nextTape 15 = .ok (.istore_n 3, 1) := by decide +kernel
theorem dX9_nextTape_16 : decode cX9_nextTape 16 = .ok (.iload_n 3, 1) := by decide +kernel
theorem dX9_nextTape_17 : decode cX9_nextTape 17 = .ok (.aload_n 0, 1) := by decide +kernel
theorem dX9_nextTape_18 : decode cX9_nextTape 18 = .ok (.getfield 153, 3) := by decide +kernel
theorem dX9_nextTape_21 : decode cX9_nextTape 21 = .ok (.if_icmp .ge 54, 3) := by decide +kernel
theorem dX9_nextTape_24 : decode cX9_nextTape 24 = .ok (.aload_n 0, 1) := by decide +kernel
theorem dX9_nextTape_25 : decode cX9_nextTape 25 = .ok (.iload_n 3, 1) := by decide +kernel
theorem dX9_nextTape_26 : decode cX9_nextTape 26 = .ok (.invokevirtual 166, 3) := by decide +kernel
theorem dX9_nextTape_29 : decode cX9_nextTape 29 = .ok (.ifCond .le 40, 3) := by decide +kernel
theorem dX9_nextTape_32 : decode cX9_nextTape 32 = .ok (.iload_n 2, 1) := by decide +kernel
theorem dX9_nextTape_33 : decode cX9_nextTape 33 = .ok (.iconst 1, 1) := by decide +kernel
theorem dX9_nextTape_34 : decode cX9_nextTape 34 = .ok (.if_icmp .eq 11, 3) := by decide +kernel
theorem dX9_nextTape_37 : decode cX9_nextTape 37 = .ok (.aload_n 0, 1) := by decide +kernel
theorem dX9_nextTape_38 : decode cX9_nextTape 38 = .ok (.iload_n 3, 1) := by decide +kernel
theorem dX9_nextTape_39 : decode cX9_nextTape 39 = .ok (.invokevirtual 209, 3) := by decide +kernel
theorem dX9_nextTape_42 : decode cX9_nextTape 42 = .ok (.ifCond .eq 27, 3) := by decide +kernel
theorem dX9_nextTape_45 : decode cX9_nextTape 45 = .ok (.iload_n 1, 1) := by decide +kernel
theorem dX9_nextTape_46 : decode cX9_nextTape 46 = .ok (.iconst (-1), 1) := by decide +kernel
theorem dX9_nextTape_47 : decode cX9_nextTape 47 = .ok (.if_icmp .eq 16, 3) := by decide +kernel
theorem dX9_nextTape_50 : decode cX9_nextTape 50 = .ok (.aload_n 0, 1) := by decide +kernel
theorem dX9_nextTape_51 : decode cX9_nextTape 51 = .ok (.iload_n 3, 1) := by decide +kernel
theorem dX9_nextTape_52 : decode cX9_nextTape 52 = .ok (.invokevirtual 166, 3) := by decide +kernel
theorem dX9_nextTape_55 : decode cX9_nextTape 55 = .ok (.aload_n 0, 1) := by decide +kernel
theorem dX9_nextTape_56 : decode cX9_nextTape 56 = .ok (.iload_n 1, 1) := by decide +kernel
theorem dX9_nextTape_57 : decode cX9_nextTape 57 = .ok (.invokevirtual 166, 3) := by decide +kernel
theorem dX9_nextTape_60 : decode cX9_nextTape 60 = .ok (.if_icmp .le 7, 3) := by decide +kernel
theorem dX9_nextTape_63 : decode cX9_nextTape 63 = .ok (.iload_n 3, 1) := by decide +kernel
theorem dX9_nextTape_64 : decode cX9_nextTape 64 = .ok (.goto 4, 3) := by decide +kernel
theorem dX9_nextTape_67 : decode cX9_nextTape 67 = .ok (.iload_n 1, 1) := by decide +kernel
theorem dX9_nextTape_68 : decode cX9_nextTape 68 = .ok (.istore_n 1, 1) := by decide +kernel
theorem dX9_nextTape_69 : decode cX9_nextTape 69 = .ok (.iinc 3 1, 3) := by decide +kernel
theorem dX9_nextTape_72 : decode cX9_nextTape 72 = .ok (.goto (-56), 3) := by decide +kernel
theorem dX9_nextTape_75 : decode cX9_nextTape 75 = .ok (.iinc 2 1, 3) := by decide +kernel
theorem dX9_nextTape_78 : decode cX9_nextTape 78 = .ok (.goto (-74), 3) := by decide +kernel
theorem dX9_nextTape_81 : decode cX9_nextTape 81 = .ok (.iload_n 1, 1) := by decide +kernel
theorem dX9_nextTape_82 : decode cX9_nextTape 82 = .ok (.ireturn, 1) := by decide +kernel
theorem dX9_servesNow_0 : decode cX9_servesNow 0 = .ok (.aload_n 0, 1) := by decide +kernel
theorem dX9_servesNow_1 : decode cX9_servesNow 1 = .ok (.invokevirtual 250, 3) := by decide +kernel
theorem dX9_servesNow_4 : decode cX9_servesNow 4 = .ok (.istore_n 1, 1) := by decide +kernel
theorem dX9_servesNow_5 : decode cX9_servesNow 5 = .ok (.aload_n 0, 1) := by decide +kernel
theorem dX9_servesNow_6 : decode cX9_servesNow 6 = .ok (.iload_n 1, 1) := by decide +kernel
theorem dX9_servesNow_7 : decode cX9_servesNow 7 = .ok (.invokevirtual 253, 3) := by decide +kernel
theorem dX9_servesNow_10 : decode cX9_servesNow 10 = .ok (.aload_n 0, 1) := by decide +kernel
theorem dX9_servesNow_11 : decode cX9_servesNow 11 = .ok (.iload_n 1, 1) := by decide +kernel
theorem dX9_servesNow_12 : decode cX9_servesNow 12 = .ok (.aload_n 0, 1) := by decide +kernel
theorem dX9_servesNow_13 : decode cX9_servesNow 13 = .ok (.iload_n 1, 1) := by decide +kernel
theorem dX9_servesNow_14 : decode cX9_servesNow 14 = .ok (.invokevirtual 256, 3) := by decide +kernel
theorem dX9_servesNow_17 : decode cX9_servesNow 17 = .ok (.aload_n 0, 1) := by decide +kernel
theorem dX9_servesNow_18 : decode cX9_servesNow 18 = .ok (.iload_n 1, 1) := by decide +kernel
theorem dX9_servesNow_19 : decode cX9_servesNow 19 = .ok (.invokevirtual 243, 3) := by decide +kernel
theorem dX9_servesNow_22 : decode cX9_servesNow 22 = .ok (.invokevirtual 246, 3) := by decide +kernel
theorem dX9_servesNow_25 : decode cX9_servesNow 25 = .ok (.pop, 1) := by decide +kernel
theorem dX9_servesNow_26 : decode cX9_servesNow 26 = .ok (.iconst 0, 1) := by decide +kernel
theorem dX9_servesNow_27 : decode cX9_servesNow 27 = .ok (.istore_n 2, 1) := by decide +kernel
theorem dX9_servesNow_28 : decode cX9_servesNow 28 = .ok (.iload_n 2, 1) := by decide +kernel
theorem dX9_servesNow_29 : decode cX9_servesNow 29 = .ok (.aload_n 0, 1) := by decide +kernel
theorem dX9_servesNow_30 : decode cX9_servesNow 30 = .ok (.getfield 236, 3) := by decide +kernel
theorem dX9_servesNow_33 : decode cX9_servesNow 33 = .ok (.if_icmp .ge 50, 3) := by decide +kernel
theorem dX9_servesNow_36 : decode cX9_servesNow 36 = .ok (.aload_n 0, 1) := by decide +kernel
theorem dX9_servesNow_37 : decode cX9_servesNow 37 = .ok (.getfield 40, 3) := by decide +kernel
theorem dX9_servesNow_40 : decode cX9_servesNow 40 = .ok (.iload_n 2, 1) := by decide +kernel
theorem dX9_servesNow_41 : decode cX9_servesNow 41 = .ok (.iaload, 1) := by decide +kernel
theorem dX9_servesNow_42 : decode cX9_servesNow 42 = .ok (.istore_n 3, 1) := by decide +kernel
theorem dX9_servesNow_43 : decode cX9_servesNow 43 = .ok (.aload_n 0, 1) := by decide +kernel
theorem dX9_servesNow_44 : decode cX9_servesNow 44 = .ok (.iload_n 1, 1) := by decide +kernel
theorem dX9_servesNow_45 : decode cX9_servesNow 45 = .ok (.aload_n 0, 1) := by decide +kernel
theorem dX9_servesNow_46 : decode cX9_servesNow 46 = .ok (.getfield 34, 3) := by decide +kernel
theorem dX9_servesNow_49 : decode cX9_servesNow 49 = .ok (.bipush 72, 2) := by decide +kernel
theorem dX9_servesNow_51 : decode cX9_servesNow 51 = .ok (.iload_n 3, 1) := by decide +kernel
theorem dX9_servesNow_52 : decode cX9_servesNow 52 = .ok (.iadd, 1) := by decide +kernel
theorem dX9_servesNow_53 : decode cX9_servesNow 53 = .ok (.iaload, 1) := by decide +kernel
theorem dX9_servesNow_54 : decode cX9_servesNow 54 = .ok (.aload_n 0, 1) := by decide +kernel
theorem dX9_servesNow_55 : decode cX9_servesNow 55 = .ok (.getfield 34, 3) := by decide +kernel
theorem dX9_servesNow_58 : decode cX9_servesNow 58 = .ok (.bipush 96, 2) := by decide +kernel
theorem dX9_servesNow_60 : decode cX9_servesNow 60 = .ok (.iload_n 3, 1) := by decide +kernel
theorem dX9_servesNow_61 : decode cX9_servesNow 61 = .ok (.iadd, 1) := by decide +kernel
theorem dX9_servesNow_62 : decode cX9_servesNow 62 = .ok (.iaload, 1) := by decide +kernel
theorem dX9_servesNow_63 : decode cX9_servesNow 63 = .ok (.invokevirtual 259, 3) := by decide +kernel
theorem dX9_servesNow_66 : decode cX9_servesNow 66 = .ok (.aload_n 0, 1) := by decide +kernel
theorem dX9_servesNow_67 : decode cX9_servesNow 67 = .ok (.getfield 34, 3) := by decide +kernel
theorem dX9_servesNow_70 : decode cX9_servesNow 70 = .ok (.sipush 144, 3) := by decide +kernel
theorem dX9_servesNow_73 : decode cX9_servesNow 73 = .ok (.iload_n 3, 1) := by decide +kernel
theorem dX9_servesNow_74 : decode cX9_servesNow 74 = .ok (.iadd, 1) := by decide +kernel
theorem dX9_servesNow_75 : decode cX9_servesNow 75 = .ok (.iconst 0, 1) := by decide +kernel
theorem dX9_servesNow_76 : decode cX9_servesNow 76 = .ok (.iastore, 1) := by decide +kernel
theorem dX9_servesNow_77 : decode cX9_servesNow 77 = .ok (.iinc 2 1, 3) := by decide +kernel
theorem dX9_servesNow_80 : decode cX9_servesNow 80 = .ok (.goto (-52), 3) := by decide +kernel
theorem dX9_servesNow_83 : decode cX9_servesNow 83 = .ok (.iload_n 1, 1) := by decide +kernel
theorem dX9_servesNow_84 : decode cX9_servesNow 84 = .ok (.ireturn, 1) := by decide +kernel
theorem dX9_targetOf_0 : decode cX9_targetOf 0 = .ok (.iconst (-1), 1) := by decide +kernel
theorem dX9_targetOf_1 : decode cX9_targetOf 1 = .ok (.istore_n 2, 1) := by decide +kernel
theorem dX9_targetOf_2 : decode cX9_targetOf 2 = .ok (.iconst 0, 1) := by decide +kernel
theorem dX9_targetOf_3 : decode cX9_targetOf 3 = .ok (.istore_n 3, 1) := by decide +kernel
theorem dX9_targetOf_4 : decode cX9_targetOf 4 = .ok (.iload_n 3, 1) := by decide +kernel
theorem dX9_targetOf_5 : decode cX9_targetOf 5 = .ok (.aload_n 0, 1) := by decide +kernel
theorem dX9_targetOf_6 : decode cX9_targetOf 6 = .ok (.getfield 153, 3) := by decide +kernel
theorem dX9_targetOf_9 : decode cX9_targetOf 9 = .ok (.if_icmp .ge 58, 3) := by decide +kernel
theorem dX9_targetOf_12 : decode cX9_targetOf 12 = .ok (.iload_n 3, 1) := by decide +kernel
theorem dX9_targetOf_13 : decode cX9_targetOf 13 = .ok (.iload_n 1, 1) := by decide +kernel
theorem dX9_targetOf_14 : decode cX9_targetOf 14 = .ok (.if_icmp .eq 47, 3) := by decide +kernel
theorem dX9_targetOf_17 : decode cX9_targetOf 17 = .ok (.aload_n 0, 1) := by decide +kernel
theorem dX9_targetOf_18 : decode cX9_targetOf 18 = .ok (.getfield 34, 3) := by decide +kernel
theorem dX9_targetOf_21 : decode cX9_targetOf 21 = .ok (.bipush 16, 2) := by decide +kernel
theorem dX9_targetOf_23 : decode cX9_targetOf 23 = .ok (.iload_n 3, 1) := by decide +kernel
theorem dX9_targetOf_24 : decode cX9_targetOf 24 = .ok (.iadd, 1) := by decide +kernel
theorem dX9_targetOf_25 : decode cX9_targetOf 25 = .ok (.iaload, 1) := by decide +kernel
theorem dX9_targetOf_26 : decode cX9_targetOf 26 = .ok (.ifCond .ne 35, 3) := by decide +kernel
theorem dX9_targetOf_29 : decode cX9_targetOf 29 = .ok (.iload_n 2, 1) := by decide +kernel
theorem dX9_targetOf_30 : decode cX9_targetOf 30 = .ok (.iconst (-1), 1) := by decide +kernel
theorem dX9_targetOf_31 : decode cX9_targetOf 31 = .ok (.if_icmp .eq 24, 3) := by decide +kernel
theorem dX9_targetOf_34 : decode cX9_targetOf 34 = .ok (.aload_n 0, 1) := by decide +kernel
theorem dX9_targetOf_35 : decode cX9_targetOf 35 = .ok (.getfield 34, 3) := by decide +kernel
theorem dX9_targetOf_38 : decode cX9_targetOf 38 = .ok (.bipush 24, 2) := by decide +kernel
theorem dX9_targetOf_40 : decode cX9_targetOf 40 = .ok (.iload_n 3, 1) := by decide +kernel
theorem dX9_targetOf_41 : decode cX9_targetOf 41 = .ok (.iadd, 1) := by decide +kernel
theorem dX9_targetOf_42 : decode cX9_targetOf 42 = .ok (.iaload, 1) := by decide +kernel
theorem dX9_targetOf_43 : decode cX9_targetOf 43 = .ok (.aload_n 0, 1) := by decide +kernel
theorem dX9_targetOf_44 : decode cX9_targetOf 44 = .ok (.getfield 34, 3) := by decide +kernel
theorem dX9_targetOf_47 : decode cX9_targetOf 47 = .ok (.bipush 24, 2) := by decide +kernel
theorem dX9_targetOf_49 : decode cX9_targetOf 49 = .ok (.iload_n 2, 1) := by decide +kernel
theorem dX9_targetOf_50 : decode cX9_targetOf 50 = .ok (.iadd, 1) := by decide +kernel
theorem dX9_targetOf_51 : decode cX9_targetOf 51 = .ok (.iaload, 1) := by decide +kernel
theorem dX9_targetOf_52 : decode cX9_targetOf 52 = .ok (.if_icmp .ge 7, 3) := by decide +kernel
theorem dX9_targetOf_55 : decode cX9_targetOf 55 = .ok (.iload_n 3, 1) := by decide +kernel
theorem dX9_targetOf_56 : decode cX9_targetOf 56 = .ok (.goto 4, 3) := by decide +kernel
theorem dX9_targetOf_59 : decode cX9_targetOf 59 = .ok (.iload_n 2, 1) := by decide +kernel
theorem dX9_targetOf_60 : decode cX9_targetOf 60 = .ok (.istore_n 2, 1) := by decide +kernel
theorem dX9_targetOf_61 : decode cX9_targetOf 61 = .ok (.iinc 3 1, 3) := by decide +kernel
theorem dX9_targetOf_64 : decode cX9_targetOf 64 = .ok (.goto (-60), 3) := by decide +kernel
theorem dX9_targetOf_67 : decode cX9_targetOf 67 = .ok (.iload_n 2, 1) := by decide +kernel
theorem dX9_targetOf_68 : decode cX9_targetOf 68 = .ok (.ireturn, 1) := by decide +kernel
theorem dX9_isWeak_0 : decode cX9_isWeak 0 = .ok (.aload_n 0, 1) := by decide +kernel
theorem dX9_isWeak_1 : decode cX9_isWeak 1 = .ok (.getfield 34, 3) := by decide +kernel
theorem dX9_isWeak_4 : decode cX9_isWeak 4 = .ok (.bipush 24, 2) := by decide +kernel
theorem dX9_isWeak_6 : decode cX9_isWeak 6 = .ok (.iload_n 1, 1) := by decide +kernel
theorem dX9_isWeak_7 : decode cX9_isWeak 7 = .ok (.iadd, 1) := by decide +kernel
theorem dX9_isWeak_8 : decode cX9_isWeak 8 = .ok (.iaload, 1) := by decide +kernel
theorem dX9_isWeak_9 : decode cX9_isWeak 9 = .ok (.aload_n 0, 1) := by decide +kernel
theorem dX9_isWeak_10 : decode cX9_isWeak 10 = .ok (.getfield 22, 3) := by decide +kernel
theorem dX9_isWeak_13 : decode cX9_isWeak 13 = .ok (.bipush 6, 2) := by decide +kernel
theorem dX9_isWeak_15 : decode cX9_isWeak 15 = .ok (.iaload, 1) := by decide +kernel
theorem dX9_isWeak_16 : decode cX9_isWeak 16 = .ok (.if_icmp .le 15, 3) := by decide +kernel
theorem dX9_isWeak_19 : decode cX9_isWeak 19 = .ok (.aload_n 0, 1) := by decide +kernel
theorem dX9_isWeak_20 : decode cX9_isWeak 20 = .ok (.iload_n 1, 1) := by decide +kernel
theorem dX9_isWeak_21 : decode cX9_isWeak 21 = .ok (.invokevirtual 262, 3) := by decide +kernel
theorem dX9_isWeak_24 : decode cX9_isWeak 24 = .ok (.ifCond .le 7, 3) := by decide +kernel
theorem dX9_isWeak_27 : decode cX9_isWeak 27 = .ok (.iconst 1, 1) := by decide +kernel
theorem dX9_isWeak_28 : decode cX9_isWeak 28 = .ok (.goto 4, 3) := by decide +kernel
theorem dX9_isWeak_31 : decode cX9_isWeak 31 = .ok (.iconst 0, 1) := by decide +kernel
theorem dX9_isWeak_32 : decode cX9_isWeak 32 = .ok (.ireturn, 1) := by decide +kernel
theorem dX9_weakOnes_0 : decode cX9_weakOnes 0 = .ok (.iconst 0, 1) := by decide +kernel
theorem dX9_weakOnes_1 : decode cX9_weakOnes 1 = .ok (.istore_n 1, 1) := by decide +kernel
theorem dX9_weakOnes_2 : decode cX9_weakOnes 2 = .ok (.iconst 0, 1) := by decide +kernel
theorem dX9_weakOnes_3 : decode cX9_weakOnes 3 = .ok (.istore_n 2, 1) := by decide +kernel
theorem dX9_weakOnes_4 : decode cX9_weakOnes 4 = .ok (.iload_n 2, 1) := by decide +kernel
theorem dX9_weakOnes_5 : decode cX9_weakOnes 5 = .ok (.aload_n 0, 1) := by decide +kernel
theorem dX9_weakOnes_6 : decode cX9_weakOnes 6 = .ok (.getfield 153, 3) := by decide +kernel
theorem dX9_weakOnes_9 : decode cX9_weakOnes 9 = .ok (.if_icmp .ge 27, 3) := by decide +kernel
theorem dX9_weakOnes_12 : decode cX9_weakOnes 12 = .ok (.iload_n 1, 1) := by decide +kernel
theorem dX9_weakOnes_13 : decode cX9_weakOnes 13 = .ok (.aload_n 0, 1) := by decide +kernel
theorem dX9_weakOnes_14 : decode cX9_weakOnes 14 = .ok (.iload_n 2, 1) := by decide +kernel
theorem dX9_weakOnes_15 : decode cX9_weakOnes 15 = .ok (.invokevirtual 265, 3) := by decide +kernel
theorem dX9_weakOnes_18 : decode cX9_weakOnes 18 = .ok (.ifCond .eq 9, 3) := by decide +kernel
theorem dX9_weakOnes_21 : decode cX9_weakOnes 21 = .ok (.iconst 1, 1) := by decide +kernel
theorem dX9_weakOnes_22 : decode cX9_weakOnes 22 = .ok (.iload_n 2, 1) := by decide +kernel
theorem dX9_weakOnes_23 : decode cX9_weakOnes 23 = .ok (.ishl, 1) := by decide +kernel
theorem dX9_weakOnes_24 : decode cX9_weakOnes 24 = .ok (.goto 4, 3) := by decide +kernel
theorem dX9_weakOnes_27 : decode cX9_weakOnes 27 = .ok (.iconst 0, 1) := by decide +kernel
theorem dX9_weakOnes_28 : decode cX9_weakOnes 28 = .ok (.ior, 1) := by decide +kernel
theorem dX9_weakOnes_29 : decode cX9_weakOnes 29 = .ok (.istore_n 1, 1) := by decide +kernel
theorem dX9_weakOnes_30 : decode cX9_weakOnes 30 = .ok (.iinc 2 1, 3) := by decide +kernel
theorem dX9_weakOnes_33 : decode cX9_weakOnes 33 = .ok (.goto (-29), 3) := by decide +kernel
theorem dX9_weakOnes_36 : decode cX9_weakOnes 36 = .ok (.iload_n 1, 1) := by decide +kernel
theorem dX9_weakOnes_37 : decode cX9_weakOnes 37 = .ok (.ireturn, 1) := by decide +kernel
theorem dX9_layMoved_0 : decode cX9_layMoved 0 = .ok (.iconst 0, 1) := by decide +kernel
theorem dX9_layMoved_1 : decode cX9_layMoved 1 = .ok (.istore_n 2, 1) := by decide +kernel
theorem dX9_layMoved_2 : decode cX9_layMoved 2 = .ok (.iconst 0, 1) := by decide +kernel
theorem dX9_layMoved_3 : decode cX9_layMoved 3 = .ok (.istore_n 3, 1) := by decide +kernel
theorem dX9_layMoved_4 : decode cX9_layMoved 4 = .ok (.iload_n 3, 1) := by decide +kernel
theorem dX9_layMoved_5 : decode cX9_layMoved 5 = .ok (.aload_n 0, 1) := by decide +kernel
theorem dX9_layMoved_6 : decode cX9_layMoved 6 = .ok (.getfield 34, 3) := by decide +kernel
theorem dX9_layMoved_9 : decode cX9_layMoved 9 = .ok (.bipush 16, 2) := by decide +kernel
theorem dX9_layMoved_11 : decode cX9_layMoved 11 = .ok (.iload_n 1, 1) := by decide +kernel
theorem dX9_layMoved_12 : decode cX9_layMoved 12 = .ok (.iadd, 1) := by decide +kernel
theorem dX9_layMoved_13 : decode cX9_layMoved 13 = .ok (.iaload, 1) := by decide +kernel
theorem dX9_layMoved_14 : decode cX9_layMoved 14 = .ok (.if_icmp .ge 66, 3) := by decide +kernel
theorem dX9_layMoved_17 : decode cX9_layMoved 17 = .ok (.iconst 0, 1) := by decide +kernel
theorem dX9_layMoved_18 : decode cX9_layMoved 18 = .ok (.istore 4, 2) := by decide +kernel
theorem dX9_layMoved_20 : decode cX9_layMoved 20 = .ok (.iload 4, 2) := by decide +kernel
theorem dX9_layMoved_22 : decode cX9_layMoved 22 = .ok (.aload_n 0, 1) := by decide +kernel
theorem dX9_layMoved_23 : decode cX9_layMoved 23 = .ok (.getfield 34, 3) := by decide +kernel
theorem dX9_layMoved_26 : decode cX9_layMoved 26 = .ok (.sipush 168, 3) := by decide +kernel
theorem dX9_layMoved_29 : decode cX9_layMoved 29 = .ok (.iaload, 1) := by decide +kernel
theorem dX9_layMoved_30 : decode cX9_layMoved 30 = .ok (.if_icmp .ge 44, 3) := by decide +kernel
theorem dX9_layMoved_33 : decode cX9_layMoved 33 = .ok (.aload_n 0, 1) := by decide +kernel
theorem dX9_layMoved_34 : decode cX9_layMoved 34 = .ok (.iload 4, 2) := by decide +kernel
theorem dX9_layMoved_36 : decode cX9_layMoved 36 = .ok (.iload_n 1, 1) := by decide +kernel
theorem dX9_layMoved_37 : decode cX9_layMoved 37 = .ok (.invokevirtual 163, 3) := by decide +kernel
theorem dX9_layMoved_40 : decode cX9_layMoved 40 = .ok (.ifCond .eq 28, 3) := by decide +kernel
theorem dX9_layMoved_43 : decode cX9_layMoved 43 = .ok (.aload_n 0, 1) := by decide +kernel
theorem dX9_layMoved_44 : decode cX9_layMoved 44 = .ok (.getfield 34, 3) := by decide +kernel
theorem dX9_layMoved_47 : decode cX9_layMoved 47 = .ok (.bipush 72, 2) := by decide +kernel
theorem dX9_layMoved_49 : decode cX9_layMoved 49 = .ok (.iload 4, 2) := by decide +kernel
theorem dX9_layMoved_51 : decode cX9_layMoved 51 = .ok (.iadd, 1) := by decide +kernel
theorem dX9_layMoved_52 : decode cX9_layMoved 52 = .ok (.iaload, 1) := by decide +kernel
theorem dX9_layMoved_53 : decode cX9_layMoved 53 = .ok (.iload_n 3, 1) := by decide +kernel
theorem dX9_layMoved_54 : decode cX9_layMoved 54 = .ok (.if_icmp .ne 14, 3) := by decide +kernel
theorem dX9_layMoved_57 : decode cX9_layMoved 57 = .ok (.aload_n 0, 1) := by decide +kernel
theorem dX9_layMoved_58 : decode cX9_layMoved 58 = .ok (.getfield 43, 3) := by decide +kernel
theorem dX9_layMoved_61 : decode cX9_layMoved 61 = .ok (.iload_n 2, 1) := by decide +kernel
theorem dX9_layMoved_62 : decode cX9_layMoved 62 = .ok (.iload 4, 2) := by decide +kernel
theorem dX9_layMoved_64 : decode cX9_layMoved 64 = .ok (.iastore, 1) := by decide +kernel
theorem dX9_layMoved_65 : decode cX9_layMoved 65 = .ok (.iinc 2 1, 3) := by decide +kernel
theorem dX9_layMoved_68 : decode cX9_layMoved 68 = .ok (.iinc 4 1, 3) := by decide +kernel
theorem dX9_layMoved_71 : decode cX9_layMoved 71 = .ok (.goto (-51), 3) := by decide +kernel
theorem dX9_layMoved_74 : decode cX9_layMoved 74 = .ok (.iinc 3 1, 3) := by decide +kernel
theorem dX9_layMoved_77 : decode cX9_layMoved 77 = .ok (.goto (-73), 3) := by decide +kernel
theorem dX9_layMoved_80 : decode cX9_layMoved 80 = .ok (.iload_n 2, 1) := by decide +kernel
theorem dX9_layMoved_81 : decode cX9_layMoved 81 = .ok (.ireturn, 1) := by decide +kernel
theorem dX9_copiesNow_0 : decode cX9_copiesNow 0 = .ok (.aload_n 0, 1) := by decide +kernel
theorem dX9_copiesNow_1 : decode cX9_copiesNow 1 = .ok (.iload_n 1, 1) := by decide +kernel
theorem dX9_copiesNow_2 : decode cX9_copiesNow 2 = .ok (.invokevirtual 268, 3) := by decide +kernel
theorem dX9_copiesNow_5 : decode cX9_copiesNow 5 = .ok (.istore_n 3, 1) := by decide +kernel
theorem dX9_copiesNow_6 : decode cX9_copiesNow 6 = .ok (.aload_n 0, 1) := by decide +kernel
theorem dX9_copiesNow_7 : decode cX9_copiesNow 7 = .ok (.iload_n 1, 1) := by decide +kernel
theorem dX9_copiesNow_8 : decode cX9_copiesNow 8 = .ok (.invokevirtual 253, 3) := by decide +kernel
theorem dX9_copiesNow_11 : decode cX9_copiesNow 11 = .ok (.iconst 0, 1) := by decide +kernel
theorem dX9_copiesNow_12 : decode cX9_copiesNow 12 = .ok (.istore 4, 2) := by decide +kernel
theorem dX9_copiesNow_14 : decode cX9_copiesNow 14 = .ok (.iload 4, 2) := by decide +kernel
theorem dX9_copiesNow_16 : decode cX9_copiesNow 16 = .ok (.iload_n 3, 1) := by decide +kernel
theorem dX9_copiesNow_17 : decode cX9_copiesNow 17 = .ok (.if_icmp .ge 44, 3) := by decide +kernel
theorem dX9_copiesNow_20 : decode cX9_copiesNow 20 = .ok (.aload_n 0, 1) := by decide +kernel
theorem dX9_copiesNow_21 : decode cX9_copiesNow 21 = .ok (.iload_n 1, 1) := by decide +kernel
theorem dX9_copiesNow_22 : decode cX9_copiesNow 22 = .ok (.aload_n 0, 1) := by decide +kernel
theorem dX9_copiesNow_23 : decode cX9_copiesNow 23 = .ok (.getfield 34, 3) := by decide +kernel
theorem dX9_copiesNow_26 : decode cX9_copiesNow 26 = .ok (.bipush 72, 2) := by decide +kernel
theorem dX9_copiesNow_28 : decode cX9_copiesNow 28 = .ok (.aload_n 0, 1) := by decide +kernel
theorem dX9_copiesNow_29 : decode cX9_copiesNow 29 = .ok (.getfield 43, 3) := by decide +kernel
theorem dX9_copiesNow_32 : decode cX9_copiesNow 32 = .ok (.iload 4, 2) := by decide +kernel
theorem dX9_copiesNow_34 : decode cX9_copiesNow 34 = .ok (.iaload, 1) := by decide +kernel
theorem dX9_copiesNow_35 : decode cX9_copiesNow 35 = .ok (.iadd, 1) := by decide +kernel
theorem dX9_copiesNow_36 : decode cX9_copiesNow 36 = .ok (.iaload, 1) := by decide +kernel
theorem dX9_copiesNow_37 : decode cX9_copiesNow 37 = .ok (.aload_n 0, 1) := by decide +kernel
theorem dX9_copiesNow_38 : decode cX9_copiesNow 38 = .ok (.getfield 34, 3) := by decide +kernel
theorem dX9_copiesNow_41 : decode cX9_copiesNow 41 = .ok (.bipush 96, 2) := by decide +kernel
theorem dX9_copiesNow_43 : decode cX9_copiesNow 43 = .ok (.aload_n 0, 1) := by decide +kernel
theorem dX9_copiesNow_44 : decode cX9_copiesNow 44 = .ok (.getfield 43, 3) := by decide +kernel
theorem dX9_copiesNow_47 : decode cX9_copiesNow 47 = .ok (.iload 4, 2) := by decide +kernel
theorem dX9_copiesNow_49 : decode cX9_copiesNow 49 = .ok (.iaload, 1) := by decide +kernel
theorem dX9_copiesNow_50 : decode cX9_copiesNow 50 = .ok (.iadd, 1) := by decide +kernel
theorem dX9_copiesNow_51 : decode cX9_copiesNow 51 = .ok (.iaload, 1) := by decide +kernel
theorem dX9_copiesNow_52 : decode cX9_copiesNow 52 = .ok (.invokevirtual 259, 3) := by decide +kernel
theorem dX9_copiesNow_55 : decode cX9_copiesNow 55 = .ok (.iinc 4 1, 3) := by decide +kernel
theorem dX9_copiesNow_58 : decode cX9_copiesNow 58 = .ok (.goto (-44), 3) := by decide +kernel
theorem dX9_copiesNow_61 : decode cX9_copiesNow 61 = .ok (.aload_n 0, 1) := by decide +kernel
theorem dX9_copiesNow_62 : decode cX9_copiesNow 62 = .ok (.iload_n 2, 1) := by decide +kernel
theorem dX9_copiesNow_63 : decode cX9_copiesNow 63 = .ok (.invokevirtual 253, 3) := by decide +kernel
theorem dX9_copiesNow_66 : decode cX9_copiesNow 66 = .ok (.iconst 0, 1) := by decide +kernel
theorem dX9_copiesNow_67 : decode cX9_copiesNow 67 = .ok (.istore 4, 2) := by decide +kernel
theorem dX9_copiesNow_69 : decode cX9_copiesNow 69 = .ok (.iload 4, 2) := by decide +kernel
theorem dX9_copiesNow_71 : decode cX9_copiesNow 71 = .ok (.iload_n 3, 1) := by decide +kernel
theorem dX9_copiesNow_72 : decode cX9_copiesNow 72 = .ok (.if_icmp .ge 105, 3) := by decide +kernel
theorem dX9_copiesNow_75 : decode cX9_copiesNow 75 = .ok (.aload_n 0, 1) := by decide +kernel
theorem dX9_copiesNow_76 : decode cX9_copiesNow 76 = .ok (.getfield 43, 3) := by decide +kernel
theorem dX9_copiesNow_79 : decode cX9_copiesNow 79 = .ok (.iload 4, 2) := by decide +kernel
theorem dX9_copiesNow_81 : decode cX9_copiesNow 81 = .ok (.iaload, 1) := by decide +kernel
theorem dX9_copiesNow_82 : decode cX9_copiesNow 82 = .ok (.istore 5, 2) := by decide +kernel
theorem dX9_copiesNow_84 : decode cX9_copiesNow 84 = .ok (.aload_n 0, 1) := by decide +kernel
theorem dX9_copiesNow_85 : decode cX9_copiesNow 85 = .ok (.iload_n 2, 1) := by decide +kernel
theorem dX9_copiesNow_86 : decode cX9_copiesNow 86 = .ok (.aload_n 0, 1) := by decide +kernel
theorem dX9_copiesNow_87 : decode cX9_copiesNow 87 = .ok (.getfield 34, 3) := by decide +kernel
theorem dX9_copiesNow_90 : decode cX9_copiesNow 90 = .ok (.bipush 16, 2) := by decide +kernel
theorem dX9_copiesNow_92 : decode cX9_copiesNow 92 = .ok (.iload_n 2, 1) := by decide +kernel
theorem dX9_copiesNow_93 : decode cX9_copiesNow 93 = .ok (.iadd, 1) := by decide +kernel
theorem dX9_copiesNow_94 : decode cX9_copiesNow 94 = .ok (.iaload, 1) := by decide +kernel
theorem dX9_copiesNow_95 : decode cX9_copiesNow 95 = .ok (.aload_n 0, 1) := by decide +kernel
theorem dX9_copiesNow_96 : decode cX9_copiesNow 96 = .ok (.getfield 34, 3) := by decide +kernel
theorem dX9_copiesNow_99 : decode cX9_copiesNow 99 = .ok (.bipush 96, 2) := by decide +kernel
theorem dX9_copiesNow_101 : decode cX9_copiesNow 101 = .ok (.iload 5, 2) := by decide +kernel
theorem dX9_copiesNow_103 : decode cX9_copiesNow 103 = .ok (.iadd, 1) := by decide +kernel
theorem dX9_copiesNow_104 : decode cX9_copiesNow 104 = .ok (.iaload, 1) := by decide +kernel
theorem dX9_copiesNow_105 : decode cX9_copiesNow 105 = .ok (.invokevirtual 232, 3) := by decide +kernel
theorem dX9_copiesNow_108 : decode cX9_copiesNow 108 = .ok (.aload_n 0, 1) := by decide +kernel
theorem dX9_copiesNow_109 : decode cX9_copiesNow 109 = .ok (.getfield 34, 3) := by decide +kernel
theorem dX9_copiesNow_112 : decode cX9_copiesNow 112 = .ok (.bipush 48, 2) := by decide +kernel
theorem dX9_copiesNow_114 : decode cX9_copiesNow 114 = .ok (.iload 5, 2) := by decide +kernel
theorem dX9_copiesNow_116 : decode cX9_copiesNow 116 = .ok (.iadd, 1) := by decide +kernel
theorem dX9_copiesNow_117 : decode cX9_copiesNow 117 = .ok (.iload_n 2, 1) := by decide +kernel
theorem dX9_copiesNow_118 : decode cX9_copiesNow 118 = .ok (.iastore, 1) := by decide +kernel
theorem dX9_copiesNow_119 : decode cX9_copiesNow 119 = .ok (.aload_n 0, 1) := by decide +kernel
theorem dX9_copiesNow_120 : decode cX9_copiesNow 120 = .ok (.getfield 34, 3) := by decide +kernel
theorem dX9_copiesNow_123 : decode cX9_copiesNow 123 = .ok (.bipush 72, 2) := by decide +kernel
theorem dX9_copiesNow_125 : decode cX9_copiesNow 125 = .ok (.iload 5, 2) := by decide +kernel
theorem dX9_copiesNow_127 : decode cX9_copiesNow 127 = .ok (.iadd, 1) := by decide +kernel
theorem dX9_copiesNow_128 : decode cX9_copiesNow 128 = .ok (.aload_n 0, 1) := by decide +kernel
theorem dX9_copiesNow_129 : decode cX9_copiesNow 129 = .ok (.getfield 34, 3) := by decide +kernel
theorem dX9_copiesNow_132 : decode cX9_copiesNow 132 = .ok (.bipush 16, 2) := by decide +kernel
theorem dX9_copiesNow_134 : decode cX9_copiesNow 134 = .ok (.iload_n 2, 1) := by decide +kernel
theorem dX9_copiesNow_135 : decode cX9_copiesNow 135 = .ok (.iadd, 1) := by decide +kernel
theorem dX9_copiesNow_136 : decode cX9_copiesNow 136 = .ok (.iaload, 1) := by decide +kernel
theorem dX9_copiesNow_137 : decode cX9_copiesNow 137 = .ok (.iastore, 1) := by decide +kernel
theorem dX9_copiesNow_138 : decode cX9_copiesNow 138 = .ok (.aload_n 0, 1) := by decide +kernel
theorem dX9_copiesNow_139 : decode cX9_copiesNow 139 = .ok (.getfield 34, 3) := by decide +kernel
theorem dX9_copiesNow_142 : decode cX9_copiesNow 142 = .ok (.bipush 120, 2) := by decide +kernel
theorem dX9_copiesNow_144 : decode cX9_copiesNow 144 = .ok (.iload 5, 2) := by decide +kernel
theorem dX9_copiesNow_146 : decode cX9_copiesNow 146 = .ok (.iadd, 1) := by decide +kernel
theorem dX9_copiesNow_147 : decode cX9_copiesNow 147 = .ok (.iconst 1, 1) := by decide +kernel
theorem dX9_copiesNow_148 : decode cX9_copiesNow 148 = .ok (.iastore, 1) := by decide +kernel
theorem dX9_copiesNow_149 : decode cX9_copiesNow 149 = .ok (.aload_n 0, 1) := by decide +kernel
theorem dX9_copiesNow_150 : decode cX9_copiesNow 150 = .ok (.getfield 34, 3) := by decide +kernel
theorem dX9_copiesNow_153 : decode cX9_copiesNow 153 = .ok (.bipush 16, 2) := by decide +kernel
theorem dX9_copiesNow_155 : decode cX9_copiesNow 155 = .ok (.iload_n 2, 1) := by decide +kernel
theorem dX9_copiesNow_156 : decode cX9_copiesNow 156 = .ok (.iadd, 1) := by decide +kernel
theorem dX9_copiesNow_157 : decode cX9_copiesNow 157 = .ok (.dup2, 1) := by decide +kernel
theorem dX9_copiesNow_158 : decode cX9_copiesNow 158 = .ok (.iaload, 1) := by decide +kernel
theorem dX9_copiesNow_159 : decode cX9_copiesNow 159 = .ok (.aload_n 0, 1) := by decide +kernel
theorem dX9_copiesNow_160 : decode cX9_copiesNow 160 = .ok (.getfield 34, 3) := by decide +kernel
theorem dX9_copiesNow_163 : decode cX9_copiesNow 163 = .ok (.bipush 96, 2) := by decide +kernel
theorem dX9_copiesNow_165 : decode cX9_copiesNow 165 = .ok (.iload 5, 2) := by decide +kernel
theorem dX9_copiesNow_167 : decode cX9_copiesNow 167 = .ok (.iadd, 1) := by decide +kernel
theorem dX9_copiesNow_168 : decode cX9_copiesNow 168 = .ok (.iaload, 1) := by decide +kernel
theorem dX9_copiesNow_169 : decode cX9_copiesNow 169 = .ok (.iadd, 1) := by decide +kernel
theorem dX9_copiesNow_170 : decode cX9_copiesNow 170 = .ok (.iastore, 1) := by decide +kernel
theorem dX9_copiesNow_171 : decode cX9_copiesNow 171 = .ok (.iinc 4 1, 3) := by decide +kernel
theorem dX9_copiesNow_174 : decode cX9_copiesNow 174 = .ok (.goto (-105), 3) := by decide +kernel
theorem dX9_copiesNow_177 : decode cX9_copiesNow 177 = .ok (.aload_n 0, 1) := by decide +kernel
theorem dX9_copiesNow_178 : decode cX9_copiesNow 178 = .ok (.getfield 34, 3) := by decide +kernel
theorem dX9_copiesNow_181 : decode cX9_copiesNow 181 = .ok (.bipush 16, 2) := by decide +kernel
theorem dX9_copiesNow_183 : decode cX9_copiesNow 183 = .ok (.iload_n 1, 1) := by decide +kernel
theorem dX9_copiesNow_184 : decode cX9_copiesNow 184 = .ok (.iadd, 1) := by decide +kernel
theorem dX9_copiesNow_185 : decode cX9_copiesNow 185 = .ok (.iconst 0, 1) := by decide +kernel
theorem dX9_copiesNow_186 : decode cX9_copiesNow 186 = .ok (.iastore, 1) := by decide +kernel
theorem dX9_copiesNow_187 : decode cX9_copiesNow 187 = .ok (.aload_n 0, 1) := by decide +kernel
theorem dX9_copiesNow_188 : decode cX9_copiesNow 188 = .ok (.getfield 34, 3) := by decide +kernel
theorem dX9_copiesNow_191 : decode cX9_copiesNow 191 = .ok (.bipush 32, 2) := by decide +kernel
theorem dX9_copiesNow_193 : decode cX9_copiesNow 193 = .ok (.iload_n 1, 1) := by decide +kernel
theorem dX9_copiesNow_194 : decode cX9_copiesNow 194 = .ok (.iadd, 1) := by decide +kernel
theorem dX9_copiesNow_195 : decode cX9_copiesNow 195 = .ok (.iconst 0, 1) := by decide +kernel
theorem dX9_copiesNow_196 : decode cX9_copiesNow 196 = .ok (.iastore, 1) := by decide +kernel
theorem dX9_copiesNow_197 : decode cX9_copiesNow 197 = .ok (.iload_n 3, 1) := by decide +kernel
theorem dX9_copiesNow_198 : decode cX9_copiesNow 198 = .ok (.ireturn, 1) := by decide +kernel
theorem dX9_rescuesNow_0 : decode cX9_rescuesNow 0 = .ok (.aload_n 0, 1) := by decide +kernel
theorem dX9_rescuesNow_1 : decode cX9_rescuesNow 1 = .ok (.invokevirtual 271, 3) := by decide +kernel
theorem dX9_rescuesNow_4 : decode cX9_rescuesNow 4 = .ok (.istore_n 1, 1) := by decide +kernel
theorem dX9_rescuesNow_5 : decode cX9_rescuesNow 5 = .ok (.iconst 0, 1) := by decide +kernel
theorem dX9_rescuesNow_6 : decode cX9_rescuesNow 6 = .ok (.istore_n 2, 1) := by decide +kernel
theorem dX9_rescuesNow_7 : decode cX9_rescuesNow 7 = .ok (.iconst 0, 1) := by decide +kernel
theorem dX9_rescuesNow_8 : decode cX9_rescuesNow 8 = .ok (.istore_n 3, 1) := by decide +kernel
theorem dX9_rescuesNow_9 : decode cX9_rescuesNow 9 = .ok (.iload_n 3, 1) := by decide +kernel
theorem dX9_rescuesNow_10 : decode cX9_rescuesNow 10 = .ok (.aload_n 0, 1) := by decide +kernel
theorem dX9_rescuesNow_11 : decode cX9_rescuesNow 11 = .ok (.getfield 153, 3) := by decide +kernel
theorem dX9_rescuesNow_14 : decode cX9_rescuesNow 14 = .ok (.if_icmp .ge 40, 3) := by decide +kernel
theorem dX9_rescuesNow_17 : decode cX9_rescuesNow 17 = .ok (.iload_n 1, 1) := by decide +kernel
theorem dX9_rescuesNow_18 : decode cX9_rescuesNow 18 = .ok (.iload_n 3, 1) := by decide +kernel
theorem dX9_rescuesNow_19 : decode cX9_rescuesNow 19 = .ok (.invokestatic 111, 3) := by decide +kernel
theorem dX9_rescuesNow_22 : decode cX9_rescuesNow 22 = .ok (.ifCond .eq 26, 3) := by decide +kernel
theorem dX9_rescuesNow_25 : decode cX9_rescuesNow 25 = .ok (.aload_n 0, 1) := by decide +kernel
theorem dX9_rescuesNow_26 : decode cX9_rescuesNow 26 = .ok (.iload_n 3, 1) := by decide +kernel
theorem dX9_rescuesNow_27 : decode cX9_rescuesNow 27 = .ok (.invokevirtual 274, 3) := by decide +kernel
theorem dX9_rescuesNow_30 : decode cX9_rescuesNow 30 = .ok (.iconst (-1), 1) := by decide +kernel
theorem dX9_rescuesNow_31 : decode cX9_rescuesNow 31 = .ok (.if_icmp .eq 17, 3) := by decide +kernel
theorem dX9_rescuesNow_34 : decode cX9_rescuesNow 34 = .ok (.aload_n 0, 1) := by decide +kernel
theorem dX9_rescuesNow_35 : decode cX9_rescuesNow 35 = .ok (.iload_n 3, 1) := by decide +kernel
theorem dX9_rescuesNow_36 : decode cX9_rescuesNow 36 = .ok (.aload_n 0, 1) := by decide +kernel
theorem dX9_rescuesNow_37 : decode cX9_rescuesNow 37 = .ok (.iload_n 3, 1) := by decide +kernel
theorem dX9_rescuesNow_38 : decode cX9_rescuesNow 38 = .ok (.invokevirtual 274, 3) := by decide +kernel
theorem dX9_rescuesNow_41 : decode cX9_rescuesNow 41 = .ok (.invokevirtual 277, 3) := by decide +kernel
theorem dX9_rescuesNow_44 : decode cX9_rescuesNow 44 = .ok (.pop, 1) := by decide +kernel
theorem dX9_rescuesNow_45 : decode cX9_rescuesNow 45 = .ok (.iinc 2 1, 3) := by decide +kernel
theorem dX9_rescuesNow_48 : decode cX9_rescuesNow 48 = .ok (.iinc 3 1, 3) := by decide +kernel
theorem dX9_rescuesNow_51 : decode cX9_rescuesNow 51 = .ok (.goto (-42), 3) := by decide +kernel
theorem dX9_rescuesNow_54 : decode cX9_rescuesNow 54 = .ok (.iload_n 2, 1) := by decide +kernel
theorem dX9_rescuesNow_55 : decode cX9_rescuesNow 55 = .ok (.ireturn, 1) := by decide +kernel
theorem dX9_idleOnes_0 : decode cX9_idleOnes 0 = .ok (.iconst 0, 1) := by decide +kernel
theorem dX9_idleOnes_1 : decode cX9_idleOnes 1 = .ok (.istore_n 2, 1) := by decide +kernel
theorem dX9_idleOnes_2 : decode cX9_idleOnes 2 = .ok (.iconst 0, 1) := by decide +kernel
theorem dX9_idleOnes_3 : decode cX9_idleOnes 3 = .ok (.istore_n 3, 1) := by decide +kernel
theorem dX9_idleOnes_4 : decode cX9_idleOnes 4 = .ok (.iload_n 3, 1) := by decide +kernel
theorem dX9_idleOnes_5 : decode cX9_idleOnes 5 = .ok (.aload_n 0, 1) := by decide +kernel
theorem dX9_idleOnes_6 : decode cX9_idleOnes 6 = .ok (.getfield 153, 3) := by decide +kernel
theorem dX9_idleOnes_9 : decode cX9_idleOnes 9 = .ok (.if_icmp .ge 48, 3) := by decide +kernel
theorem dX9_idleOnes_12 : decode cX9_idleOnes 12 = .ok (.iload_n 2, 1) := by decide +kernel
theorem dX9_idleOnes_13 : decode cX9_idleOnes 13 = .ok (.aload_n 0, 1) := by decide +kernel
theorem dX9_idleOnes_14 : decode cX9_idleOnes 14 = .ok (.iload_n 3, 1) := by decide +kernel
theorem dX9_idleOnes_15 : decode cX9_idleOnes 15 = .ok (.invokevirtual 209, 3) := by decide +kernel
theorem dX9_idleOnes_18 : decode cX9_idleOnes 18 = .ok (.ifCond .eq 30, 3) := by decide +kernel
theorem dX9_idleOnes_21 : decode cX9_idleOnes 21 = .ok (.iload_n 1, 1) := by decide +kernel
theorem dX9_idleOnes_22 : decode cX9_idleOnes 22 = .ok (.aload_n 0, 1) := by decide +kernel
theorem dX9_idleOnes_23 : decode cX9_idleOnes 23 = .ok (.getfield 34, 3) := by decide +kernel
theorem dX9_idleOnes_26 : decode cX9_idleOnes 26 = .ok (.bipush 40, 2) := by decide +kernel
theorem dX9_idleOnes_28 : decode cX9_idleOnes 28 = .ok (.iload_n 3, 1) := by decide +kernel
theorem dX9_idleOnes_29 : decode cX9_idleOnes 29 = .ok (.iadd, 1) := by decide +kernel
theorem dX9_idleOnes_30 : decode cX9_idleOnes 30 = .ok (.iaload, 1) := by decide +kernel
theorem dX9_idleOnes_31 : decode cX9_idleOnes 31 = .ok (.isub, 1) := by decide +kernel
theorem dX9_idleOnes_32 : decode cX9_idleOnes 32 = .ok (.aload_n 0, 1) := by decide +kernel
theorem dX9_idleOnes_33 : decode cX9_idleOnes 33 = .ok (.getfield 22, 3) := by decide +kernel
theorem dX9_idleOnes_36 : decode cX9_idleOnes 36 = .ok (.bipush 7, 2) := by decide +kernel
theorem dX9_idleOnes_38 : decode cX9_idleOnes 38 = .ok (.iaload, 1) := by decide +kernel
theorem dX9_idleOnes_39 : decode cX9_idleOnes 39 = .ok (.if_icmp .le 9, 3) := by decide +kernel
theorem dX9_idleOnes_42 : decode cX9_idleOnes 42 = .ok (.iconst 1, 1) := by decide +kernel
theorem dX9_idleOnes_43 : decode cX9_idleOnes 43 = .ok (.iload_n 3, 1) := by decide +kernel
theorem dX9_idleOnes_44 : decode cX9_idleOnes 44 = .ok (.ishl, 1) := by decide +kernel
theorem dX9_idleOnes_45 : decode cX9_idleOnes 45 = .ok (.goto 4, 3) := by decide +kernel
theorem dX9_idleOnes_48 : decode cX9_idleOnes 48 = .ok (.iconst 0, 1) := by decide +kernel
theorem dX9_idleOnes_49 : decode cX9_idleOnes 49 = .ok (.ior, 1) := by decide +kernel
theorem dX9_idleOnes_50 : decode cX9_idleOnes 50 = .ok (.istore_n 2, 1) := by decide +kernel
theorem dX9_idleOnes_51 : decode cX9_idleOnes 51 = .ok (.iinc 3 1, 3) := by decide +kernel
theorem dX9_idleOnes_54 : decode cX9_idleOnes 54 = .ok (.goto (-50), 3) := by decide +kernel
theorem dX9_idleOnes_57 : decode cX9_idleOnes 57 = .ok (.iload_n 2, 1) := by decide +kernel
theorem dX9_idleOnes_58 : decode cX9_idleOnes 58 = .ok (.ireturn, 1) := by decide +kernel
theorem dX9_pausesNow_0 : decode cX9_pausesNow 0 = .ok (.aload_n 0, 1) := by decide +kernel
theorem dX9_pausesNow_1 : decode cX9_pausesNow 1 = .ok (.getfield 34, 3) := by decide +kernel
theorem dX9_pausesNow_4 : decode cX9_pausesNow 4 = .ok (.sipush 170, 3) := by decide +kernel
theorem dX9_pausesNow_7 : decode cX9_pausesNow 7 = .ok (.dup2, 1) := by decide +kernel
theorem dX9_pausesNow_8 : decode cX9_pausesNow 8 = .ok (.iaload, 1) := by decide +kernel
theorem dX9_pausesNow_9 : decode cX9_pausesNow 9 = .ok (.iload_n 1, 1) := by decide +kernel
theorem dX9_pausesNow_10 : decode cX9_pausesNow 10 = .ok (.iadd, 1) := by decide +kernel
theorem dX9_pausesNow_11 : decode cX9_pausesNow 11 = .ok (.iastore, 1) := by decide +kernel
theorem dX9_pausesNow_12 : decode cX9_pausesNow 12 = .ok (.aload_n 0, 1) := by decide +kernel
theorem dX9_pausesNow_13 : decode cX9_pausesNow 13 = .ok (.aload_n 0, 1) := by decide +kernel
theorem dX9_pausesNow_14 : decode cX9_pausesNow 14 = .ok (.getfield 34, 3) := by decide +kernel
theorem dX9_pausesNow_17 : decode cX9_pausesNow 17 = .ok (.sipush 170, 3) := by decide +kernel
theorem dX9_pausesNow_20 : decode cX9_pausesNow 20 = .ok (.iaload, 1) := by decide +kernel
theorem dX9_pausesNow_21 : decode cX9_pausesNow 21 = .ok (.invokevirtual 280, 3) := by decide +kernel
theorem dX9_pausesNow_24 : decode cX9_pausesNow 24 = .ok (.istore_n 2, 1) := by decide +kernel
theorem dX9_pausesNow_25 : decode cX9_pausesNow 25 = .ok (.iconst 0, 1) := by decide +kernel
theorem dX9_pausesNow_26 : decode cX9_pausesNow 26 = .ok (.istore_n 3, 1) := by decide +kernel
theorem dX9_pausesNow_27 : decode cX9_pausesNow 27 = .ok (.iload_n 3, 1) := by decide +kernel
theorem dX9_pausesNow_28 : decode cX9_pausesNow 28 = .ok (.aload_n 0, 1) := by decide +kernel
theorem dX9_pausesNow_29 : decode cX9_pausesNow 29 = .ok (.getfield 153, 3) := by decide +kernel
theorem dX9_pausesNow_32 : decode cX9_pausesNow 32 = .ok (.if_icmp .ge 22, 3) := by decide +kernel
theorem dX9_pausesNow_35 : decode cX9_pausesNow 35 = .ok (.iload_n 2, 1) := by decide +kernel
theorem dX9_pausesNow_36 : decode cX9_pausesNow 36 = .ok (.iload_n 3, 1) := by decide +kernel
theorem dX9_pausesNow_37 : decode cX9_pausesNow 37 = .ok (.invokestatic 111, 3) := by decide +kernel
theorem dX9_pausesNow_40 : decode cX9_pausesNow 40 = .ok (.ifCond .eq 8, 3) := by decide +kernel
theorem dX9_pausesNow_43 : decode cX9_pausesNow 43 = .ok (.aload_n 0, 1) := by decide +kernel
theorem dX9_pausesNow_44 : decode cX9_pausesNow 44 = .ok (.iload_n 3, 1) := by decide +kernel
theorem dX9_pausesNow_45 : decode cX9_pausesNow 45 = .ok (.invokevirtual 218, 3) := by decide +kernel
theorem dX9_pausesNow_48 : decode cX9_pausesNow 48 = .ok (.iinc 3 1, 3) := by decide +kernel
theorem dX9_pausesNow_51 : decode cX9_pausesNow 51 = .ok (.goto (-24), 3) := by decide +kernel
theorem dX9_pausesNow_54 : decode cX9_pausesNow 54 = .ok (.iload_n 2, 1) := by decide +kernel
theorem dX9_pausesNow_55 : decode cX9_pausesNow 55 = .ok (.invokestatic 283, 3) := by decide +kernel
theorem dX9_pausesNow_58 : decode cX9_pausesNow 58 = .ok (.ireturn, 1) := by decide +kernel
theorem dX9_knownMany_0 : decode cX9_knownMany 0 = .ok (.iconst 0, 1) := by decide +kernel
theorem dX9_knownMany_1 : decode cX9_knownMany 1 = .ok (.istore_n 1, 1) := by decide +kernel
theorem dX9_knownMany_2 : decode cX9_knownMany 2 = .ok (.iconst 0, 1) := by decide +kernel
theorem dX9_knownMany_3 : decode cX9_knownMany 3 = .ok (.istore_n 2, 1) := by decide +kernel
theorem dX9_knownMany_4 : decode cX9_knownMany 4 = .ok (.iload_n 2, 1) := by decide +kernel
theorem dX9_knownMany_5 : decode cX9_knownMany 5 = .ok (.aload_n 0, 1) := by decide +kernel
theorem dX9_knownMany_6 : decode cX9_knownMany 6 = .ok (.getfield 34, 3) := by decide +kernel
theorem dX9_knownMany_9 : decode cX9_knownMany 9 = .ok (.sipush 168, 3) := by decide +kernel
theorem dX9_knownMany_12 : decode cX9_knownMany 12 = .ok (.iaload, 1) := by decide +kernel
theorem dX9_knownMany_13 : decode cX9_knownMany 13 = .ok (.if_icmp .ge 43, 3) := by decide +kernel
theorem dX9_knownMany_16 : decode cX9_knownMany 16 = .ok (.iload_n 1, 1) := by decide +kernel
theorem dX9_knownMany_17 : decode cX9_knownMany 17 = .ok (.aload_n 0, 1) := by decide +kernel
theorem dX9_knownMany_18 : decode cX9_knownMany 18 = .ok (.getfield 34, 3) := by decide +kernel
theorem dX9_knownMany_21 : decode cX9_knownMany 21 = .ok (.bipush 48, 2) := by decide +kernel
theorem dX9_knownMany_23 : decode cX9_knownMany 23 = .ok (.iload_n 2, 1) := by decide +kernel
theorem dX9_knownMany_24 : decode cX9_knownMany 24 = .ok (.iadd, 1) := by decide +kernel
theorem dX9_knownMany_25 : decode cX9_knownMany 25 = .ok (.iaload, 1) := by decide +kernel
theorem dX9_knownMany_26 : decode cX9_knownMany 26 = .ok (.iconst (-1), 1) := by decide +kernel
theorem dX9_knownMany_27 : decode cX9_knownMany 27 = .ok (.if_icmp .eq 20, 3) := by decide +kernel
theorem dX9_knownMany_30 : decode cX9_knownMany 30 = .ok (.aload_n 0, 1) := by decide +kernel
theorem dX9_knownMany_31 : decode cX9_knownMany 31 = .ok (.getfield 34, 3) := by decide +kernel
theorem dX9_knownMany_34 : decode cX9_knownMany 34 = .ok (.bipush 120, 2) := by decide +kernel
theorem dX9_knownMany_36 : decode cX9_knownMany 36 = .ok (.iload_n 2, 1) := by decide +kernel
theorem dX9_knownMany_37 : decode cX9_knownMany 37 = .ok (.iadd, 1) := by decide +kernel
theorem dX9_knownMany_38 : decode cX9_knownMany 38 = .ok (.iaload, 1) := by decide +kernel
theorem dX9_knownMany_39 : decode cX9_knownMany 39 = .ok (.iconst 1, 1) := by decide +kernel
theorem dX9_knownMany_40 : decode cX9_knownMany 40 = .ok (.if_icmp .ne 7, 3) := by decide +kernel
theorem dX9_knownMany_43 : decode cX9_knownMany 43 = .ok (.iconst 1, 1) := by decide +kernel
theorem dX9_knownMany_44 : decode cX9_knownMany 44 = .ok (.goto 4, 3) := by decide +kernel
theorem dX9_knownMany_47 : decode cX9_knownMany 47 = .ok (.iconst 0, 1) := by decide +kernel
theorem dX9_knownMany_48 : decode cX9_knownMany 48 = .ok (.iadd, 1) := by decide +kernel
theorem dX9_knownMany_49 : decode cX9_knownMany 49 = .ok (.istore_n 1, 1) := by decide +kernel
theorem dX9_knownMany_50 : decode cX9_knownMany 50 = .ok (.iinc 2 1, 3) := by decide +kernel
theorem dX9_knownMany_53 : decode cX9_knownMany 53 = .ok (.goto (-49), 3) := by decide +kernel
theorem dX9_knownMany_56 : decode cX9_knownMany 56 = .ok (.iload_n 1, 1) := by decide +kernel
theorem dX9_knownMany_57 : decode cX9_knownMany 57 = .ok (.ireturn, 1) := by decide +kernel
theorem dX9_losesNow_0 : decode cX9_losesNow 0 = .ok (.aload_n 0, 1) := by decide +kernel
theorem dX9_losesNow_1 : decode cX9_losesNow 1 = .ok (.invokevirtual 286, 3) := by decide +kernel
theorem dX9_losesNow_4 : decode cX9_losesNow 4 = .ok (.istore_n 1, 1) := by decide +kernel
theorem dX9_losesNow_5 : decode cX9_losesNow 5 = .ok (.iconst 0, 1) := by decide +kernel
theorem dX9_losesNow_6 : decode cX9_losesNow 6 = .ok (.istore_n 2, 1) := by decide +kernel
theorem dX9_losesNow_7 : decode cX9_losesNow 7 = .ok (.iload_n 2, 1) := by decide +kernel
theorem dX9_losesNow_8 : decode cX9_losesNow 8 = .ok (.aload_n 0, 1) := by decide +kernel
theorem dX9_losesNow_9 : decode cX9_losesNow 9 = .ok (.getfield 34, 3) := by decide +kernel
theorem dX9_losesNow_12 : decode cX9_losesNow 12 = .ok (.sipush 168, 3) := by decide +kernel
theorem dX9_losesNow_15 : decode cX9_losesNow 15 = .ok (.iaload, 1) := by decide +kernel
theorem dX9_losesNow_16 : decode cX9_losesNow 16 = .ok (.if_icmp .ge 30, 3) := by decide +kernel
theorem dX9_losesNow_19 : decode cX9_losesNow 19 = .ok (.aload_n 0, 1) := by decide +kernel
theorem dX9_losesNow_20 : decode cX9_losesNow 20 = .ok (.getfield 34, 3) := by decide +kernel
theorem dX9_losesNow_23 : decode cX9_losesNow 23 = .ok (.bipush 120, 2) := by decide +kernel
theorem dX9_losesNow_25 : decode cX9_losesNow 25 = .ok (.iload_n 2, 1) := by decide +kernel
theorem dX9_losesNow_26 : decode cX9_losesNow 26 = .ok (.iadd, 1) := by decide +kernel
theorem dX9_losesNow_27 : decode cX9_losesNow 27 = .ok (.iconst 0, 1) := by decide +kernel
theorem dX9_losesNow_28 : decode cX9_losesNow 28 = .ok (.iastore, 1) := by decide +kernel
theorem dX9_losesNow_29 : decode cX9_losesNow 29 = .ok (.aload_n 0, 1) := by decide +kernel
theorem dX9_losesNow_30 : decode cX9_losesNow 30 = .ok (.getfield 34, 3) := by decide +kernel
theorem dX9_losesNow_33 : decode cX9_losesNow 33 = .ok (.sipush 144, 3) := by decide +kernel
theorem dX9_losesNow_36 : decode cX9_losesNow 36 = .ok (.iload_n 2, 1) := by decide +kernel
theorem dX9_losesNow_37 : decode cX9_losesNow 37 = .ok (.iadd, 1) := by decide +kernel
theorem dX9_losesNow_38 : decode cX9_losesNow 38 = .ok (.iconst 0, 1) := by decide +kernel
theorem dX9_losesNow_39 : decode cX9_losesNow 39 = .ok (.iastore, 1) := by decide +kernel
theorem dX9_losesNow_40 : decode cX9_losesNow 40 = .ok (.iinc 2 1, 3) := by decide +kernel
theorem dX9_losesNow_43 : decode cX9_losesNow 43 = .ok (.goto (-36), 3) := by decide +kernel
theorem dX9_losesNow_46 : decode cX9_losesNow 46 = .ok (.iload_n 1, 1) := by decide +kernel
theorem dX9_losesNow_47 : decode cX9_losesNow 47 = .ok (.ireturn, 1) := by decide +kernel
theorem dX9_scansNow_0 : decode cX9_scansNow 0 = .ok (.aload_n 0, 1) := by decide +kernel
theorem dX9_scansNow_1 : decode cX9_scansNow 1 = .ok (.iload_n 1, 1) := by decide +kernel
theorem dX9_scansNow_2 : decode cX9_scansNow 2 = .ok (.invokevirtual 253, 3) := by decide +kernel
theorem dX9_scansNow_5 : decode cX9_scansNow 5 = .ok (.aload_n 0, 1) := by decide +kernel
theorem dX9_scansNow_6 : decode cX9_scansNow 6 = .ok (.getfield 34, 3) := by decide +kernel
theorem dX9_scansNow_9 : decode cX9_scansNow 9 = .ok (.bipush 16, 2) := by decide +kernel
theorem dX9_scansNow_11 : decode cX9_scansNow 11 = .ok (.iload_n 1, 1) := by decide +kernel
theorem dX9_scansNow_12 : decode cX9_scansNow 12 = .ok (.iadd, 1) := by decide +kernel
theorem dX9_scansNow_13 : decode cX9_scansNow 13 = .ok (.iaload, 1) := by decide +kernel
theorem dX9_scansNow_14 : decode cX9_scansNow 14 = .ok (.ifCond .le 18, 3) := by decide +kernel
theorem dX9_scansNow_17 : decode cX9_scansNow 17 = .ok (.aload_n 0, 1) := by decide +kernel
theorem dX9_scansNow_18 : decode cX9_scansNow 18 = .ok (.iload_n 1, 1) := by decide +kernel
theorem dX9_scansNow_19 : decode cX9_scansNow 19 = .ok (.iconst 0, 1) := by decide +kernel
theorem dX9_scansNow_20 : decode cX9_scansNow 20 = .ok (.aload_n 0, 1) := by decide +kernel
theorem dX9_scansNow_21 : decode cX9_scansNow 21 = .ok (.getfield 34, 3) := by decide +kernel
theorem dX9_scansNow_24 : decode cX9_scansNow 24 = .ok (.bipush 16, 2) := by decide +kernel
theorem dX9_scansNow_26 : decode cX9_scansNow 26 = .ok (.iload_n 1, 1) := by decide +kernel
theorem dX9_scansNow_27 : decode cX9_scansNow 27 = .ok (.iadd, 1) := by decide +kernel
theorem dX9_scansNow_28 : decode cX9_scansNow 28 = .ok (.iaload, 1) := by decide +kernel
theorem dX9_scansNow_29 : decode cX9_scansNow 29 = .ok (.invokevirtual 259, 3) := by decide +kernel
theorem dX9_scansNow_32 : decode cX9_scansNow 32 = .ok (.iconst 0, 1) := by decide +kernel
theorem dX9_scansNow_33 : decode cX9_scansNow 33 = .ok (.istore_n 2, 1) := by decide +kernel
theorem dX9_scansNow_34 : decode cX9_scansNow 34 = .ok (.iconst 0, 1) := by decide +kernel
theorem dX9_scansNow_35 : decode cX9_scansNow 35 = .ok (.istore_n 3, 1) := by decide +kernel
theorem dX9_scansNow_36 : decode cX9_scansNow 36 = .ok (.iload_n 3, 1) := by decide +kernel
theorem dX9_scansNow_37 : decode cX9_scansNow 37 = .ok (.aload_n 0, 1) := by decide +kernel
theorem dX9_scansNow_38 : decode cX9_scansNow 38 = .ok (.getfield 34, 3) := by decide +kernel
theorem dX9_scansNow_41 : decode cX9_scansNow 41 = .ok (.sipush 168, 3) := by decide +kernel
theorem dX9_scansNow_44 : decode cX9_scansNow 44 = .ok (.iaload, 1) := by decide +kernel
theorem dX9_scansNow_45 : decode cX9_scansNow 45 = .ok (.if_icmp .ge 42, 3) := by decide +kernel
theorem dX9_scansNow_48 : decode cX9_scansNow 48 = .ok (.aload_n 0, 1) := by decide +kernel
theorem dX9_scansNow_49 : decode cX9_scansNow 49 = .ok (.iload_n 3, 1) := by decide +kernel
theorem dX9_scansNow_50 : decode cX9_scansNow 50 = .ok (.iload_n 1, 1) := by decide +kernel
theorem dX9_scansNow_51 : decode cX9_scansNow 51 = .ok (.invokevirtual 163, 3) := by decide +kernel
theorem dX9_scansNow_54 : decode cX9_scansNow 54 = .ok (.ifCond .eq 27, 3) := by decide +kernel
theorem dX9_scansNow_57 : decode cX9_scansNow 57 = .ok (.iload_n 2, 1) := by decide +kernel
theorem dX9_scansNow_58 : decode cX9_scansNow 58 = .ok (.iconst 1, 1) := by decide +kernel
theorem dX9_scansNow_59 : decode cX9_scansNow 59 = .ok (.aload_n 0, 1) := by decide +kernel
theorem dX9_scansNow_60 : decode cX9_scansNow 60 = .ok (.getfield 34, 3) := by decide +kernel
theorem dX9_scansNow_63 : decode cX9_scansNow 63 = .ok (.bipush 120, 2) := by decide +kernel
theorem dX9_scansNow_65 : decode cX9_scansNow 65 = .ok (.iload_n 3, 1) := by decide +kernel
theorem dX9_scansNow_66 : decode cX9_scansNow 66 = .ok (.iadd, 1) := by decide +kernel
theorem dX9_scansNow_67 : decode cX9_scansNow 67 = .ok (.iaload, 1) := by decide +kernel
theorem dX9_scansNow_68 : decode cX9_scansNow 68 = .ok (.isub, 1) := by decide +kernel
theorem dX9_scansNow_69 : decode cX9_scansNow 69 = .ok (.iadd, 1) := by decide +kernel
theorem dX9_scansNow_70 : decode cX9_scansNow 70 = .ok (.istore_n 2, 1) := by decide +kernel
theorem dX9_scansNow_71 : decode cX9_scansNow 71 = .ok (.aload_n 0, 1) := by decide +kernel
theorem dX9_scansNow_72 : decode cX9_scansNow 72 = .ok (.getfield 34, 3) := by decide +kernel
theorem dX9_scansNow_75 : decode cX9_scansNow 75 = .ok (.bipush 120, 2) := by decide +kernel
theorem dX9_scansNow_77 : decode cX9_scansNow 77 = .ok (.iload_n 3, 1) := by decide +kernel
theorem dX9_scansNow_78 : decode cX9_scansNow 78 = .ok (.iadd, 1) := by decide +kernel
theorem dX9_scansNow_79 : decode cX9_scansNow 79 = .ok (.iconst 1, 1) := by decide +kernel
theorem dX9_scansNow_80 : decode cX9_scansNow 80 = .ok (.iastore, 1) := by decide +kernel
theorem dX9_scansNow_81 : decode cX9_scansNow 81 = .ok (.iinc 3 1, 3) := by decide +kernel
theorem dX9_scansNow_84 : decode cX9_scansNow 84 = .ok (.goto (-48), 3) := by decide +kernel
theorem dX9_scansNow_87 : decode cX9_scansNow 87 = .ok (.iload_n 2, 1) := by decide +kernel
theorem dX9_scansNow_88 : decode cX9_scansNow 88 = .ok (.ireturn, 1) := by decide +kernel
theorem dX9_writesNow_0 : decode cX9_writesNow 0 = .ok (.aload_n 0, 1) := by decide +kernel
theorem dX9_writesNow_1 : decode cX9_writesNow 1 = .ok (.iload_n 1, 1) := by decide +kernel
theorem dX9_writesNow_2 : decode cX9_writesNow 2 = .ok (.invokevirtual 253, 3) := by decide +kernel
theorem dX9_writesNow_5 : decode cX9_writesNow 5 = .ok (.aload_n 0, 1) := by decide +kernel
theorem dX9_writesNow_6 : decode cX9_writesNow 6 = .ok (.iload_n 1, 1) := by decide +kernel
theorem dX9_writesNow_7 : decode cX9_writesNow 7 = .ok (.aload_n 0, 1) := by decide +kernel
theorem dX9_writesNow_8 : decode cX9_writesNow 8 = .ok (.getfield 34, 3) := by decide +kernel
theorem dX9_writesNow_11 : decode cX9_writesNow 11 = .ok (.bipush 16, 2) := by decide +kernel
theorem dX9_writesNow_13 : decode cX9_writesNow 13 = .ok (.iload_n 1, 1) := by decide +kernel
theorem dX9_writesNow_14 : decode cX9_writesNow 14 = .ok (.iadd, 1) := by decide +kernel
theorem dX9_writesNow_15 : decode cX9_writesNow 15 = .ok (.iaload, 1) := by decide +kernel
theorem dX9_writesNow_16 : decode cX9_writesNow 16 = .ok (.iload_n 2, 1) := by decide +kernel
theorem dX9_writesNow_17 : decode cX9_writesNow 17 = .ok (.invokevirtual 232, 3) := by decide +kernel
theorem dX9_writesNow_20 : decode cX9_writesNow 20 = .ok (.aload_n 0, 1) := by decide +kernel
theorem dX9_writesNow_21 : decode cX9_writesNow 21 = .ok (.iload_n 1, 1) := by decide +kernel
theorem dX9_writesNow_22 : decode cX9_writesNow 22 = .ok (.iload_n 2, 1) := by decide +kernel
theorem dX9_writesNow_23 : decode cX9_writesNow 23 = .ok (.invokevirtual 175, 3) := by decide +kernel
theorem dX9_writesNow_26 : decode cX9_writesNow 26 = .ok (.ireturn, 1) := by decide +kernel
theorem dX9_dropsNow_0 : decode cX9_dropsNow 0 = .ok (.aload_n 0, 1) := by decide +kernel
theorem dX9_dropsNow_1 : decode cX9_dropsNow 1 = .ok (.getfield 34, 3) := by decide +kernel
theorem dX9_dropsNow_4 : decode cX9_dropsNow 4 = .ok (.bipush 48, 2) := by decide +kernel
theorem dX9_dropsNow_6 : decode cX9_dropsNow 6 = .ok (.iload_n 1, 1) := by decide +kernel
theorem dX9_dropsNow_7 : decode cX9_dropsNow 7 = .ok (.iadd, 1) := by decide +kernel
theorem dX9_dropsNow_8 : decode cX9_dropsNow 8 = .ok (.iconst (-1), 1) := by decide +kernel
theorem dX9_dropsNow_9 : decode cX9_dropsNow 9 = .ok (.iastore, 1) := by decide +kernel
theorem dX9_dropsNow_10 : decode cX9_dropsNow 10 = .ok (.aload_n 0, 1) := by decide +kernel
theorem dX9_dropsNow_11 : decode cX9_dropsNow 11 = .ok (.getfield 34, 3) := by decide +kernel
theorem dX9_dropsNow_14 : decode cX9_dropsNow 14 = .ok (.bipush 120, 2) := by decide +kernel
theorem dX9_dropsNow_16 : decode cX9_dropsNow 16 = .ok (.iload_n 1, 1) := by decide +kernel
theorem dX9_dropsNow_17 : decode cX9_dropsNow 17 = .ok (.iadd, 1) := by decide +kernel
theorem dX9_dropsNow_18 : decode cX9_dropsNow 18 = .ok (.iconst 0, 1) := by decide +kernel
theorem dX9_dropsNow_19 : decode cX9_dropsNow 19 = .ok (.iastore, 1) := by decide +kernel
theorem dX9_dropsNow_20 : decode cX9_dropsNow 20 = .ok (.aload_n 0, 1) := by decide +kernel
theorem dX9_dropsNow_21 : decode cX9_dropsNow 21 = .ok (.getfield 34, 3) := by decide +kernel
theorem dX9_dropsNow_24 : decode cX9_dropsNow 24 = .ok (.sipush 144, 3) := by decide +kernel
theorem dX9_dropsNow_27 : decode cX9_dropsNow 27 = .ok (.iload_n 1, 1) := by decide +kernel
theorem dX9_dropsNow_28 : decode cX9_dropsNow 28 = .ok (.iadd, 1) := by decide +kernel
theorem dX9_dropsNow_29 : decode cX9_dropsNow 29 = .ok (.iconst 0, 1) := by decide +kernel
theorem dX9_dropsNow_30 : decode cX9_dropsNow 30 = .ok (.iastore, 1) := by decide +kernel
theorem dX9_dropsNow_31 : decode cX9_dropsNow 31 = .ok (.aload_n 0, 1) := by decide +kernel
theorem dX9_dropsNow_32 : decode cX9_dropsNow 32 = .ok (.getfield 34, 3) := by decide +kernel
theorem dX9_dropsNow_35 : decode cX9_dropsNow 35 = .ok (.bipush 96, 2) := by decide +kernel
theorem dX9_dropsNow_37 : decode cX9_dropsNow 37 = .ok (.iload_n 1, 1) := by decide +kernel
theorem dX9_dropsNow_38 : decode cX9_dropsNow 38 = .ok (.iadd, 1) := by decide +kernel
theorem dX9_dropsNow_39 : decode cX9_dropsNow 39 = .ok (.iaload, 1) := by decide +kernel
theorem dX9_dropsNow_40 : decode cX9_dropsNow 40 = .ok (.ireturn, 1) := by decide +kernel
theorem dX9_whyAsk_0 : decode cX9_whyAsk 0 = .ok (.aload_n 0, 1) := by decide +kernel
theorem dX9_whyAsk_1 : decode cX9_whyAsk 1 = .ok (.iload_n 1, 1) := by decide +kernel
theorem dX9_whyAsk_2 : decode cX9_whyAsk 2 = .ok (.invokevirtual 289, 3) := by decide +kernel
theorem dX9_whyAsk_5 : decode cX9_whyAsk 5 = .ok (.ifCond .ne 5, 3) := by decide +kernel
theorem dX9_whyAsk_8 : decode cX9_whyAsk 8 = .ok (.iconst 0, 1) := by decide +kernel
theorem dX9_whyAsk_9 : decode cX9_whyAsk 9 = .ok (.ireturn, 1) := by decide +kernel
theorem dX9_whyAsk_10 : decode cX9_whyAsk 10 = .ok (.aload_n 0, 1) := by decide +kernel
theorem dX9_whyAsk_11 : decode cX9_whyAsk 11 = .ok (.getfield 34, 3) := by decide +kernel
theorem dX9_whyAsk_14 : decode cX9_whyAsk 14 = .ok (.bipush 120, 2) := by decide +kernel
theorem dX9_whyAsk_16 : decode cX9_whyAsk 16 = .ok (.iload_n 1, 1) := by decide +kernel
theorem dX9_whyAsk_17 : decode cX9_whyAsk 17 = .ok (.iadd, 1) := by decide +kernel
theorem dX9_whyAsk_18 : decode cX9_whyAsk 18 = .ok (.iaload, 1) := by decide +kernel
theorem dX9_whyAsk_19 : decode cX9_whyAsk 19 = .ok (.ifCond .eq 16, 3) := by decide +kernel
theorem dX9_whyAsk_22 : decode cX9_whyAsk 22 = .ok (.aload_n 0, 1) := by decide +kernel
theorem dX9_whyAsk_23 : decode cX9_whyAsk 23 = .ok (.getfield 34, 3) := by decide +kernel
theorem dX9_whyAsk_26 : decode cX9_whyAsk 26 = .ok (.sipush 144, 3) := by decide +kernel
theorem dX9_whyAsk_29 : decode cX9_whyAsk 29 = .ok (.iload_n 1, 1) := by decide +kernel
theorem dX9_whyAsk_30 : decode cX9_whyAsk 30 = .ok (.iadd, 1) := by decide +kernel
theorem dX9_whyAsk_31 : decode cX9_whyAsk 31 = .ok (.iaload, 1) := by decide +kernel
theorem dX9_whyAsk_32 : decode cX9_whyAsk 32 = .ok (.ifCond .le 7, 3) := by decide +kernel
theorem dX9_whyAsk_35 : decode cX9_whyAsk 35 = .ok (.iconst 2, 1) := by decide +kernel
theorem dX9_whyAsk_36 : decode cX9_whyAsk 36 = .ok (.goto 17, 3) := by decide +kernel
theorem dX9_whyAsk_39 : decode cX9_whyAsk 39 = .ok (.aload_n 0, 1) := by decide +kernel
theorem dX9_whyAsk_40 : decode cX9_whyAsk 40 = .ok (.invokevirtual 292, 3) := by decide +kernel
theorem dX9_whyAsk_43 : decode cX9_whyAsk 43 = .ok (.bipush 12, 2) := by decide +kernel
theorem dX9_whyAsk_45 : decode cX9_whyAsk 45 = .ok (.if_icmp .ne 7, 3) := by decide +kernel
theorem dX9_whyAsk_48 : decode cX9_whyAsk 48 = .ok (.iconst 3, 1) := by decide +kernel
theorem dX9_whyAsk_49 : decode cX9_whyAsk 49 = .ok (.goto 4, 3) := by decide +kernel
theorem dX9_whyAsk_52 : decode cX9_whyAsk 52 = .ok (.iconst (-1), 1) := by decide +kernel
theorem dX9_whyAsk_53 : decode cX9_whyAsk 53 = .ok (.ireturn, 1) := by decide +kernel
theorem dX9_whyWrite_0 : decode cX9_whyWrite 0 = .ok (.aload_n 0, 1) := by decide +kernel
theorem dX9_whyWrite_1 : decode cX9_whyWrite 1 = .ok (.iload_n 1, 1) := by decide +kernel
theorem dX9_whyWrite_2 : decode cX9_whyWrite 2 = .ok (.invokevirtual 169, 3) := by decide +kernel
theorem dX9_whyWrite_5 : decode cX9_whyWrite 5 = .ok (.ifCond .ne 7, 3) := by decide +kernel
theorem dX9_whyWrite_8 : decode cX9_whyWrite 8 = .ok (.iconst 0, 1) := by decide +kernel
theorem dX9_whyWrite_9 : decode cX9_whyWrite 9 = .ok (.goto 53, 3) := by decide +kernel
theorem dX9_whyWrite_12 : decode cX9_whyWrite 12 = .ok (.iload_n 2, 1) := by decide +kernel
theorem dX9_whyWrite_13 : decode cX9_whyWrite 13 = .ok (.iconst 1, 1) := by decide +kernel
theorem dX9_whyWrite_14 : decode cX9_whyWrite 14 = .ok (.bipush 9, 2) := by decide +kernel
theorem dX9_whyWrite_16 : decode cX9_whyWrite 16 = .ok (.invokestatic 76, 3) := by decide +kernel
theorem dX9_whyWrite_19 : decode cX9_whyWrite 19 = .ok (.ifCond .ne 7, 3) := by decide +kernel
theorem dX9_whyWrite_22 : decode cX9_whyWrite 22 = .ok (.iconst 1, 1) := by decide +kernel
theorem dX9_whyWrite_23 : decode cX9_whyWrite 23 = .ok (.goto 39, 3) := by decide +kernel
theorem dX9_whyWrite_26 : decode cX9_whyWrite 26 = .ok (.aload_n 0, 1) := by decide +kernel
theorem dX9_whyWrite_27 : decode cX9_whyWrite 27 = .ok (.getfield 34, 3) := by decide +kernel
theorem dX9_whyWrite_30 : decode cX9_whyWrite 30 = .ok (.sipush 168, 3) := by decide +kernel
theorem dX9_whyWrite_33 : decode cX9_whyWrite 33 = .ok (.iaload, 1) := by decide +kernel
theorem dX9_whyWrite_34 : decode cX9_whyWrite 34 = .ok (.bipush 24, 2) := by decide +kernel
theorem dX9_whyWrite_36 : decode cX9_whyWrite 36 = .ok (.if_icmp .eq 21, 3) := by decide +kernel
theorem dX9_whyWrite_39 : decode cX9_whyWrite 39 = .ok (.aload_n 0, 1) := by decide +kernel
theorem dX9_whyWrite_40 : decode cX9_whyWrite 40 = .ok (.getfield 34, 3) := by decide +kernel
theorem dX9_whyWrite_43 : decode cX9_whyWrite 43 = .ok (.bipush 16, 2) := by decide +kernel
theorem dX9_whyWrite_45 : decode cX9_whyWrite 45 = .ok (.iload_n 1, 1) := by decide +kernel
theorem dX9_whyWrite_46 : decode cX9_whyWrite 46 = .ok (.iadd, 1) := by decide +kernel
theorem dX9_whyWrite_47 : decode cX9_whyWrite 47 = .ok (.iaload, 1) := by decide +kernel
theorem dX9_whyWrite_48 : decode cX9_whyWrite 48 = .ok (.iload_n 2, 1) := by decide +kernel
theorem dX9_whyWrite_49 : decode cX9_whyWrite 49 = .ok (.iadd, 1) := by decide +kernel
theorem dX9_whyWrite_50 : decode cX9_whyWrite 50 = .ok (.aload_n 0, 1) := by decide +kernel
theorem dX9_whyWrite_51 : decode cX9_whyWrite 51 = .ok (.invokevirtual 172, 3) := by decide +kernel
theorem dX9_whyWrite_54 : decode cX9_whyWrite 54 = .ok (.if_icmp .le 7, 3) := by decide +kernel
theorem dX9_whyWrite_57 : decode cX9_whyWrite 57 = .ok (.iconst 3, 1) := by decide +kernel
theorem dX9_whyWrite_58 : decode cX9_whyWrite 58 = .ok (.goto 4, 3) := by decide +kernel
theorem dX9_whyWrite_61 : decode cX9_whyWrite 61 = .ok (.iconst (-1), 1) := by decide +kernel
theorem dX9_whyWrite_62 : decode cX9_whyWrite 62 = .ok (.ireturn, 1) := by decide +kernel
theorem dX9_whyCopy_0 : decode cX9_whyCopy 0 = .ok (.aload_n 0, 1) := by decide +kernel
theorem dX9_whyCopy_1 : decode cX9_whyCopy 1 = .ok (.iload_n 1, 1) := by decide +kernel
theorem dX9_whyCopy_2 : decode cX9_whyCopy 2 = .ok (.invokevirtual 169, 3) := by decide +kernel
theorem dX9_whyCopy_5 : decode cX9_whyCopy 5 = .ok (.ifCond .eq 11, 3) := by decide +kernel
theorem dX9_whyCopy_8 : decode cX9_whyCopy 8 = .ok (.aload_n 0, 1) := by decide +kernel
theorem dX9_whyCopy_9 : decode cX9_whyCopy 9 = .ok (.iload_n 2, 1) := by decide +kernel
theorem dX9_whyCopy_10 : decode cX9_whyCopy 10 = .ok (.invokevirtual 169, 3) := by decide +kernel
theorem dX9_whyCopy_13 : decode cX9_whyCopy 13 = .ok (.ifCond .ne 7, 3) := by decide +kernel
theorem dX9_whyCopy_16 : decode cX9_whyCopy 16 = .ok (.iconst 0, 1) := by decide +kernel
theorem dX9_whyCopy_17 : decode cX9_whyCopy 17 = .ok (.goto 33, 3) := by decide +kernel
theorem dX9_whyCopy_20 : decode cX9_whyCopy 20 = .ok (.iload_n 1, 1) := by decide +kernel
theorem dX9_whyCopy_21 : decode cX9_whyCopy 21 = .ok (.iload_n 2, 1) := by decide +kernel
theorem dX9_whyCopy_22 : decode cX9_whyCopy 22 = .ok (.if_icmp .eq 23, 3) := by decide +kernel
theorem dX9_whyCopy_25 : decode cX9_whyCopy 25 = .ok (.aload_n 0, 1) := by decide +kernel
theorem dX9_whyCopy_26 : decode cX9_whyCopy 26 = .ok (.getfield 34, 3) := by decide +kernel
theorem dX9_whyCopy_29 : decode cX9_whyCopy 29 = .ok (.bipush 16, 2) := by decide +kernel
theorem dX9_whyCopy_31 : decode cX9_whyCopy 31 = .ok (.iload_n 2, 1) := by decide +kernel
theorem dX9_whyCopy_32 : decode cX9_whyCopy 32 = .ok (.iadd, 1) := by decide +kernel
theorem dX9_whyCopy_33 : decode cX9_whyCopy 33 = .ok (.iaload, 1) := by decide +kernel
theorem dX9_whyCopy_34 : decode cX9_whyCopy 34 = .ok (.ifCond .gt 11, 3) := by decide +kernel
theorem dX9_whyCopy_37 : decode cX9_whyCopy 37 = .ok (.aload_n 0, 1) := by decide +kernel
theorem dX9_whyCopy_38 : decode cX9_whyCopy 38 = .ok (.iload_n 1, 1) := by decide +kernel
theorem dX9_whyCopy_39 : decode cX9_whyCopy 39 = .ok (.invokevirtual 262, 3) := by decide +kernel
theorem dX9_whyCopy_42 : decode cX9_whyCopy 42 = .ok (.ifCond .ne 7, 3) := by decide +kernel
theorem dX9_whyCopy_45 : decode cX9_whyCopy 45 = .ok (.iconst 2, 1) := by decide +kernel
theorem dX9_whyCopy_46 : decode cX9_whyCopy 46 = .ok (.goto 4, 3) := by decide +kernel
theorem dX9_whyCopy_49 : decode cX9_whyCopy 49 = .ok (.iconst (-1), 1) := by decide +kernel
theorem dX9_whyCopy_50 : decode cX9_whyCopy 50 = .ok (.ireturn, 1) := by decide +kernel
theorem dX9_whyRescue_0 : decode cX9_whyRescue 0 = .ok (.aload_n 0, 1) := by decide +kernel
theorem dX9_whyRescue_1 : decode cX9_whyRescue 1 = .ok (.invokevirtual 156, 3) := by decide +kernel
theorem dX9_whyRescue_4 : decode cX9_whyRescue 4 = .ok (.ifCond .ne 5, 3) := by decide +kernel
theorem dX9_whyRescue_7 : decode cX9_whyRescue 7 = .ok (.iconst 0, 1) := by decide +kernel
theorem dX9_whyRescue_8 : decode cX9_whyRescue 8 = .ok (.ireturn, 1) := by decide +kernel
theorem dX9_whyRescue_9 : decode cX9_whyRescue 9 = .ok (.aload_n 0, 1) := by decide +kernel
theorem dX9_whyRescue_10 : decode cX9_whyRescue 10 = .ok (.invokevirtual 271, 3) := by decide +kernel
theorem dX9_whyRescue_13 : decode cX9_whyRescue 13 = .ok (.istore_n 1, 1) := by decide +kernel
theorem dX9_whyRescue_14 : decode cX9_whyRescue 14 = .ok (.iconst 0, 1) := by decide +kernel
theorem dX9_whyRescue_15 : decode cX9_whyRescue 15 = .ok (.istore_n 2, 1) := by decide +kernel
theorem dX9_whyRescue_16 : decode cX9_whyRescue 16 = .ok (.iload_n 2, 1) := by decide +kernel
theorem dX9_whyRescue_17 : decode cX9_whyRescue 17 = .ok (.aload_n 0, 1) := by decide +kernel
theorem dX9_whyRescue_18 : decode cX9_whyRescue 18 = .ok (.getfield 153, 3) := by decide +kernel
theorem dX9_whyRescue_21 : decode cX9_whyRescue 21 = .ok (.if_icmp .ge 28, 3) := by decide +kernel
theorem dX9_whyRescue_24 : decode cX9_whyRescue 24 = .ok (.iload_n 1, 1) := by decide +kernel
theorem dX9_whyRescue_25 : decode cX9_whyRescue 25 = .ok (.iload_n 2, 1) := by decide +kernel
theorem dX9_whyRescue_26 : decode cX9_whyRescue 26 = .ok (.invokestatic 111, 3) := by decide +kernel
theorem dX9_whyRescue_29 : decode cX9_whyRescue 29 = .ok (.ifCond .eq 14, 3) := by decide +kernel
theorem dX9_whyRescue_32 : decode cX9_whyRescue 32 = .ok (.aload_n 0, 1) := by decide +kernel
theorem dX9_whyRescue_33 : decode cX9_whyRescue 33 = .ok (.iload_n 2, 1) := by decide +kernel
theorem dX9_whyRescue_34 : decode cX9_whyRescue 34 = .ok (.invokevirtual 274, 3) := by decide +kernel
theorem dX9_whyRescue_37 : decode cX9_whyRescue 37 = .ok (.iconst (-1), 1) := by decide +kernel
theorem dX9_whyRescue_38 : decode cX9_whyRescue 38 = .ok (.if_icmp .eq 5, 3) := by decide +kernel
theorem dX9_whyRescue_41 : decode cX9_whyRescue 41 = .ok (.iconst (-1), 1) := by decide +kernel
theorem dX9_whyRescue_42 : decode cX9_whyRescue 42 = .ok (.ireturn, 1) := by decide +kernel
theorem dX9_whyRescue_43 : decode cX9_whyRescue 43 = .ok (.iinc 2 1, 3) := by decide +kernel
theorem dX9_whyRescue_46 : decode cX9_whyRescue 46 = .ok (.goto (-30), 3) := by decide +kernel
theorem dX9_whyRescue_49 : decode cX9_whyRescue 49 = .ok (.iconst 2, 1) := by decide +kernel
theorem dX9_whyRescue_50 : decode cX9_whyRescue 50 = .ok (.ireturn, 1) := by decide +kernel
theorem dX9_whyNot_0 : decode cX9_whyNot 0 = .ok (.iload_n 1, 1) := by decide +kernel
theorem dX9_whyNot_1 : decode cX9_whyNot 1 = .ok (.tableswitch 231 0 9 #[55, 61, 86, 93, 107, 133, 159, 166, 190, 204], 55) := by decide +kernel
theorem dX9_whyNot_56 : decode cX9_whyNot 56 = .ok (.aload_n 0, 1) := by decide +kernel
theorem dX9_whyNot_57 : decode cX9_whyNot 57 = .ok (.iload_n 2, 1) := by decide +kernel
theorem dX9_whyNot_58 : decode cX9_whyNot 58 = .ok (.invokevirtual 295, 3) := by decide +kernel
theorem dX9_whyNot_61 : decode cX9_whyNot 61 = .ok (.ireturn, 1) := by decide +kernel
theorem dX9_whyNot_62 : decode cX9_whyNot 62 = .ok (.aload_n 0, 1) := by decide +kernel
theorem dX9_whyNot_63 : decode cX9_whyNot 63 = .ok (.invokevirtual 156, 3) := by decide +kernel
theorem dX9_whyNot_66 : decode cX9_whyNot 66 = .ok (.ifCond .ne 7, 3) := by decide +kernel
theorem dX9_whyNot_69 : decode cX9_whyNot 69 = .ok (.iconst 0, 1) := by decide +kernel
theorem dX9_whyNot_70 : decode cX9_whyNot 70 = .ok (.goto 16, 3) := by decide +kernel
theorem dX9_whyNot_73 : decode cX9_whyNot 73 = .ok (.aload_n 0, 1) := by decide +kernel
theorem dX9_whyNot_74 : decode cX9_whyNot 74 = .ok (.invokevirtual 250, 3) := by decide +kernel
theorem dX9_whyNot_77 : decode cX9_whyNot 77 = .ok (.iconst (-1), 1) := by decide +kernel
theorem dX9_whyNot_78 : decode cX9_whyNot 78 = .ok (.if_icmp .ne 7, 3) := by decide +kernel
theorem dX9_whyNot_81 : decode cX9_whyNot 81 = .ok (.iconst 2, 1) := by decide +kernel
theorem dX9_whyNot_82 : decode cX9_whyNot 82 = .ok (.goto 4, 3) := by decide +kernel
theorem dX9_whyNot_85 : decode cX9_whyNot 85 = .ok (.iconst (-1), 1) := by decide +kernel
theorem dX9_whyNot_86 : decode cX9_whyNot 86 = .ok (.ireturn, 1) := by decide +kernel
theorem dX9_whyNot_87 : decode cX9_whyNot 87 = .ok (.aload_n 0, 1) := by decide +kernel
theorem dX9_whyNot_88 : decode cX9_whyNot 88 = .ok (.iload_n 2, 1) := by decide +kernel
theorem dX9_whyNot_89 : decode cX9_whyNot 89 = .ok (.iload_n 3, 1) := by decide +kernel
theorem dX9_whyNot_90 : decode cX9_whyNot 90 = .ok (.invokevirtual 298, 3) := by decide +kernel
theorem dX9_whyNot_93 : decode cX9_whyNot 93 = .ok (.ireturn, 1) := by decide +kernel
theorem dX9_whyNot_94 : decode cX9_whyNot 94 = .ok (.aload_n 0, 1) := by decide +kernel
theorem dX9_whyNot_95 : decode cX9_whyNot 95 = .ok (.iload_n 2, 1) := by decide +kernel
theorem dX9_whyNot_96 : decode cX9_whyNot 96 = .ok (.invokevirtual 289, 3) := by decide +kernel
theorem dX9_whyNot_99 : decode cX9_whyNot 99 = .ok (.ifCond .eq 7, 3) := by decide +kernel
theorem dX9_whyNot_102 : decode cX9_whyNot 102 = .ok (.iconst (-1), 1) := by decide +kernel
theorem dX9_whyNot_103 : decode cX9_whyNot 103 = .ok (.goto 4, 3) := by decide +kernel
theorem dX9_whyNot_106 : decode cX9_whyNot 106 = .ok (.iconst 0, 1) := by decide +kernel
theorem dX9_whyNot_107 : decode cX9_whyNot 107 = .ok (.ireturn, 1) := by decide +kernel
theorem dX9_whyNot_108 : decode cX9_whyNot 108 = .ok (.aload_n 0, 1) := by decide +kernel
theorem dX9_whyNot_109 : decode cX9_whyNot 109 = .ok (.iload_n 2, 1) := by decide +kernel
theorem dX9_whyNot_110 : decode cX9_whyNot 110 = .ok (.invokevirtual 169, 3) := by decide +kernel
theorem dX9_whyNot_113 : decode cX9_whyNot 113 = .ok (.ifCond .ne 7, 3) := by decide +kernel
theorem dX9_whyNot_116 : decode cX9_whyNot 116 = .ok (.iconst 0, 1) := by decide +kernel
theorem dX9_whyNot_117 : decode cX9_whyNot 117 = .ok (.goto 16, 3) := by decide +kernel
theorem dX9_whyNot_120 : decode cX9_whyNot 120 = .ok (.aload_n 0, 1) := by decide +kernel
theorem dX9_whyNot_121 : decode cX9_whyNot 121 = .ok (.iload_n 2, 1) := by decide +kernel
theorem dX9_whyNot_122 : decode cX9_whyNot 122 = .ok (.invokevirtual 209, 3) := by decide +kernel
theorem dX9_whyNot_125 : decode cX9_whyNot 125 = .ok (.ifCond .eq 7, 3) := by decide +kernel
theorem dX9_whyNot_128 : decode cX9_whyNot 128 = .ok (.iconst 2, 1) := by decide +kernel
theorem dX9_whyNot_129 : decode cX9_whyNot 129 = .ok (.goto 4, 3) := by decide +kernel
theorem dX9_whyNot_132 : decode cX9_whyNot 132 = .ok (.iconst (-1), 1) := by decide +kernel
theorem dX9_whyNot_133 : decode cX9_whyNot 133 = .ok (.ireturn, 1) := by decide +kernel
theorem dX9_whyNot_134 : decode cX9_whyNot 134 = .ok (.aload_n 0, 1) := by decide +kernel
theorem dX9_whyNot_135 : decode cX9_whyNot 135 = .ok (.iload_n 2, 1) := by decide +kernel
theorem dX9_whyNot_136 : decode cX9_whyNot 136 = .ok (.invokevirtual 169, 3) := by decide +kernel
theorem dX9_whyNot_139 : decode cX9_whyNot 139 = .ok (.ifCond .ne 7, 3) := by decide +kernel
theorem dX9_whyNot_142 : decode cX9_whyNot 142 = .ok (.iconst 0, 1) := by decide +kernel
theorem dX9_whyNot_143 : decode cX9_whyNot 143 = .ok (.goto 16, 3) := by decide +kernel
theorem dX9_whyNot_146 : decode cX9_whyNot 146 = .ok (.aload_n 0, 1) := by decide +kernel
theorem dX9_whyNot_147 : decode cX9_whyNot 147 = .ok (.iload_n 2, 1) := by decide +kernel
theorem dX9_whyNot_148 : decode cX9_whyNot 148 = .ok (.invokevirtual 209, 3) := by decide +kernel
theorem dX9_whyNot_151 : decode cX9_whyNot 151 = .ok (.ifCond .eq 7, 3) := by decide +kernel
theorem dX9_whyNot_154 : decode cX9_whyNot 154 = .ok (.iconst (-1), 1) := by decide +kernel
theorem dX9_whyNot_155 : decode cX9_whyNot 155 = .ok (.goto 4, 3) := by decide +kernel
theorem dX9_whyNot_158 : decode cX9_whyNot 158 = .ok (.iconst 2, 1) := by decide +kernel
theorem dX9_whyNot_159 : decode cX9_whyNot 159 = .ok (.ireturn, 1) := by decide +kernel
theorem dX9_whyNot_160 : decode cX9_whyNot 160 = .ok (.aload_n 0, 1) := by decide +kernel
theorem dX9_whyNot_161 : decode cX9_whyNot 161 = .ok (.iload_n 2, 1) := by decide +kernel
theorem dX9_whyNot_162 : decode cX9_whyNot 162 = .ok (.iload_n 3, 1) := by decide +kernel
theorem dX9_whyNot_163 : decode cX9_whyNot 163 = .ok (.invokevirtual 301, 3) := by decide +kernel
theorem dX9_whyNot_166 : decode cX9_whyNot 166 = .ok (.ireturn, 1) := by decide +kernel
theorem dX9_whyNot_167 : decode cX9_whyNot 167 = .ok (.aload_n 0, 1) := by decide +kernel
theorem dX9_whyNot_168 : decode cX9_whyNot 168 = .ok (.invokevirtual 156, 3) := by decide +kernel
theorem dX9_whyNot_171 : decode cX9_whyNot 171 = .ok (.ifCond .ne 7, 3) := by decide +kernel
theorem dX9_whyNot_174 : decode cX9_whyNot 174 = .ok (.iconst 0, 1) := by decide +kernel
theorem dX9_whyNot_175 : decode cX9_whyNot 175 = .ok (.goto 15, 3) := by decide +kernel
theorem dX9_whyNot_178 : decode cX9_whyNot 178 = .ok (.aload_n 0, 1) := by decide +kernel
theorem dX9_whyNot_179 : decode cX9_whyNot 179 = .ok (.invokevirtual 286, 3) := by decide +kernel
theorem dX9_whyNot_182 : decode cX9_whyNot 182 = .ok (.ifCond .ne 7, 3) := by decide +kernel
theorem dX9_whyNot_185 : decode cX9_whyNot 185 = .ok (.iconst 2, 1) := by decide +kernel
theorem dX9_whyNot_186 : decode cX9_whyNot 186 = .ok (.goto 4, 3) := by decide +kernel
theorem dX9_whyNot_189 : decode cX9_whyNot 189 = .ok (.iconst (-1), 1) := by decide +kernel
theorem dX9_whyNot_190 : decode cX9_whyNot 190 = .ok (.ireturn, 1) := by decide +kernel
theorem dX9_whyNot_191 : decode cX9_whyNot 191 = .ok (.aload_n 0, 1) := by decide +kernel
theorem dX9_whyNot_192 : decode cX9_whyNot 192 = .ok (.iload_n 2, 1) := by decide +kernel
theorem dX9_whyNot_193 : decode cX9_whyNot 193 = .ok (.invokevirtual 169, 3) := by decide +kernel
theorem dX9_whyNot_196 : decode cX9_whyNot 196 = .ok (.ifCond .eq 7, 3) := by decide +kernel
theorem dX9_whyNot_199 : decode cX9_whyNot 199 = .ok (.iconst (-1), 1) := by decide +kernel
theorem dX9_whyNot_200 : decode cX9_whyNot 200 = .ok (.goto 4, 3) := by decide +kernel
theorem dX9_whyNot_203 : decode cX9_whyNot 203 = .ok (.iconst 0, 1) := by decide +kernel
theorem dX9_whyNot_204 : decode cX9_whyNot 204 = .ok (.ireturn, 1) := by decide +kernel
theorem dX9_whyNot_205 : decode cX9_whyNot 205 = .ok (.aload_n 0, 1) := by decide +kernel
theorem dX9_whyNot_206 : decode cX9_whyNot 206 = .ok (.invokevirtual 156, 3) := by decide +kernel
theorem dX9_whyNot_209 : decode cX9_whyNot 209 = .ok (.ifCond .ne 7, 3) := by decide +kernel
theorem dX9_whyNot_212 : decode cX9_whyNot 212 = .ok (.iconst 0, 1) := by decide +kernel
theorem dX9_whyNot_213 : decode cX9_whyNot 213 = .ok (.goto 18, 3) := by decide +kernel
theorem dX9_whyNot_216 : decode cX9_whyNot 216 = .ok (.iload_n 2, 1) := by decide +kernel
theorem dX9_whyNot_217 : decode cX9_whyNot 217 = .ok (.iconst 1, 1) := by decide +kernel
theorem dX9_whyNot_218 : decode cX9_whyNot 218 = .ok (.bipush 99, 2) := by decide +kernel
theorem dX9_whyNot_220 : decode cX9_whyNot 220 = .ok (.invokestatic 76, 3) := by decide +kernel
theorem dX9_whyNot_223 : decode cX9_whyNot 223 = .ok (.ifCond .eq 7, 3) := by decide +kernel
theorem dX9_whyNot_226 : decode cX9_whyNot 226 = .ok (.iconst (-1), 1) := by decide +kernel
theorem dX9_whyNot_227 : decode cX9_whyNot 227 = .ok (.goto 4, 3) := by decide +kernel
theorem dX9_whyNot_230 : decode cX9_whyNot 230 = .ok (.iconst 1, 1) := by decide +kernel
theorem dX9_whyNot_231 : decode cX9_whyNot 231 = .ok (.ireturn, 1) := by decide +kernel
theorem dX9_whyNot_232 : decode cX9_whyNot 232 = .ok (.aload_n 0, 1) := by decide +kernel
theorem dX9_whyNot_233 : decode cX9_whyNot 233 = .ok (.invokevirtual 304, 3) := by decide +kernel
theorem dX9_whyNot_236 : decode cX9_whyNot 236 = .ok (.ireturn, 1) := by decide +kernel
theorem dX9_keep_0 : decode cX9_keep 0 = .ok (.aload_n 0, 1) := by decide +kernel
theorem dX9_keep_1 : decode cX9_keep 1 = .ok (.getfield 178, 3) := by decide +kernel
theorem dX9_keep_4 : decode cX9_keep 4 = .ok (.bipush 40, 2) := by decide +kernel
theorem dX9_keep_6 : decode cX9_keep 6 = .ok (.if_icmp .ne 46, 3) := by decide +kernel
theorem dX9_keep_9 : decode cX9_keep 9 = .ok (.sipush 353, 3) := by decide +kernel
theorem dX9_keep_12 : decode cX9_keep 12 = .ok (.istore_n 1, 1) := by decide +kernel
theorem dX9_keep_13 : decode cX9_keep 13 = .ok (.iload_n 1, 1) := by decide +kernel
theorem dX9_keep_14 : decode cX9_keep 14 = .ok (.sipush 14120, 3) := by decide +kernel
theorem dX9_keep_17 : decode cX9_keep 17 = .ok (.if_icmp .ge 25, 3) := by decide +kernel
theorem dX9_keep_20 : decode cX9_keep 20 = .ok (.aload_n 0, 1) := by decide +kernel
theorem dX9_keep_21 : decode cX9_keep 21 = .ok (.getfield 46, 3) := by decide +kernel
theorem dX9_keep_24 : decode cX9_keep 24 = .ok (.iload_n 1, 1) := by decide +kernel
theorem dX9_keep_25 : decode cX9_keep 25 = .ok (.sipush 353, 3) := by decide +kernel
theorem dX9_keep_28 : decode cX9_keep 28 = .ok (.isub, 1) := by decide +kernel
theorem dX9_keep_29 : decode cX9_keep 29 = .ok (.aload_n 0, 1) := by decide +kernel
theorem dX9_keep_30 : decode cX9_keep 30 = .ok (.getfield 46, 3) := by decide +kernel
theorem dX9_keep_33 : decode cX9_keep 33 = .ok (.iload_n 1, 1) := by decide +kernel
theorem dX9_keep_34 : decode cX9_keep 34 = .ok (.iaload, 1) := by decide +kernel
theorem dX9_keep_35 : decode cX9_keep 35 = .ok (.iastore, 1) := by decide +kernel
theorem dX9_keep_36 : decode cX9_keep 36 = .ok (.iinc 1 1, 3) := by decide +kernel
theorem dX9_keep_39 : decode cX9_keep 39 = .ok (.goto (-26), 3) := by decide +kernel
theorem dX9_keep_42 : decode cX9_keep 42 = .ok (.aload_n 0, 1) := by decide +kernel
theorem dX9_keep_43 : decode cX9_keep 43 = .ok (.dup, 1) := by decide +kernel
theorem dX9_keep_44 : decode cX9_keep 44 = .ok (.getfield 178, 3) := by decide +kernel
theorem dX9_keep_47 : decode cX9_keep 47 = .ok (.iconst 1, 1) := by decide +kernel
theorem dX9_keep_48 : decode cX9_keep 48 = .ok (.isub, 1) := by decide +kernel
theorem dX9_keep_49 : decode cX9_keep 49 = .ok (.putfield 178, 3) := by decide +kernel
theorem dX9_keep_52 : decode cX9_keep 52 = .ok (.iconst 0, 1) := by decide +kernel
theorem dX9_keep_53 : decode cX9_keep 53 = .ok (.istore_n 1, 1) := by decide +kernel
theorem dX9_keep_54 : decode cX9_keep 54 = .ok (.iload_n 1, 1) := by decide +kernel
theorem dX9_keep_55 : decode cX9_keep 55 = .ok (.sipush 353, 3) := by decide +kernel
theorem dX9_keep_58 : decode cX9_keep 58 = .ok (.if_icmp .ge 30, 3) := by decide +kernel
theorem dX9_keep_61 : decode cX9_keep 61 = .ok (.aload_n 0, 1) := by decide +kernel
theorem dX9_keep_62 : decode cX9_keep 62 = .ok (.getfield 46, 3) := by decide +kernel
theorem dX9_keep_65 : decode cX9_keep 65 = .ok (.sipush 353, 3) := by decide +kernel
theorem dX9_keep_68 : decode cX9_keep 68 = .ok (.aload_n 0, 1) := by decide +kernel
theorem dX9_keep_69 : decode cX9_keep 69 = .ok (.getfield 178, 3) := by decide +kernel
theorem dX9_keep_72 : decode cX9_keep 72 = .ok (.imul, 1) := by decide +kernel
theorem dX9_keep_73 : decode cX9_keep 73 = .ok (.iload_n 1, 1) := by decide +kernel
theorem dX9_keep_74 : decode cX9_keep 74 = .ok (.iadd, 1) := by decide +kernel
theorem dX9_keep_75 : decode cX9_keep 75 = .ok (.aload_n 0, 1) := by decide +kernel
theorem dX9_keep_76 : decode cX9_keep 76 = .ok (.getfield 34, 3) := by decide +kernel
theorem dX9_keep_79 : decode cX9_keep 79 = .ok (.iload_n 1, 1) := by decide +kernel
theorem dX9_keep_80 : decode cX9_keep 80 = .ok (.iaload, 1) := by decide +kernel
theorem dX9_keep_81 : decode cX9_keep 81 = .ok (.iastore, 1) := by decide +kernel
theorem dX9_keep_82 : decode cX9_keep 82 = .ok (.iinc 1 1, 3) := by decide +kernel
theorem dX9_keep_85 : decode cX9_keep 85 = .ok (.goto (-31), 3) := by decide +kernel
theorem dX9_keep_88 : decode cX9_keep 88 = .ok (.aload_n 0, 1) := by decide +kernel
theorem dX9_keep_89 : decode cX9_keep 89 = .ok (.dup, 1) := by decide +kernel
theorem dX9_keep_90 : decode cX9_keep 90 = .ok (.getfield 178, 3) := by decide +kernel
theorem dX9_keep_93 : decode cX9_keep 93 = .ok (.iconst 1, 1) := by decide +kernel
theorem dX9_keep_94 : decode cX9_keep 94 = .ok (.iadd, 1) := by decide +kernel
theorem dX9_keep_95 : decode cX9_keep 95 = .ok (.putfield 178, 3) := by decide +kernel
theorem dX9_keep_98 : decode cX9_keep 98 = .ok (.return_, 1) := by decide +kernel
theorem dX9_note_0 : decode cX9_note 0 = .ok (.aload_n 0, 1) := by decide +kernel
theorem dX9_note_1 : decode cX9_note 1 = .ok (.getfield 34, 3) := by decide +kernel
theorem dX9_note_4 : decode cX9_note 4 = .ok (.sipush 172, 3) := by decide +kernel
theorem dX9_note_7 : decode cX9_note 7 = .ok (.iaload, 1) := by decide +kernel
theorem dX9_note_8 : decode cX9_note 8 = .ok (.bipush 60, 2) := by decide +kernel
theorem dX9_note_10 : decode cX9_note 10 = .ok (.if_icmp .ne 56, 3) := by decide +kernel
theorem dX9_note_13 : decode cX9_note 13 = .ok (.iconst 3, 1) := by decide +kernel
theorem dX9_note_14 : decode cX9_note 14 = .ok (.istore 4, 2) := by decide +kernel
theorem dX9_note_16 : decode cX9_note 16 = .ok (.iload 4, 2) := by decide +kernel
theorem dX9_note_18 : decode cX9_note 18 = .ok (.sipush 180, 3) := by decide +kernel
theorem dX9_note_21 : decode cX9_note 21 = .ok (.if_icmp .ge 33, 3) := by decide +kernel
theorem dX9_note_24 : decode cX9_note 24 = .ok (.aload_n 0, 1) := by decide +kernel
theorem dX9_note_25 : decode cX9_note 25 = .ok (.getfield 34, 3) := by decide +kernel
theorem dX9_note_28 : decode cX9_note 28 = .ok (.sipush 173, 3) := by decide +kernel
theorem dX9_note_31 : decode cX9_note 31 = .ok (.iload 4, 2) := by decide +kernel
theorem dX9_note_33 : decode cX9_note 33 = .ok (.iadd, 1) := by decide +kernel
theorem dX9_note_34 : decode cX9_note 34 = .ok (.iconst 3, 1) := by decide +kernel
theorem dX9_note_35 : decode cX9_note 35 = .ok (.isub, 1) := by decide +kernel
theorem dX9_note_36 : decode cX9_note 36 = .ok (.aload_n 0, 1) := by decide +kernel
theorem dX9_note_37 : decode cX9_note 37 = .ok (.getfield 34, 3) := by decide +kernel
theorem dX9_note_40 : decode cX9_note 40 = .ok (.sipush 173, 3) := by decide +kernel
theorem dX9_note_43 : decode cX9_note 43 = .ok (.iload 4, 2) := by decide +kernel
theorem dX9_note_45 : decode cX9_note 45 = .ok (.iadd, 1) := by decide +kernel
theorem dX9_note_46 : decode cX9_note 46 = .ok (.iaload, 1) := by decide +kernel
theorem dX9_note_47 : decode cX9_note 47 = .ok (.iastore, 1) := by decide +kernel
theorem dX9_note_48 : decode cX9_note 48 = .ok (.iinc 4 1, 3) := by decide +kernel
theorem dX9_note_51 : decode cX9_note 51 = .ok (.goto (-35), 3) := by decide +kernel
theorem dX9_note_54 : decode cX9_note 54 = .ok (.aload_n 0, 1) := by decide +kernel
theorem dX9_note_55 : decode cX9_note 55 = .ok (.getfield 34, 3) := by decide +kernel
theorem dX9_note_58 : decode cX9_note 58 = .ok (.sipush 172, 3) := by decide +kernel
theorem dX9_note_61 : decode cX9_note 61 = .ok (.dup2, 1) := by decide +kernel
theorem dX9_note_62 : decode cX9_note 62 = .ok (.iaload, 1) := by decide +kernel
theorem dX9_note_63 : decode cX9_note 63 = .ok (.iconst 1, 1) := by decide +kernel
theorem dX9_note_64 : decode cX9_note 64 = .ok (.isub, 1) := by decide +kernel
theorem dX9_note_65 : decode cX9_note 65 = .ok (.iastore, 1) := by decide +kernel
theorem dX9_note_66 : decode cX9_note 66 = .ok (.sipush 173, 3) := by decide +kernel
theorem dX9_note_69 : decode cX9_note 69 = .ok (.iconst 3, 1) := by decide +kernel
theorem dX9_note_70 : decode cX9_note 70 = .ok (.aload_n 0, 1) := by decide +kernel
theorem dX9_note_71 : decode cX9_note 71 = .ok (.getfield 34, 3) := by decide +kernel
theorem dX9_note_74 : decode cX9_note 74 = .ok (.sipush 172, 3) := by decide +kernel
theorem dX9_note_77 : decode cX9_note 77 = .ok (.iaload, 1) := by decide +kernel
theorem dX9_note_78 : decode cX9_note 78 = .ok (.imul, 1) := by decide +kernel
theorem dX9_note_79 : decode cX9_note 79 = .ok (.iadd, 1) := by decide +kernel
theorem dX9_note_80 : decode cX9_note 80 = .ok (.istore 4, 2) := by decide +kernel
theorem dX9_note_82 : decode cX9_note 82 = .ok (.aload_n 0, 1) := by decide +kernel
theorem dX9_note_83 : decode cX9_note 83 = .ok (.getfield 34, 3) := by decide +kernel
theorem dX9_note_86 : decode cX9_note 86 = .ok (.iload 4, 2) := by decide +kernel
theorem dX9_note_88 : decode cX9_note 88 = .ok (.iload_n 1, 1) := by decide +kernel
theorem dX9_note_89 : decode cX9_note 89 = .ok (.iastore, 1) := by decide +kernel
theorem dX9_note_90 : decode cX9_note 90 = .ok (.aload_n 0, 1) := by decide +kernel
theorem dX9_note_91 : decode cX9_note 91 = .ok (.getfield 34, 3) := by decide +kernel
theorem dX9_note_94 : decode cX9_note 94 = .ok (.iload 4, 2) := by decide +kernel
theorem dX9_note_96 : decode cX9_note 96 = .ok (.iconst 1, 1) := by decide +kernel
theorem dX9_note_97 : decode cX9_note 97 = .ok (.iadd, 1) := by decide +kernel
theorem dX9_note_98 : decode cX9_note 98 = .ok (.iload_n 2, 1) := by decide +kernel
theorem dX9_note_99 : decode cX9_note 99 = .ok (.iastore, 1) := by decide +kernel
theorem dX9_note_100 : decode cX9_note 100 = .ok (.aload_n 0, 1) := by decide +kernel
theorem dX9_note_101 : decode cX9_note 101 = .ok (.getfield 34, 3) := by decide +kernel
theorem dX9_note_104 : decode cX9_note 104 = .ok (.iload 4, 2) := by decide +kernel
theorem dX9_note_106 : decode cX9_note 106 = .ok (.iconst 2, 1) := by decide +kernel
theorem dX9_note_107 : decode cX9_note 107 = .ok (.iadd, 1) := by decide +kernel
theorem dX9_note_108 : decode cX9_note 108 = .ok (.iload_n 3, 1) := by decide +kernel
theorem dX9_note_109 : decode cX9_note 109 = .ok (.iastore, 1) := by decide +kernel
theorem dX9_note_110 : decode cX9_note 110 = .ok (.aload_n 0, 1) := by decide +kernel
theorem dX9_note_111 : decode cX9_note 111 = .ok (.getfield 34, 3) := by decide +kernel
theorem dX9_note_114 : decode cX9_note 114 = .ok (.sipush 172, 3) := by decide +kernel
theorem dX9_note_117 : decode cX9_note 117 = .ok (.dup2, 1) := by decide +kernel
theorem dX9_note_118 : decode cX9_note 118 = .ok (.iaload, 1) := by decide +kernel
theorem dX9_note_119 : decode cX9_note 119 = .ok (.iconst 1, 1) := by decide +kernel
theorem dX9_note_120 : decode cX9_note 120 = .ok (.iadd, 1) := by decide +kernel
theorem dX9_note_121 : decode cX9_note 121 = .ok (.iastore, 1) := by decide +kernel
theorem dX9_note_122 : decode cX9_note 122 = .ok (.return_, 1) := by decide +kernel
theorem dX9_doNow_0 : decode cX9_doNow 0 = .ok (.iconst 0, 1) := by decide +kernel
theorem dX9_doNow_1 : decode cX9_doNow 1 = .ok (.istore 4, 2) := by decide +kernel
theorem dX9_doNow_3 : decode cX9_doNow 3 = .ok (.iload_n 1, 1) := by decide +kernel
theorem dX9_doNow_4 : decode cX9_doNow 4 = .ok (.tableswitch 183 0 9 #[56, 95, 100, 107, 113, 134, 159, 166, 171, 177], 56) := by decide +kernel
theorem dX9_doNow_60 : decode cX9_doNow 60 = .ok (.aload_n 0, 1) := by decide +kernel
theorem dX9_doNow_61 : decode cX9_doNow 61 = .ok (.getfield 34, 3) := by decide +kernel
theorem dX9_doNow_64 : decode cX9_doNow 64 = .ok (.sipush 171, 3) := by decide +kernel
theorem dX9_doNow_67 : decode cX9_doNow 67 = .ok (.dup2, 1) := by decide +kernel
theorem dX9_doNow_68 : decode cX9_doNow 68 = .ok (.iaload, 1) := by decide +kernel
theorem dX9_doNow_69 : decode cX9_doNow 69 = .ok (.iconst 1, 1) := by decide +kernel
theorem dX9_doNow_70 : decode cX9_doNow 70 = .ok (.iadd, 1) := by decide +kernel
theorem dX9_doNow_71 : decode cX9_doNow 71 = .ok (.iastore, 1) := by decide +kernel
theorem dX9_doNow_72 : decode cX9_doNow 72 = .ok (.aload_n 0, 1) := by decide +kernel
theorem dX9_doNow_73 : decode cX9_doNow 73 = .ok (.getfield 34, 3) := by decide +kernel
theorem dX9_doNow_76 : decode cX9_doNow 76 = .ok (.sipush 144, 3) := by decide +kernel
theorem dX9_doNow_79 : decode cX9_doNow 79 = .ok (.iload_n 2, 1) := by decide +kernel
theorem dX9_doNow_80 : decode cX9_doNow 80 = .ok (.iadd, 1) := by decide +kernel
theorem dX9_doNow_81 : decode cX9_doNow 81 = .ok (.aload_n 0, 1) := by decide +kernel
theorem dX9_doNow_82 : decode cX9_doNow 82 = .ok (.getfield 34, 3) := by decide +kernel
theorem dX9_doNow_85 : decode cX9_doNow 85 = .ok (.sipush 171, 3) := by decide +kernel
theorem dX9_doNow_88 : decode cX9_doNow 88 = .ok (.iaload, 1) := by decide +kernel
theorem dX9_doNow_89 : decode cX9_doNow 89 = .ok (.iastore, 1) := by decide +kernel
theorem dX9_doNow_90 : decode cX9_doNow 90 = .ok (.aload_n 0, 1) := by decide +kernel
theorem dX9_doNow_91 : decode cX9_doNow 91 = .ok (.getfield 34, 3) := by decide +kernel
theorem dX9_doNow_94 : decode cX9_doNow 94 = .ok (.sipush 171, 3) := by decide +kernel
theorem dX9_doNow_97 : decode cX9_doNow 97 = .ok (.iaload, 1) := by decide +kernel
theorem dX9_doNow_98 : decode cX9_doNow 98 = .ok (.ireturn, 1) := by decide +kernel
theorem dX9_doNow_99 : decode cX9_doNow 99 = .ok (.aload_n 0, 1) := by decide +kernel
theorem dX9_doNow_100 : decode cX9_doNow 100 = .ok (.invokevirtual 307, 3) := by decide +kernel
theorem dX9_doNow_103 : decode cX9_doNow 103 = .ok (.ireturn, 1) := by decide +kernel
theorem dX9_doNow_104 : decode cX9_doNow 104 = .ok (.aload_n 0, 1) := by decide +kernel
theorem dX9_doNow_105 : decode cX9_doNow 105 = .ok (.iload_n 2, 1) := by decide +kernel
theorem dX9_doNow_106 : decode cX9_doNow 106 = .ok (.iload_n 3, 1) := by decide +kernel
theorem dX9_doNow_107 : decode cX9_doNow 107 = .ok (.invokevirtual 310, 3) := by decide +kernel
theorem dX9_doNow_110 : decode cX9_doNow 110 = .ok (.ireturn, 1) := by decide +kernel
theorem dX9_doNow_111 : decode cX9_doNow 111 = .ok (.aload_n 0, 1) := by decide +kernel
theorem dX9_doNow_112 : decode cX9_doNow 112 = .ok (.iload_n 2, 1) := by decide +kernel
theorem dX9_doNow_113 : decode cX9_doNow 113 = .ok (.invokevirtual 313, 3) := by decide +kernel
theorem dX9_doNow_116 : decode cX9_doNow 116 = .ok (.ireturn, 1) := by decide +kernel
theorem dX9_doNow_117 : decode cX9_doNow 117 = .ok (.aload_n 0, 1) := by decide +kernel
theorem dX9_doNow_118 : decode cX9_doNow 118 = .ok (.iload_n 2, 1) := by decide +kernel
theorem dX9_doNow_119 : decode cX9_doNow 119 = .ok (.invokevirtual 229, 3) := by decide +kernel
theorem dX9_doNow_122 : decode cX9_doNow 122 = .ok (.aload_n 0, 1) := by decide +kernel
theorem dX9_doNow_123 : decode cX9_doNow 123 = .ok (.getfield 34, 3) := by decide +kernel
theorem dX9_doNow_126 : decode cX9_doNow 126 = .ok (.iconst 0, 1) := by decide +kernel
theorem dX9_doNow_127 : decode cX9_doNow 127 = .ok (.iload_n 2, 1) := by decide +kernel
theorem dX9_doNow_128 : decode cX9_doNow 128 = .ok (.iadd, 1) := by decide +kernel
theorem dX9_doNow_129 : decode cX9_doNow 129 = .ok (.iaload, 1) := by decide +kernel
theorem dX9_doNow_130 : decode cX9_doNow 130 = .ok (.aload_n 0, 1) := by decide +kernel
theorem dX9_doNow_131 : decode cX9_doNow 131 = .ok (.getfield 22, 3) := by decide +kernel
theorem dX9_doNow_134 : decode cX9_doNow 134 = .ok (.iconst 0, 1) := by decide +kernel
theorem dX9_doNow_135 : decode cX9_doNow 135 = .ok (.iaload, 1) := by decide +kernel
theorem dX9_doNow_136 : decode cX9_doNow 136 = .ok (.isub, 1) := by decide +kernel
theorem dX9_doNow_137 : decode cX9_doNow 137 = .ok (.ireturn, 1) := by decide +kernel
theorem dX9_doNow_138 : decode cX9_doNow 138 = .ok (.aload_n 0, 1) := by decide +kernel
theorem dX9_doNow_139 : decode cX9_doNow 139 = .ok (.getfield 34, 3) := by decide +kernel
theorem dX9_doNow_142 : decode cX9_doNow 142 = .ok (.iconst 0, 1) := by decide +kernel
theorem dX9_doNow_143 : decode cX9_doNow 143 = .ok (.iload_n 2, 1) := by decide +kernel
theorem dX9_doNow_144 : decode cX9_doNow 144 = .ok (.iadd, 1) := by decide +kernel
theorem dX9_doNow_145 : decode cX9_doNow 145 = .ok (.iaload, 1) := by decide +kernel
theorem dX9_doNow_146 : decode cX9_doNow 146 = .ok (.aload_n 0, 1) := by decide +kernel
theorem dX9_doNow_147 : decode cX9_doNow 147 = .ok (.getfield 22, 3) := by decide +kernel
theorem dX9_doNow_150 : decode cX9_doNow 150 = .ok (.iconst 0, 1) := by decide +kernel
theorem dX9_doNow_151 : decode cX9_doNow 151 = .ok (.iaload, 1) := by decide +kernel
theorem dX9_doNow_152 : decode cX9_doNow 152 = .ok (.isub, 1) := by decide +kernel
theorem dX9_doNow_153 : decode cX9_doNow 153 = .ok (.istore 4, 2) := by decide +kernel
theorem dX9_doNow_155 : decode cX9_doNow 155 = .ok (.aload_n 0, 1) := by decide +kernel
theorem dX9_doNow_156 : decode cX9_doNow 156 = .ok (.iload_n 2, 1) := by decide +kernel
theorem dX9_doNow_157 : decode cX9_doNow 157 = .ok (.invokevirtual 218, 3) := by decide +kernel
theorem dX9_doNow_160 : decode cX9_doNow 160 = .ok (.iload 4, 2) := by decide +kernel
theorem dX9_doNow_162 : decode cX9_doNow 162 = .ok (.ireturn, 1) := by decide +kernel
theorem dX9_doNow_163 : decode cX9_doNow 163 = .ok (.aload_n 0, 1) := by decide +kernel
theorem dX9_doNow_164 : decode cX9_doNow 164 = .ok (.iload_n 2, 1) := by decide +kernel
theorem dX9_doNow_165 : decode cX9_doNow 165 = .ok (.iload_n 3, 1) := by decide +kernel
theorem dX9_doNow_166 : decode cX9_doNow 166 = .ok (.invokevirtual 277, 3) := by decide +kernel
theorem dX9_doNow_169 : decode cX9_doNow 169 = .ok (.ireturn, 1) := by decide +kernel
theorem dX9_doNow_170 : decode cX9_doNow 170 = .ok (.aload_n 0, 1) := by decide +kernel
theorem dX9_doNow_171 : decode cX9_doNow 171 = .ok (.invokevirtual 316, 3) := by decide +kernel
theorem dX9_doNow_174 : decode cX9_doNow 174 = .ok (.ireturn, 1) := by decide +kernel
theorem dX9_doNow_175 : decode cX9_doNow 175 = .ok (.aload_n 0, 1) := by decide +kernel
theorem dX9_doNow_176 : decode cX9_doNow 176 = .ok (.iload_n 2, 1) := by decide +kernel
theorem dX9_doNow_177 : decode cX9_doNow 177 = .ok (.invokevirtual 319, 3) := by decide +kernel
theorem dX9_doNow_180 : decode cX9_doNow 180 = .ok (.ireturn, 1) := by decide +kernel
theorem dX9_doNow_181 : decode cX9_doNow 181 = .ok (.aload_n 0, 1) := by decide +kernel
theorem dX9_doNow_182 : decode cX9_doNow 182 = .ok (.iload_n 2, 1) := by decide +kernel
theorem dX9_doNow_183 : decode cX9_doNow 183 = .ok (.invokevirtual 322, 3) := by decide +kernel
theorem dX9_doNow_186 : decode cX9_doNow 186 = .ok (.ireturn, 1) := by decide +kernel
theorem dX9_doNow_187 : decode cX9_doNow 187 = .ok (.aload_n 0, 1) := by decide +kernel
theorem dX9_doNow_188 : decode cX9_doNow 188 = .ok (.invokevirtual 325, 3) := by decide +kernel
theorem dX9_doNow_191 : decode cX9_doNow 191 = .ok (.ireturn, 1) := by decide +kernel
theorem dX9_act_0 : decode cX9_act 0 = .ok (.aload_n 0, 1) := by decide +kernel
theorem dX9_act_1 : decode cX9_act 1 = .ok (.invokevirtual 328, 3) := by decide +kernel
theorem dX9_act_4 : decode cX9_act 4 = .ok (.aload_n 0, 1) := by decide +kernel
theorem dX9_act_5 : decode cX9_act 5 = .ok (.getfield 34, 3) := by decide +kernel
theorem dX9_act_8 : decode cX9_act 8 = .ok (.sipush 170, 3) := by decide +kernel
theorem dX9_act_11 : decode cX9_act 11 = .ok (.iaload, 1) := by decide +kernel
theorem dX9_act_12 : decode cX9_act 12 = .ok (.istore 4, 2) := by decide +kernel
theorem dX9_act_14 : decode cX9_act 14 = .ok (.aload_n 0, 1) := by decide +kernel
theorem dX9_act_15 : decode cX9_act 15 = .ok (.iload_n 1, 1) := by decide +kernel
theorem dX9_act_16 : decode cX9_act 16 = .ok (.iload_n 2, 1) := by decide +kernel
theorem dX9_act_17 : decode cX9_act 17 = .ok (.iload_n 3, 1) := by decide +kernel
theorem dX9_act_18 : decode cX9_act 18 = .ok (.invokevirtual 331, 3) := by decide +kernel
theorem dX9_act_21 : decode cX9_act 21 = .ok (.istore 5, 2) := by decide +kernel
theorem dX9_act_23 : decode cX9_act 23 = .ok (.aload_n 0, 1) := by decide +kernel
theorem dX9_act_24 : decode cX9_act 24 = .ok (.iload_n 1, 1) := by decide +kernel
theorem dX9_act_25 : decode cX9_act 25 = .ok (.iload_n 1, 1) := by decide +kernel
theorem dX9_act_26 : decode cX9_act 26 = .ok (.iconst 1, 1) := by decide +kernel
theorem dX9_act_27 : decode cX9_act 27 = .ok (.if_icmp .eq 9, 3) := by decide +kernel
theorem dX9_act_30 : decode cX9_act 30 = .ok (.iload_n 1, 1) := by decide +kernel
theorem dX9_act_31 : decode cX9_act 31 = .ok (.bipush 10, 2) := by decide +kernel
theorem dX9_act_33 : decode cX9_act 33 = .ok (.if_icmp .ne 8, 3) := by decide +kernel
theorem dX9_act_36 : decode cX9_act 36 = .ok (.iload 5, 2) := by decide +kernel
theorem dX9_act_38 : decode cX9_act 38 = .ok (.goto 14, 3) := by decide +kernel
theorem dX9_act_41 : decode cX9_act 41 = .ok (.iload_n 1, 1) := by decide +kernel
theorem dX9_act_42 : decode cX9_act 42 = .ok (.bipush 7, 2) := by decide +kernel
theorem dX9_act_44 : decode cX9_act 44 = .ok (.if_icmp .ne 7, 3) := by decide +kernel
theorem dX9_act_47 : decode cX9_act 47 = .ok (.iconst (-1), 1) := by decide +kernel
theorem dX9_act_48 : decode cX9_act 48 = .ok (.goto 4, 3) := by decide +kernel
theorem dX9_act_51 : decode cX9_act 51 = .ok (.iload_n 2, 1) := by decide +kernel
theorem dX9_act_52 : decode cX9_act 52 = .ok (.aload_n 0, 1) := by decide +kernel
theorem dX9_act_53 : decode cX9_act 53 = .ok (.getfield 34, 3) := by decide +kernel
theorem dX9_act_56 : decode cX9_act 56 = .ok (.sipush 170, 3) := by decide +kernel
theorem dX9_act_59 : decode cX9_act 59 = .ok (.iaload, 1) := by decide +kernel
theorem dX9_act_60 : decode cX9_act 60 = .ok (.iload 4, 2) := by decide +kernel
theorem dX9_act_62 : decode cX9_act 62 = .ok (.isub, 1) := by decide +kernel
theorem dX9_act_63 : decode cX9_act 63 = .ok (.invokevirtual 334, 3) := by decide +kernel
theorem dX9_act_66 : decode cX9_act 66 = .ok (.iload 5, 2) := by decide +kernel
theorem dX9_act_68 : decode cX9_act 68 = .ok (.ireturn, 1) := by decide +kernel
theorem dX9_hand_0 : decode cX9_hand 0 = .ok (.aload_n 0, 1) := by decide +kernel
theorem dX9_hand_1 : decode cX9_hand 1 = .ok (.iload_n 1, 1) := by decide +kernel
theorem dX9_hand_2 : decode cX9_hand 2 = .ok (.iload_n 2, 1) := by decide +kernel
theorem dX9_hand_3 : decode cX9_hand 3 = .ok (.iload_n 3, 1) := by decide +kernel
theorem dX9_hand_4 : decode cX9_hand 4 = .ok (.invokevirtual 337, 3) := by decide +kernel
theorem dX9_hand_7 : decode cX9_hand 7 = .ok (.istore 4, 2) := by decide +kernel
theorem dX9_hand_9 : decode cX9_hand 9 = .ok (.iload 4, 2) := by decide +kernel
theorem dX9_hand_11 : decode cX9_hand 11 = .ok (.iconst (-1), 1) := by decide +kernel
theorem dX9_hand_12 : decode cX9_hand 12 = .ok (.if_icmp .eq 16, 3) := by decide +kernel
theorem dX9_hand_15 : decode cX9_hand 15 = .ok (.aload_n 0, 1) := by decide +kernel
theorem dX9_hand_16 : decode cX9_hand 16 = .ok (.getfield 37, 3) := by decide +kernel
theorem dX9_hand_19 : decode cX9_hand 19 = .ok (.iload 4, 2) := by decide +kernel
theorem dX9_hand_21 : decode cX9_hand 21 = .ok (.dup2, 1) := by decide +kernel
theorem dX9_hand_22 : decode cX9_hand 22 = .ok (.iaload, 1) := by decide +kernel
theorem dX9_hand_23 : decode cX9_hand 23 = .ok (.iconst 1, 1) := by decide +kernel
theorem dX9_hand_24 : decode cX9_hand 24 = .ok (.iadd, 1) := by decide +kernel
theorem dX9_hand_25 : decode cX9_hand 25 = .ok (.iastore, 1) := by decide +kernel
theorem dX9_hand_26 : decode cX9_hand 26 = .ok (.iconst (-1), 1) := by decide +kernel
theorem dX9_hand_27 : decode cX9_hand 27 = .ok (.ireturn, 1) := by decide +kernel
theorem dX9_hand_28 : decode cX9_hand 28 = .ok (.aload_n 0, 1) := by decide +kernel
theorem dX9_hand_29 : decode cX9_hand 29 = .ok (.iload_n 1, 1) := by decide +kernel
theorem dX9_hand_30 : decode cX9_hand 30 = .ok (.iload_n 2, 1) := by decide +kernel
theorem dX9_hand_31 : decode cX9_hand 31 = .ok (.iload_n 3, 1) := by decide +kernel
theorem dX9_hand_32 : decode cX9_hand 32 = .ok (.invokevirtual 340, 3) := by decide +kernel
theorem dX9_hand_35 : decode cX9_hand 35 = .ok (.ireturn, 1) := by decide +kernel
theorem dX9_ask_0 : decode cX9_ask 0 = .ok (.aload_n 0, 1) := by decide +kernel
theorem dX9_ask_1 : decode cX9_ask 1 = .ok (.iconst 0, 1) := by decide +kernel
theorem dX9_ask_2 : decode cX9_ask 2 = .ok (.iload_n 1, 1) := by decide +kernel
theorem dX9_ask_3 : decode cX9_ask 3 = .ok (.iconst 0, 1) := by decide +kernel
theorem dX9_ask_4 : decode cX9_ask 4 = .ok (.invokevirtual 343, 3) := by decide +kernel
theorem dX9_ask_7 : decode cX9_ask 7 = .ok (.ireturn, 1) := by decide +kernel
theorem dX9_serve_0 : decode cX9_serve 0 = .ok (.aload_n 0, 1) := by decide +kernel
theorem dX9_serve_1 : decode cX9_serve 1 = .ok (.iconst 1, 1) := by decide +kernel
theorem dX9_serve_2 : decode cX9_serve 2 = .ok (.iconst 0, 1) := by decide +kernel
theorem dX9_serve_3 : decode cX9_serve 3 = .ok (.iconst 0, 1) := by decide +kernel
theorem dX9_serve_4 : decode cX9_serve 4 = .ok (.invokevirtual 343, 3) := by decide +kernel
theorem dX9_serve_7 : decode cX9_serve 7 = .ok (.ireturn, 1) := by decide +kernel
theorem dX9_write_0 : decode cX9_write 0 = .ok (.aload_n 0, 1) := by decide +kernel
theorem dX9_write_1 : decode cX9_write 1 = .ok (.iconst 2, 1) := by decide +kernel
theorem dX9_write_2 : decode cX9_write 2 = .ok (.iload_n 1, 1) := by decide +kernel
theorem dX9_write_3 : decode cX9_write 3 = .ok (.iload_n 2, 1) := by decide +kernel
theorem dX9_write_4 : decode cX9_write 4 = .ok (.invokevirtual 343, 3) := by decide +kernel
theorem dX9_write_7 : decode cX9_write 7 = .ok (.ireturn, 1) := by decide +kernel
theorem dX9_drop_0 : decode cX9_drop 0 = .ok (.aload_n 0, 1) := by decide +kernel
theorem dX9_drop_1 : decode cX9_drop 1 = .ok (.iconst 3, 1) := by decide +kernel
theorem dX9_drop_2 : decode cX9_drop 2 = .ok (.iload_n 1, 1) := by decide +kernel
theorem dX9_drop_3 : decode cX9_drop 3 = .ok (.iconst 0, 1) := by decide +kernel
theorem dX9_drop_4 : decode cX9_drop 4 = .ok (.invokevirtual 343, 3) := by decide +kernel
theorem dX9_drop_7 : decode cX9_drop 7 = .ok (.ireturn, 1) := by decide +kernel
theorem dX9_mount_0 : decode cX9_mount 0 = .ok (.aload_n 0, 1) := by decide +kernel
theorem dX9_mount_1 : decode cX9_mount 1 = .ok (.iconst 4, 1) := by decide +kernel
theorem dX9_mount_2 : decode cX9_mount 2 = .ok (.iload_n 1, 1) := by decide +kernel
theorem dX9_mount_3 : decode cX9_mount 3 = .ok (.iconst 0, 1) := by decide +kernel
theorem dX9_mount_4 : decode cX9_mount 4 = .ok (.invokevirtual 343, 3) := by decide +kernel
theorem dX9_mount_7 : decode cX9_mount 7 = .ok (.ireturn, 1) := by decide +kernel
theorem dX9_unmount_0 : decode cX9_unmount 0 = .ok (.aload_n 0, 1) := by decide +kernel
theorem dX9_unmount_1 : decode cX9_unmount 1 = .ok (.iconst 5, 1) := by decide +kernel
theorem dX9_unmount_2 : decode cX9_unmount 2 = .ok (.iload_n 1, 1) := by decide +kernel
theorem dX9_unmount_3 : decode cX9_unmount 3 = .ok (.iconst 0, 1) := by decide +kernel
theorem dX9_unmount_4 : decode cX9_unmount 4 = .ok (.invokevirtual 343, 3) := by decide +kernel
theorem dX9_unmount_7 : decode cX9_unmount 7 = .ok (.ireturn, 1) := by decide +kernel
theorem dX9_copy_0 : decode cX9_copy 0 = .ok (.aload_n 0, 1) := by decide +kernel
theorem dX9_copy_1 : decode cX9_copy 1 = .ok (.bipush 6, 2) := by decide +kernel
theorem dX9_copy_3 : decode cX9_copy 3 = .ok (.iload_n 1, 1) := by decide +kernel
theorem dX9_copy_4 : decode cX9_copy 4 = .ok (.iload_n 2, 1) := by decide +kernel
theorem dX9_copy_5 : decode cX9_copy 5 = .ok (.invokevirtual 343, 3) := by decide +kernel
theorem dX9_copy_8 : decode cX9_copy 8 = .ok (.ireturn, 1) := by decide +kernel
theorem dX9_lose_0 : decode cX9_lose 0 = .ok (.aload_n 0, 1) := by decide +kernel
theorem dX9_lose_1 : decode cX9_lose 1 = .ok (.bipush 7, 2) := by decide +kernel
theorem dX9_lose_3 : decode cX9_lose 3 = .ok (.iconst 0, 1) := by decide +kernel
theorem dX9_lose_4 : decode cX9_lose 4 = .ok (.iconst 0, 1) := by decide +kernel
theorem dX9_lose_5 : decode cX9_lose 5 = .ok (.invokevirtual 343, 3) := by decide +kernel
theorem dX9_lose_8 : decode cX9_lose 8 = .ok (.ireturn, 1) := by decide +kernel
theorem dX9_scan_0 : decode cX9_scan 0 = .ok (.aload_n 0, 1) := by decide +kernel
theorem dX9_scan_1 : decode cX9_scan 1 = .ok (.bipush 8, 2) := by decide +kernel
theorem dX9_scan_3 : decode cX9_scan 3 = .ok (.iload_n 1, 1) := by decide +kernel
theorem dX9_scan_4 : decode cX9_scan 4 = .ok (.iconst 0, 1) := by decide +kernel
theorem dX9_scan_5 : decode cX9_scan 5 = .ok (.invokevirtual 343, 3) := by decide +kernel
theorem dX9_scan_8 : decode cX9_scan 8 = .ok (.ireturn, 1) := by decide +kernel
theorem dX9_pause_0 : decode cX9_pause 0 = .ok (.aload_n 0, 1) := by decide +kernel
theorem dX9_pause_1 : decode cX9_pause 1 = .ok (.bipush 9, 2) := by decide +kernel
theorem dX9_pause_3 : decode cX9_pause 3 = .ok (.iload_n 1, 1) := by decide +kernel
theorem dX9_pause_4 : decode cX9_pause 4 = .ok (.iconst 0, 1) := by decide +kernel
theorem dX9_pause_5 : decode cX9_pause 5 = .ok (.invokevirtual 343, 3) := by decide +kernel
theorem dX9_pause_8 : decode cX9_pause 8 = .ok (.ireturn, 1) := by decide +kernel
theorem dX9_rescue_0 : decode cX9_rescue 0 = .ok (.aload_n 0, 1) := by decide +kernel
theorem dX9_rescue_1 : decode cX9_rescue 1 = .ok (.bipush 10, 2) := by decide +kernel
theorem dX9_rescue_3 : decode cX9_rescue 3 = .ok (.iconst 0, 1) := by decide +kernel
theorem dX9_rescue_4 : decode cX9_rescue 4 = .ok (.iconst 0, 1) := by decide +kernel
theorem dX9_rescue_5 : decode cX9_rescue 5 = .ok (.invokevirtual 343, 3) := by decide +kernel
theorem dX9_rescue_8 : decode cX9_rescue 8 = .ok (.ireturn, 1) := by decide +kernel
theorem dX9_draw_0 : decode cX9_draw 0 = .ok (.aload_n 0, 1) := by decide +kernel
theorem dX9_draw_1 : decode cX9_draw 1 = .ok (.aload_n 0, 1) := by decide +kernel
theorem dX9_draw_2 : decode cX9_draw 2 = .ok (.getfield 346, 3) := by decide +kernel
theorem dX9_draw_5 : decode cX9_draw 5 = .ok (.ldc2_w 350, 3) := by decide +kernel
theorem dX9_draw_8 : decode cX9_draw 8 = .ok (.lmul, 1) := by decide +kernel
theorem dX9_draw_9 : decode cX9_draw 9 = .ok (.ldc2_w 352, 3) := by decide +kernel
theorem dX9_draw_12 : decode cX9_draw 12 = .ok (.ladd, 1) := by decide +kernel
theorem dX9_draw_13 : decode cX9_draw 13 = .ok (.putfield 346, 3) := by decide +kernel
theorem dX9_draw_16 : decode cX9_draw 16 = .ok (.aload_n 0, 1) := by decide +kernel
theorem dX9_draw_17 : decode cX9_draw 17 = .ok (.getfield 346, 3) := by decide +kernel
theorem dX9_draw_20 : decode cX9_draw 20 = .ok (.bipush 33, 2) := by decide +kernel
theorem dX9_draw_22 : decode cX9_draw 22 = .ok (.lushr, 1) := by decide +kernel
theorem dX9_draw_23 : decode cX9_draw 23 = .ok (.iload_n 1, 1) := by decide +kernel
theorem dX9_draw_24 : decode cX9_draw 24 = .ok (.i2l, 1) := by decide +kernel
theorem dX9_draw_25 : decode cX9_draw 25 = .ok (.lrem, 1) := by decide +kernel
theorem dX9_draw_26 : decode cX9_draw 26 = .ok (.l2i, 1) := by decide +kernel
theorem dX9_draw_27 : decode cX9_draw 27 = .ok (.ireturn, 1) := by decide +kernel
theorem dX9_tryOne_0 : decode cX9_tryOne 0 = .ok (.aload_n 0, 1) := by decide +kernel
theorem dX9_tryOne_1 : decode cX9_tryOne 1 = .ok (.iload_n 1, 1) := by decide +kernel
theorem dX9_tryOne_2 : decode cX9_tryOne 2 = .ok (.iload_n 2, 1) := by decide +kernel
theorem dX9_tryOne_3 : decode cX9_tryOne 3 = .ok (.iload_n 3, 1) := by decide +kernel
theorem dX9_tryOne_4 : decode cX9_tryOne 4 = .ok (.invokevirtual 337, 3) := by decide +kernel
theorem dX9_tryOne_7 : decode cX9_tryOne 7 = .ok (.iconst (-1), 1) := by decide +kernel
theorem dX9_tryOne_8 : decode cX9_tryOne 8 = .ok (.if_icmp .ne 11, 3) := by decide +kernel
theorem dX9_tryOne_11 : decode cX9_tryOne 11 = .ok (.aload_n 0, 1) := by decide +kernel
theorem dX9_tryOne_12 : decode cX9_tryOne 12 = .ok (.iload_n 1, 1) := by decide +kernel
theorem dX9_tryOne_13 : decode cX9_tryOne 13 = .ok (.iload_n 2, 1) := by decide +kernel
theorem dX9_tryOne_14 : decode cX9_tryOne 14 = .ok (.iload_n 3, 1) := by decide +kernel
theorem dX9_tryOne_15 : decode cX9_tryOne 15 = .ok (.invokevirtual 340, 3) := by decide +kernel
theorem dX9_tryOne_18 : decode cX9_tryOne 18 = .ok (.pop, 1) := by decide +kernel
theorem dX9_tryOne_19 : decode cX9_tryOne 19 = .ok (.return_, 1) := by decide +kernel
theorem dX9_drawYear_0 : decode cX9_drawYear 0 = .ok (.aload_n 0, 1) := by decide +kernel
theorem dX9_drawYear_1 : decode cX9_drawYear 1 = .ok (.bipush 8, 2) := by decide +kernel
theorem dX9_drawYear_3 : decode cX9_drawYear 3 = .ok (.invokevirtual 354, 3) := by decide +kernel
theorem dX9_drawYear_6 : decode cX9_drawYear 6 = .ok (.istore_n 1, 1) := by decide +kernel
theorem dX9_drawYear_7 : decode cX9_drawYear 7 = .ok (.iload_n 1, 1) := by decide +kernel
theorem dX9_drawYear_8 : decode cX9_drawYear 8 = .ok (.iconst 3, 1) := by decide +kernel
theorem dX9_drawYear_9 : decode cX9_drawYear 9 = .ok (.if_icmp .ge 18, 3) := by decide +kernel
theorem dX9_drawYear_12 : decode cX9_drawYear 12 = .ok (.aload_n 0, 1) := by decide +kernel
theorem dX9_drawYear_13 : decode cX9_drawYear 13 = .ok (.iconst 0, 1) := by decide +kernel
theorem dX9_drawYear_14 : decode cX9_drawYear 14 = .ok (.aload_n 0, 1) := by decide +kernel
theorem dX9_drawYear_15 : decode cX9_drawYear 15 = .ok (.bipush 24, 2) := by decide +kernel
theorem dX9_drawYear_17 : decode cX9_drawYear 17 = .ok (.invokevirtual 354, 3) := by decide +kernel
theorem dX9_drawYear_20 : decode cX9_drawYear 20 = .ok (.iconst 0, 1) := by decide +kernel
theorem dX9_drawYear_21 : decode cX9_drawYear 21 = .ok (.invokevirtual 357, 3) := by decide +kernel
theorem dX9_drawYear_24 : decode cX9_drawYear 24 = .ok (.goto 91, 3) := by decide +kernel
theorem dX9_drawYear_27 : decode cX9_drawYear 27 = .ok (.iload_n 1, 1) := by decide +kernel
theorem dX9_drawYear_28 : decode cX9_drawYear 28 = .ok (.iconst 5, 1) := by decide +kernel
theorem dX9_drawYear_29 : decode cX9_drawYear 29 = .ok (.if_icmp .ge 13, 3) := by decide +kernel
theorem dX9_drawYear_32 : decode cX9_drawYear 32 = .ok (.aload_n 0, 1) := by decide +kernel
theorem dX9_drawYear_33 : decode cX9_drawYear 33 = .ok (.iconst 1, 1) := by decide +kernel
theorem dX9_drawYear_34 : decode cX9_drawYear 34 = .ok (.iconst 0, 1) := by decide +kernel
theorem dX9_drawYear_35 : decode cX9_drawYear 35 = .ok (.iconst 0, 1) := by decide +kernel
theorem dX9_drawYear_36 : decode cX9_drawYear 36 = .ok (.invokevirtual 357, 3) := by decide +kernel
theorem dX9_drawYear_39 : decode cX9_drawYear 39 = .ok (.goto 76, 3) := by decide +kernel
theorem dX9_drawYear_42 : decode cX9_drawYear 42 = .ok (.iload_n 1, 1) := by decide +kernel
theorem dX9_drawYear_43 : decode cX9_drawYear 43 = .ok (.iconst 5, 1) := by decide +kernel
theorem dX9_drawYear_44 : decode cX9_drawYear 44 = .ok (.if_icmp .ne 29, 3) := by decide +kernel
theorem dX9_drawYear_47 : decode cX9_drawYear 47 = .ok (.aload_n 0, 1) := by decide +kernel
theorem dX9_drawYear_48 : decode cX9_drawYear 48 = .ok (.aload_n 0, 1) := by decide +kernel
theorem dX9_drawYear_49 : decode cX9_drawYear 49 = .ok (.getfield 153, 3) := by decide +kernel
theorem dX9_drawYear_52 : decode cX9_drawYear 52 = .ok (.invokevirtual 354, 3) := by decide +kernel
theorem dX9_drawYear_55 : decode cX9_drawYear 55 = .ok (.istore_n 2, 1) := by decide +kernel
theorem dX9_drawYear_56 : decode cX9_drawYear 56 = .ok (.aload_n 0, 1) := by decide +kernel
theorem dX9_drawYear_57 : decode cX9_drawYear 57 = .ok (.iconst 2, 1) := by decide +kernel
theorem dX9_drawYear_58 : decode cX9_drawYear 58 = .ok (.iload_n 2, 1) := by decide +kernel
theorem dX9_drawYear_59 : decode cX9_drawYear 59 = .ok (.aload_n 0, 1) := by decide +kernel
theorem dX9_drawYear_60 : decode cX9_drawYear 60 = .ok (.bipush 9, 2) := by decide +kernel
theorem dX9_drawYear_62 : decode cX9_drawYear 62 = .ok (.invokevirtual 354, 3) := by decide +kernel
theorem dX9_drawYear_65 : decode cX9_drawYear 65 = .ok (.iconst 1, 1) := by decide +kernel
theorem dX9_drawYear_66 : decode cX9_drawYear 66 = .ok (.iadd, 1) := by decide +kernel
theorem dX9_drawYear_67 : decode cX9_drawYear 67 = .ok (.invokevirtual 357, 3) := by decide +kernel
theorem dX9_drawYear_70 : decode cX9_drawYear 70 = .ok (.goto 45, 3) := by decide +kernel
theorem dX9_drawYear_73 : decode cX9_drawYear 73 = .ok (.iload_n 1, 1) := by decide +kernel
theorem dX9_drawYear_74 : decode cX9_drawYear 74 = .ok (.bipush 6, 2) := by decide +kernel
theorem dX9_drawYear_76 : decode cX9_drawYear 76 = .ok (.if_icmp .ne 18, 3) := by decide +kernel
theorem dX9_drawYear_79 : decode cX9_drawYear 79 = .ok (.aload_n 0, 1) := by decide +kernel
theorem dX9_drawYear_80 : decode cX9_drawYear 80 = .ok (.iconst 3, 1) := by decide +kernel
theorem dX9_drawYear_81 : decode cX9_drawYear 81 = .ok (.aload_n 0, 1) := by decide +kernel
theorem dX9_drawYear_82 : decode cX9_drawYear 82 = .ok (.bipush 24, 2) := by decide +kernel
theorem dX9_drawYear_84 : decode cX9_drawYear 84 = .ok (.invokevirtual 354, 3) := by decide +kernel
theorem dX9_drawYear_87 : decode cX9_drawYear 87 = .ok (.iconst 0, 1) := by decide +kernel
theorem dX9_drawYear_88 : decode cX9_drawYear 88 = .ok (.invokevirtual 357, 3) := by decide +kernel
theorem dX9_drawYear_91 : decode cX9_drawYear 91 = .ok (.goto 24, 3) := by decide +kernel
theorem dX9_drawYear_94 : decode cX9_drawYear 94 = .ok (.aload_n 0, 1) := by decide +kernel
theorem dX9_drawYear_95 : decode cX9_drawYear 95 = .ok (.aload_n 0, 1) := by decide +kernel
theorem dX9_drawYear_96 : decode cX9_drawYear 96 = .ok (.getfield 153, 3) := by decide +kernel
theorem dX9_drawYear_99 : decode cX9_drawYear 99 = .ok (.invokevirtual 354, 3) := by decide +kernel
theorem dX9_drawYear_102 : decode cX9_drawYear 102 = .ok (.istore_n 2, 1) := by decide +kernel
theorem dX9_drawYear_103 : decode cX9_drawYear 103 = .ok (.aload_n 0, 1) := by decide +kernel
theorem dX9_drawYear_104 : decode cX9_drawYear 104 = .ok (.bipush 6, 2) := by decide +kernel
theorem dX9_drawYear_106 : decode cX9_drawYear 106 = .ok (.iload_n 2, 1) := by decide +kernel
theorem dX9_drawYear_107 : decode cX9_drawYear 107 = .ok (.aload_n 0, 1) := by decide +kernel
theorem dX9_drawYear_108 : decode cX9_drawYear 108 = .ok (.iload_n 2, 1) := by decide +kernel
theorem dX9_drawYear_109 : decode cX9_drawYear 109 = .ok (.invokevirtual 274, 3) := by decide +kernel
theorem dX9_drawYear_112 : decode cX9_drawYear 112 = .ok (.invokevirtual 357, 3) := by decide +kernel
theorem dX9_drawYear_115 : decode cX9_drawYear 115 = .ok (.return_, 1) := by decide +kernel
theorem dX9_years_0 : decode cX9_years 0 = .ok (.aload_n 0, 1) := by decide +kernel
theorem dX9_years_1 : decode cX9_years 1 = .ok (.invokevirtual 156, 3) := by decide +kernel
theorem dX9_years_4 : decode cX9_years 4 = .ok (.ifCond .eq 13, 3) := by decide +kernel
theorem dX9_years_7 : decode cX9_years 7 = .ok (.iload_n 1, 1) := by decide +kernel
theorem dX9_years_8 : decode cX9_years 8 = .ok (.iconst 1, 1) := by decide +kernel
theorem dX9_years_9 : decode cX9_years 9 = .ok (.bipush 40, 2) := by decide +kernel
theorem dX9_years_11 : decode cX9_years 11 = .ok (.invokestatic 76, 3) := by decide +kernel
theorem dX9_years_14 : decode cX9_years 14 = .ok (.ifCond .ne 5, 3) := by decide +kernel
theorem dX9_years_17 : decode cX9_years 17 = .ok (.iconst (-1), 1) := by decide +kernel
theorem dX9_years_18 : decode cX9_years 18 = .ok (.ireturn, 1) := by decide +kernel
theorem dX9_years_19 : decode cX9_years 19 = .ok (.aload_n 0, 1) := by decide +kernel
theorem dX9_years_20 : decode cX9_years 20 = .ok (.lload_n 2, 1) := by decide +kernel
theorem dX9_years_21 : decode cX9_years 21 = .ok (.putfield 346, 3) := by decide +kernel
theorem dX9_years_24 : decode cX9_years 24 = .ok (.iconst 0, 1) := by decide +kernel
theorem dX9_years_25 : decode cX9_years 25 = .ok (.istore 4, 2) := by decide +kernel
theorem dX9_years_27 : decode cX9_years 27 = .ok (.iload 4, 2) := by decide +kernel
theorem dX9_years_29 : decode cX9_years 29 = .ok (.iload_n 1, 1) := by decide +kernel
theorem dX9_years_30 : decode cX9_years 30 = .ok (.if_icmp .ge 13, 3) := by decide +kernel
theorem dX9_years_33 : decode cX9_years 33 = .ok (.aload_n 0, 1) := by decide +kernel
theorem dX9_years_34 : decode cX9_years 34 = .ok (.invokevirtual 360, 3) := by decide +kernel
theorem dX9_years_37 : decode cX9_years 37 = .ok (.iinc 4 1, 3) := by decide +kernel
theorem dX9_years_40 : decode cX9_years 40 = .ok (.goto (-13), 3) := by decide +kernel
theorem dX9_years_43 : decode cX9_years 43 = .ok (.aload_n 0, 1) := by decide +kernel
theorem dX9_years_44 : decode cX9_years 44 = .ok (.getfield 34, 3) := by decide +kernel
theorem dX9_years_47 : decode cX9_years 47 = .ok (.sipush 170, 3) := by decide +kernel
theorem dX9_years_50 : decode cX9_years 50 = .ok (.iaload, 1) := by decide +kernel
theorem dX9_years_51 : decode cX9_years 51 = .ok (.ireturn, 1) := by decide +kernel
theorem dX9_status_0 : decode cX9_status 0 = .ok (.iload_n 1, 1) := by decide +kernel
theorem dX9_status_1 : decode cX9_status 1 = .ok (.iconst 0, 1) := by decide +kernel
theorem dX9_status_2 : decode cX9_status 2 = .ok (.iconst 3, 1) := by decide +kernel
theorem dX9_status_3 : decode cX9_status 3 = .ok (.invokestatic 76, 3) := by decide +kernel
theorem dX9_status_6 : decode cX9_status 6 = .ok (.ifCond .eq 12, 3) := by decide +kernel
theorem dX9_status_9 : decode cX9_status 9 = .ok (.aload_n 0, 1) := by decide +kernel
theorem dX9_status_10 : decode cX9_status 10 = .ok (.getfield 37, 3) := by decide +kernel
theorem dX9_status_13 : decode cX9_status 13 = .ok (.iload_n 1, 1) := by decide +kernel
theorem dX9_status_14 : decode cX9_status 14 = .ok (.iaload, 1) := by decide +kernel
theorem dX9_status_15 : decode cX9_status 15 = .ok (.goto 4, 3) := by decide +kernel
theorem dX9_status_18 : decode cX9_status 18 = .ok (.iconst (-1), 1) := by decide +kernel
theorem dX9_status_19 : decode cX9_status 19 = .ok (.ireturn, 1) := by decide +kernel
theorem dX9_undo_0 : decode cX9_undo 0 = .ok (.aload_n 0, 1) := by decide +kernel
theorem dX9_undo_1 : decode cX9_undo 1 = .ok (.getfield 178, 3) := by decide +kernel
theorem dX9_undo_4 : decode cX9_undo 4 = .ok (.ifCond .ne 5, 3) := by decide +kernel
theorem dX9_undo_7 : decode cX9_undo 7 = .ok (.iconst (-1), 1) := by decide +kernel
theorem dX9_undo_8 : decode cX9_undo 8 = .ok (.ireturn, 1) := by decide +kernel
theorem dX9_undo_9 : decode cX9_undo 9 = .ok (.aload_n 0, 1) := by decide +kernel
theorem dX9_undo_10 : decode cX9_undo 10 = .ok (.dup, 1) := by decide +kernel
theorem dX9_undo_11 : decode cX9_undo 11 = .ok (.getfield 178, 3) := by decide +kernel
theorem dX9_undo_14 : decode cX9_undo 14 = .ok (.iconst 1, 1) := by decide +kernel
theorem dX9_undo_15 : decode cX9_undo 15 = .ok (.isub, 1) := by decide +kernel
theorem dX9_undo_16 : decode cX9_undo 16 = .ok (.putfield 178, 3) := by decide +kernel
theorem dX9_undo_19 : decode cX9_undo 19 = .ok (.iconst 0, 1) := by decide +kernel
theorem dX9_undo_20 : decode cX9_undo 20 = .ok (.istore_n 1, 1) := by decide +kernel
theorem dX9_undo_21 : decode cX9_undo 21 = .ok (.iload_n 1, 1) := by decide +kernel
theorem dX9_undo_22 : decode cX9_undo 22 = .ok (.sipush 353, 3) := by decide +kernel
theorem dX9_undo_25 : decode cX9_undo 25 = .ok (.if_icmp .ge 30, 3) := by decide +kernel
theorem dX9_undo_28 : decode cX9_undo 28 = .ok (.aload_n 0, 1) := by decide +kernel
theorem dX9_undo_29 : decode cX9_undo 29 = .ok (.getfield 34, 3) := by decide +kernel
theorem dX9_undo_32 : decode cX9_undo 32 = .ok (.iload_n 1, 1) := by decide +kernel
theorem dX9_undo_33 : decode cX9_undo 33 = .ok (.aload_n 0, 1) := by decide +kernel
theorem dX9_undo_34 : decode cX9_undo 34 = .ok (.getfield 46, 3) := by decide +kernel
theorem dX9_undo_37 : decode cX9_undo 37 = .ok (.sipush 353, 3) := by decide +kernel
theorem dX9_undo_40 : decode cX9_undo 40 = .ok (.aload_n 0, 1) := by decide +kernel
theorem dX9_undo_41 : decode cX9_undo 41 = .ok (.getfield 178, 3) := by decide +kernel
theorem dX9_undo_44 : decode cX9_undo 44 = .ok (.imul, 1) := by decide +kernel
theorem dX9_undo_45 : decode cX9_undo 45 = .ok (.iload_n 1, 1) := by decide +kernel
theorem dX9_undo_46 : decode cX9_undo 46 = .ok (.iadd, 1) := by decide +kernel
theorem dX9_undo_47 : decode cX9_undo 47 = .ok (.iaload, 1) := by decide +kernel
theorem dX9_undo_48 : decode cX9_undo 48 = .ok (.iastore, 1) := by decide +kernel
theorem dX9_undo_49 : decode cX9_undo 49 = .ok (.iinc 1 1, 3) := by decide +kernel
theorem dX9_undo_52 : decode cX9_undo 52 = .ok (.goto (-31), 3) := by decide +kernel
theorem dX9_undo_55 : decode cX9_undo 55 = .ok (.aload_n 0, 1) := by decide +kernel
theorem dX9_undo_56 : decode cX9_undo 56 = .ok (.getfield 178, 3) := by decide +kernel
theorem dX9_undo_59 : decode cX9_undo 59 = .ok (.ireturn, 1) := by decide +kernel
theorem dX9_log_0 : decode cX9_log 0 = .ok (.iload_n 1, 1) := by decide +kernel
theorem dX9_log_1 : decode cX9_log 1 = .ok (.iconst 0, 1) := by decide +kernel
theorem dX9_log_2 : decode cX9_log 2 = .ok (.aload_n 0, 1) := by decide +kernel
theorem dX9_log_3 : decode cX9_log 3 = .ok (.getfield 34, 3) := by decide +kernel
theorem dX9_log_6 : decode cX9_log 6 = .ok (.sipush 172, 3) := by decide +kernel
theorem dX9_log_9 : decode cX9_log 9 = .ok (.iaload, 1) := by decide +kernel
theorem dX9_log_10 : decode cX9_log 10 = .ok (.iconst 1, 1) := by decide +kernel
theorem dX9_log_11 : decode cX9_log 11 = .ok (.isub, 1) := by decide +kernel
theorem dX9_log_12 : decode cX9_log 12 = .ok (.invokestatic 76, 3) := by decide +kernel
theorem dX9_log_15 : decode cX9_log 15 = .ok (.ifCond .eq 40, 3) := by decide +kernel
theorem dX9_log_18 : decode cX9_log 18 = .ok (.iload_n 2, 1) := by decide +kernel
theorem dX9_log_19 : decode cX9_log 19 = .ok (.iconst 0, 1) := by decide +kernel
theorem dX9_log_20 : decode cX9_log 20 = .ok (.iconst 2, 1) := by decide +kernel
theorem dX9_log_21 : decode cX9_log 21 = .ok (.invokestatic 76, 3) := by decide +kernel
theorem dX9_log_24 : decode cX9_log 24 = .ok (.ifCond .eq 31, 3) := by decide +kernel
theorem dX9_log_27 : decode cX9_log 27 = .ok (.aload_n 0, 1) := by decide +kernel
theorem dX9_log_28 : decode cX9_log 28 = .ok (.getfield 34, 3) := by decide +kernel
theorem dX9_log_31 : decode cX9_log 31 = .ok (.sipush 173, 3) := by decide +kernel
theorem dX9_log_34 : decode cX9_log 34 = .ok (.iconst 3, 1) := by decide +kernel
theorem dX9_log_35 : decode cX9_log 35 = .ok (.aload_n 0, 1) := by decide +kernel
theorem dX9_log_36 : decode cX9_log 36 = .ok (.getfield 34, 3) := by decide +kernel
theorem dX9_log_39 : decode cX9_log 39 = .ok (.sipush 172, 3) := by decide +kernel
theorem dX9_log_42 : decode cX9_log 42 = .ok (.iaload, 1) := by decide +kernel
theorem dX9_log_43 : decode cX9_log 43 = .ok (.iconst 1, 1) := by decide +kernel
theorem dX9_log_44 : decode cX9_log 44 = .ok (.isub, 1) := by decide +kernel
theorem dX9_log_45 : decode cX9_log 45 = .ok (.iload_n 1, 1) := by decide +kernel
theorem dX9_log_46 : decode cX9_log 46 = .ok (.isub, 1) := by decide +kernel
theorem dX9_log_47 : decode cX9_log 47 = .ok (.imul, 1) := by decide +kernel
theorem dX9_log_48 : decode cX9_log 48 = .ok (.iadd, 1) := by decide +kernel
theorem dX9_log_49 : decode cX9_log 49 = .ok (.iload_n 2, 1) := by decide +kernel
theorem dX9_log_50 : decode cX9_log 50 = .ok (.iadd, 1) := by decide +kernel
theorem dX9_log_51 : decode cX9_log 51 = .ok (.iaload, 1) := by decide +kernel
theorem dX9_log_52 : decode cX9_log 52 = .ok (.goto 6, 3) := by decide +kernel
theorem dX9_log_55 : decode cX9_log 55 = .ok (.ldc_w 363, 3) := by decide +kernel
theorem dX9_log_58 : decode cX9_log 58 = .ok (.ireturn, 1) := by decide +kernel
theorem dX9_rule_0 : decode cX9_rule 0 = .ok (.aload_n 0, 1) := by decide +kernel
theorem dX9_rule_1 : decode cX9_rule 1 = .ok (.invokevirtual 156, 3) := by decide +kernel
theorem dX9_rule_4 : decode cX9_rule 4 = .ok (.ifCond .eq 13, 3) := by decide +kernel
theorem dX9_rule_7 : decode cX9_rule 7 = .ok (.iload_n 1, 1) := by decide +kernel
theorem dX9_rule_8 : decode cX9_rule 8 = .ok (.iconst 0, 1) := by decide +kernel
theorem dX9_rule_9 : decode cX9_rule 9 = .ok (.bipush 8, 2) := by decide +kernel
theorem dX9_rule_11 : decode cX9_rule 11 = .ok (.invokestatic 76, 3) := by decide +kernel
theorem dX9_rule_14 : decode cX9_rule 14 = .ok (.ifCond .ne 7, 3) := by decide +kernel
theorem dX9_rule_17 : decode cX9_rule 17 = .ok (.iconst (-1), 1) := by decide +kernel
theorem dX9_rule_18 : decode cX9_rule 18 = .ok (.goto 22, 3) := by decide +kernel
theorem dX9_rule_21 : decode cX9_rule 21 = .ok (.iload_n 1, 1) := by decide +kernel
theorem dX9_rule_22 : decode cX9_rule 22 = .ok (.bipush 8, 2) := by decide +kernel
theorem dX9_rule_24 : decode cX9_rule 24 = .ok (.if_icmp .ne 10, 3) := by decide +kernel
theorem dX9_rule_27 : decode cX9_rule 27 = .ok (.aload_n 0, 1) := by decide +kernel
theorem dX9_rule_28 : decode cX9_rule 28 = .ok (.invokevirtual 172, 3) := by decide +kernel
