theorem dX0_init_0 : decode cX0_init 0 = .ok (.aload_n 0, 1) := by decide +kernel
theorem dX0_init_1 : decode cX0_init 1 = .ok (.invokespecial 3, 3) := by decide +kernel
theorem dX0_init_4 : decode cX0_init 4 = .ok (.aload_n 0, 1) := by decide +kernel
theorem dX0_init_5 : decode cX0_init 5 = .ok (.sipush 240, 3) := by decide +kernel
theorem dX0_init_8 : decode cX0_init 8 = .ok (.newarray .int, 2) := by decide +kernel
theorem dX0_init_10 : decode cX0_init 10 = .ok (.putfield 9, 3) := by decide +kernel
theorem dX0_init_13 : decode cX0_init 13 = .ok (.return_, 1) := by decide +kernel
theorem dX0_signsIn_0 : decode cX0_signsIn 0 = .ok (.iconst 0, 1) := by decide +kernel
theorem dX0_signsIn_1 : decode cX0_signsIn 1 = .ok (.istore_n 1, 1) := by decide +kernel
theorem dX0_signsIn_2 : decode cX0_signsIn 2 = .ok (.bipush 24, 2) := by decide +kernel
theorem dX0_signsIn_4 : decode cX0_signsIn 4 = .ok (.istore_n 2, 1) := by decide +kernel
theorem dX0_signsIn_5 : decode cX0_signsIn 5 = .ok (.iload_n 2, 1) := by decide +kernel
theorem dX0_signsIn_6 : decode cX0_signsIn 6 = .ok (.ifCond .lt 27, 3) := by decide +kernel
theorem dX0_signsIn_9 : decode cX0_signsIn 9 = .ok (.iload_n 1, 1) := by decide +kernel
theorem dX0_signsIn_10 : decode cX0_signsIn 10 = .ok (.iload_n 0, 1) := by decide +kernel
theorem dX0_signsIn_11 : decode cX0_signsIn 11 = .ok (.iload_n 2, 1) := by decide +kernel
theorem dX0_signsIn_12 : decode cX0_signsIn 12 = .ok (.iushr, 1) := by decide +kernel
theorem dX0_signsIn_13 : decode cX0_signsIn 13 = .ok (.sipush 255, 3) := by decide +kernel
theorem dX0_signsIn_16 : decode cX0_signsIn 16 = .ok (.iand, 1) := by decide +kernel
theorem dX0_signsIn_17 : decode cX0_signsIn 17 = .ok (.ifCond .ne 7, 3) := by decide +kernel
theorem dX0_signsIn_20 : decode cX0_signsIn 20 = .ok (.iconst 0, 1) := by decide +kernel
theorem dX0_signsIn_21 : decode cX0_signsIn 21 = .ok (.goto 4, 3) := by decide +kernel
theorem dX0_signsIn_24 : decode cX0_signsIn 24 = .ok (.iconst 1, 1) := by decide +kernel
theorem dX0_signsIn_25 : decode cX0_signsIn 25 = .ok (.iadd, 1) := by decide +kernel
theorem dX0_signsIn_26 : decode cX0_signsIn 26 = .ok (.istore_n 1, 1) := by decide +kernel
theorem dX0_signsIn_27 : decode cX0_signsIn 27 = .ok (.iinc 2 (-8), 3) := by decide +kernel
theorem dX0_signsIn_30 : decode cX0_signsIn 30 = .ok (.goto (-25), 3) := by decide +kernel
theorem dX0_signsIn_33 : decode cX0_signsIn 33 = .ok (.iload_n 1, 1) := by decide +kernel
theorem dX0_signsIn_34 : decode cX0_signsIn 34 = .ok (.ireturn, 1) := by decide +kernel
theorem dX0_add_0 : decode cX0_add 0 = .ok (.bipush 24, 2) := by decide +kernel
theorem dX0_add_2 : decode cX0_add 2 = .ok (.istore_n 2, 1) := by decide +kernel
theorem dX0_add_3 : decode cX0_add 3 = .ok (.iload_n 2, 1) := by decide +kernel
theorem dX0_add_4 : decode cX0_add 4 = .ok (.ifCond .lt 51, 3) := by decide +kernel
theorem dX0_add_7 : decode cX0_add 7 = .ok (.iload_n 1, 1) := by decide +kernel
theorem dX0_add_8 : decode cX0_add 8 = .ok (.iload_n 2, 1) := by decide +kernel
theorem dX0_add_9 : decode cX0_add 9 = .ok (.iushr, 1) := by decide +kernel
theorem dX0_add_10 : decode cX0_add 10 = .ok (.sipush 255, 3) := by decide +kernel
theorem dX0_add_13 : decode cX0_add 13 = .ok (.iand, 1) := by decide +kernel
theorem dX0_add_14 : decode cX0_add 14 = .ok (.istore_n 3, 1) := by decide +kernel
theorem dX0_add_15 : decode cX0_add 15 = .ok (.iload_n 3, 1) := by decide +kernel
theorem dX0_add_16 : decode cX0_add 16 = .ok (.ifCond .eq 33, 3) := by decide +kernel
theorem dX0_add_19 : decode cX0_add 19 = .ok (.aload_n 0, 1) := by decide +kernel
theorem dX0_add_20 : decode cX0_add 20 = .ok (.getfield 15, 3) := by decide +kernel
theorem dX0_add_23 : decode cX0_add 23 = .ok (.sipush 240, 3) := by decide +kernel
theorem dX0_add_26 : decode cX0_add 26 = .ok (.if_icmp .ge 23, 3) := by decide +kernel
theorem dX0_add_29 : decode cX0_add 29 = .ok (.aload_n 0, 1) := by decide +kernel
theorem dX0_add_30 : decode cX0_add 30 = .ok (.getfield 9, 3) := by decide +kernel
theorem dX0_add_33 : decode cX0_add 33 = .ok (.aload_n 0, 1) := by decide +kernel
theorem dX0_add_34 : decode cX0_add 34 = .ok (.getfield 15, 3) := by decide +kernel
theorem dX0_add_37 : decode cX0_add 37 = .ok (.iload_n 3, 1) := by decide +kernel
theorem dX0_add_38 : decode cX0_add 38 = .ok (.iastore, 1) := by decide +kernel
theorem dX0_add_39 : decode cX0_add 39 = .ok (.aload_n 0, 1) := by decide +kernel
theorem dX0_add_40 : decode cX0_add 40 = .ok (.dup, 1) := by decide +kernel
theorem dX0_add_41 : decode cX0_add 41 = .ok (.getfield 15, 3) := by decide +kernel
theorem dX0_add_44 : decode cX0_add 44 = .ok (.iconst 1, 1) := by decide +kernel
theorem dX0_add_45 : decode cX0_add 45 = .ok (.iadd, 1) := by decide +kernel
theorem dX0_add_46 : decode cX0_add 46 = .ok (.putfield 15, 3) := by decide +kernel
theorem dX0_add_49 : decode cX0_add 49 = .ok (.iinc 2 (-8), 3) := by decide +kernel
theorem dX0_add_52 : decode cX0_add 52 = .ok (.goto (-49), 3) := by decide +kernel
theorem dX0_add_55 : decode cX0_add 55 = .ok (.return_, 1) := by decide +kernel
theorem dX0_signAt_0 : decode cX0_signAt 0 = .ok (.iload_n 1, 1) := by decide +kernel
theorem dX0_signAt_1 : decode cX0_signAt 1 = .ok (.ifCond .lt 27, 3) := by decide +kernel
theorem dX0_signAt_4 : decode cX0_signAt 4 = .ok (.iload_n 1, 1) := by decide +kernel
theorem dX0_signAt_5 : decode cX0_signAt 5 = .ok (.aload_n 0, 1) := by decide +kernel
theorem dX0_signAt_6 : decode cX0_signAt 6 = .ok (.getfield 15, 3) := by decide +kernel
theorem dX0_signAt_9 : decode cX0_signAt 9 = .ok (.if_icmp .ge 19, 3) := by decide +kernel
theorem dX0_signAt_12 : decode cX0_signAt 12 = .ok (.iload_n 1, 1) := by decide +kernel
theorem dX0_signAt_13 : decode cX0_signAt 13 = .ok (.sipush 240, 3) := by decide +kernel
theorem dX0_signAt_16 : decode cX0_signAt 16 = .ok (.if_icmp .ge 12, 3) := by decide +kernel
theorem dX0_signAt_19 : decode cX0_signAt 19 = .ok (.aload_n 0, 1) := by decide +kernel
theorem dX0_signAt_20 : decode cX0_signAt 20 = .ok (.getfield 9, 3) := by decide +kernel
theorem dX0_signAt_23 : decode cX0_signAt 23 = .ok (.iload_n 1, 1) := by decide +kernel
theorem dX0_signAt_24 : decode cX0_signAt 24 = .ok (.iaload, 1) := by decide +kernel
theorem dX0_signAt_25 : decode cX0_signAt 25 = .ok (.goto 4, 3) := by decide +kernel
theorem dX0_signAt_28 : decode cX0_signAt 28 = .ok (.iconst (-1), 1) := by decide +kernel
theorem dX0_signAt_29 : decode cX0_signAt 29 = .ok (.ireturn, 1) := by decide +kernel
theorem dX1_init_0 : decode cX1_init 0 = .ok (.aload_n 0, 1) := by decide +kernel
theorem dX1_init_1 : decode cX1_init 1 = .ok (.invokespecial 3, 3) := by decide +kernel
theorem dX1_init_4 : decode cX1_init 4 = .ok (.aload_n 0, 1) := by decide +kernel
theorem dX1_init_5 : decode cX1_init 5 = .ok (.sipush 300, 3) := by decide +kernel
theorem dX1_init_8 : decode cX1_init 8 = .ok (.newarray .int, 2) := by decide +kernel
theorem dX1_init_10 : decode cX1_init 10 = .ok (.putfield 11, 3) := by decide +kernel
theorem dX1_init_13 : decode cX1_init 13 = .ok (.return_, 1) := by decide +kernel
theorem dX1_clear_0 : decode cX1_clear 0 = .ok (.aload_n 0, 1) := by decide +kernel
theorem dX1_clear_1 : decode cX1_clear 1 = .ok (.iconst 0, 1) := by decide +kernel
theorem dX1_clear_2 : decode cX1_clear 2 = .ok (.putfield 15, 3) := by decide +kernel
theorem dX1_clear_5 : decode cX1_clear 5 = .ok (.return_, 1) := by decide +kernel
theorem dX1_add_0 : decode cX1_add 0 = .ok (.aload_n 0, 1) := by decide +kernel
theorem dX1_add_1 : decode cX1_add 1 = .ok (.getfield 15, 3) := by decide +kernel
theorem dX1_add_4 : decode cX1_add 4 = .ok (.bipush 100, 2) := by decide +kernel
theorem dX1_add_6 : decode cX1_add 6 = .ok (.irem, 1) := by decide +kernel
theorem dX1_add_7 : decode cX1_add 7 = .ok (.iconst 3, 1) := by decide +kernel
theorem dX1_add_8 : decode cX1_add 8 = .ok (.imul, 1) := by decide +kernel
theorem dX1_add_9 : decode cX1_add 9 = .ok (.istore 4, 2) := by decide +kernel
theorem dX1_add_11 : decode cX1_add 11 = .ok (.aload_n 0, 1) := by decide +kernel
theorem dX1_add_12 : decode cX1_add 12 = .ok (.getfield 11, 3) := by decide +kernel
theorem dX1_add_15 : decode cX1_add 15 = .ok (.iload 4, 2) := by decide +kernel
theorem dX1_add_17 : decode cX1_add 17 = .ok (.iload_n 1, 1) := by decide +kernel
theorem dX1_add_18 : decode cX1_add 18 = .ok (.iastore, 1) := by decide +kernel
theorem dX1_add_19 : decode cX1_add 19 = .ok (.aload_n 0, 1) := by decide +kernel
theorem dX1_add_20 : decode cX1_add 20 = .ok (.getfield 11, 3) := by decide +kernel
theorem dX1_add_23 : decode cX1_add 23 = .ok (.iload 4, 2) := by decide +kernel
theorem dX1_add_25 : decode cX1_add 25 = .ok (.iconst 1, 1) := by decide +kernel
theorem dX1_add_26 : decode cX1_add 26 = .ok (.iadd, 1) := by decide +kernel
theorem dX1_add_27 : decode cX1_add 27 = .ok (.iload_n 2, 1) := by decide +kernel
theorem dX1_add_28 : decode cX1_add 28 = .ok (.iastore, 1) := by decide +kernel
theorem dX1_add_29 : decode cX1_add 29 = .ok (.aload_n 0, 1) := by decide +kernel
theorem dX1_add_30 : decode cX1_add 30 = .ok (.getfield 11, 3) := by decide +kernel
theorem dX1_add_33 : decode cX1_add 33 = .ok (.iload 4, 2) := by decide +kernel
theorem dX1_add_35 : decode cX1_add 35 = .ok (.iconst 2, 1) := by decide +kernel
theorem dX1_add_36 : decode cX1_add 36 = .ok (.iadd, 1) := by decide +kernel
theorem dX1_add_37 : decode cX1_add 37 = .ok (.iload_n 3, 1) := by decide +kernel
theorem dX1_add_38 : decode cX1_add 38 = .ok (.iastore, 1) := by decide +kernel
theorem dX1_add_39 : decode cX1_add 39 = .ok (.aload_n 0, 1) := by decide +kernel
theorem dX1_add_40 : decode cX1_add 40 = .ok (.dup, 1) := by decide +kernel
theorem dX1_add_41 : decode cX1_add 41 = .ok (.getfield 15, 3) := by decide +kernel
theorem dX1_add_44 : decode cX1_add 44 = .ok (.iconst 1, 1) := by decide +kernel
theorem dX1_add_45 : decode cX1_add 45 = .ok (.iadd, 1) := by decide +kernel
theorem dX1_add_46 : decode cX1_add 46 = .ok (.putfield 15, 3) := by decide +kernel
theorem dX1_add_49 : decode cX1_add 49 = .ok (.return_, 1) := by decide +kernel
theorem dX1_takeBack_0 : decode cX1_takeBack 0 = .ok (.aload_n 0, 1) := by decide +kernel
theorem dX1_takeBack_1 : decode cX1_takeBack 1 = .ok (.aload_n 0, 1) := by decide +kernel
theorem dX1_takeBack_2 : decode cX1_takeBack 2 = .ok (.getfield 15, 3) := by decide +kernel
theorem dX1_takeBack_5 : decode cX1_takeBack 5 = .ok (.iconst 1, 1) := by decide +kernel
theorem dX1_takeBack_6 : decode cX1_takeBack 6 = .ok (.isub, 1) := by decide +kernel
theorem dX1_takeBack_7 : decode cX1_takeBack 7 = .ok (.iconst 0, 1) := by decide +kernel
theorem dX1_takeBack_8 : decode cX1_takeBack 8 = .ok (.invokestatic 19, 3) := by decide +kernel
theorem dX1_takeBack_11 : decode cX1_takeBack 11 = .ok (.putfield 15, 3) := by decide +kernel
theorem dX1_takeBack_14 : decode cX1_takeBack 14 = .ok (.return_, 1) := by decide +kernel
theorem dX1_length_0 : decode cX1_length 0 = .ok (.aload_n 0, 1) := by decide +kernel
theorem dX1_length_1 : decode cX1_length 1 = .ok (.getfield 15, 3) := by decide +kernel
theorem dX1_length_4 : decode cX1_length 4 = .ok (.bipush 60, 2) := by decide +kernel
theorem dX1_length_6 : decode cX1_length 6 = .ok (.invokestatic 25, 3) := by decide +kernel
theorem dX1_length_9 : decode cX1_length 9 = .ok (.ireturn, 1) := by decide +kernel
theorem dX1_numberAt_0 : decode cX1_numberAt 0 = .ok (.iload_n 1, 1) := by decide +kernel
theorem dX1_numberAt_1 : decode cX1_numberAt 1 = .ok (.ifCond .lt 11, 3) := by decide +kernel
theorem dX1_numberAt_4 : decode cX1_numberAt 4 = .ok (.iload_n 1, 1) := by decide +kernel
theorem dX1_numberAt_5 : decode cX1_numberAt 5 = .ok (.aload_n 0, 1) := by decide +kernel
theorem dX1_numberAt_6 : decode cX1_numberAt 6 = .ok (.getfield 15, 3) := by decide +kernel
theorem dX1_numberAt_9 : decode cX1_numberAt 9 = .ok (.if_icmp .lt 8, 3) := by decide +kernel
theorem dX1_numberAt_12 : decode cX1_numberAt 12 = .ok (.ldc 28, 2) := by decide +kernel
theorem dX1_numberAt_14 : decode cX1_numberAt 14 = .ok (.goto 23, 3) := by decide +kernel
theorem dX1_numberAt_17 : decode cX1_numberAt 17 = .ok (.aload_n 0, 1) := by decide +kernel
theorem dX1_numberAt_18 : decode cX1_numberAt 18 = .ok (.getfield 11, 3) := by decide +kernel
theorem dX1_numberAt_21 : decode cX1_numberAt 21 = .ok (.aload_n 0, 1) := by decide +kernel
theorem dX1_numberAt_22 : decode cX1_numberAt 22 = .ok (.getfield 15, 3) := by decide +kernel
theorem dX1_numberAt_25 : decode cX1_numberAt 25 = .ok (.iconst 1, 1) := by decide +kernel
theorem dX1_numberAt_26 : decode cX1_numberAt 26 = .ok (.isub, 1) := by decide +kernel
theorem dX1_numberAt_27 : decode cX1_numberAt 27 = .ok (.iload_n 1, 1) := by decide +kernel
theorem dX1_numberAt_28 : decode cX1_numberAt 28 = .ok (.isub, 1) := by decide +kernel
theorem dX1_numberAt_29 : decode cX1_numberAt 29 = .ok (.bipush 100, 2) := by decide +kernel
theorem dX1_numberAt_31 : decode cX1_numberAt 31 = .ok (.irem, 1) := by decide +kernel
theorem dX1_numberAt_32 : decode cX1_numberAt 32 = .ok (.iconst 3, 1) := by decide +kernel
theorem dX1_numberAt_33 : decode cX1_numberAt 33 = .ok (.imul, 1) := by decide +kernel
theorem dX1_numberAt_34 : decode cX1_numberAt 34 = .ok (.iload_n 2, 1) := by decide +kernel
theorem dX1_numberAt_35 : decode cX1_numberAt 35 = .ok (.iadd, 1) := by decide +kernel
theorem dX1_numberAt_36 : decode cX1_numberAt 36 = .ok (.iaload, 1) := by decide +kernel
theorem dX1_numberAt_37 : decode cX1_numberAt 37 = .ok (.ireturn, 1) := by decide +kernel
theorem dX1_become_0 : decode cX1_become 0 = .ok (.aload_n 0, 1) := by decide +kernel
theorem dX1_become_1 : decode cX1_become 1 = .ok (.aload_n 1, 1) := by decide +kernel
theorem dX1_become_2 : decode cX1_become 2 = .ok (.getfield 15, 3) := by decide +kernel
theorem dX1_become_5 : decode cX1_become 5 = .ok (.putfield 15, 3) := by decide +kernel
theorem dX1_become_8 : decode cX1_become 8 = .ok (.aload_n 1, 1) := by decide +kernel
theorem dX1_become_9 : decode cX1_become 9 = .ok (.getfield 11, 3) := by decide +kernel
theorem dX1_become_12 : decode cX1_become 12 = .ok (.iconst 0, 1) := by decide +kernel
theorem dX1_become_13 : decode cX1_become 13 = .ok (.aload_n 0, 1) := by decide +kernel
theorem dX1_become_14 : decode cX1_become 14 = .ok (.getfield 11, 3) := by decide +kernel
theorem dX1_become_17 : decode cX1_become 17 = .ok (.iconst 0, 1) := by decide +kernel
theorem dX1_become_18 : decode cX1_become 18 = .ok (.sipush 300, 3) := by decide +kernel
theorem dX1_become_21 : decode cX1_become 21 = .ok (.invokestatic 29, 3) := by decide +kernel
theorem dX1_become_24 : decode cX1_become 24 = .ok (.return_, 1) := by decide +kernel
theorem dX2_init_0 : decode cX2_init 0 = .ok (.aload_n 0, 1) := by decide +kernel
theorem dX2_init_1 : decode cX2_init 1 = .ok (.invokespecial 3, 3) := by decide +kernel
theorem dX2_init_4 : decode cX2_init 4 = .ok (.aload_n 0, 1) := by decide +kernel
theorem dX2_init_5 : decode cX2_init 5 = .ok (.bipush 12, 2) := by decide +kernel
theorem dX2_init_7 : decode cX2_init 7 = .ok (.newarray .int, 2) := by decide +kernel
theorem dX2_init_9 : decode cX2_init 9 = .ok (.putfield 9, 3) := by decide +kernel
theorem dX2_init_12 : decode cX2_init 12 = .ok (.aload_n 0, 1) := by decide +kernel
theorem dX2_init_13 : decode cX2_init 13 = .ok (.bipush 12, 2) := by decide +kernel
theorem dX2_init_15 : decode cX2_init 15 = .ok (.newarray .int, 2) := by decide +kernel
theorem dX2_init_17 : decode cX2_init 17 = .ok (.putfield 15, 3) := by decide +kernel
theorem dX2_init_20 : decode cX2_init 20 = .ok (.aload_n 0, 1) := by decide +kernel
theorem dX2_init_21 : decode cX2_init 21 = .ok (.bipush 12, 2) := by decide +kernel
theorem dX2_init_23 : decode cX2_init 23 = .ok (.newarray .int, 2) := by decide +kernel
theorem dX2_init_25 : decode cX2_init 25 = .ok (.putfield 18, 3) := by decide +kernel
theorem dX2_init_28 : decode cX2_init 28 = .ok (.aload_n 0, 1) := by decide +kernel
theorem dX2_init_29 : decode cX2_init 29 = .ok (.bipush 12, 2) := by decide +kernel
theorem dX2_init_31 : decode cX2_init 31 = .ok (.newarray .int, 2) := by decide +kernel
theorem dX2_init_33 : decode cX2_init 33 = .ok (.putfield 21, 3) := by decide +kernel
theorem dX2_init_36 : decode cX2_init 36 = .ok (.aload_n 0, 1) := by decide +kernel
theorem dX2_init_37 : decode cX2_init 37 = .ok (.bipush 12, 2) := by decide +kernel
theorem dX2_init_39 : decode cX2_init 39 = .ok (.newarray .int, 2) := by decide +kernel
theorem dX2_init_41 : decode cX2_init 41 = .ok (.putfield 24, 3) := by decide +kernel
theorem dX2_init_44 : decode cX2_init 44 = .ok (.aload_n 0, 1) := by decide +kernel
theorem dX2_init_45 : decode cX2_init 45 = .ok (.sipush 144, 3) := by decide +kernel
theorem dX2_init_48 : decode cX2_init 48 = .ok (.newarray .int, 2) := by decide +kernel
theorem dX2_init_50 : decode cX2_init 50 = .ok (.putfield 27, 3) := by decide +kernel
theorem dX2_init_53 : decode cX2_init 53 = .ok (.aload_n 0, 1) := by decide +kernel
theorem dX2_init_54 : decode cX2_init 54 = .ok (.iconst 0, 1) := by decide +kernel
theorem dX2_init_55 : decode cX2_init 55 = .ok (.newarray .int, 2) := by decide +kernel
theorem dX2_init_57 : decode cX2_init 57 = .ok (.putfield 30, 3) := by decide +kernel
theorem dX2_init_60 : decode cX2_init 60 = .ok (.aload_n 0, 1) := by decide +kernel
theorem dX2_init_61 : decode cX2_init 61 = .ok (.aload_n 1, 1) := by decide +kernel
theorem dX2_init_62 : decode cX2_init 62 = .ok (.putfield 33, 3) := by decide +kernel
theorem dX2_init_65 : decode cX2_init 65 = .ok (.return_, 1) := by decide +kernel
theorem dX2_gather_0 : decode cX2_gather 0 = .ok (.aload_n 0, 1) := by decide +kernel
theorem dX2_gather_1 : decode cX2_gather 1 = .ok (.iconst 0, 1) := by decide +kernel
theorem dX2_gather_2 : decode cX2_gather 2 = .ok (.putfield 37, 3) := by decide +kernel
theorem dX2_gather_5 : decode cX2_gather 5 = .ok (.aload_n 0, 1) := by decide +kernel
theorem dX2_gather_6 : decode cX2_gather 6 = .ok (.aload_n 1, 1) := by decide +kernel
theorem dX2_gather_7 : decode cX2_gather 7 = .ok (.getfield 41, 3) := by decide +kernel
theorem dX2_gather_10 : decode cX2_gather 10 = .ok (.iload_n 2, 1) := by decide +kernel
theorem dX2_gather_11 : decode cX2_gather 11 = .ok (.iaload, 1) := by decide +kernel
theorem dX2_gather_12 : decode cX2_gather 12 = .ok (.putfield 46, 3) := by decide +kernel
theorem dX2_gather_15 : decode cX2_gather 15 = .ok (.iconst 0, 1) := by decide +kernel
theorem dX2_gather_16 : decode cX2_gather 16 = .ok (.istore_n 3, 1) := by decide +kernel
theorem dX2_gather_17 : decode cX2_gather 17 = .ok (.iload_n 3, 1) := by decide +kernel
theorem dX2_gather_18 : decode cX2_gather 18 = .ok (.aload_n 1, 1) := by decide +kernel
theorem dX2_gather_19 : decode cX2_gather 19 = .ok (.getfield 48, 3) := by decide +kernel
theorem dX2_gather_22 : decode cX2_gather 22 = .ok (.if_icmp .ge 102, 3) := by decide +kernel
theorem dX2_gather_25 : decode cX2_gather 25 = .ok (.aload_n 0, 1) := by decide +kernel
theorem dX2_gather_26 : decode cX2_gather 26 = .ok (.getfield 37, 3) := by decide +kernel
theorem dX2_gather_29 : decode cX2_gather 29 = .ok (.bipush 12, 2) := by decide +kernel
theorem dX2_gather_31 : decode cX2_gather 31 = .ok (.if_icmp .ge 93, 3) := by decide +kernel
theorem dX2_gather_34 : decode cX2_gather 34 = .ok (.aload_n 1, 1) := by decide +kernel
theorem dX2_gather_35 : decode cX2_gather 35 = .ok (.getfield 51, 3) := by decide +kernel
theorem dX2_gather_38 : decode cX2_gather 38 = .ok (.iload_n 3, 1) := by decide +kernel
theorem dX2_gather_39 : decode cX2_gather 39 = .ok (.iaload, 1) := by decide +kernel
theorem dX2_gather_40 : decode cX2_gather 40 = .ok (.iload_n 2, 1) := by decide +kernel
theorem dX2_gather_41 : decode cX2_gather 41 = .ok (.if_icmp .ne 77, 3) := by decide +kernel
theorem dX2_gather_44 : decode cX2_gather 44 = .ok (.aload_n 1, 1) := by decide +kernel
theorem dX2_gather_45 : decode cX2_gather 45 = .ok (.getfield 54, 3) := by decide +kernel
theorem dX2_gather_48 : decode cX2_gather 48 = .ok (.iload_n 3, 1) := by decide +kernel
theorem dX2_gather_49 : decode cX2_gather 49 = .ok (.iaload, 1) := by decide +kernel
theorem dX2_gather_50 : decode cX2_gather 50 = .ok (.ifCond .eq 68, 3) := by decide +kernel
theorem dX2_gather_53 : decode cX2_gather 53 = .ok (.aload_n 0, 1) := by decide +kernel
theorem dX2_gather_54 : decode cX2_gather 54 = .ok (.getfield 9, 3) := by decide +kernel
theorem dX2_gather_57 : decode cX2_gather 57 = .ok (.aload_n 0, 1) := by decide +kernel
theorem dX2_gather_58 : decode cX2_gather 58 = .ok (.getfield 37, 3) := by decide +kernel
theorem dX2_gather_61 : decode cX2_gather 61 = .ok (.iload_n 3, 1) := by decide +kernel
theorem dX2_gather_62 : decode cX2_gather 62 = .ok (.iastore, 1) := by decide +kernel
theorem dX2_gather_63 : decode cX2_gather 63 = .ok (.aload_n 0, 1) := by decide +kernel
theorem dX2_gather_64 : decode cX2_gather 64 = .ok (.getfield 15, 3) := by decide +kernel
theorem dX2_gather_67 : decode cX2_gather 67 = .ok (.aload_n 0, 1) := by decide +kernel
theorem dX2_gather_68 : decode cX2_gather 68 = .ok (.getfield 37, 3) := by decide +kernel
theorem dX2_gather_71 : decode cX2_gather 71 = .ok (.aload_n 1, 1) := by decide +kernel
theorem dX2_gather_72 : decode cX2_gather 72 = .ok (.getfield 55, 3) := by decide +kernel
theorem dX2_gather_75 : decode cX2_gather 75 = .ok (.iload_n 3, 1) := by decide +kernel
theorem dX2_gather_76 : decode cX2_gather 76 = .ok (.iaload, 1) := by decide +kernel
theorem dX2_gather_77 : decode cX2_gather 77 = .ok (.iastore, 1) := by decide +kernel
theorem dX2_gather_78 : decode cX2_gather 78 = .ok (.aload_n 0, 1) := by decide +kernel
theorem dX2_gather_79 : decode cX2_gather 79 = .ok (.getfield 18, 3) := by decide +kernel
theorem dX2_gather_82 : decode cX2_gather 82 = .ok (.aload_n 0, 1) := by decide +kernel
theorem dX2_gather_83 : decode cX2_gather 83 = .ok (.getfield 37, 3) := by decide +kernel
theorem dX2_gather_86 : decode cX2_gather 86 = .ok (.aload_n 1, 1) := by decide +kernel
theorem dX2_gather_87 : decode cX2_gather 87 = .ok (.getfield 56, 3) := by decide +kernel
theorem dX2_gather_90 : decode cX2_gather 90 = .ok (.iload_n 3, 1) := by decide +kernel
theorem dX2_gather_91 : decode cX2_gather 91 = .ok (.iaload, 1) := by decide +kernel
theorem dX2_gather_92 : decode cX2_gather 92 = .ok (.iastore, 1) := by decide +kernel
theorem dX2_gather_93 : decode cX2_gather 93 = .ok (.aload_n 0, 1) := by decide +kernel
theorem dX2_gather_94 : decode cX2_gather 94 = .ok (.getfield 21, 3) := by decide +kernel
theorem dX2_gather_97 : decode cX2_gather 97 = .ok (.aload_n 0, 1) := by decide +kernel
theorem dX2_gather_98 : decode cX2_gather 98 = .ok (.getfield 37, 3) := by decide +kernel
theorem dX2_gather_101 : decode cX2_gather 101 = .ok (.aload_n 1, 1) := by decide +kernel
theorem dX2_gather_102 : decode cX2_gather 102 = .ok (.getfield 54, 3) := by decide +kernel
theorem dX2_gather_105 : decode cX2_gather 105 = .ok (.iload_n 3, 1) := by decide +kernel
theorem dX2_gather_106 : decode cX2_gather 106 = .ok (.iaload, 1) := by decide +kernel
theorem dX2_gather_107 : decode cX2_gather 107 = .ok (.iastore, 1) := by decide +kernel
theorem dX2_gather_108 : decode cX2_gather 108 = .ok (.aload_n 0, 1) := by decide +kernel
theorem dX2_gather_109 : decode cX2_gather 109 = .ok (.dup, 1) := by decide +kernel
theorem dX2_gather_110 : decode cX2_gather 110 = .ok (.getfield 37, 3) := by decide +kernel
theorem dX2_gather_113 : decode cX2_gather 113 = .ok (.iconst 1, 1) := by decide +kernel
theorem dX2_gather_114 : decode cX2_gather 114 = .ok (.iadd, 1) := by decide +kernel
theorem dX2_gather_115 : decode cX2_gather 115 = .ok (.putfield 37, 3) := by decide +kernel
theorem dX2_gather_118 : decode cX2_gather 118 = .ok (.iinc 3 1, 3) := by decide +kernel
theorem dX2_gather_121 : decode cX2_gather 121 = .ok (.goto (-104), 3) := by decide +kernel
theorem dX2_gather_124 : decode cX2_gather 124 = .ok (.return_, 1) := by decide +kernel
theorem dX2_fileAt_0 : decode cX2_fileAt 0 = .ok (.aload_n 0, 1) := by decide +kernel
theorem dX2_fileAt_1 : decode cX2_fileAt 1 = .ok (.getfield 9, 3) := by decide +kernel
theorem dX2_fileAt_4 : decode cX2_fileAt 4 = .ok (.aload_n 0, 1) := by decide +kernel
theorem dX2_fileAt_5 : decode cX2_fileAt 5 = .ok (.getfield 24, 3) := by decide +kernel
theorem dX2_fileAt_8 : decode cX2_fileAt 8 = .ok (.iload_n 1, 1) := by decide +kernel
theorem dX2_fileAt_9 : decode cX2_fileAt 9 = .ok (.iaload, 1) := by decide +kernel
theorem dX2_fileAt_10 : decode cX2_fileAt 10 = .ok (.iaload, 1) := by decide +kernel
theorem dX2_fileAt_11 : decode cX2_fileAt 11 = .ok (.ireturn, 1) := by decide +kernel
theorem dX2_arrangeBest_0 : decode cX2_arrangeBest 0 = .ok (.iconst 0, 1) := by decide +kernel
theorem dX2_arrangeBest_1 : decode cX2_arrangeBest 1 = .ok (.istore_n 1, 1) := by decide +kernel
theorem dX2_arrangeBest_2 : decode cX2_arrangeBest 2 = .ok (.aload_n 0, 1) := by decide +kernel
theorem dX2_arrangeBest_3 : decode cX2_arrangeBest 3 = .ok (.iconst 0, 1) := by decide +kernel
theorem dX2_arrangeBest_4 : decode cX2_arrangeBest 4 = .ok (.invokevirtual 57, 3) := by decide +kernel
theorem dX2_arrangeBest_7 : decode cX2_arrangeBest 7 = .ok (.istore_n 2, 1) := by decide +kernel
theorem dX2_arrangeBest_8 : decode cX2_arrangeBest 8 = .ok (.iconst 1, 1) := by decide +kernel
theorem dX2_arrangeBest_9 : decode cX2_arrangeBest 9 = .ok (.istore_n 3, 1) := by decide +kernel
theorem dX2_arrangeBest_10 : decode cX2_arrangeBest 10 = .ok (.iload_n 3, 1) := by decide +kernel
theorem dX2_arrangeBest_11 : decode cX2_arrangeBest 11 = .ok (.iconst 3, 1) := by decide +kernel
theorem dX2_arrangeBest_12 : decode cX2_arrangeBest 12 = .ok (.if_icmp .ge 27, 3) := by decide +kernel
theorem dX2_arrangeBest_15 : decode cX2_arrangeBest 15 = .ok (.aload_n 0, 1) := by decide +kernel
theorem dX2_arrangeBest_16 : decode cX2_arrangeBest 16 = .ok (.iload_n 3, 1) := by decide +kernel
theorem dX2_arrangeBest_17 : decode cX2_arrangeBest 17 = .ok (.invokevirtual 57, 3) := by decide +kernel
theorem dX2_arrangeBest_20 : decode cX2_arrangeBest 20 = .ok (.istore 4, 2) := by decide +kernel
theorem dX2_arrangeBest_22 : decode cX2_arrangeBest 22 = .ok (.iload 4, 2) := by decide +kernel
theorem dX2_arrangeBest_24 : decode cX2_arrangeBest 24 = .ok (.iload_n 2, 1) := by decide +kernel
theorem dX2_arrangeBest_25 : decode cX2_arrangeBest 25 = .ok (.if_icmp .ge 8, 3) := by decide +kernel
theorem dX2_arrangeBest_28 : decode cX2_arrangeBest 28 = .ok (.iload_n 3, 1) := by decide +kernel
theorem dX2_arrangeBest_29 : decode cX2_arrangeBest 29 = .ok (.istore_n 1, 1) := by decide +kernel
theorem dX2_arrangeBest_30 : decode cX2_arrangeBest 30 = .ok (.iload 4, 2) := by decide +kernel
theorem dX2_arrangeBest_32 : decode cX2_arrangeBest 32 = .ok (.istore_n 2, 1) := by decide +kernel
theorem dX2_arrangeBest_33 : decode cX2_arrangeBest 33 = .ok (.iinc 3 1, 3) := by decide +kernel
theorem dX2_arrangeBest_36 : decode cX2_arrangeBest 36 = .ok (.goto (-26), 3) := by decide +kernel
theorem dX2_arrangeBest_39 : decode cX2_arrangeBest 39 = .ok (.aload_n 0, 1) := by decide +kernel
theorem dX2_arrangeBest_40 : decode cX2_arrangeBest 40 = .ok (.iload_n 1, 1) := by decide +kernel
theorem dX2_arrangeBest_41 : decode cX2_arrangeBest 41 = .ok (.invokevirtual 57, 3) := by decide +kernel
theorem dX2_arrangeBest_44 : decode cX2_arrangeBest 44 = .ok (.pop, 1) := by decide +kernel
theorem dX2_arrangeBest_45 : decode cX2_arrangeBest 45 = .ok (.return_, 1) := by decide +kernel
theorem dX2_timeOf_0 : decode cX2_timeOf 0 = .ok (.iconst 0, 1) := by decide +kernel
theorem dX2_timeOf_1 : decode cX2_timeOf 1 = .ok (.istore_n 2, 1) := by decide +kernel
theorem dX2_timeOf_2 : decode cX2_timeOf 2 = .ok (.iload_n 2, 1) := by decide +kernel
theorem dX2_timeOf_3 : decode cX2_timeOf 3 = .ok (.aload_n 0, 1) := by decide +kernel
theorem dX2_timeOf_4 : decode cX2_timeOf 4 = .ok (.getfield 37, 3) := by decide +kernel
theorem dX2_timeOf_7 : decode cX2_timeOf 7 = .ok (.if_icmp .ge 16, 3) := by decide +kernel
theorem dX2_timeOf_10 : decode cX2_timeOf 10 = .ok (.aload_n 0, 1) := by decide +kernel
theorem dX2_timeOf_11 : decode cX2_timeOf 11 = .ok (.getfield 24, 3) := by decide +kernel
theorem dX2_timeOf_14 : decode cX2_timeOf 14 = .ok (.iload_n 2, 1) := by decide +kernel
theorem dX2_timeOf_15 : decode cX2_timeOf 15 = .ok (.iload_n 2, 1) := by decide +kernel
theorem dX2_timeOf_16 : decode cX2_timeOf 16 = .ok (.iastore, 1) := by decide +kernel
theorem dX2_timeOf_17 : decode cX2_timeOf 17 = .ok (.iinc 2 1, 3) := by decide +kernel
theorem dX2_timeOf_20 : decode cX2_timeOf 20 = .ok (.goto (-18), 3) := by decide +kernel
theorem dX2_timeOf_23 : decode cX2_timeOf 23 = .ok (.aload_n 0, 1) := by decide +kernel
theorem dX2_timeOf_24 : decode cX2_timeOf 24 = .ok (.getfield 46, 3) := by decide +kernel
theorem dX2_timeOf_27 : decode cX2_timeOf 27 = .ok (.istore_n 2, 1) := by decide +kernel
theorem dX2_timeOf_28 : decode cX2_timeOf 28 = .ok (.iconst 0, 1) := by decide +kernel
theorem dX2_timeOf_29 : decode cX2_timeOf 29 = .ok (.istore_n 3, 1) := by decide +kernel
theorem dX2_timeOf_30 : decode cX2_timeOf 30 = .ok (.iconst 0, 1) := by decide +kernel
theorem dX2_timeOf_31 : decode cX2_timeOf 31 = .ok (.istore 4, 2) := by decide +kernel
theorem dX2_timeOf_33 : decode cX2_timeOf 33 = .ok (.iload 4, 2) := by decide +kernel
theorem dX2_timeOf_35 : decode cX2_timeOf 35 = .ok (.aload_n 0, 1) := by decide +kernel
theorem dX2_timeOf_36 : decode cX2_timeOf 36 = .ok (.getfield 37, 3) := by decide +kernel
theorem dX2_timeOf_39 : decode cX2_timeOf 39 = .ok (.if_icmp .ge 142, 3) := by decide +kernel
theorem dX2_timeOf_42 : decode cX2_timeOf 42 = .ok (.iload 4, 2) := by decide +kernel
theorem dX2_timeOf_44 : decode cX2_timeOf 44 = .ok (.istore 5, 2) := by decide +kernel
theorem dX2_timeOf_46 : decode cX2_timeOf 46 = .ok (.iload 4, 2) := by decide +kernel
theorem dX2_timeOf_48 : decode cX2_timeOf 48 = .ok (.iconst 1, 1) := by decide +kernel
theorem dX2_timeOf_49 : decode cX2_timeOf 49 = .ok (.iadd, 1) := by decide +kernel
theorem dX2_timeOf_50 : decode cX2_timeOf 50 = .ok (.istore 6, 2) := by decide +kernel
theorem dX2_timeOf_52 : decode cX2_timeOf 52 = .ok (.iload 6, 2) := by decide +kernel
theorem dX2_timeOf_54 : decode cX2_timeOf 54 = .ok (.aload_n 0, 1) := by decide +kernel
theorem dX2_timeOf_55 : decode cX2_timeOf 55 = .ok (.getfield 37, 3) := by decide +kernel
theorem dX2_timeOf_58 : decode cX2_timeOf 58 = .ok (.if_icmp .ge 41, 3) := by decide +kernel
theorem dX2_timeOf_61 : decode cX2_timeOf 61 = .ok (.aload_n 0, 1) := by decide +kernel
theorem dX2_timeOf_62 : decode cX2_timeOf 62 = .ok (.iload_n 1, 1) := by decide +kernel
theorem dX2_timeOf_63 : decode cX2_timeOf 63 = .ok (.aload_n 0, 1) := by decide +kernel
theorem dX2_timeOf_64 : decode cX2_timeOf 64 = .ok (.getfield 24, 3) := by decide +kernel
theorem dX2_timeOf_67 : decode cX2_timeOf 67 = .ok (.iload 6, 2) := by decide +kernel
theorem dX2_timeOf_69 : decode cX2_timeOf 69 = .ok (.iaload, 1) := by decide +kernel
theorem dX2_timeOf_70 : decode cX2_timeOf 70 = .ok (.aload_n 0, 1) := by decide +kernel
theorem dX2_timeOf_71 : decode cX2_timeOf 71 = .ok (.getfield 24, 3) := by decide +kernel
theorem dX2_timeOf_74 : decode cX2_timeOf 74 = .ok (.iload 5, 2) := by decide +kernel
theorem dX2_timeOf_76 : decode cX2_timeOf 76 = .ok (.iaload, 1) := by decide +kernel
theorem dX2_timeOf_77 : decode cX2_timeOf 77 = .ok (.iload_n 2, 1) := by decide +kernel
theorem dX2_timeOf_78 : decode cX2_timeOf 78 = .ok (.invokevirtual 61, 3) := by decide +kernel
theorem dX2_timeOf_81 : decode cX2_timeOf 81 = .ok (.ifCond .eq 8, 3) := by decide +kernel
theorem dX2_timeOf_84 : decode cX2_timeOf 84 = .ok (.iload 6, 2) := by decide +kernel
theorem dX2_timeOf_86 : decode cX2_timeOf 86 = .ok (.goto 5, 3) := by decide +kernel
theorem dX2_timeOf_89 : decode cX2_timeOf 89 = .ok (.iload 5, 2) := by decide +kernel
theorem dX2_timeOf_91 : decode cX2_timeOf 91 = .ok (.istore 5, 2) := by decide +kernel
theorem dX2_timeOf_93 : decode cX2_timeOf 93 = .ok (.iinc 6 1, 3) := by decide +kernel
theorem dX2_timeOf_96 : decode cX2_timeOf 96 = .ok (.goto (-44), 3) := by decide +kernel
theorem dX2_timeOf_99 : decode cX2_timeOf 99 = .ok (.aload_n 0, 1) := by decide +kernel
theorem dX2_timeOf_100 : decode cX2_timeOf 100 = .ok (.getfield 24, 3) := by decide +kernel
theorem dX2_timeOf_103 : decode cX2_timeOf 103 = .ok (.iload 5, 2) := by decide +kernel
theorem dX2_timeOf_105 : decode cX2_timeOf 105 = .ok (.iaload, 1) := by decide +kernel
theorem dX2_timeOf_106 : decode cX2_timeOf 106 = .ok (.istore 6, 2) := by decide +kernel
theorem dX2_timeOf_108 : decode cX2_timeOf 108 = .ok (.aload_n 0, 1) := by decide +kernel
theorem dX2_timeOf_109 : decode cX2_timeOf 109 = .ok (.getfield 24, 3) := by decide +kernel
theorem dX2_timeOf_112 : decode cX2_timeOf 112 = .ok (.iload 5, 2) := by decide +kernel
theorem dX2_timeOf_114 : decode cX2_timeOf 114 = .ok (.aload_n 0, 1) := by decide +kernel
theorem dX2_timeOf_115 : decode cX2_timeOf 115 = .ok (.getfield 24, 3) := by decide +kernel
theorem dX2_timeOf_118 : decode cX2_timeOf 118 = .ok (.iload 4, 2) := by decide +kernel
theorem dX2_timeOf_120 : decode cX2_timeOf 120 = .ok (.iaload, 1) := by decide +kernel
theorem dX2_timeOf_121 : decode cX2_timeOf 121 = .ok (.iastore, 1) := by decide +kernel
theorem dX2_timeOf_122 : decode cX2_timeOf 122 = .ok (.aload_n 0, 1) := by decide +kernel
theorem dX2_timeOf_123 : decode cX2_timeOf 123 = .ok (.getfield 24, 3) := by decide +kernel
theorem dX2_timeOf_126 : decode cX2_timeOf 126 = .ok (.iload 4, 2) := by decide +kernel
theorem dX2_timeOf_128 : decode cX2_timeOf 128 = .ok (.iload 6, 2) := by decide +kernel
theorem dX2_timeOf_130 : decode cX2_timeOf 130 = .ok (.iastore, 1) := by decide +kernel
theorem dX2_timeOf_131 : decode cX2_timeOf 131 = .ok (.iload_n 3, 1) := by decide +kernel
theorem dX2_timeOf_132 : decode cX2_timeOf 132 = .ok (.aload_n 0, 1) := by decide +kernel
theorem dX2_timeOf_133 : decode cX2_timeOf 133 = .ok (.getfield 33, 3) := by decide +kernel
theorem dX2_timeOf_136 : decode cX2_timeOf 136 = .ok (.iload_n 2, 1) := by decide +kernel
theorem dX2_timeOf_137 : decode cX2_timeOf 137 = .ok (.aload_n 0, 1) := by decide +kernel
theorem dX2_timeOf_138 : decode cX2_timeOf 138 = .ok (.getfield 15, 3) := by decide +kernel
theorem dX2_timeOf_141 : decode cX2_timeOf 141 = .ok (.iload 6, 2) := by decide +kernel
theorem dX2_timeOf_143 : decode cX2_timeOf 143 = .ok (.iaload, 1) := by decide +kernel
theorem dX2_timeOf_144 : decode cX2_timeOf 144 = .ok (.invokevirtual 65, 3) := by decide +kernel
theorem dX2_timeOf_147 : decode cX2_timeOf 147 = .ok (.aload_n 0, 1) := by decide +kernel
theorem dX2_timeOf_148 : decode cX2_timeOf 148 = .ok (.getfield 18, 3) := by decide +kernel
theorem dX2_timeOf_151 : decode cX2_timeOf 151 = .ok (.iload 6, 2) := by decide +kernel
theorem dX2_timeOf_153 : decode cX2_timeOf 153 = .ok (.iaload, 1) := by decide +kernel
theorem dX2_timeOf_154 : decode cX2_timeOf 154 = .ok (.iadd, 1) := by decide +kernel
theorem dX2_timeOf_155 : decode cX2_timeOf 155 = .ok (.iadd, 1) := by decide +kernel
theorem dX2_timeOf_156 : decode cX2_timeOf 156 = .ok (.istore_n 3, 1) := by decide +kernel
theorem dX2_timeOf_157 : decode cX2_timeOf 157 = .ok (.aload_n 0, 1) := by decide +kernel
theorem dX2_timeOf_158 : decode cX2_timeOf 158 = .ok (.getfield 15, 3) := by decide +kernel
theorem dX2_timeOf_161 : decode cX2_timeOf 161 = .ok (.iload 6, 2) := by decide +kernel
theorem dX2_timeOf_163 : decode cX2_timeOf 163 = .ok (.iaload, 1) := by decide +kernel
theorem dX2_timeOf_164 : decode cX2_timeOf 164 = .ok (.aload_n 0, 1) := by decide +kernel
theorem dX2_timeOf_165 : decode cX2_timeOf 165 = .ok (.getfield 18, 3) := by decide +kernel
theorem dX2_timeOf_168 : decode cX2_timeOf 168 = .ok (.iload 6, 2) := by decide +kernel
theorem dX2_timeOf_170 : decode cX2_timeOf 170 = .ok (.iaload, 1) := by decide +kernel
theorem dX2_timeOf_171 : decode cX2_timeOf 171 = .ok (.iadd, 1) := by decide +kernel
theorem dX2_timeOf_172 : decode cX2_timeOf 172 = .ok (.iconst 1, 1) := by decide +kernel
theorem dX2_timeOf_173 : decode cX2_timeOf 173 = .ok (.isub, 1) := by decide +kernel
theorem dX2_timeOf_174 : decode cX2_timeOf 174 = .ok (.istore_n 2, 1) := by decide +kernel
theorem dX2_timeOf_175 : decode cX2_timeOf 175 = .ok (.iinc 4 1, 3) := by decide +kernel
theorem dX2_timeOf_178 : decode cX2_timeOf 178 = .ok (.goto (-145), 3) := by decide +kernel
theorem dX2_timeOf_181 : decode cX2_timeOf 181 = .ok (.iload_n 3, 1) := by decide +kernel
theorem dX2_timeOf_182 : decode cX2_timeOf 182 = .ok (.ireturn, 1) := by decide +kernel
theorem dX2_isAhead_0 : decode cX2_isAhead 0 = .ok (.iload_n 1, 1) := by decide +kernel
theorem dX2_isAhead_1 : decode cX2_isAhead 1 = .ok (.ifCond .ne 24, 3) := by decide +kernel
theorem dX2_isAhead_4 : decode cX2_isAhead 4 = .ok (.aload_n 0, 1) := by decide +kernel
theorem dX2_isAhead_5 : decode cX2_isAhead 5 = .ok (.getfield 15, 3) := by decide +kernel
theorem dX2_isAhead_8 : decode cX2_isAhead 8 = .ok (.iload_n 2, 1) := by decide +kernel
theorem dX2_isAhead_9 : decode cX2_isAhead 9 = .ok (.iaload, 1) := by decide +kernel
theorem dX2_isAhead_10 : decode cX2_isAhead 10 = .ok (.aload_n 0, 1) := by decide +kernel
theorem dX2_isAhead_11 : decode cX2_isAhead 11 = .ok (.getfield 15, 3) := by decide +kernel
theorem dX2_isAhead_14 : decode cX2_isAhead 14 = .ok (.iload_n 3, 1) := by decide +kernel
theorem dX2_isAhead_15 : decode cX2_isAhead 15 = .ok (.iaload, 1) := by decide +kernel
theorem dX2_isAhead_16 : decode cX2_isAhead 16 = .ok (.if_icmp .ge 7, 3) := by decide +kernel
theorem dX2_isAhead_19 : decode cX2_isAhead 19 = .ok (.iconst 1, 1) := by decide +kernel
theorem dX2_isAhead_20 : decode cX2_isAhead 20 = .ok (.goto 4, 3) := by decide +kernel
theorem dX2_isAhead_23 : decode cX2_isAhead 23 = .ok (.iconst 0, 1) := by decide +kernel
theorem dX2_isAhead_24 : decode cX2_isAhead 24 = .ok (.ireturn, 1) := by decide +kernel
theorem dX2_isAhead_25 : decode cX2_isAhead 25 = .ok (.iload_n 1, 1) := by decide +kernel
theorem dX2_isAhead_26 : decode cX2_isAhead 26 = .ok (.iconst 1, 1) := by decide +kernel
theorem dX2_isAhead_27 : decode cX2_isAhead 27 = .ok (.if_icmp .ne 72, 3) := by decide +kernel
theorem dX2_isAhead_30 : decode cX2_isAhead 30 = .ok (.aload_n 0, 1) := by decide +kernel
theorem dX2_isAhead_31 : decode cX2_isAhead 31 = .ok (.getfield 33, 3) := by decide +kernel
theorem dX2_isAhead_34 : decode cX2_isAhead 34 = .ok (.iload 4, 2) := by decide +kernel
theorem dX2_isAhead_36 : decode cX2_isAhead 36 = .ok (.aload_n 0, 1) := by decide +kernel
theorem dX2_isAhead_37 : decode cX2_isAhead 37 = .ok (.getfield 15, 3) := by decide +kernel
theorem dX2_isAhead_40 : decode cX2_isAhead 40 = .ok (.iload_n 2, 1) := by decide +kernel
theorem dX2_isAhead_41 : decode cX2_isAhead 41 = .ok (.iaload, 1) := by decide +kernel
theorem dX2_isAhead_42 : decode cX2_isAhead 42 = .ok (.invokevirtual 65, 3) := by decide +kernel
theorem dX2_isAhead_45 : decode cX2_isAhead 45 = .ok (.istore 5, 2) := by decide +kernel
theorem dX2_isAhead_47 : decode cX2_isAhead 47 = .ok (.aload_n 0, 1) := by decide +kernel
theorem dX2_isAhead_48 : decode cX2_isAhead 48 = .ok (.getfield 33, 3) := by decide +kernel
theorem dX2_isAhead_51 : decode cX2_isAhead 51 = .ok (.iload 4, 2) := by decide +kernel
theorem dX2_isAhead_53 : decode cX2_isAhead 53 = .ok (.aload_n 0, 1) := by decide +kernel
theorem dX2_isAhead_54 : decode cX2_isAhead 54 = .ok (.getfield 15, 3) := by decide +kernel
theorem dX2_isAhead_57 : decode cX2_isAhead 57 = .ok (.iload_n 3, 1) := by decide +kernel
theorem dX2_isAhead_58 : decode cX2_isAhead 58 = .ok (.iaload, 1) := by decide +kernel
theorem dX2_isAhead_59 : decode cX2_isAhead 59 = .ok (.invokevirtual 65, 3) := by decide +kernel
theorem dX2_isAhead_62 : decode cX2_isAhead 62 = .ok (.istore 6, 2) := by decide +kernel
theorem dX2_isAhead_64 : decode cX2_isAhead 64 = .ok (.iload 5, 2) := by decide +kernel
theorem dX2_isAhead_66 : decode cX2_isAhead 66 = .ok (.iload 6, 2) := by decide +kernel
theorem dX2_isAhead_68 : decode cX2_isAhead 68 = .ok (.if_icmp .lt 25, 3) := by decide +kernel
theorem dX2_isAhead_71 : decode cX2_isAhead 71 = .ok (.iload 5, 2) := by decide +kernel
theorem dX2_isAhead_73 : decode cX2_isAhead 73 = .ok (.iload 6, 2) := by decide +kernel
theorem dX2_isAhead_75 : decode cX2_isAhead 75 = .ok (.if_icmp .ne 22, 3) := by decide +kernel
theorem dX2_isAhead_78 : decode cX2_isAhead 78 = .ok (.aload_n 0, 1) := by decide +kernel
theorem dX2_isAhead_79 : decode cX2_isAhead 79 = .ok (.getfield 15, 3) := by decide +kernel
theorem dX2_isAhead_82 : decode cX2_isAhead 82 = .ok (.iload_n 2, 1) := by decide +kernel
theorem dX2_isAhead_83 : decode cX2_isAhead 83 = .ok (.iaload, 1) := by decide +kernel
theorem dX2_isAhead_84 : decode cX2_isAhead 84 = .ok (.aload_n 0, 1) := by decide +kernel
theorem dX2_isAhead_85 : decode cX2_isAhead 85 = .ok (.getfield 15, 3) := by decide +kernel
theorem dX2_isAhead_88 : decode cX2_isAhead 88 = .ok (.iload_n 3, 1) := by decide +kernel
theorem dX2_isAhead_89 : decode cX2_isAhead 89 = .ok (.iaload, 1) := by decide +kernel
theorem dX2_isAhead_90 : decode cX2_isAhead 90 = .ok (.if_icmp .ge 7, 3) := by decide +kernel
theorem dX2_isAhead_93 : decode cX2_isAhead 93 = .ok (.iconst 1, 1) := by decide +kernel
theorem dX2_isAhead_94 : decode cX2_isAhead 94 = .ok (.goto 4, 3) := by decide +kernel
theorem dX2_isAhead_97 : decode cX2_isAhead 97 = .ok (.iconst 0, 1) := by decide +kernel
theorem dX2_isAhead_98 : decode cX2_isAhead 98 = .ok (.ireturn, 1) := by decide +kernel
theorem dX2_isAhead_99 : decode cX2_isAhead 99 = .ok (.aload_n 0, 1) := by decide +kernel
theorem dX2_isAhead_100 : decode cX2_isAhead 100 = .ok (.getfield 21, 3) := by decide +kernel
theorem dX2_isAhead_103 : decode cX2_isAhead 103 = .ok (.iload_n 2, 1) := by decide +kernel
theorem dX2_isAhead_104 : decode cX2_isAhead 104 = .ok (.iaload, 1) := by decide +kernel
theorem dX2_isAhead_105 : decode cX2_isAhead 105 = .ok (.aload_n 0, 1) := by decide +kernel
theorem dX2_isAhead_106 : decode cX2_isAhead 106 = .ok (.getfield 21, 3) := by decide +kernel
theorem dX2_isAhead_109 : decode cX2_isAhead 109 = .ok (.iload_n 3, 1) := by decide +kernel
theorem dX2_isAhead_110 : decode cX2_isAhead 110 = .ok (.iaload, 1) := by decide +kernel
theorem dX2_isAhead_111 : decode cX2_isAhead 111 = .ok (.if_icmp .ge 7, 3) := by decide +kernel
theorem dX2_isAhead_114 : decode cX2_isAhead 114 = .ok (.iconst 1, 1) := by decide +kernel
theorem dX2_isAhead_115 : decode cX2_isAhead 115 = .ok (.goto 4, 3) := by decide +kernel
theorem dX2_isAhead_118 : decode cX2_isAhead 118 = .ok (.iconst 0, 1) := by decide +kernel
theorem dX2_isAhead_119 : decode cX2_isAhead 119 = .ok (.ireturn, 1) := by decide +kernel
theorem dX2_leastTime_0 : decode cX2_leastTime 0 = .ok (.aload_n 0, 1) := by decide +kernel
theorem dX2_leastTime_1 : decode cX2_leastTime 1 = .ok (.getfield 37, 3) := by decide +kernel
theorem dX2_leastTime_4 : decode cX2_leastTime 4 = .ok (.ifCond .ne 5, 3) := by decide +kernel
theorem dX2_leastTime_7 : decode cX2_leastTime 7 = .ok (.iconst 0, 1) := by decide +kernel
theorem dX2_leastTime_8 : decode cX2_leastTime 8 = .ok (.ireturn, 1) := by decide +kernel
theorem dX2_leastTime_9 : decode cX2_leastTime 9 = .ok (.iconst 1, 1) := by decide +kernel
theorem dX2_leastTime_10 : decode cX2_leastTime 10 = .ok (.aload_n 0, 1) := by decide +kernel
theorem dX2_leastTime_11 : decode cX2_leastTime 11 = .ok (.getfield 37, 3) := by decide +kernel
theorem dX2_leastTime_14 : decode cX2_leastTime 14 = .ok (.ishl, 1) := by decide +kernel
theorem dX2_leastTime_15 : decode cX2_leastTime 15 = .ok (.istore_n 1, 1) := by decide +kernel
theorem dX2_leastTime_16 : decode cX2_leastTime 16 = .ok (.aload_n 0, 1) := by decide +kernel
theorem dX2_leastTime_17 : decode cX2_leastTime 17 = .ok (.getfield 30, 3) := by decide +kernel
theorem dX2_leastTime_20 : decode cX2_leastTime 20 = .ok (.arraylength, 1) := by decide +kernel
theorem dX2_leastTime_21 : decode cX2_leastTime 21 = .ok (.iload_n 1, 1) := by decide +kernel
theorem dX2_leastTime_22 : decode cX2_leastTime 22 = .ok (.aload_n 0, 1) := by decide +kernel
theorem dX2_leastTime_23 : decode cX2_leastTime 23 = .ok (.getfield 37, 3) := by decide +kernel
theorem dX2_leastTime_26 : decode cX2_leastTime 26 = .ok (.imul, 1) := by decide +kernel
theorem dX2_leastTime_27 : decode cX2_leastTime 27 = .ok (.if_icmp .ge 15, 3) := by decide +kernel
theorem dX2_leastTime_30 : decode cX2_leastTime 30 = .ok (.aload_n 0, 1) := by decide +kernel
theorem dX2_leastTime_31 : decode cX2_leastTime 31 = .ok (.iload_n 1, 1) := by decide +kernel
theorem dX2_leastTime_32 : decode cX2_leastTime 32 = .ok (.aload_n 0, 1) := by decide +kernel
theorem dX2_leastTime_33 : decode cX2_leastTime 33 = .ok (.getfield 37, 3) := by decide +kernel
theorem dX2_leastTime_36 : decode cX2_leastTime 36 = .ok (.imul, 1) := by decide +kernel
theorem dX2_leastTime_37 : decode cX2_leastTime 37 = .ok (.newarray .int, 2) := by decide +kernel
theorem dX2_leastTime_39 : decode cX2_leastTime 39 = .ok (.putfield 30, 3) := by decide +kernel
theorem dX2_leastTime_42 : decode cX2_leastTime 42 = .ok (.iconst 0, 1) := by decide +kernel
theorem dX2_leastTime_43 : decode cX2_leastTime 43 = .ok (.istore_n 2, 1) := by decide +kernel
theorem dX2_leastTime_44 : decode cX2_leastTime 44 = .ok (.iconst 0, 1) := by decide +kernel
theorem dX2_leastTime_45 : decode cX2_leastTime 45 = .ok (.istore_n 3, 1) := by decide +kernel
theorem dX2_leastTime_46 : decode cX2_leastTime 46 = .ok (.iload_n 3, 1) := by decide +kernel
theorem dX2_leastTime_47 : decode cX2_leastTime 47 = .ok (.aload_n 0, 1) := by decide +kernel
theorem dX2_leastTime_48 : decode cX2_leastTime 48 = .ok (.getfield 37, 3) := by decide +kernel
theorem dX2_leastTime_51 : decode cX2_leastTime 51 = .ok (.if_icmp .ge 83, 3) := by decide +kernel
theorem dX2_leastTime_54 : decode cX2_leastTime 54 = .ok (.iload_n 2, 1) := by decide +kernel
theorem dX2_leastTime_55 : decode cX2_leastTime 55 = .ok (.aload_n 0, 1) := by decide +kernel
theorem dX2_leastTime_56 : decode cX2_leastTime 56 = .ok (.getfield 18, 3) := by decide +kernel
theorem dX2_leastTime_59 : decode cX2_leastTime 59 = .ok (.iload_n 3, 1) := by decide +kernel
theorem dX2_leastTime_60 : decode cX2_leastTime 60 = .ok (.iaload, 1) := by decide +kernel
theorem dX2_leastTime_61 : decode cX2_leastTime 61 = .ok (.iadd, 1) := by decide +kernel
theorem dX2_leastTime_62 : decode cX2_leastTime 62 = .ok (.istore_n 2, 1) := by decide +kernel
theorem dX2_leastTime_63 : decode cX2_leastTime 63 = .ok (.aload_n 0, 1) := by decide +kernel
theorem dX2_leastTime_64 : decode cX2_leastTime 64 = .ok (.getfield 15, 3) := by decide +kernel
theorem dX2_leastTime_67 : decode cX2_leastTime 67 = .ok (.iload_n 3, 1) := by decide +kernel
theorem dX2_leastTime_68 : decode cX2_leastTime 68 = .ok (.iaload, 1) := by decide +kernel
theorem dX2_leastTime_69 : decode cX2_leastTime 69 = .ok (.aload_n 0, 1) := by decide +kernel
theorem dX2_leastTime_70 : decode cX2_leastTime 70 = .ok (.getfield 18, 3) := by decide +kernel
theorem dX2_leastTime_73 : decode cX2_leastTime 73 = .ok (.iload_n 3, 1) := by decide +kernel
theorem dX2_leastTime_74 : decode cX2_leastTime 74 = .ok (.iaload, 1) := by decide +kernel
theorem dX2_leastTime_75 : decode cX2_leastTime 75 = .ok (.iadd, 1) := by decide +kernel
theorem dX2_leastTime_76 : decode cX2_leastTime 76 = .ok (.iconst 1, 1) := by decide +kernel
theorem dX2_leastTime_77 : decode cX2_leastTime 77 = .ok (.isub, 1) := by decide +kernel
theorem dX2_leastTime_78 : decode cX2_leastTime 78 = .ok (.istore 4, 2) := by decide +kernel
theorem dX2_leastTime_80 : decode cX2_leastTime 80 = .ok (.iconst 0, 1) := by decide +kernel
theorem dX2_leastTime_81 : decode cX2_leastTime 81 = .ok (.istore 5, 2) := by decide +kernel
theorem dX2_leastTime_83 : decode cX2_leastTime 83 = .ok (.iload 5, 2) := by decide +kernel
theorem dX2_leastTime_85 : decode cX2_leastTime 85 = .ok (.aload_n 0, 1) := by decide +kernel
theorem dX2_leastTime_86 : decode cX2_leastTime 86 = .ok (.getfield 37, 3) := by decide +kernel
theorem dX2_leastTime_89 : decode cX2_leastTime 89 = .ok (.if_icmp .ge 39, 3) := by decide +kernel
theorem dX2_leastTime_92 : decode cX2_leastTime 92 = .ok (.aload_n 0, 1) := by decide +kernel
theorem dX2_leastTime_93 : decode cX2_leastTime 93 = .ok (.getfield 27, 3) := by decide +kernel
theorem dX2_leastTime_96 : decode cX2_leastTime 96 = .ok (.iload_n 3, 1) := by decide +kernel
theorem dX2_leastTime_97 : decode cX2_leastTime 97 = .ok (.aload_n 0, 1) := by decide +kernel
theorem dX2_leastTime_98 : decode cX2_leastTime 98 = .ok (.getfield 37, 3) := by decide +kernel
theorem dX2_leastTime_101 : decode cX2_leastTime 101 = .ok (.imul, 1) := by decide +kernel
theorem dX2_leastTime_102 : decode cX2_leastTime 102 = .ok (.iload 5, 2) := by decide +kernel
theorem dX2_leastTime_104 : decode cX2_leastTime 104 = .ok (.iadd, 1) := by decide +kernel
theorem dX2_leastTime_105 : decode cX2_leastTime 105 = .ok (.aload_n 0, 1) := by decide +kernel
theorem dX2_leastTime_106 : decode cX2_leastTime 106 = .ok (.getfield 33, 3) := by decide +kernel
theorem dX2_leastTime_109 : decode cX2_leastTime 109 = .ok (.iload 4, 2) := by decide +kernel
theorem dX2_leastTime_111 : decode cX2_leastTime 111 = .ok (.aload_n 0, 1) := by decide +kernel
theorem dX2_leastTime_112 : decode cX2_leastTime 112 = .ok (.getfield 15, 3) := by decide +kernel
theorem dX2_leastTime_115 : decode cX2_leastTime 115 = .ok (.iload 5, 2) := by decide +kernel
theorem dX2_leastTime_117 : decode cX2_leastTime 117 = .ok (.iaload, 1) := by decide +kernel
theorem dX2_leastTime_118 : decode cX2_leastTime 118 = .ok (.invokevirtual 65, 3) := by decide +kernel
theorem dX2_leastTime_121 : decode cX2_leastTime 121 = .ok (.iastore, 1) := by decide +kernel
theorem dX2_leastTime_122 : decode cX2_leastTime 122 = .ok (.iinc 5 1, 3) := by decide +kernel
theorem dX2_leastTime_125 : decode cX2_leastTime 125 = .ok (.goto (-42), 3) := by decide +kernel
theorem dX2_leastTime_128 : decode cX2_leastTime 128 = .ok (.iinc 3 1, 3) := by decide +kernel
theorem dX2_leastTime_131 : decode cX2_leastTime 131 = .ok (.goto (-85), 3) := by decide +kernel
theorem dX2_leastTime_134 : decode cX2_leastTime 134 = .ok (.iconst 1, 1) := by decide +kernel
theorem dX2_leastTime_135 : decode cX2_leastTime 135 = .ok (.istore_n 3, 1) := by decide +kernel
theorem dX2_leastTime_136 : decode cX2_leastTime 136 = .ok (.iload_n 3, 1) := by decide +kernel
theorem dX2_leastTime_137 : decode cX2_leastTime 137 = .ok (.iload_n 1, 1) := by decide +kernel
theorem dX2_leastTime_138 : decode cX2_leastTime 138 = .ok (.if_icmp .ge 14, 3) := by decide +kernel
theorem dX2_leastTime_141 : decode cX2_leastTime 141 = .ok (.aload_n 0, 1) := by decide +kernel
theorem dX2_leastTime_142 : decode cX2_leastTime 142 = .ok (.iload_n 3, 1) := by decide +kernel
theorem dX2_leastTime_143 : decode cX2_leastTime 143 = .ok (.invokevirtual 71, 3) := by decide +kernel
theorem dX2_leastTime_146 : decode cX2_leastTime 146 = .ok (.iinc 3 1, 3) := by decide +kernel
theorem dX2_leastTime_149 : decode cX2_leastTime 149 = .ok (.goto (-13), 3) := by decide +kernel
theorem dX2_leastTime_152 : decode cX2_leastTime 152 = .ok (.ldc 75, 2) := by decide +kernel
theorem dX2_leastTime_154 : decode cX2_leastTime 154 = .ok (.istore_n 3, 1) := by decide +kernel
theorem dX2_leastTime_155 : decode cX2_leastTime 155 = .ok (.iconst 0, 1) := by decide +kernel
theorem dX2_leastTime_156 : decode cX2_leastTime 156 = .ok (.istore 4, 2) := by decide +kernel
theorem dX2_leastTime_158 : decode cX2_leastTime 158 = .ok (.iload 4, 2) := by decide +kernel
theorem dX2_leastTime_160 : decode cX2_leastTime 160 = .ok (.aload_n 0, 1) := by decide +kernel
theorem dX2_leastTime_161 : decode cX2_leastTime 161 = .ok (.getfield 37, 3) := by decide +kernel
theorem dX2_leastTime_164 : decode cX2_leastTime 164 = .ok (.if_icmp .ge 30, 3) := by decide +kernel
theorem dX2_leastTime_167 : decode cX2_leastTime 167 = .ok (.iload_n 3, 1) := by decide +kernel
theorem dX2_leastTime_168 : decode cX2_leastTime 168 = .ok (.aload_n 0, 1) := by decide +kernel
theorem dX2_leastTime_169 : decode cX2_leastTime 169 = .ok (.getfield 30, 3) := by decide +kernel
theorem dX2_leastTime_172 : decode cX2_leastTime 172 = .ok (.iload_n 1, 1) := by decide +kernel
theorem dX2_leastTime_173 : decode cX2_leastTime 173 = .ok (.iconst 1, 1) := by decide +kernel
theorem dX2_leastTime_174 : decode cX2_leastTime 174 = .ok (.isub, 1) := by decide +kernel
theorem dX2_leastTime_175 : decode cX2_leastTime 175 = .ok (.aload_n 0, 1) := by decide +kernel
theorem dX2_leastTime_176 : decode cX2_leastTime 176 = .ok (.getfield 37, 3) := by decide +kernel
theorem dX2_leastTime_179 : decode cX2_leastTime 179 = .ok (.imul, 1) := by decide +kernel
theorem dX2_leastTime_180 : decode cX2_leastTime 180 = .ok (.iload 4, 2) := by decide +kernel
theorem dX2_leastTime_182 : decode cX2_leastTime 182 = .ok (.iadd, 1) := by decide +kernel
theorem dX2_leastTime_183 : decode cX2_leastTime 183 = .ok (.iaload, 1) := by decide +kernel
theorem dX2_leastTime_184 : decode cX2_leastTime 184 = .ok (.invokestatic 76, 3) := by decide +kernel
theorem dX2_leastTime_187 : decode cX2_leastTime 187 = .ok (.istore_n 3, 1) := by decide +kernel
theorem dX2_leastTime_188 : decode cX2_leastTime 188 = .ok (.iinc 4 1, 3) := by decide +kernel
theorem dX2_leastTime_191 : decode cX2_leastTime 191 = .ok (.goto (-33), 3) := by decide +kernel
theorem dX2_leastTime_194 : decode cX2_leastTime 194 = .ok (.iload_n 3, 1) := by decide +kernel
theorem dX2_leastTime_195 : decode cX2_leastTime 195 = .ok (.iload_n 2, 1) := by decide +kernel
theorem dX2_leastTime_196 : decode cX2_leastTime 196 = .ok (.iadd, 1) := by decide +kernel
theorem dX2_leastTime_197 : decode cX2_leastTime 197 = .ok (.ireturn, 1) := by decide +kernel
theorem dX2_fillTable_0 : decode cX2_fillTable 0 = .ok (.iconst 0, 1) := by decide +kernel
theorem dX2_fillTable_1 : decode cX2_fillTable 1 = .ok (.istore_n 2, 1) := by decide +kernel
theorem dX2_fillTable_2 : decode cX2_fillTable 2 = .ok (.iload_n 2, 1) := by decide +kernel
theorem dX2_fillTable_3 : decode cX2_fillTable 3 = .ok (.aload_n 0, 1) := by decide +kernel
theorem dX2_fillTable_4 : decode cX2_fillTable 4 = .ok (.getfield 37, 3) := by decide +kernel
theorem dX2_fillTable_7 : decode cX2_fillTable 7 = .ok (.if_icmp .ge 67, 3) := by decide +kernel
theorem dX2_fillTable_10 : decode cX2_fillTable 10 = .ok (.iload_n 1, 1) := by decide +kernel
theorem dX2_fillTable_11 : decode cX2_fillTable 11 = .ok (.iload_n 2, 1) := by decide +kernel
theorem dX2_fillTable_12 : decode cX2_fillTable 12 = .ok (.ishr, 1) := by decide +kernel
theorem dX2_fillTable_13 : decode cX2_fillTable 13 = .ok (.iconst 1, 1) := by decide +kernel
theorem dX2_fillTable_14 : decode cX2_fillTable 14 = .ok (.iand, 1) := by decide +kernel
theorem dX2_fillTable_15 : decode cX2_fillTable 15 = .ok (.iconst 1, 1) := by decide +kernel
theorem dX2_fillTable_16 : decode cX2_fillTable 16 = .ok (.if_icmp .ne 52, 3) := by decide +kernel
theorem dX2_fillTable_19 : decode cX2_fillTable 19 = .ok (.iload_n 1, 1) := by decide +kernel
theorem dX2_fillTable_20 : decode cX2_fillTable 20 = .ok (.iconst 1, 1) := by decide +kernel
theorem dX2_fillTable_21 : decode cX2_fillTable 21 = .ok (.iload_n 2, 1) := by decide +kernel
theorem dX2_fillTable_22 : decode cX2_fillTable 22 = .ok (.ishl, 1) := by decide +kernel
theorem dX2_fillTable_23 : decode cX2_fillTable 23 = .ok (.ixor, 1) := by decide +kernel
theorem dX2_fillTable_24 : decode cX2_fillTable 24 = .ok (.istore_n 3, 1) := by decide +kernel
theorem dX2_fillTable_25 : decode cX2_fillTable 25 = .ok (.aload_n 0, 1) := by decide +kernel
theorem dX2_fillTable_26 : decode cX2_fillTable 26 = .ok (.getfield 30, 3) := by decide +kernel
theorem dX2_fillTable_29 : decode cX2_fillTable 29 = .ok (.iload_n 1, 1) := by decide +kernel
theorem dX2_fillTable_30 : decode cX2_fillTable 30 = .ok (.aload_n 0, 1) := by decide +kernel
theorem dX2_fillTable_31 : decode cX2_fillTable 31 = .ok (.getfield 37, 3) := by decide +kernel
theorem dX2_fillTable_34 : decode cX2_fillTable 34 = .ok (.imul, 1) := by decide +kernel
theorem dX2_fillTable_35 : decode cX2_fillTable 35 = .ok (.iload_n 2, 1) := by decide +kernel
theorem dX2_fillTable_36 : decode cX2_fillTable 36 = .ok (.iadd, 1) := by decide +kernel
theorem dX2_fillTable_37 : decode cX2_fillTable 37 = .ok (.iload_n 3, 1) := by decide +kernel
theorem dX2_fillTable_38 : decode cX2_fillTable 38 = .ok (.ifCond .ne 23, 3) := by decide +kernel
theorem dX2_fillTable_41 : decode cX2_fillTable 41 = .ok (.aload_n 0, 1) := by decide +kernel
theorem dX2_fillTable_42 : decode cX2_fillTable 42 = .ok (.getfield 33, 3) := by decide +kernel
theorem dX2_fillTable_45 : decode cX2_fillTable 45 = .ok (.aload_n 0, 1) := by decide +kernel
theorem dX2_fillTable_46 : decode cX2_fillTable 46 = .ok (.getfield 46, 3) := by decide +kernel
theorem dX2_fillTable_49 : decode cX2_fillTable 49 = .ok (.aload_n 0, 1) := by decide +kernel
theorem dX2_fillTable_50 : decode cX2_fillTable 50 = .ok (.getfield 15, 3) := by decide +kernel
theorem dX2_fillTable_53 : decode cX2_fillTable 53 = .ok (.iload_n 2, 1) := by decide +kernel
theorem dX2_fillTable_54 : decode cX2_fillTable 54 = .ok (.iaload, 1) := by decide +kernel
theorem dX2_fillTable_55 : decode cX2_fillTable 55 = .ok (.invokevirtual 65, 3) := by decide +kernel
theorem dX2_fillTable_58 : decode cX2_fillTable 58 = .ok (.goto 9, 3) := by decide +kernel
theorem dX2_fillTable_61 : decode cX2_fillTable 61 = .ok (.aload_n 0, 1) := by decide +kernel
theorem dX2_fillTable_62 : decode cX2_fillTable 62 = .ok (.iload_n 3, 1) := by decide +kernel
theorem dX2_fillTable_63 : decode cX2_fillTable 63 = .ok (.iload_n 2, 1) := by decide +kernel
theorem dX2_fillTable_64 : decode cX2_fillTable 64 = .ok (.invokevirtual 81, 3) := by decide +kernel
theorem dX2_fillTable_67 : decode cX2_fillTable 67 = .ok (.iastore, 1) := by decide +kernel
theorem dX2_fillTable_68 : decode cX2_fillTable 68 = .ok (.iinc 2 1, 3) := by decide +kernel
theorem dX2_fillTable_71 : decode cX2_fillTable 71 = .ok (.goto (-69), 3) := by decide +kernel
theorem dX2_fillTable_74 : decode cX2_fillTable 74 = .ok (.return_, 1) := by decide +kernel
theorem dX2_leastBehind_0 : decode cX2_leastBehind 0 = .ok (.ldc 75, 2) := by decide +kernel
theorem dX2_leastBehind_2 : decode cX2_leastBehind 2 = .ok (.istore_n 3, 1) := by decide +kernel
theorem dX2_leastBehind_3 : decode cX2_leastBehind 3 = .ok (.iconst 0, 1) := by decide +kernel
theorem dX2_leastBehind_4 : decode cX2_leastBehind 4 = .ok (.istore 4, 2) := by decide +kernel
theorem dX2_leastBehind_6 : decode cX2_leastBehind 6 = .ok (.iload 4, 2) := by decide +kernel
theorem dX2_leastBehind_8 : decode cX2_leastBehind 8 = .ok (.aload_n 0, 1) := by decide +kernel
theorem dX2_leastBehind_9 : decode cX2_leastBehind 9 = .ok (.getfield 37, 3) := by decide +kernel
theorem dX2_leastBehind_12 : decode cX2_leastBehind 12 = .ok (.if_icmp .ge 53, 3) := by decide +kernel
theorem dX2_leastBehind_15 : decode cX2_leastBehind 15 = .ok (.iload_n 1, 1) := by decide +kernel
theorem dX2_leastBehind_16 : decode cX2_leastBehind 16 = .ok (.iload 4, 2) := by decide +kernel
theorem dX2_leastBehind_18 : decode cX2_leastBehind 18 = .ok (.ishr, 1) := by decide +kernel
theorem dX2_leastBehind_19 : decode cX2_leastBehind 19 = .ok (.iconst 1, 1) := by decide +kernel
theorem dX2_leastBehind_20 : decode cX2_leastBehind 20 = .ok (.iand, 1) := by decide +kernel
theorem dX2_leastBehind_21 : decode cX2_leastBehind 21 = .ok (.iconst 1, 1) := by decide +kernel
theorem dX2_leastBehind_22 : decode cX2_leastBehind 22 = .ok (.if_icmp .ne 37, 3) := by decide +kernel
theorem dX2_leastBehind_25 : decode cX2_leastBehind 25 = .ok (.iload_n 3, 1) := by decide +kernel
theorem dX2_leastBehind_26 : decode cX2_leastBehind 26 = .ok (.aload_n 0, 1) := by decide +kernel
theorem dX2_leastBehind_27 : decode cX2_leastBehind 27 = .ok (.getfield 30, 3) := by decide +kernel
theorem dX2_leastBehind_30 : decode cX2_leastBehind 30 = .ok (.iload_n 1, 1) := by decide +kernel
theorem dX2_leastBehind_31 : decode cX2_leastBehind 31 = .ok (.aload_n 0, 1) := by decide +kernel
theorem dX2_leastBehind_32 : decode cX2_leastBehind 32 = .ok (.getfield 37, 3) := by decide +kernel
theorem dX2_leastBehind_35 : decode cX2_leastBehind 35 = .ok (.imul, 1) := by decide +kernel
theorem dX2_leastBehind_36 : decode cX2_leastBehind 36 = .ok (.iload 4, 2) := by decide +kernel
theorem dX2_leastBehind_38 : decode cX2_leastBehind 38 = .ok (.iadd, 1) := by decide +kernel
theorem dX2_leastBehind_39 : decode cX2_leastBehind 39 = .ok (.iaload, 1) := by decide +kernel
theorem dX2_leastBehind_40 : decode cX2_leastBehind 40 = .ok (.aload_n 0, 1) := by decide +kernel
theorem dX2_leastBehind_41 : decode cX2_leastBehind 41 = .ok (.getfield 27, 3) := by decide +kernel
theorem dX2_leastBehind_44 : decode cX2_leastBehind 44 = .ok (.iload 4, 2) := by decide +kernel
theorem dX2_leastBehind_46 : decode cX2_leastBehind 46 = .ok (.aload_n 0, 1) := by decide +kernel
theorem dX2_leastBehind_47 : decode cX2_leastBehind 47 = .ok (.getfield 37, 3) := by decide +kernel
theorem dX2_leastBehind_50 : decode cX2_leastBehind 50 = .ok (.imul, 1) := by decide +kernel
theorem dX2_leastBehind_51 : decode cX2_leastBehind 51 = .ok (.iload_n 2, 1) := by decide +kernel
theorem dX2_leastBehind_52 : decode cX2_leastBehind 52 = .ok (.iadd, 1) := by decide +kernel
theorem dX2_leastBehind_53 : decode cX2_leastBehind 53 = .ok (.iaload, 1) := by decide +kernel
theorem dX2_leastBehind_54 : decode cX2_leastBehind 54 = .ok (.iadd, 1) := by decide +kernel
theorem dX2_leastBehind_55 : decode cX2_leastBehind 55 = .ok (.invokestatic 76, 3) := by decide +kernel
theorem dX2_leastBehind_58 : decode cX2_leastBehind 58 = .ok (.istore_n 3, 1) := by decide +kernel
theorem dX2_leastBehind_59 : decode cX2_leastBehind 59 = .ok (.iinc 4 1, 3) := by decide +kernel
theorem dX2_leastBehind_62 : decode cX2_leastBehind 62 = .ok (.goto (-56), 3) := by decide +kernel
theorem dX2_leastBehind_65 : decode cX2_leastBehind 65 = .ok (.iload_n 3, 1) := by decide +kernel
theorem dX2_leastBehind_66 : decode cX2_leastBehind 66 = .ok (.ireturn, 1) := by decide +kernel
theorem dX3_init_0 : decode cX3_init 0 = .ok (.aload_n 0, 1) := by decide +kernel
theorem dX3_init_1 : decode cX3_init 1 = .ok (.invokespecial 3, 3) := by decide +kernel
theorem dX3_init_4 : decode cX3_init 4 = .ok (.aload_n 0, 1) := by decide +kernel
theorem dX3_init_5 : decode cX3_init 5 = .ok (.sipush 6880, 3) := by decide +kernel
theorem dX3_init_8 : decode cX3_init 8 = .ok (.newarray .int, 2) := by decide +kernel
theorem dX3_init_10 : decode cX3_init 10 = .ok (.putfield 11, 3) := by decide +kernel
theorem dX3_init_13 : decode cX3_init 13 = .ok (.return_, 1) := by decide +kernel
theorem dX3_clear_0 : decode cX3_clear 0 = .ok (.aload_n 0, 1) := by decide +kernel
theorem dX3_clear_1 : decode cX3_clear 1 = .ok (.iconst 0, 1) := by decide +kernel
theorem dX3_clear_2 : decode cX3_clear 2 = .ok (.putfield 17, 3) := by decide +kernel
theorem dX3_clear_5 : decode cX3_clear 5 = .ok (.aload_n 0, 1) := by decide +kernel
theorem dX3_clear_6 : decode cX3_clear 6 = .ok (.iconst 0, 1) := by decide +kernel
theorem dX3_clear_7 : decode cX3_clear 7 = .ok (.putfield 21, 3) := by decide +kernel
theorem dX3_clear_10 : decode cX3_clear 10 = .ok (.return_, 1) := by decide +kernel
theorem dX3_keep_0 : decode cX3_keep 0 = .ok (.aload_n 1, 1) := by decide +kernel
theorem dX3_keep_1 : decode cX3_keep 1 = .ok (.aload_n 0, 1) := by decide +kernel
theorem dX3_keep_2 : decode cX3_keep 2 = .ok (.getfield 11, 3) := by decide +kernel
theorem dX3_keep_5 : decode cX3_keep 5 = .ok (.aload_n 0, 1) := by decide +kernel
theorem dX3_keep_6 : decode cX3_keep 6 = .ok (.getfield 21, 3) := by decide +kernel
theorem dX3_keep_9 : decode cX3_keep 9 = .ok (.sipush 172, 3) := by decide +kernel
theorem dX3_keep_12 : decode cX3_keep 12 = .ok (.imul, 1) := by decide +kernel
theorem dX3_keep_13 : decode cX3_keep 13 = .ok (.invokevirtual 24, 3) := by decide +kernel
theorem dX3_keep_16 : decode cX3_keep 16 = .ok (.aload_n 0, 1) := by decide +kernel
theorem dX3_keep_17 : decode cX3_keep 17 = .ok (.aload_n 0, 1) := by decide +kernel
theorem dX3_keep_18 : decode cX3_keep 18 = .ok (.getfield 21, 3) := by decide +kernel
theorem dX3_keep_21 : decode cX3_keep 21 = .ok (.iconst 1, 1) := by decide +kernel
theorem dX3_keep_22 : decode cX3_keep 22 = .ok (.iadd, 1) := by decide +kernel
theorem dX3_keep_23 : decode cX3_keep 23 = .ok (.bipush 40, 2) := by decide +kernel
theorem dX3_keep_25 : decode cX3_keep 25 = .ok (.irem, 1) := by decide +kernel
theorem dX3_keep_26 : decode cX3_keep 26 = .ok (.putfield 21, 3) := by decide +kernel
theorem dX3_keep_29 : decode cX3_keep 29 = .ok (.aload_n 0, 1) := by decide +kernel
theorem dX3_keep_30 : decode cX3_keep 30 = .ok (.aload_n 0, 1) := by decide +kernel
theorem dX3_keep_31 : decode cX3_keep 31 = .ok (.getfield 17, 3) := by decide +kernel
theorem dX3_keep_34 : decode cX3_keep 34 = .ok (.iconst 1, 1) := by decide +kernel
theorem dX3_keep_35 : decode cX3_keep 35 = .ok (.iadd, 1) := by decide +kernel
theorem dX3_keep_36 : decode cX3_keep 36 = .ok (.bipush 40, 2) := by decide +kernel
theorem dX3_keep_38 : decode cX3_keep 38 = .ok (.invokestatic 28, 3) := by decide +kernel
theorem dX3_keep_41 : decode cX3_keep 41 = .ok (.putfield 17, 3) := by decide +kernel
theorem dX3_keep_44 : decode cX3_keep 44 = .ok (.return_, 1) := by decide +kernel
theorem dX3_giveBack_0 : decode cX3_giveBack 0 = .ok (.aload_n 0, 1) := by decide +kernel
theorem dX3_giveBack_1 : decode cX3_giveBack 1 = .ok (.getfield 17, 3) := by decide +kernel
theorem dX3_giveBack_4 : decode cX3_giveBack 4 = .ok (.ifCond .le 45, 3) := by decide +kernel
theorem dX3_giveBack_7 : decode cX3_giveBack 7 = .ok (.aload_n 0, 1) := by decide +kernel
theorem dX3_giveBack_8 : decode cX3_giveBack 8 = .ok (.aload_n 0, 1) := by decide +kernel
theorem dX3_giveBack_9 : decode cX3_giveBack 9 = .ok (.getfield 21, 3) := by decide +kernel
theorem dX3_giveBack_12 : decode cX3_giveBack 12 = .ok (.bipush 40, 2) := by decide +kernel
theorem dX3_giveBack_14 : decode cX3_giveBack 14 = .ok (.iadd, 1) := by decide +kernel
theorem dX3_giveBack_15 : decode cX3_giveBack 15 = .ok (.iconst 1, 1) := by decide +kernel
theorem dX3_giveBack_16 : decode cX3_giveBack 16 = .ok (.isub, 1) := by decide +kernel
theorem dX3_giveBack_17 : decode cX3_giveBack 17 = .ok (.bipush 40, 2) := by decide +kernel
theorem dX3_giveBack_19 : decode cX3_giveBack 19 = .ok (.irem, 1) := by decide +kernel
theorem dX3_giveBack_20 : decode cX3_giveBack 20 = .ok (.putfield 21, 3) := by decide +kernel
theorem dX3_giveBack_23 : decode cX3_giveBack 23 = .ok (.aload_n 1, 1) := by decide +kernel
theorem dX3_giveBack_24 : decode cX3_giveBack 24 = .ok (.aload_n 0, 1) := by decide +kernel
theorem dX3_giveBack_25 : decode cX3_giveBack 25 = .ok (.getfield 11, 3) := by decide +kernel
theorem dX3_giveBack_28 : decode cX3_giveBack 28 = .ok (.aload_n 0, 1) := by decide +kernel
theorem dX3_giveBack_29 : decode cX3_giveBack 29 = .ok (.getfield 21, 3) := by decide +kernel
theorem dX3_giveBack_32 : decode cX3_giveBack 32 = .ok (.sipush 172, 3) := by decide +kernel
theorem dX3_giveBack_35 : decode cX3_giveBack 35 = .ok (.imul, 1) := by decide +kernel
theorem dX3_giveBack_36 : decode cX3_giveBack 36 = .ok (.invokevirtual 34, 3) := by decide +kernel
theorem dX3_giveBack_39 : decode cX3_giveBack 39 = .ok (.aload_n 0, 1) := by decide +kernel
theorem dX3_giveBack_40 : decode cX3_giveBack 40 = .ok (.dup, 1) := by decide +kernel
theorem dX3_giveBack_41 : decode cX3_giveBack 41 = .ok (.getfield 17, 3) := by decide +kernel
theorem dX3_giveBack_44 : decode cX3_giveBack 44 = .ok (.iconst 1, 1) := by decide +kernel
theorem dX3_giveBack_45 : decode cX3_giveBack 45 = .ok (.isub, 1) := by decide +kernel
theorem dX3_giveBack_46 : decode cX3_giveBack 46 = .ok (.putfield 17, 3) := by decide +kernel
theorem dX3_giveBack_49 : decode cX3_giveBack 49 = .ok (.return_, 1) := by decide +kernel
theorem dX4_init_0 : decode cX4_init 0 = .ok (.aload_n 0, 1) := by decide +kernel
theorem dX4_init_1 : decode cX4_init 1 = .ok (.invokespecial 3, 3) := by decide +kernel
theorem dX4_init_4 : decode cX4_init 4 = .ok (.aload_n 0, 1) := by decide +kernel
theorem dX4_init_5 : decode cX4_init 5 = .ok (.bipush 8, 2) := by decide +kernel
theorem dX4_init_7 : decode cX4_init 7 = .ok (.newarray .int, 2) := by decide +kernel
theorem dX4_init_9 : decode cX4_init 9 = .ok (.putfield 9, 3) := by decide +kernel
theorem dX4_init_12 : decode cX4_init 12 = .ok (.aload_n 0, 1) := by decide +kernel
theorem dX4_init_13 : decode cX4_init 13 = .ok (.bipush 8, 2) := by decide +kernel
theorem dX4_init_15 : decode cX4_init 15 = .ok (.newarray .int, 2) := by decide +kernel
theorem dX4_init_17 : decode cX4_init 17 = .ok (.putfield 15, 3) := by decide +kernel
theorem dX4_init_20 : decode cX4_init 20 = .ok (.aload_n 0, 1) := by decide +kernel
theorem dX4_init_21 : decode cX4_init 21 = .ok (.bipush 8, 2) := by decide +kernel
theorem dX4_init_23 : decode cX4_init 23 = .ok (.newarray .int, 2) := by decide +kernel
theorem dX4_init_25 : decode cX4_init 25 = .ok (.putfield 18, 3) := by decide +kernel
theorem dX4_init_28 : decode cX4_init 28 = .ok (.aload_n 0, 1) := by decide +kernel
theorem dX4_init_29 : decode cX4_init 29 = .ok (.bipush 24, 2) := by decide +kernel
theorem dX4_init_31 : decode cX4_init 31 = .ok (.newarray .int, 2) := by decide +kernel
theorem dX4_init_33 : decode cX4_init 33 = .ok (.putfield 21, 3) := by decide +kernel
theorem dX4_init_36 : decode cX4_init 36 = .ok (.aload_n 0, 1) := by decide +kernel
theorem dX4_init_37 : decode cX4_init 37 = .ok (.bipush 24, 2) := by decide +kernel
theorem dX4_init_39 : decode cX4_init 39 = .ok (.newarray .int, 2) := by decide +kernel
theorem dX4_init_41 : decode cX4_init 41 = .ok (.putfield 24, 3) := by decide +kernel
theorem dX4_init_44 : decode cX4_init 44 = .ok (.aload_n 0, 1) := by decide +kernel
theorem dX4_init_45 : decode cX4_init 45 = .ok (.bipush 96, 2) := by decide +kernel
theorem dX4_init_47 : decode cX4_init 47 = .ok (.newarray .int, 2) := by decide +kernel
theorem dX4_init_49 : decode cX4_init 49 = .ok (.putfield 27, 3) := by decide +kernel
theorem dX4_init_52 : decode cX4_init 52 = .ok (.aload_n 0, 1) := by decide +kernel
theorem dX4_init_53 : decode cX4_init 53 = .ok (.bipush 96, 2) := by decide +kernel
theorem dX4_init_55 : decode cX4_init 55 = .ok (.newarray .int, 2) := by decide +kernel
theorem dX4_init_57 : decode cX4_init 57 = .ok (.putfield 30, 3) := by decide +kernel
theorem dX4_init_60 : decode cX4_init 60 = .ok (.return_, 1) := by decide +kernel
theorem dX4_clear_0 : decode cX4_clear 0 = .ok (.aload_n 0, 1) := by decide +kernel
theorem dX4_clear_1 : decode cX4_clear 1 = .ok (.iconst 0, 1) := by decide +kernel
theorem dX4_clear_2 : decode cX4_clear 2 = .ok (.putfield 33, 3) := by decide +kernel
theorem dX4_clear_5 : decode cX4_clear 5 = .ok (.aload_n 0, 1) := by decide +kernel
theorem dX4_clear_6 : decode cX4_clear 6 = .ok (.iconst 0, 1) := by decide +kernel
theorem dX4_clear_7 : decode cX4_clear 7 = .ok (.putfield 37, 3) := by decide +kernel
theorem dX4_clear_10 : decode cX4_clear 10 = .ok (.aload_n 0, 1) := by decide +kernel
theorem dX4_clear_11 : decode cX4_clear 11 = .ok (.getstatic 40, 3) := by decide +kernel
theorem dX4_clear_14 : decode cX4_clear 14 = .ok (.invokevirtual 43, 3) := by decide +kernel
theorem dX4_clear_17 : decode cX4_clear 17 = .ok (.return_, 1) := by decide +kernel
theorem dX4_setRules_0 : decode cX4_setRules 0 = .ok (.aload_n 1, 1) := by decide +kernel
theorem dX4_setRules_1 : decode cX4_setRules 1 = .ok (.iconst 0, 1) := by decide +kernel
theorem dX4_setRules_2 : decode cX4_setRules 2 = .ok (.aload_n 0, 1) := by decide +kernel
theorem dX4_setRules_3 : decode cX4_setRules 3 = .ok (.getfield 9, 3) := by decide +kernel
theorem dX4_setRules_6 : decode cX4_setRules 6 = .ok (.iconst 0, 1) := by decide +kernel
theorem dX4_setRules_7 : decode cX4_setRules 7 = .ok (.bipush 8, 2) := by decide +kernel
theorem dX4_setRules_9 : decode cX4_setRules 9 = .ok (.invokestatic 47, 3) := by decide +kernel
theorem dX4_setRules_12 : decode cX4_setRules 12 = .ok (.return_, 1) := by decide +kernel
theorem dX4_addTape_0 : decode cX4_addTape 0 = .ok (.aload_n 0, 1) := by decide +kernel
theorem dX4_addTape_1 : decode cX4_addTape 1 = .ok (.getfield 33, 3) := by decide +kernel
theorem dX4_addTape_4 : decode cX4_addTape 4 = .ok (.bipush 8, 2) := by decide +kernel
theorem dX4_addTape_6 : decode cX4_addTape 6 = .ok (.if_icmp .ge 33, 3) := by decide +kernel
theorem dX4_addTape_9 : decode cX4_addTape 9 = .ok (.aload_n 0, 1) := by decide +kernel
theorem dX4_addTape_10 : decode cX4_addTape 10 = .ok (.getfield 15, 3) := by decide +kernel
theorem dX4_addTape_13 : decode cX4_addTape 13 = .ok (.aload_n 0, 1) := by decide +kernel
theorem dX4_addTape_14 : decode cX4_addTape 14 = .ok (.getfield 33, 3) := by decide +kernel
theorem dX4_addTape_17 : decode cX4_addTape 17 = .ok (.iload_n 1, 1) := by decide +kernel
theorem dX4_addTape_18 : decode cX4_addTape 18 = .ok (.iastore, 1) := by decide +kernel
theorem dX4_addTape_19 : decode cX4_addTape 19 = .ok (.aload_n 0, 1) := by decide +kernel
theorem dX4_addTape_20 : decode cX4_addTape 20 = .ok (.getfield 18, 3) := by decide +kernel
theorem dX4_addTape_23 : decode cX4_addTape 23 = .ok (.aload_n 0, 1) := by decide +kernel
theorem dX4_addTape_24 : decode cX4_addTape 24 = .ok (.getfield 33, 3) := by decide +kernel
theorem dX4_addTape_27 : decode cX4_addTape 27 = .ok (.iload_n 2, 1) := by decide +kernel
theorem dX4_addTape_28 : decode cX4_addTape 28 = .ok (.iastore, 1) := by decide +kernel
theorem dX4_addTape_29 : decode cX4_addTape 29 = .ok (.aload_n 0, 1) := by decide +kernel
theorem dX4_addTape_30 : decode cX4_addTape 30 = .ok (.dup, 1) := by decide +kernel
theorem dX4_addTape_31 : decode cX4_addTape 31 = .ok (.getfield 33, 3) := by decide +kernel
theorem dX4_addTape_34 : decode cX4_addTape 34 = .ok (.iconst 1, 1) := by decide +kernel
theorem dX4_addTape_35 : decode cX4_addTape 35 = .ok (.iadd, 1) := by decide +kernel
theorem dX4_addTape_36 : decode cX4_addTape 36 = .ok (.putfield 33, 3) := by decide +kernel
theorem dX4_addTape_39 : decode cX4_addTape 39 = .ok (.return_, 1) := by decide +kernel
theorem dX4_addFile_0 : decode cX4_addFile 0 = .ok (.aload_n 0, 1) := by decide +kernel
theorem dX4_addFile_1 : decode cX4_addFile 1 = .ok (.getfield 37, 3) := by decide +kernel
theorem dX4_addFile_4 : decode cX4_addFile 4 = .ok (.bipush 24, 2) := by decide +kernel
theorem dX4_addFile_6 : decode cX4_addFile 6 = .ok (.if_icmp .ge 33, 3) := by decide +kernel
theorem dX4_addFile_9 : decode cX4_addFile 9 = .ok (.aload_n 0, 1) := by decide +kernel
theorem dX4_addFile_10 : decode cX4_addFile 10 = .ok (.getfield 21, 3) := by decide +kernel
theorem dX4_addFile_13 : decode cX4_addFile 13 = .ok (.aload_n 0, 1) := by decide +kernel
theorem dX4_addFile_14 : decode cX4_addFile 14 = .ok (.getfield 37, 3) := by decide +kernel
theorem dX4_addFile_17 : decode cX4_addFile 17 = .ok (.iload_n 1, 1) := by decide +kernel
theorem dX4_addFile_18 : decode cX4_addFile 18 = .ok (.iastore, 1) := by decide +kernel
theorem dX4_addFile_19 : decode cX4_addFile 19 = .ok (.aload_n 0, 1) := by decide +kernel
theorem dX4_addFile_20 : decode cX4_addFile 20 = .ok (.getfield 24, 3) := by decide +kernel
theorem dX4_addFile_23 : decode cX4_addFile 23 = .ok (.aload_n 0, 1) := by decide +kernel
theorem dX4_addFile_24 : decode cX4_addFile 24 = .ok (.getfield 37, 3) := by decide +kernel
theorem dX4_addFile_27 : decode cX4_addFile 27 = .ok (.iload_n 2, 1) := by decide +kernel
theorem dX4_addFile_28 : decode cX4_addFile 28 = .ok (.iastore, 1) := by decide +kernel
theorem dX4_addFile_29 : decode cX4_addFile 29 = .ok (.aload_n 0, 1) := by decide +kernel
theorem dX4_addFile_30 : decode cX4_addFile 30 = .ok (.dup, 1) := by decide +kernel
theorem dX4_addFile_31 : decode cX4_addFile 31 = .ok (.getfield 37, 3) := by decide +kernel
theorem dX4_addFile_34 : decode cX4_addFile 34 = .ok (.iconst 1, 1) := by decide +kernel
theorem dX4_addFile_35 : decode cX4_addFile 35 = .ok (.iadd, 1) := by decide +kernel
theorem dX4_addFile_36 : decode cX4_addFile 36 = .ok (.putfield 37, 3) := by decide +kernel
theorem dX4_addFile_39 : decode cX4_addFile 39 = .ok (.return_, 1) := by decide +kernel
theorem dX4_layOut_0 : decode cX4_layOut 0 = .ok (.aload_n 0, 1) := by decide +kernel
theorem dX4_layOut_1 : decode cX4_layOut 1 = .ok (.getfield 9, 3) := by decide +kernel
theorem dX4_layOut_4 : decode cX4_layOut 4 = .ok (.iconst 2, 1) := by decide +kernel
theorem dX4_layOut_5 : decode cX4_layOut 5 = .ok (.iaload, 1) := by decide +kernel
theorem dX4_layOut_6 : decode cX4_layOut 6 = .ok (.istore_n 1, 1) := by decide +kernel
theorem dX4_layOut_7 : decode cX4_layOut 7 = .ok (.aload_n 0, 1) := by decide +kernel
theorem dX4_layOut_8 : decode cX4_layOut 8 = .ok (.iload_n 1, 1) := by decide +kernel
theorem dX4_layOut_9 : decode cX4_layOut 9 = .ok (.aload_n 0, 1) := by decide +kernel
theorem dX4_layOut_10 : decode cX4_layOut 10 = .ok (.getfield 9, 3) := by decide +kernel
theorem dX4_layOut_13 : decode cX4_layOut 13 = .ok (.iconst 3, 1) := by decide +kernel
theorem dX4_layOut_14 : decode cX4_layOut 14 = .ok (.iaload, 1) := by decide +kernel
theorem dX4_layOut_15 : decode cX4_layOut 15 = .ok (.imul, 1) := by decide +kernel
theorem dX4_layOut_16 : decode cX4_layOut 16 = .ok (.bipush 96, 2) := by decide +kernel
theorem dX4_layOut_18 : decode cX4_layOut 18 = .ok (.invokestatic 53, 3) := by decide +kernel
theorem dX4_layOut_21 : decode cX4_layOut 21 = .ok (.putfield 59, 3) := by decide +kernel
theorem dX4_layOut_24 : decode cX4_layOut 24 = .ok (.iconst 0, 1) := by decide +kernel
theorem dX4_layOut_25 : decode cX4_layOut 25 = .ok (.istore_n 2, 1) := by decide +kernel
theorem dX4_layOut_26 : decode cX4_layOut 26 = .ok (.iload_n 2, 1) := by decide +kernel
theorem dX4_layOut_27 : decode cX4_layOut 27 = .ok (.aload_n 0, 1) := by decide +kernel
theorem dX4_layOut_28 : decode cX4_layOut 28 = .ok (.getfield 59, 3) := by decide +kernel
theorem dX4_layOut_31 : decode cX4_layOut 31 = .ok (.if_icmp .ge 52, 3) := by decide +kernel
theorem dX4_layOut_34 : decode cX4_layOut 34 = .ok (.iload_n 1, 1) := by decide +kernel
theorem dX4_layOut_35 : decode cX4_layOut 35 = .ok (.ifCond .le 48, 3) := by decide +kernel
theorem dX4_layOut_38 : decode cX4_layOut 38 = .ok (.iload_n 2, 1) := by decide +kernel
theorem dX4_layOut_39 : decode cX4_layOut 39 = .ok (.iload_n 1, 1) := by decide +kernel
theorem dX4_layOut_40 : decode cX4_layOut 40 = .ok (.irem, 1) := by decide +kernel
theorem dX4_layOut_41 : decode cX4_layOut 41 = .ok (.istore_n 3, 1) := by decide +kernel
theorem dX4_layOut_42 : decode cX4_layOut 42 = .ok (.aload_n 0, 1) := by decide +kernel
theorem dX4_layOut_43 : decode cX4_layOut 43 = .ok (.getfield 30, 3) := by decide +kernel
theorem dX4_layOut_46 : decode cX4_layOut 46 = .ok (.iload_n 2, 1) := by decide +kernel
theorem dX4_layOut_47 : decode cX4_layOut 47 = .ok (.iload_n 2, 1) := by decide +kernel
theorem dX4_layOut_48 : decode cX4_layOut 48 = .ok (.iload_n 1, 1) := by decide +kernel
theorem dX4_layOut_49 : decode cX4_layOut 49 = .ok (.idiv, 1) := by decide +kernel
theorem dX4_layOut_50 : decode cX4_layOut 50 = .ok (.iastore, 1) := by decide +kernel
theorem dX4_layOut_51 : decode cX4_layOut 51 = .ok (.aload_n 0, 1) := by decide +kernel
theorem dX4_layOut_52 : decode cX4_layOut 52 = .ok (.getfield 27, 3) := by decide +kernel
theorem dX4_layOut_55 : decode cX4_layOut 55 = .ok (.iload_n 2, 1) := by decide +kernel
theorem dX4_layOut_56 : decode cX4_layOut 56 = .ok (.aload_n 0, 1) := by decide +kernel
theorem dX4_layOut_57 : decode cX4_layOut 57 = .ok (.getfield 30, 3) := by decide +kernel
theorem dX4_layOut_60 : decode cX4_layOut 60 = .ok (.iload_n 2, 1) := by decide +kernel
theorem dX4_layOut_61 : decode cX4_layOut 61 = .ok (.iaload, 1) := by decide +kernel
theorem dX4_layOut_62 : decode cX4_layOut 62 = .ok (.iconst 2, 1) := by decide +kernel
theorem dX4_layOut_63 : decode cX4_layOut 63 = .ok (.irem, 1) := by decide +kernel
theorem dX4_layOut_64 : decode cX4_layOut 64 = .ok (.ifCond .ne 7, 3) := by decide +kernel
theorem dX4_layOut_67 : decode cX4_layOut 67 = .ok (.iload_n 3, 1) := by decide +kernel
theorem dX4_layOut_68 : decode cX4_layOut 68 = .ok (.goto 8, 3) := by decide +kernel
theorem dX4_layOut_71 : decode cX4_layOut 71 = .ok (.iload_n 1, 1) := by decide +kernel
theorem dX4_layOut_72 : decode cX4_layOut 72 = .ok (.iconst 1, 1) := by decide +kernel
theorem dX4_layOut_73 : decode cX4_layOut 73 = .ok (.isub, 1) := by decide +kernel
theorem dX4_layOut_74 : decode cX4_layOut 74 = .ok (.iload_n 3, 1) := by decide +kernel
theorem dX4_layOut_75 : decode cX4_layOut 75 = .ok (.isub, 1) := by decide +kernel
theorem dX4_layOut_76 : decode cX4_layOut 76 = .ok (.iastore, 1) := by decide +kernel
theorem dX4_layOut_77 : decode cX4_layOut 77 = .ok (.iinc 2 1, 3) := by decide +kernel
theorem dX4_layOut_80 : decode cX4_layOut 80 = .ok (.goto (-54), 3) := by decide +kernel
theorem dX4_layOut_83 : decode cX4_layOut 83 = .ok (.return_, 1) := by decide +kernel
theorem dX4_become_0 : decode cX4_become 0 = .ok (.aload_n 0, 1) := by decide +kernel
theorem dX4_become_1 : decode cX4_become 1 = .ok (.aload_n 1, 1) := by decide +kernel
theorem dX4_become_2 : decode cX4_become 2 = .ok (.getfield 33, 3) := by decide +kernel
theorem dX4_become_5 : decode cX4_become 5 = .ok (.putfield 33, 3) := by decide +kernel
theorem dX4_become_8 : decode cX4_become 8 = .ok (.aload_n 0, 1) := by decide +kernel
theorem dX4_become_9 : decode cX4_become 9 = .ok (.aload_n 1, 1) := by decide +kernel
theorem dX4_become_10 : decode cX4_become 10 = .ok (.getfield 37, 3) := by decide +kernel
theorem dX4_become_13 : decode cX4_become 13 = .ok (.putfield 37, 3) := by decide +kernel
theorem dX4_become_16 : decode cX4_become 16 = .ok (.aload_n 1, 1) := by decide +kernel
theorem dX4_become_17 : decode cX4_become 17 = .ok (.getfield 9, 3) := by decide +kernel
theorem dX4_become_20 : decode cX4_become 20 = .ok (.iconst 0, 1) := by decide +kernel
theorem dX4_become_21 : decode cX4_become 21 = .ok (.aload_n 0, 1) := by decide +kernel
theorem dX4_become_22 : decode cX4_become 22 = .ok (.getfield 9, 3) := by decide +kernel
theorem dX4_become_25 : decode cX4_become 25 = .ok (.iconst 0, 1) := by decide +kernel
theorem dX4_become_26 : decode cX4_become 26 = .ok (.bipush 8, 2) := by decide +kernel
theorem dX4_become_28 : decode cX4_become 28 = .ok (.invokestatic 47, 3) := by decide +kernel
theorem dX4_become_31 : decode cX4_become 31 = .ok (.aload_n 1, 1) := by decide +kernel
theorem dX4_become_32 : decode cX4_become 32 = .ok (.getfield 15, 3) := by decide +kernel
theorem dX4_become_35 : decode cX4_become 35 = .ok (.iconst 0, 1) := by decide +kernel
theorem dX4_become_36 : decode cX4_become 36 = .ok (.aload_n 0, 1) := by decide +kernel
theorem dX4_become_37 : decode cX4_become 37 = .ok (.getfield 15, 3) := by decide +kernel
theorem dX4_become_40 : decode cX4_become 40 = .ok (.iconst 0, 1) := by decide +kernel
theorem dX4_become_41 : decode cX4_become 41 = .ok (.bipush 8, 2) := by decide +kernel
theorem dX4_become_43 : decode cX4_become 43 = .ok (.invokestatic 47, 3) := by decide +kernel
theorem dX4_become_46 : decode cX4_become 46 = .ok (.aload_n 1, 1) := by decide +kernel
theorem dX4_become_47 : decode cX4_become 47 = .ok (.getfield 18, 3) := by decide +kernel
theorem dX4_become_50 : decode cX4_become 50 = .ok (.iconst 0, 1) := by decide +kernel
theorem dX4_become_51 : decode cX4_become 51 = .ok (.aload_n 0, 1) := by decide +kernel
theorem dX4_become_52 : decode cX4_become 52 = .ok (.getfield 18, 3) := by decide +kernel
theorem dX4_become_55 : decode cX4_become 55 = .ok (.iconst 0, 1) := by decide +kernel
theorem dX4_become_56 : decode cX4_become 56 = .ok (.bipush 8, 2) := by decide +kernel
theorem dX4_become_58 : decode cX4_become 58 = .ok (.invokestatic 47, 3) := by decide +kernel
theorem dX4_become_61 : decode cX4_become 61 = .ok (.aload_n 1, 1) := by decide +kernel
theorem dX4_become_62 : decode cX4_become 62 = .ok (.getfield 21, 3) := by decide +kernel
theorem dX4_become_65 : decode cX4_become 65 = .ok (.iconst 0, 1) := by decide +kernel
theorem dX4_become_66 : decode cX4_become 66 = .ok (.aload_n 0, 1) := by decide +kernel
theorem dX4_become_67 : decode cX4_become 67 = .ok (.getfield 21, 3) := by decide +kernel
theorem dX4_become_70 : decode cX4_become 70 = .ok (.iconst 0, 1) := by decide +kernel
theorem dX4_become_71 : decode cX4_become 71 = .ok (.bipush 24, 2) := by decide +kernel
theorem dX4_become_73 : decode cX4_become 73 = .ok (.invokestatic 47, 3) := by decide +kernel
theorem dX4_become_76 : decode cX4_become 76 = .ok (.aload_n 1, 1) := by decide +kernel
theorem dX4_become_77 : decode cX4_become 77 = .ok (.getfield 24, 3) := by decide +kernel
theorem dX4_become_80 : decode cX4_become 80 = .ok (.iconst 0, 1) := by decide +kernel
theorem dX4_become_81 : decode cX4_become 81 = .ok (.aload_n 0, 1) := by decide +kernel
theorem dX4_become_82 : decode cX4_become 82 = .ok (.getfield 24, 3) := by decide +kernel
theorem dX4_become_85 : decode cX4_become 85 = .ok (.iconst 0, 1) := by decide +kernel
theorem dX4_become_86 : decode cX4_become 86 = .ok (.bipush 24, 2) := by decide +kernel
theorem dX4_become_88 : decode cX4_become 88 = .ok (.invokestatic 47, 3) := by decide +kernel
theorem dX4_become_91 : decode cX4_become 91 = .ok (.aload_n 0, 1) := by decide +kernel
theorem dX4_become_92 : decode cX4_become 92 = .ok (.invokevirtual 62, 3) := by decide +kernel
theorem dX4_become_95 : decode cX4_become 95 = .ok (.return_, 1) := by decide +kernel
theorem dX4_isTold_0 : decode cX4_isTold 0 = .ok (.aload_n 0, 1) := by decide +kernel
theorem dX4_isTold_1 : decode cX4_isTold 1 = .ok (.getfield 33, 3) := by decide +kernel
theorem dX4_isTold_4 : decode cX4_isTold 4 = .ok (.ifCond .le 7, 3) := by decide +kernel
theorem dX4_isTold_7 : decode cX4_isTold 7 = .ok (.iconst 1, 1) := by decide +kernel
theorem dX4_isTold_8 : decode cX4_isTold 8 = .ok (.goto 4, 3) := by decide +kernel
theorem dX4_isTold_11 : decode cX4_isTold 11 = .ok (.iconst 0, 1) := by decide +kernel
theorem dX4_isTold_12 : decode cX4_isTold 12 = .ok (.ireturn, 1) := by decide +kernel
theorem dX4_isTape_0 : decode cX4_isTape 0 = .ok (.iload_n 1, 1) := by decide +kernel
theorem dX4_isTape_1 : decode cX4_isTape 1 = .ok (.ifCond .lt 15, 3) := by decide +kernel
theorem dX4_isTape_4 : decode cX4_isTape 4 = .ok (.iload_n 1, 1) := by decide +kernel
theorem dX4_isTape_5 : decode cX4_isTape 5 = .ok (.aload_n 0, 1) := by decide +kernel
theorem dX4_isTape_6 : decode cX4_isTape 6 = .ok (.getfield 33, 3) := by decide +kernel
theorem dX4_isTape_9 : decode cX4_isTape 9 = .ok (.if_icmp .ge 7, 3) := by decide +kernel
theorem dX4_isTape_12 : decode cX4_isTape 12 = .ok (.iconst 1, 1) := by decide +kernel
theorem dX4_isTape_13 : decode cX4_isTape 13 = .ok (.goto 4, 3) := by decide +kernel
theorem dX4_isTape_16 : decode cX4_isTape 16 = .ok (.iconst 0, 1) := by decide +kernel
theorem dX4_isTape_17 : decode cX4_isTape 17 = .ok (.ireturn, 1) := by decide +kernel
theorem dX4_isPlace_0 : decode cX4_isPlace 0 = .ok (.aload_n 0, 1) := by decide +kernel
theorem dX4_isPlace_1 : decode cX4_isPlace 1 = .ok (.invokevirtual 65, 3) := by decide +kernel
theorem dX4_isPlace_4 : decode cX4_isPlace 4 = .ok (.ifCond .eq 28, 3) := by decide +kernel
theorem dX4_isPlace_7 : decode cX4_isPlace 7 = .ok (.iload_n 1, 1) := by decide +kernel
theorem dX4_isPlace_8 : decode cX4_isPlace 8 = .ok (.ifCond .lt 24, 3) := by decide +kernel
theorem dX4_isPlace_11 : decode cX4_isPlace 11 = .ok (.iload_n 1, 1) := by decide +kernel
theorem dX4_isPlace_12 : decode cX4_isPlace 12 = .ok (.aload_n 0, 1) := by decide +kernel
theorem dX4_isPlace_13 : decode cX4_isPlace 13 = .ok (.getfield 9, 3) := by decide +kernel
theorem dX4_isPlace_16 : decode cX4_isPlace 16 = .ok (.iconst 0, 1) := by decide +kernel
theorem dX4_isPlace_17 : decode cX4_isPlace 17 = .ok (.iaload, 1) := by decide +kernel
theorem dX4_isPlace_18 : decode cX4_isPlace 18 = .ok (.aload_n 0, 1) := by decide +kernel
theorem dX4_isPlace_19 : decode cX4_isPlace 19 = .ok (.getfield 9, 3) := by decide +kernel
theorem dX4_isPlace_22 : decode cX4_isPlace 22 = .ok (.iconst 1, 1) := by decide +kernel
theorem dX4_isPlace_23 : decode cX4_isPlace 23 = .ok (.iaload, 1) := by decide +kernel
theorem dX4_isPlace_24 : decode cX4_isPlace 24 = .ok (.iadd, 1) := by decide +kernel
theorem dX4_isPlace_25 : decode cX4_isPlace 25 = .ok (.if_icmp .ge 7, 3) := by decide +kernel
theorem dX4_isPlace_28 : decode cX4_isPlace 28 = .ok (.iconst 1, 1) := by decide +kernel
theorem dX4_isPlace_29 : decode cX4_isPlace 29 = .ok (.goto 4, 3) := by decide +kernel
theorem dX4_isPlace_32 : decode cX4_isPlace 32 = .ok (.iconst 0, 1) := by decide +kernel
theorem dX4_isPlace_33 : decode cX4_isPlace 33 = .ok (.ireturn, 1) := by decide +kernel
theorem dX4_isBlock_0 : decode cX4_isBlock 0 = .ok (.iload_n 1, 1) := by decide +kernel
theorem dX4_isBlock_1 : decode cX4_isBlock 1 = .ok (.ifCond .lt 15, 3) := by decide +kernel
theorem dX4_isBlock_4 : decode cX4_isBlock 4 = .ok (.iload_n 1, 1) := by decide +kernel
theorem dX4_isBlock_5 : decode cX4_isBlock 5 = .ok (.aload_n 0, 1) := by decide +kernel
theorem dX4_isBlock_6 : decode cX4_isBlock 6 = .ok (.getfield 59, 3) := by decide +kernel
theorem dX4_isBlock_9 : decode cX4_isBlock 9 = .ok (.if_icmp .ge 7, 3) := by decide +kernel
theorem dX4_isBlock_12 : decode cX4_isBlock 12 = .ok (.iconst 1, 1) := by decide +kernel
theorem dX4_isBlock_13 : decode cX4_isBlock 13 = .ok (.goto 4, 3) := by decide +kernel
theorem dX4_isBlock_16 : decode cX4_isBlock 16 = .ok (.iconst 0, 1) := by decide +kernel
theorem dX4_isBlock_17 : decode cX4_isBlock 17 = .ok (.ireturn, 1) := by decide +kernel
theorem dX4_armTime_0 : decode cX4_armTime 0 = .ok (.aload_n 0, 1) := by decide +kernel
theorem dX4_armTime_1 : decode cX4_armTime 1 = .ok (.getfield 9, 3) := by decide +kernel
theorem dX4_armTime_4 : decode cX4_armTime 4 = .ok (.iconst 5, 1) := by decide +kernel
theorem dX4_armTime_5 : decode cX4_armTime 5 = .ok (.iaload, 1) := by decide +kernel
theorem dX4_armTime_6 : decode cX4_armTime 6 = .ok (.iload_n 1, 1) := by decide +kernel
theorem dX4_armTime_7 : decode cX4_armTime 7 = .ok (.iload_n 2, 1) := by decide +kernel
theorem dX4_armTime_8 : decode cX4_armTime 8 = .ok (.if_icmp .ge 9, 3) := by decide +kernel
theorem dX4_armTime_11 : decode cX4_armTime 11 = .ok (.iload_n 2, 1) := by decide +kernel
theorem dX4_armTime_12 : decode cX4_armTime 12 = .ok (.iload_n 1, 1) := by decide +kernel
theorem dX4_armTime_13 : decode cX4_armTime 13 = .ok (.isub, 1) := by decide +kernel
theorem dX4_armTime_14 : decode cX4_armTime 14 = .ok (.goto 6, 3) := by decide +kernel
theorem dX4_armTime_17 : decode cX4_armTime 17 = .ok (.iload_n 1, 1) := by decide +kernel
theorem dX4_armTime_18 : decode cX4_armTime 18 = .ok (.iload_n 2, 1) := by decide +kernel
theorem dX4_armTime_19 : decode cX4_armTime 19 = .ok (.isub, 1) := by decide +kernel
theorem dX4_armTime_20 : decode cX4_armTime 20 = .ok (.imul, 1) := by decide +kernel
theorem dX4_armTime_21 : decode cX4_armTime 21 = .ok (.ireturn, 1) := by decide +kernel
theorem dX4_seekTime_0 : decode cX4_seekTime 0 = .ok (.iload_n 1, 1) := by decide +kernel
theorem dX4_seekTime_1 : decode cX4_seekTime 1 = .ok (.ifCond .lt 23, 3) := by decide +kernel
theorem dX4_seekTime_4 : decode cX4_seekTime 4 = .ok (.iload_n 2, 1) := by decide +kernel
theorem dX4_seekTime_5 : decode cX4_seekTime 5 = .ok (.ifCond .lt 19, 3) := by decide +kernel
theorem dX4_seekTime_8 : decode cX4_seekTime 8 = .ok (.iload_n 1, 1) := by decide +kernel
theorem dX4_seekTime_9 : decode cX4_seekTime 9 = .ok (.aload_n 0, 1) := by decide +kernel
theorem dX4_seekTime_10 : decode cX4_seekTime 10 = .ok (.getfield 59, 3) := by decide +kernel
theorem dX4_seekTime_13 : decode cX4_seekTime 13 = .ok (.if_icmp .ge 11, 3) := by decide +kernel
theorem dX4_seekTime_16 : decode cX4_seekTime 16 = .ok (.iload_n 2, 1) := by decide +kernel
theorem dX4_seekTime_17 : decode cX4_seekTime 17 = .ok (.aload_n 0, 1) := by decide +kernel
theorem dX4_seekTime_18 : decode cX4_seekTime 18 = .ok (.getfield 59, 3) := by decide +kernel
theorem dX4_seekTime_21 : decode cX4_seekTime 21 = .ok (.if_icmp .lt 5, 3) := by decide +kernel
theorem dX4_seekTime_24 : decode cX4_seekTime 24 = .ok (.iconst 0, 1) := by decide +kernel
theorem dX4_seekTime_25 : decode cX4_seekTime 25 = .ok (.ireturn, 1) := by decide +kernel
theorem dX4_seekTime_26 : decode cX4_seekTime 26 = .ok (.aload_n 0, 1) := by decide +kernel
theorem dX4_seekTime_27 : decode cX4_seekTime 27 = .ok (.getfield 27, 3) := by decide +kernel
theorem dX4_seekTime_30 : decode cX4_seekTime 30 = .ok (.iload_n 1, 1) := by decide +kernel
theorem dX4_seekTime_31 : decode cX4_seekTime 31 = .ok (.iaload, 1) := by decide +kernel
theorem dX4_seekTime_32 : decode cX4_seekTime 32 = .ok (.aload_n 0, 1) := by decide +kernel
theorem dX4_seekTime_33 : decode cX4_seekTime 33 = .ok (.getfield 27, 3) := by decide +kernel
theorem dX4_seekTime_36 : decode cX4_seekTime 36 = .ok (.iload_n 2, 1) := by decide +kernel
theorem dX4_seekTime_37 : decode cX4_seekTime 37 = .ok (.iaload, 1) := by decide +kernel
theorem dX4_seekTime_38 : decode cX4_seekTime 38 = .ok (.isub, 1) := by decide +kernel
theorem dX4_seekTime_39 : decode cX4_seekTime 39 = .ok (.istore_n 3, 1) := by decide +kernel
theorem dX4_seekTime_40 : decode cX4_seekTime 40 = .ok (.iload_n 3, 1) := by decide +kernel
theorem dX4_seekTime_41 : decode cX4_seekTime 41 = .ok (.ifCond .ge 8, 3) := by decide +kernel
theorem dX4_seekTime_44 : decode cX4_seekTime 44 = .ok (.iload_n 3, 1) := by decide +kernel
theorem dX4_seekTime_45 : decode cX4_seekTime 45 = .ok (.ineg, 1) := by decide +kernel
theorem dX4_seekTime_46 : decode cX4_seekTime 46 = .ok (.goto 4, 3) := by decide +kernel
theorem dX4_seekTime_49 : decode cX4_seekTime 49 = .ok (.iload_n 3, 1) := by decide +kernel
theorem dX4_seekTime_50 : decode cX4_seekTime 50 = .ok (.aload_n 0, 1) := by decide +kernel
theorem dX4_seekTime_51 : decode cX4_seekTime 51 = .ok (.getfield 30, 3) := by decide +kernel
theorem dX4_seekTime_54 : decode cX4_seekTime 54 = .ok (.iload_n 1, 1) := by decide +kernel
theorem dX4_seekTime_55 : decode cX4_seekTime 55 = .ok (.iaload, 1) := by decide +kernel
theorem dX4_seekTime_56 : decode cX4_seekTime 56 = .ok (.aload_n 0, 1) := by decide +kernel
theorem dX4_seekTime_57 : decode cX4_seekTime 57 = .ok (.getfield 30, 3) := by decide +kernel
theorem dX4_seekTime_60 : decode cX4_seekTime 60 = .ok (.iload_n 2, 1) := by decide +kernel
theorem dX4_seekTime_61 : decode cX4_seekTime 61 = .ok (.iaload, 1) := by decide +kernel
theorem dX4_seekTime_62 : decode cX4_seekTime 62 = .ok (.if_icmp .ne 7, 3) := by decide +kernel
theorem dX4_seekTime_65 : decode cX4_seekTime 65 = .ok (.iconst 0, 1) := by decide +kernel
theorem dX4_seekTime_66 : decode cX4_seekTime 66 = .ok (.goto 4, 3) := by decide +kernel
theorem dX4_seekTime_69 : decode cX4_seekTime 69 = .ok (.iconst 2, 1) := by decide +kernel
theorem dX4_seekTime_70 : decode cX4_seekTime 70 = .ok (.iadd, 1) := by decide +kernel
theorem dX4_seekTime_71 : decode cX4_seekTime 71 = .ok (.ireturn, 1) := by decide +kernel
theorem dX5_init_0 : decode cX5_init 0 = .ok (.aload_n 0, 1) := by decide +kernel
theorem dX5_init_1 : decode cX5_init 1 = .ok (.invokespecial 3, 3) := by decide +kernel
theorem dX5_init_4 : decode cX5_init 4 = .ok (.aload_n 0, 1) := by decide +kernel
theorem dX5_init_5 : decode cX5_init 5 = .ok (.bipush 12, 2) := by decide +kernel
theorem dX5_init_7 : decode cX5_init 7 = .ok (.newarray .int, 2) := by decide +kernel
theorem dX5_init_9 : decode cX5_init 9 = .ok (.putfield 9, 3) := by decide +kernel
theorem dX5_init_12 : decode cX5_init 12 = .ok (.aload_n 0, 1) := by decide +kernel
theorem dX5_init_13 : decode cX5_init 13 = .ok (.bipush 12, 2) := by decide +kernel
theorem dX5_init_15 : decode cX5_init 15 = .ok (.newarray .boolean, 2) := by decide +kernel
theorem dX5_init_17 : decode cX5_init 17 = .ok (.putfield 15, 3) := by decide +kernel
theorem dX5_init_20 : decode cX5_init 20 = .ok (.aload_n 0, 1) := by decide +kernel
theorem dX5_init_21 : decode cX5_init 21 = .ok (.aload_n 1, 1) := by decide +kernel
theorem dX5_init_22 : decode cX5_init 22 = .ok (.putfield 19, 3) := by decide +kernel
theorem dX5_init_25 : decode cX5_init 25 = .ok (.return_, 1) := by decide +kernel
theorem dX5_readHall_0 : decode cX5_readHall 0 = .ok (.aload_n 1, 1) := by decide +kernel
theorem dX5_readHall_1 : decode cX5_readHall 1 = .ok (.invokevirtual 23, 3) := by decide +kernel
theorem dX5_readHall_4 : decode cX5_readHall 4 = .ok (.aload_n 0, 1) := by decide +kernel
theorem dX5_readHall_5 : decode cX5_readHall 5 = .ok (.iconst 0, 1) := by decide +kernel
theorem dX5_readHall_6 : decode cX5_readHall 6 = .ok (.putfield 28, 3) := by decide +kernel
theorem dX5_readHall_9 : decode cX5_readHall 9 = .ok (.aload_n 0, 1) := by decide +kernel
theorem dX5_readHall_10 : decode cX5_readHall 10 = .ok (.iconst 0, 1) := by decide +kernel
theorem dX5_readHall_11 : decode cX5_readHall 11 = .ok (.putfield 32, 3) := by decide +kernel
theorem dX5_readHall_14 : decode cX5_readHall 14 = .ok (.iconst 0, 1) := by decide +kernel
theorem dX5_readHall_15 : decode cX5_readHall 15 = .ok (.istore_n 2, 1) := by decide +kernel
theorem dX5_readHall_16 : decode cX5_readHall 16 = .ok (.iload_n 2, 1) := by decide +kernel
theorem dX5_readHall_17 : decode cX5_readHall 17 = .ok (.sipush 240, 3) := by decide +kernel
theorem dX5_readHall_20 : decode cX5_readHall 20 = .ok (.if_icmp .gt 50, 3) := by decide +kernel
theorem dX5_readHall_23 : decode cX5_readHall 23 = .ok (.aload_n 0, 1) := by decide +kernel
theorem dX5_readHall_24 : decode cX5_readHall 24 = .ok (.aload_n 1, 1) := by decide +kernel
theorem dX5_readHall_25 : decode cX5_readHall 25 = .ok (.invokevirtual 36, 3) := by decide +kernel
theorem dX5_readHall_28 : decode cX5_readHall 28 = .ok (.istore_n 3, 1) := by decide +kernel
theorem dX5_readHall_29 : decode cX5_readHall 29 = .ok (.iload_n 3, 1) := by decide +kernel
theorem dX5_readHall_30 : decode cX5_readHall 30 = .ok (.iconst (-1), 1) := by decide +kernel
theorem dX5_readHall_31 : decode cX5_readHall 31 = .ok (.if_icmp .eq 5, 3) := by decide +kernel
theorem dX5_readHall_34 : decode cX5_readHall 34 = .ok (.iload_n 3, 1) := by decide +kernel
theorem dX5_readHall_35 : decode cX5_readHall 35 = .ok (.ireturn, 1) := by decide +kernel
theorem dX5_readHall_36 : decode cX5_readHall 36 = .ok (.aload_n 0, 1) := by decide +kernel
theorem dX5_readHall_37 : decode cX5_readHall 37 = .ok (.getfield 19, 3) := by decide +kernel
theorem dX5_readHall_40 : decode cX5_readHall 40 = .ok (.aload_n 0, 1) := by decide +kernel
theorem dX5_readHall_41 : decode cX5_readHall 41 = .ok (.getfield 32, 3) := by decide +kernel
theorem dX5_readHall_44 : decode cX5_readHall 44 = .ok (.invokevirtual 40, 3) := by decide +kernel
theorem dX5_readHall_47 : decode cX5_readHall 47 = .ok (.iconst (-1), 1) := by decide +kernel
theorem dX5_readHall_48 : decode cX5_readHall 48 = .ok (.if_icmp .ne 6, 3) := by decide +kernel
theorem dX5_readHall_51 : decode cX5_readHall 51 = .ok (.goto 19, 3) := by decide +kernel
theorem dX5_readHall_54 : decode cX5_readHall 54 = .ok (.aload_n 0, 1) := by decide +kernel
theorem dX5_readHall_55 : decode cX5_readHall 55 = .ok (.dup, 1) := by decide +kernel
theorem dX5_readHall_56 : decode cX5_readHall 56 = .ok (.getfield 32, 3) := by decide +kernel
theorem dX5_readHall_59 : decode cX5_readHall 59 = .ok (.iconst 1, 1) := by decide +kernel
theorem dX5_readHall_60 : decode cX5_readHall 60 = .ok (.iadd, 1) := by decide +kernel
theorem dX5_readHall_61 : decode cX5_readHall 61 = .ok (.putfield 32, 3) := by decide +kernel
theorem dX5_readHall_64 : decode cX5_readHall 64 = .ok (.iinc 2 1, 3) := by decide +kernel
theorem dX5_readHall_67 : decode cX5_readHall 67 = .ok (.goto (-51), 3) := by decide +kernel
theorem dX5_readHall_70 : decode cX5_readHall 70 = .ok (.aload_n 1, 1) := by decide +kernel
theorem dX5_readHall_71 : decode cX5_readHall 71 = .ok (.getfield 46, 3) := by decide +kernel
theorem dX5_readHall_74 : decode cX5_readHall 74 = .ok (.ifCond .le 20, 3) := by decide +kernel
theorem dX5_readHall_77 : decode cX5_readHall 77 = .ok (.aload_n 1, 1) := by decide +kernel
theorem dX5_readHall_78 : decode cX5_readHall 78 = .ok (.getfield 46, 3) := by decide +kernel
theorem dX5_readHall_81 : decode cX5_readHall 81 = .ok (.aload_n 1, 1) := by decide +kernel
theorem dX5_readHall_82 : decode cX5_readHall 82 = .ok (.getfield 49, 3) := by decide +kernel
theorem dX5_readHall_85 : decode cX5_readHall 85 = .ok (.iconst 0, 1) := by decide +kernel
theorem dX5_readHall_86 : decode cX5_readHall 86 = .ok (.iaload, 1) := by decide +kernel
theorem dX5_readHall_87 : decode cX5_readHall 87 = .ok (.if_icmp .gt 7, 3) := by decide +kernel
theorem dX5_readHall_90 : decode cX5_readHall 90 = .ok (.iconst (-1), 1) := by decide +kernel
theorem dX5_readHall_91 : decode cX5_readHall 91 = .ok (.goto 10, 3) := by decide +kernel
theorem dX5_readHall_94 : decode cX5_readHall 94 = .ok (.aload_n 0, 1) := by decide +kernel
theorem dX5_readHall_95 : decode cX5_readHall 95 = .ok (.getfield 19, 3) := by decide +kernel
theorem dX5_readHall_98 : decode cX5_readHall 98 = .ok (.getfield 52, 3) := by decide +kernel
theorem dX5_readHall_101 : decode cX5_readHall 101 = .ok (.ireturn, 1) := by decide +kernel
theorem dX5_readClause_0 : decode cX5_readClause 0 = .ok (.ldc 55, 2) := by decide +kernel
theorem dX5_readClause_2 : decode cX5_readClause 2 = .ok (.aload_n 0, 1) := by decide +kernel
theorem dX5_readClause_3 : decode cX5_readClause 3 = .ok (.invokevirtual 57, 3) := by decide +kernel
theorem dX5_readClause_6 : decode cX5_readClause 6 = .ok (.invokestatic 61, 3) := by decide +kernel
theorem dX5_readClause_9 : decode cX5_readClause 9 = .ok (.istore_n 2, 1) := by decide +kernel
theorem dX5_readClause_10 : decode cX5_readClause 10 = .ok (.iload_n 2, 1) := by decide +kernel
theorem dX5_readClause_11 : decode cX5_readClause 11 = .ok (.ifCond .lt 12, 3) := by decide +kernel
theorem dX5_readClause_14 : decode cX5_readClause 14 = .ok (.aload_n 0, 1) := by decide +kernel
theorem dX5_readClause_15 : decode cX5_readClause 15 = .ok (.iload_n 2, 1) := by decide +kernel
theorem dX5_readClause_16 : decode cX5_readClause 16 = .ok (.aload_n 1, 1) := by decide +kernel
theorem dX5_readClause_17 : decode cX5_readClause 17 = .ok (.invokevirtual 65, 3) := by decide +kernel
theorem dX5_readClause_20 : decode cX5_readClause 20 = .ok (.ifCond .eq 8, 3) := by decide +kernel
theorem dX5_readClause_23 : decode cX5_readClause 23 = .ok (.aload_n 0, 1) := by decide +kernel
theorem dX5_readClause_24 : decode cX5_readClause 24 = .ok (.getfield 32, 3) := by decide +kernel
theorem dX5_readClause_27 : decode cX5_readClause 27 = .ok (.ireturn, 1) := by decide +kernel
theorem dX5_readClause_28 : decode cX5_readClause 28 = .ok (.aload_n 0, 1) := by decide +kernel
theorem dX5_readClause_29 : decode cX5_readClause 29 = .ok (.dup, 1) := by decide +kernel
theorem dX5_readClause_30 : decode cX5_readClause 30 = .ok (.getfield 32, 3) := by decide +kernel
theorem dX5_readClause_33 : decode cX5_readClause 33 = .ok (.iconst 1, 1) := by decide +kernel
theorem dX5_readClause_34 : decode cX5_readClause 34 = .ok (.iadd, 1) := by decide +kernel
theorem dX5_readClause_35 : decode cX5_readClause 35 = .ok (.putfield 32, 3) := by decide +kernel
theorem dX5_readClause_38 : decode cX5_readClause 38 = .ok (.aload_n 0, 1) := by decide +kernel
theorem dX5_readClause_39 : decode cX5_readClause 39 = .ok (.getstatic 69, 3) := by decide +kernel
theorem dX5_readClause_42 : decode cX5_readClause 42 = .ok (.iload_n 2, 1) := by decide +kernel
theorem dX5_readClause_43 : decode cX5_readClause 43 = .ok (.iaload, 1) := by decide +kernel
theorem dX5_readClause_44 : decode cX5_readClause 44 = .ok (.getstatic 69, 3) := by decide +kernel
theorem dX5_readClause_47 : decode cX5_readClause 47 = .ok (.iload_n 2, 1) := by decide +kernel
theorem dX5_readClause_48 : decode cX5_readClause 48 = .ok (.iconst 1, 1) := by decide +kernel
theorem dX5_readClause_49 : decode cX5_readClause 49 = .ok (.iadd, 1) := by decide +kernel
theorem dX5_readClause_50 : decode cX5_readClause 50 = .ok (.iaload, 1) := by decide +kernel
theorem dX5_readClause_51 : decode cX5_readClause 51 = .ok (.invokevirtual 72, 3) := by decide +kernel
theorem dX5_readClause_54 : decode cX5_readClause 54 = .ok (.istore_n 3, 1) := by decide +kernel
theorem dX5_readClause_55 : decode cX5_readClause 55 = .ok (.iload_n 3, 1) := by decide +kernel
theorem dX5_readClause_56 : decode cX5_readClause 56 = .ok (.iconst (-1), 1) := by decide +kernel
theorem dX5_readClause_57 : decode cX5_readClause 57 = .ok (.if_icmp .eq 5, 3) := by decide +kernel
theorem dX5_readClause_60 : decode cX5_readClause 60 = .ok (.iload_n 3, 1) := by decide +kernel
theorem dX5_readClause_61 : decode cX5_readClause 61 = .ok (.ireturn, 1) := by decide +kernel
theorem dX5_readClause_62 : decode cX5_readClause 62 = .ok (.iload_n 2, 1) := by decide +kernel
theorem dX5_readClause_63 : decode cX5_readClause 63 = .ok (.ifCond .ne 19, 3) := by decide +kernel
theorem dX5_readClause_66 : decode cX5_readClause 66 = .ok (.aload_n 0, 1) := by decide +kernel
theorem dX5_readClause_67 : decode cX5_readClause 67 = .ok (.iconst 1, 1) := by decide +kernel
theorem dX5_readClause_68 : decode cX5_readClause 68 = .ok (.putfield 28, 3) := by decide +kernel
theorem dX5_readClause_71 : decode cX5_readClause 71 = .ok (.aload_n 1, 1) := by decide +kernel
theorem dX5_readClause_72 : decode cX5_readClause 72 = .ok (.aload_n 0, 1) := by decide +kernel
theorem dX5_readClause_73 : decode cX5_readClause 73 = .ok (.getfield 9, 3) := by decide +kernel
theorem dX5_readClause_76 : decode cX5_readClause 76 = .ok (.invokevirtual 76, 3) := by decide +kernel
theorem dX5_readClause_79 : decode cX5_readClause 79 = .ok (.goto 47, 3) := by decide +kernel
theorem dX5_readClause_82 : decode cX5_readClause 82 = .ok (.iload_n 2, 1) := by decide +kernel
theorem dX5_readClause_83 : decode cX5_readClause 83 = .ok (.iconst 1, 1) := by decide +kernel
theorem dX5_readClause_84 : decode cX5_readClause 84 = .ok (.if_icmp .ne 24, 3) := by decide +kernel
theorem dX5_readClause_87 : decode cX5_readClause 87 = .ok (.aload_n 1, 1) := by decide +kernel
theorem dX5_readClause_88 : decode cX5_readClause 88 = .ok (.aload_n 0, 1) := by decide +kernel
theorem dX5_readClause_89 : decode cX5_readClause 89 = .ok (.getfield 9, 3) := by decide +kernel
theorem dX5_readClause_92 : decode cX5_readClause 92 = .ok (.bipush 8, 2) := by decide +kernel
theorem dX5_readClause_94 : decode cX5_readClause 94 = .ok (.iaload, 1) := by decide +kernel
theorem dX5_readClause_95 : decode cX5_readClause 95 = .ok (.aload_n 0, 1) := by decide +kernel
theorem dX5_readClause_96 : decode cX5_readClause 96 = .ok (.getfield 9, 3) := by decide +kernel
theorem dX5_readClause_99 : decode cX5_readClause 99 = .ok (.bipush 9, 2) := by decide +kernel
theorem dX5_readClause_101 : decode cX5_readClause 101 = .ok (.iaload, 1) := by decide +kernel
theorem dX5_readClause_102 : decode cX5_readClause 102 = .ok (.invokevirtual 80, 3) := by decide +kernel
theorem dX5_readClause_105 : decode cX5_readClause 105 = .ok (.goto 21, 3) := by decide +kernel
theorem dX5_readClause_108 : decode cX5_readClause 108 = .ok (.aload_n 1, 1) := by decide +kernel
theorem dX5_readClause_109 : decode cX5_readClause 109 = .ok (.aload_n 0, 1) := by decide +kernel
theorem dX5_readClause_110 : decode cX5_readClause 110 = .ok (.getfield 9, 3) := by decide +kernel
theorem dX5_readClause_113 : decode cX5_readClause 113 = .ok (.bipush 10, 2) := by decide +kernel
theorem dX5_readClause_115 : decode cX5_readClause 115 = .ok (.iaload, 1) := by decide +kernel
theorem dX5_readClause_116 : decode cX5_readClause 116 = .ok (.aload_n 0, 1) := by decide +kernel
theorem dX5_readClause_117 : decode cX5_readClause 117 = .ok (.getfield 9, 3) := by decide +kernel
theorem dX5_readClause_120 : decode cX5_readClause 120 = .ok (.bipush 11, 2) := by decide +kernel
theorem dX5_readClause_122 : decode cX5_readClause 122 = .ok (.iaload, 1) := by decide +kernel
theorem dX5_readClause_123 : decode cX5_readClause 123 = .ok (.invokevirtual 84, 3) := by decide +kernel
theorem dX5_readClause_126 : decode cX5_readClause 126 = .ok (.iconst (-1), 1) := by decide +kernel
theorem dX5_readClause_127 : decode cX5_readClause 127 = .ok (.ireturn, 1) := by decide +kernel
theorem dX5_isOneTooMany_0 : decode cX5_isOneTooMany 0 = .ok (.iload_n 1, 1) := by decide +kernel
theorem dX5_isOneTooMany_1 : decode cX5_isOneTooMany 1 = .ok (.ifCond .ne 8, 3) := by decide +kernel
theorem dX5_isOneTooMany_4 : decode cX5_isOneTooMany 4 = .ok (.aload_n 0, 1) := by decide +kernel
theorem dX5_isOneTooMany_5 : decode cX5_isOneTooMany 5 = .ok (.getfield 28, 3) := by decide +kernel
theorem dX5_isOneTooMany_8 : decode cX5_isOneTooMany 8 = .ok (.ireturn, 1) := by decide +kernel
theorem dX5_isOneTooMany_9 : decode cX5_isOneTooMany 9 = .ok (.iload_n 1, 1) := by decide +kernel
theorem dX5_isOneTooMany_10 : decode cX5_isOneTooMany 10 = .ok (.iconst 1, 1) := by decide +kernel
theorem dX5_isOneTooMany_11 : decode cX5_isOneTooMany 11 = .ok (.if_icmp .ne 20, 3) := by decide +kernel
theorem dX5_isOneTooMany_14 : decode cX5_isOneTooMany 14 = .ok (.aload_n 2, 1) := by decide +kernel
theorem dX5_isOneTooMany_15 : decode cX5_isOneTooMany 15 = .ok (.getfield 46, 3) := by decide +kernel
theorem dX5_isOneTooMany_18 : decode cX5_isOneTooMany 18 = .ok (.bipush 8, 2) := by decide +kernel
theorem dX5_isOneTooMany_20 : decode cX5_isOneTooMany 20 = .ok (.if_icmp .lt 7, 3) := by decide +kernel
theorem dX5_isOneTooMany_23 : decode cX5_isOneTooMany 23 = .ok (.iconst 1, 1) := by decide +kernel
theorem dX5_isOneTooMany_24 : decode cX5_isOneTooMany 24 = .ok (.goto 21, 3) := by decide +kernel
theorem dX5_isOneTooMany_27 : decode cX5_isOneTooMany 27 = .ok (.iconst 0, 1) := by decide +kernel
theorem dX5_isOneTooMany_28 : decode cX5_isOneTooMany 28 = .ok (.goto 17, 3) := by decide +kernel
theorem dX5_isOneTooMany_31 : decode cX5_isOneTooMany 31 = .ok (.aload_n 2, 1) := by decide +kernel
theorem dX5_isOneTooMany_32 : decode cX5_isOneTooMany 32 = .ok (.getfield 87, 3) := by decide +kernel
theorem dX5_isOneTooMany_35 : decode cX5_isOneTooMany 35 = .ok (.bipush 24, 2) := by decide +kernel
theorem dX5_isOneTooMany_37 : decode cX5_isOneTooMany 37 = .ok (.if_icmp .lt 7, 3) := by decide +kernel
theorem dX5_isOneTooMany_40 : decode cX5_isOneTooMany 40 = .ok (.iconst 1, 1) := by decide +kernel
theorem dX5_isOneTooMany_41 : decode cX5_isOneTooMany 41 = .ok (.goto 4, 3) := by decide +kernel
theorem dX5_isOneTooMany_44 : decode cX5_isOneTooMany 44 = .ok (.iconst 0, 1) := by decide +kernel
theorem dX5_isOneTooMany_45 : decode cX5_isOneTooMany 45 = .ok (.ireturn, 1) := by decide +kernel
theorem dX5_readItems_0 : decode cX5_readItems 0 = .ok (.iload_n 1, 1) := by decide +kernel
theorem dX5_readItems_1 : decode cX5_readItems 1 = .ok (.istore_n 3, 1) := by decide +kernel
theorem dX5_readItems_2 : decode cX5_readItems 2 = .ok (.iload_n 3, 1) := by decide +kernel
theorem dX5_readItems_3 : decode cX5_readItems 3 = .ok (.iload_n 2, 1) := by decide +kernel
theorem dX5_readItems_4 : decode cX5_readItems 4 = .ok (.if_icmp .ge 27, 3) := by decide +kernel
theorem dX5_readItems_7 : decode cX5_readItems 7 = .ok (.aload_n 0, 1) := by decide +kernel
theorem dX5_readItems_8 : decode cX5_readItems 8 = .ok (.getfield 9, 3) := by decide +kernel
theorem dX5_readItems_11 : decode cX5_readItems 11 = .ok (.iload_n 3, 1) := by decide +kernel
theorem dX5_readItems_12 : decode cX5_readItems 12 = .ok (.getstatic 90, 3) := by decide +kernel
theorem dX5_readItems_15 : decode cX5_readItems 15 = .ok (.iload_n 3, 1) := by decide +kernel
theorem dX5_readItems_16 : decode cX5_readItems 16 = .ok (.iaload, 1) := by decide +kernel
theorem dX5_readItems_17 : decode cX5_readItems 17 = .ok (.iastore, 1) := by decide +kernel
theorem dX5_readItems_18 : decode cX5_readItems 18 = .ok (.aload_n 0, 1) := by decide +kernel
theorem dX5_readItems_19 : decode cX5_readItems 19 = .ok (.getfield 15, 3) := by decide +kernel
theorem dX5_readItems_22 : decode cX5_readItems 22 = .ok (.iload_n 3, 1) := by decide +kernel
theorem dX5_readItems_23 : decode cX5_readItems 23 = .ok (.iconst 0, 1) := by decide +kernel
theorem dX5_readItems_24 : decode cX5_readItems 24 = .ok (.bastore, 1) := by decide +kernel
theorem dX5_readItems_25 : decode cX5_readItems 25 = .ok (.iinc 3 1, 3) := by decide +kernel
theorem dX5_readItems_28 : decode cX5_readItems 28 = .ok (.goto (-26), 3) := by decide +kernel
theorem dX5_readItems_31 : decode cX5_readItems 31 = .ok (.iload_n 1, 1) := by decide +kernel
theorem dX5_readItems_32 : decode cX5_readItems 32 = .ok (.istore_n 3, 1) := by decide +kernel
theorem dX5_readItems_33 : decode cX5_readItems 33 = .ok (.iload_n 3, 1) := by decide +kernel
theorem dX5_readItems_34 : decode cX5_readItems 34 = .ok (.iload_n 2, 1) := by decide +kernel
theorem dX5_readItems_35 : decode cX5_readItems 35 = .ok (.if_icmp .gt 122, 3) := by decide +kernel
theorem dX5_readItems_38 : decode cX5_readItems 38 = .ok (.aload_n 0, 1) := by decide +kernel
theorem dX5_readItems_39 : decode cX5_readItems 39 = .ok (.invokevirtual 57, 3) := by decide +kernel
theorem dX5_readItems_42 : decode cX5_readItems 42 = .ok (.istore 4, 2) := by decide +kernel
theorem dX5_readItems_44 : decode cX5_readItems 44 = .ok (.iload 4, 2) := by decide +kernel
theorem dX5_readItems_46 : decode cX5_readItems 46 = .ok (.iconst (-1), 1) := by decide +kernel
theorem dX5_readItems_47 : decode cX5_readItems 47 = .ok (.if_icmp .eq 10, 3) := by decide +kernel
theorem dX5_readItems_50 : decode cX5_readItems 50 = .ok (.iload 4, 2) := by decide +kernel
theorem dX5_readItems_52 : decode cX5_readItems 52 = .ok (.bipush 59, 2) := by decide +kernel
theorem dX5_readItems_54 : decode cX5_readItems 54 = .ok (.if_icmp .ne 5, 3) := by decide +kernel
theorem dX5_readItems_57 : decode cX5_readItems 57 = .ok (.iconst (-1), 1) := by decide +kernel
theorem dX5_readItems_58 : decode cX5_readItems 58 = .ok (.ireturn, 1) := by decide +kernel
theorem dX5_readItems_59 : decode cX5_readItems 59 = .ok (.ldc 93, 2) := by decide +kernel
theorem dX5_readItems_61 : decode cX5_readItems 61 = .ok (.iload 4, 2) := by decide +kernel
theorem dX5_readItems_63 : decode cX5_readItems 63 = .ok (.invokestatic 61, 3) := by decide +kernel
theorem dX5_readItems_66 : decode cX5_readItems 66 = .ok (.istore 5, 2) := by decide +kernel
theorem dX5_readItems_68 : decode cX5_readItems 68 = .ok (.iload 5, 2) := by decide +kernel
theorem dX5_readItems_70 : decode cX5_readItems 70 = .ok (.iload_n 1, 1) := by decide +kernel
theorem dX5_readItems_71 : decode cX5_readItems 71 = .ok (.if_icmp .lt 19, 3) := by decide +kernel
theorem dX5_readItems_74 : decode cX5_readItems 74 = .ok (.iload 5, 2) := by decide +kernel
theorem dX5_readItems_76 : decode cX5_readItems 76 = .ok (.iload_n 2, 1) := by decide +kernel
theorem dX5_readItems_77 : decode cX5_readItems 77 = .ok (.if_icmp .ge 13, 3) := by decide +kernel
theorem dX5_readItems_80 : decode cX5_readItems 80 = .ok (.aload_n 0, 1) := by decide +kernel
theorem dX5_readItems_81 : decode cX5_readItems 81 = .ok (.getfield 15, 3) := by decide +kernel
theorem dX5_readItems_84 : decode cX5_readItems 84 = .ok (.iload 5, 2) := by decide +kernel
theorem dX5_readItems_86 : decode cX5_readItems 86 = .ok (.baload, 1) := by decide +kernel
theorem dX5_readItems_87 : decode cX5_readItems 87 = .ok (.ifCond .eq 8, 3) := by decide +kernel
theorem dX5_readItems_90 : decode cX5_readItems 90 = .ok (.aload_n 0, 1) := by decide +kernel
theorem dX5_readItems_91 : decode cX5_readItems 91 = .ok (.getfield 32, 3) := by decide +kernel
theorem dX5_readItems_94 : decode cX5_readItems 94 = .ok (.ireturn, 1) := by decide +kernel
theorem dX5_readItems_95 : decode cX5_readItems 95 = .ok (.aload_n 0, 1) := by decide +kernel
theorem dX5_readItems_96 : decode cX5_readItems 96 = .ok (.dup, 1) := by decide +kernel
theorem dX5_readItems_97 : decode cX5_readItems 97 = .ok (.getfield 32, 3) := by decide +kernel
theorem dX5_readItems_100 : decode cX5_readItems 100 = .ok (.iconst 1, 1) := by decide +kernel
theorem dX5_readItems_101 : decode cX5_readItems 101 = .ok (.iadd, 1) := by decide +kernel
theorem dX5_readItems_102 : decode cX5_readItems 102 = .ok (.putfield 32, 3) := by decide +kernel
theorem dX5_readItems_105 : decode cX5_readItems 105 = .ok (.aload_n 0, 1) := by decide +kernel
theorem dX5_readItems_106 : decode cX5_readItems 106 = .ok (.getstatic 95, 3) := by decide +kernel
theorem dX5_readItems_109 : decode cX5_readItems 109 = .ok (.iload 5, 2) := by decide +kernel
theorem dX5_readItems_111 : decode cX5_readItems 111 = .ok (.iaload, 1) := by decide +kernel
theorem dX5_readItems_112 : decode cX5_readItems 112 = .ok (.getstatic 98, 3) := by decide +kernel
theorem dX5_readItems_115 : decode cX5_readItems 115 = .ok (.iload 5, 2) := by decide +kernel
theorem dX5_readItems_117 : decode cX5_readItems 117 = .ok (.iaload, 1) := by decide +kernel
theorem dX5_readItems_118 : decode cX5_readItems 118 = .ok (.invokevirtual 101, 3) := by decide +kernel
theorem dX5_readItems_121 : decode cX5_readItems 121 = .ok (.istore 6, 2) := by decide +kernel
theorem dX5_readItems_123 : decode cX5_readItems 123 = .ok (.iload 6, 2) := by decide +kernel
theorem dX5_readItems_125 : decode cX5_readItems 125 = .ok (.iconst (-1), 1) := by decide +kernel
theorem dX5_readItems_126 : decode cX5_readItems 126 = .ok (.if_icmp .eq 6, 3) := by decide +kernel
theorem dX5_readItems_129 : decode cX5_readItems 129 = .ok (.iload 6, 2) := by decide +kernel
theorem dX5_readItems_131 : decode cX5_readItems 131 = .ok (.ireturn, 1) := by decide +kernel
theorem dX5_readItems_132 : decode cX5_readItems 132 = .ok (.aload_n 0, 1) := by decide +kernel
theorem dX5_readItems_133 : decode cX5_readItems 133 = .ok (.getfield 15, 3) := by decide +kernel
theorem dX5_readItems_136 : decode cX5_readItems 136 = .ok (.iload 5, 2) := by decide +kernel
theorem dX5_readItems_138 : decode cX5_readItems 138 = .ok (.iconst 1, 1) := by decide +kernel
theorem dX5_readItems_139 : decode cX5_readItems 139 = .ok (.bastore, 1) := by decide +kernel
theorem dX5_readItems_140 : decode cX5_readItems 140 = .ok (.aload_n 0, 1) := by decide +kernel
theorem dX5_readItems_141 : decode cX5_readItems 141 = .ok (.getfield 9, 3) := by decide +kernel
theorem dX5_readItems_144 : decode cX5_readItems 144 = .ok (.iload 5, 2) := by decide +kernel
theorem dX5_readItems_146 : decode cX5_readItems 146 = .ok (.aload_n 0, 1) := by decide +kernel
theorem dX5_readItems_147 : decode cX5_readItems 147 = .ok (.getfield 104, 3) := by decide +kernel
theorem dX5_readItems_150 : decode cX5_readItems 150 = .ok (.iastore, 1) := by decide +kernel
theorem dX5_readItems_151 : decode cX5_readItems 151 = .ok (.iinc 3 1, 3) := by decide +kernel
theorem dX5_readItems_154 : decode cX5_readItems 154 = .ok (.goto (-121), 3) := by decide +kernel
theorem dX5_readItems_157 : decode cX5_readItems 157 = .ok (.aload_n 0, 1) := by decide +kernel
theorem dX5_readItems_158 : decode cX5_readItems 158 = .ok (.getfield 32, 3) := by decide +kernel
theorem dX5_readItems_161 : decode cX5_readItems 161 = .ok (.ireturn, 1) := by decide +kernel
theorem dX5_readScript_0 : decode cX5_readScript 0 = .ok (.aload_n 1, 1) := by decide +kernel
theorem dX5_readScript_1 : decode cX5_readScript 1 = .ok (.iconst 0, 1) := by decide +kernel
theorem dX5_readScript_2 : decode cX5_readScript 2 = .ok (.putfield 107, 3) := by decide +kernel
theorem dX5_readScript_5 : decode cX5_readScript 5 = .ok (.aload_n 0, 1) := by decide +kernel
theorem dX5_readScript_6 : decode cX5_readScript 6 = .ok (.iconst 0, 1) := by decide +kernel
theorem dX5_readScript_7 : decode cX5_readScript 7 = .ok (.putfield 32, 3) := by decide +kernel
theorem dX5_readScript_10 : decode cX5_readScript 10 = .ok (.iconst 0, 1) := by decide +kernel
theorem dX5_readScript_11 : decode cX5_readScript 11 = .ok (.istore_n 2, 1) := by decide +kernel
theorem dX5_readScript_12 : decode cX5_readScript 12 = .ok (.iload_n 2, 1) := by decide +kernel
theorem dX5_readScript_13 : decode cX5_readScript 13 = .ok (.bipush 16, 2) := by decide +kernel
theorem dX5_readScript_15 : decode cX5_readScript 15 = .ok (.if_icmp .ge 67, 3) := by decide +kernel
theorem dX5_readScript_18 : decode cX5_readScript 18 = .ok (.aload_n 0, 1) := by decide +kernel
theorem dX5_readScript_19 : decode cX5_readScript 19 = .ok (.aload_n 1, 1) := by decide +kernel
theorem dX5_readScript_20 : decode cX5_readScript 20 = .ok (.invokevirtual 112, 3) := by decide +kernel
theorem dX5_readScript_23 : decode cX5_readScript 23 = .ok (.istore_n 3, 1) := by decide +kernel
theorem dX5_readScript_24 : decode cX5_readScript 24 = .ok (.iload_n 3, 1) := by decide +kernel
theorem dX5_readScript_25 : decode cX5_readScript 25 = .ok (.iconst (-1), 1) := by decide +kernel
theorem dX5_readScript_26 : decode cX5_readScript 26 = .ok (.if_icmp .eq 5, 3) := by decide +kernel
theorem dX5_readScript_29 : decode cX5_readScript 29 = .ok (.iload_n 3, 1) := by decide +kernel
theorem dX5_readScript_30 : decode cX5_readScript 30 = .ok (.ireturn, 1) := by decide +kernel
theorem dX5_readScript_31 : decode cX5_readScript 31 = .ok (.aload_n 0, 1) := by decide +kernel
theorem dX5_readScript_32 : decode cX5_readScript 32 = .ok (.invokevirtual 57, 3) := by decide +kernel
theorem dX5_readScript_35 : decode cX5_readScript 35 = .ok (.istore 4, 2) := by decide +kernel
theorem dX5_readScript_37 : decode cX5_readScript 37 = .ok (.iload 4, 2) := by decide +kernel
theorem dX5_readScript_39 : decode cX5_readScript 39 = .ok (.iconst (-1), 1) := by decide +kernel
theorem dX5_readScript_40 : decode cX5_readScript 40 = .ok (.if_icmp .ne 5, 3) := by decide +kernel
theorem dX5_readScript_43 : decode cX5_readScript 43 = .ok (.iconst (-1), 1) := by decide +kernel
theorem dX5_readScript_44 : decode cX5_readScript 44 = .ok (.ireturn, 1) := by decide +kernel
theorem dX5_readScript_45 : decode cX5_readScript 45 = .ok (.iload 4, 2) := by decide +kernel
theorem dX5_readScript_47 : decode cX5_readScript 47 = .ok (.bipush 59, 2) := by decide +kernel
theorem dX5_readScript_49 : decode cX5_readScript 49 = .ok (.if_icmp .ne 12, 3) := by decide +kernel
theorem dX5_readScript_52 : decode cX5_readScript 52 = .ok (.aload_n 1, 1) := by decide +kernel
theorem dX5_readScript_53 : decode cX5_readScript 53 = .ok (.getfield 107, 3) := by decide +kernel
theorem dX5_readScript_56 : decode cX5_readScript 56 = .ok (.bipush 16, 2) := by decide +kernel
theorem dX5_readScript_58 : decode cX5_readScript 58 = .ok (.if_icmp .ne 8, 3) := by decide +kernel
theorem dX5_readScript_61 : decode cX5_readScript 61 = .ok (.aload_n 0, 1) := by decide +kernel
theorem dX5_readScript_62 : decode cX5_readScript 62 = .ok (.getfield 32, 3) := by decide +kernel
theorem dX5_readScript_65 : decode cX5_readScript 65 = .ok (.ireturn, 1) := by decide +kernel
theorem dX5_readScript_66 : decode cX5_readScript 66 = .ok (.aload_n 0, 1) := by decide +kernel
theorem dX5_readScript_67 : decode cX5_readScript 67 = .ok (.dup, 1) := by decide +kernel
theorem dX5_readScript_68 : decode cX5_readScript 68 = .ok (.getfield 32, 3) := by decide +kernel
theorem dX5_readScript_71 : decode cX5_readScript 71 = .ok (.iconst 1, 1) := by decide +kernel
theorem dX5_readScript_72 : decode cX5_readScript 72 = .ok (.iadd, 1) := by decide +kernel
theorem dX5_readScript_73 : decode cX5_readScript 73 = .ok (.putfield 32, 3) := by decide +kernel
theorem dX5_readScript_76 : decode cX5_readScript 76 = .ok (.iinc 2 1, 3) := by decide +kernel
theorem dX5_readScript_79 : decode cX5_readScript 79 = .ok (.goto (-67), 3) := by decide +kernel
theorem dX5_readScript_82 : decode cX5_readScript 82 = .ok (.aload_n 0, 1) := by decide +kernel
theorem dX5_readScript_83 : decode cX5_readScript 83 = .ok (.getfield 32, 3) := by decide +kernel
theorem dX5_readScript_86 : decode cX5_readScript 86 = .ok (.ireturn, 1) := by decide +kernel
theorem dX5_readStep_0 : decode cX5_readStep 0 = .ok (.ldc 116, 2) := by decide +kernel
theorem dX5_readStep_2 : decode cX5_readStep 2 = .ok (.aload_n 0, 1) := by decide +kernel
theorem dX5_readStep_3 : decode cX5_readStep 3 = .ok (.invokevirtual 57, 3) := by decide +kernel
theorem dX5_readStep_6 : decode cX5_readStep 6 = .ok (.invokestatic 61, 3) := by decide +kernel
theorem dX5_readStep_9 : decode cX5_readStep 9 = .ok (.istore_n 2, 1) := by decide +kernel
theorem dX5_readStep_10 : decode cX5_readStep 10 = .ok (.iload_n 2, 1) := by decide +kernel
theorem dX5_readStep_11 : decode cX5_readStep 11 = .ok (.ifCond .ge 8, 3) := by decide +kernel
theorem dX5_readStep_14 : decode cX5_readStep 14 = .ok (.aload_n 0, 1) := by decide +kernel
theorem dX5_readStep_15 : decode cX5_readStep 15 = .ok (.getfield 32, 3) := by decide +kernel
theorem dX5_readStep_18 : decode cX5_readStep 18 = .ok (.ireturn, 1) := by decide +kernel
theorem dX5_readStep_19 : decode cX5_readStep 19 = .ok (.aload_n 0, 1) := by decide +kernel
theorem dX5_readStep_20 : decode cX5_readStep 20 = .ok (.dup, 1) := by decide +kernel
theorem dX5_readStep_21 : decode cX5_readStep 21 = .ok (.getfield 32, 3) := by decide +kernel
theorem dX5_readStep_24 : decode cX5_readStep 24 = .ok (.iconst 1, 1) := by decide +kernel
theorem dX5_readStep_25 : decode cX5_readStep 25 = .ok (.iadd, 1) := by decide +kernel
theorem dX5_readStep_26 : decode cX5_readStep 26 = .ok (.putfield 32, 3) := by decide +kernel
theorem dX5_readStep_29 : decode cX5_readStep 29 = .ok (.getstatic 118, 3) := by decide +kernel
theorem dX5_readStep_32 : decode cX5_readStep 32 = .ok (.iload_n 2, 1) := by decide +kernel
theorem dX5_readStep_33 : decode cX5_readStep 33 = .ok (.iaload, 1) := by decide +kernel
theorem dX5_readStep_34 : decode cX5_readStep 34 = .ok (.istore_n 3, 1) := by decide +kernel
theorem dX5_readStep_35 : decode cX5_readStep 35 = .ok (.iload_n 3, 1) := by decide +kernel
theorem dX5_readStep_36 : decode cX5_readStep 36 = .ok (.ifCond .ne 12, 3) := by decide +kernel
theorem dX5_readStep_39 : decode cX5_readStep 39 = .ok (.aload_n 1, 1) := by decide +kernel
theorem dX5_readStep_40 : decode cX5_readStep 40 = .ok (.iload_n 2, 1) := by decide +kernel
theorem dX5_readStep_41 : decode cX5_readStep 41 = .ok (.iconst (-1), 1) := by decide +kernel
theorem dX5_readStep_42 : decode cX5_readStep 42 = .ok (.iconst (-1), 1) := by decide +kernel
theorem dX5_readStep_43 : decode cX5_readStep 43 = .ok (.invokevirtual 121, 3) := by decide +kernel
theorem dX5_readStep_46 : decode cX5_readStep 46 = .ok (.iconst (-1), 1) := by decide +kernel
theorem dX5_readStep_47 : decode cX5_readStep 47 = .ok (.ireturn, 1) := by decide +kernel
theorem dX5_readStep_48 : decode cX5_readStep 48 = .ok (.iload_n 3, 1) := by decide +kernel
theorem dX5_readStep_49 : decode cX5_readStep 49 = .ok (.iconst 1, 1) := by decide +kernel
theorem dX5_readStep_50 : decode cX5_readStep 50 = .ok (.if_icmp .ne 13, 3) := by decide +kernel
