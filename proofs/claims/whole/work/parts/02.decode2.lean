theorem dX7_copyTo_163 : decode cX7_copyTo 163 = .ok (.iastore, 1) := by decide +kernel
theorem dX7_copyTo_164 : decode cX7_copyTo 164 = .ok (.iload 4, 2) := by decide +kernel
theorem dX7_copyTo_166 : decode cX7_copyTo 166 = .ok (.ireturn, 1) := by decide +kernel
theorem dX7_loseCatalog_0 : decode cX7_loseCatalog 0 = .ok (.aload_n 0, 1) := by decide +kernel
theorem dX7_loseCatalog_1 : decode cX7_loseCatalog 1 = .ok (.invokevirtual 124, 3) := by decide +kernel
theorem dX7_loseCatalog_4 : decode cX7_loseCatalog 4 = .ok (.istore_n 1, 1) := by decide +kernel
theorem dX7_loseCatalog_5 : decode cX7_loseCatalog 5 = .ok (.iconst 0, 1) := by decide +kernel
theorem dX7_loseCatalog_6 : decode cX7_loseCatalog 6 = .ok (.istore_n 2, 1) := by decide +kernel
theorem dX7_loseCatalog_7 : decode cX7_loseCatalog 7 = .ok (.iload_n 2, 1) := by decide +kernel
theorem dX7_loseCatalog_8 : decode cX7_loseCatalog 8 = .ok (.aload_n 0, 1) := by decide +kernel
theorem dX7_loseCatalog_9 : decode cX7_loseCatalog 9 = .ok (.getfield 63, 3) := by decide +kernel
theorem dX7_loseCatalog_12 : decode cX7_loseCatalog 12 = .ok (.if_icmp .ge 23, 3) := by decide +kernel
theorem dX7_loseCatalog_15 : decode cX7_loseCatalog 15 = .ok (.aload_n 0, 1) := by decide +kernel
theorem dX7_loseCatalog_16 : decode cX7_loseCatalog 16 = .ok (.getfield 39, 3) := by decide +kernel
theorem dX7_loseCatalog_19 : decode cX7_loseCatalog 19 = .ok (.iload_n 2, 1) := by decide +kernel
theorem dX7_loseCatalog_20 : decode cX7_loseCatalog 20 = .ok (.iconst 0, 1) := by decide +kernel
theorem dX7_loseCatalog_21 : decode cX7_loseCatalog 21 = .ok (.iastore, 1) := by decide +kernel
theorem dX7_loseCatalog_22 : decode cX7_loseCatalog 22 = .ok (.aload_n 0, 1) := by decide +kernel
theorem dX7_loseCatalog_23 : decode cX7_loseCatalog 23 = .ok (.getfield 42, 3) := by decide +kernel
theorem dX7_loseCatalog_26 : decode cX7_loseCatalog 26 = .ok (.iload_n 2, 1) := by decide +kernel
theorem dX7_loseCatalog_27 : decode cX7_loseCatalog 27 = .ok (.iconst 0, 1) := by decide +kernel
theorem dX7_loseCatalog_28 : decode cX7_loseCatalog 28 = .ok (.iastore, 1) := by decide +kernel
theorem dX7_loseCatalog_29 : decode cX7_loseCatalog 29 = .ok (.iinc 2 1, 3) := by decide +kernel
theorem dX7_loseCatalog_32 : decode cX7_loseCatalog 32 = .ok (.goto (-25), 3) := by decide +kernel
theorem dX7_loseCatalog_35 : decode cX7_loseCatalog 35 = .ok (.iload_n 1, 1) := by decide +kernel
theorem dX7_loseCatalog_36 : decode cX7_loseCatalog 36 = .ok (.ireturn, 1) := by decide +kernel
theorem dX7_readThrough_0 : decode cX7_readThrough 0 = .ok (.aload_n 0, 1) := by decide +kernel
theorem dX7_readThrough_1 : decode cX7_readThrough 1 = .ok (.iload_n 1, 1) := by decide +kernel
theorem dX7_readThrough_2 : decode cX7_readThrough 2 = .ok (.invokevirtual 151, 3) := by decide +kernel
theorem dX7_readThrough_5 : decode cX7_readThrough 5 = .ok (.pop, 1) := by decide +kernel
theorem dX7_readThrough_6 : decode cX7_readThrough 6 = .ok (.aload_n 0, 1) := by decide +kernel
theorem dX7_readThrough_7 : decode cX7_readThrough 7 = .ok (.getfield 18, 3) := by decide +kernel
theorem dX7_readThrough_10 : decode cX7_readThrough 10 = .ok (.iload_n 1, 1) := by decide +kernel
theorem dX7_readThrough_11 : decode cX7_readThrough 11 = .ok (.iaload, 1) := by decide +kernel
theorem dX7_readThrough_12 : decode cX7_readThrough 12 = .ok (.ifCond .le 15, 3) := by decide +kernel
theorem dX7_readThrough_15 : decode cX7_readThrough 15 = .ok (.aload_n 0, 1) := by decide +kernel
theorem dX7_readThrough_16 : decode cX7_readThrough 16 = .ok (.iload_n 1, 1) := by decide +kernel
theorem dX7_readThrough_17 : decode cX7_readThrough 17 = .ok (.iconst 0, 1) := by decide +kernel
theorem dX7_readThrough_18 : decode cX7_readThrough 18 = .ok (.aload_n 0, 1) := by decide +kernel
theorem dX7_readThrough_19 : decode cX7_readThrough 19 = .ok (.getfield 18, 3) := by decide +kernel
theorem dX7_readThrough_22 : decode cX7_readThrough 22 = .ok (.iload_n 1, 1) := by decide +kernel
theorem dX7_readThrough_23 : decode cX7_readThrough 23 = .ok (.iaload, 1) := by decide +kernel
theorem dX7_readThrough_24 : decode cX7_readThrough 24 = .ok (.invokevirtual 190, 3) := by decide +kernel
theorem dX7_readThrough_27 : decode cX7_readThrough 27 = .ok (.iconst 0, 1) := by decide +kernel
theorem dX7_readThrough_28 : decode cX7_readThrough 28 = .ok (.istore_n 2, 1) := by decide +kernel
theorem dX7_readThrough_29 : decode cX7_readThrough 29 = .ok (.iconst 0, 1) := by decide +kernel
theorem dX7_readThrough_30 : decode cX7_readThrough 30 = .ok (.istore_n 3, 1) := by decide +kernel
theorem dX7_readThrough_31 : decode cX7_readThrough 31 = .ok (.iload_n 3, 1) := by decide +kernel
theorem dX7_readThrough_32 : decode cX7_readThrough 32 = .ok (.aload_n 0, 1) := by decide +kernel
theorem dX7_readThrough_33 : decode cX7_readThrough 33 = .ok (.getfield 63, 3) := by decide +kernel
theorem dX7_readThrough_36 : decode cX7_readThrough 36 = .ok (.if_icmp .ge 37, 3) := by decide +kernel
theorem dX7_readThrough_39 : decode cX7_readThrough 39 = .ok (.aload_n 0, 1) := by decide +kernel
theorem dX7_readThrough_40 : decode cX7_readThrough 40 = .ok (.getfield 30, 3) := by decide +kernel
theorem dX7_readThrough_43 : decode cX7_readThrough 43 = .ok (.iload_n 3, 1) := by decide +kernel
theorem dX7_readThrough_44 : decode cX7_readThrough 44 = .ok (.iaload, 1) := by decide +kernel
theorem dX7_readThrough_45 : decode cX7_readThrough 45 = .ok (.iload_n 1, 1) := by decide +kernel
theorem dX7_readThrough_46 : decode cX7_readThrough 46 = .ok (.if_icmp .ne 21, 3) := by decide +kernel
theorem dX7_readThrough_49 : decode cX7_readThrough 49 = .ok (.iload_n 2, 1) := by decide +kernel
theorem dX7_readThrough_50 : decode cX7_readThrough 50 = .ok (.iconst 1, 1) := by decide +kernel
theorem dX7_readThrough_51 : decode cX7_readThrough 51 = .ok (.aload_n 0, 1) := by decide +kernel
theorem dX7_readThrough_52 : decode cX7_readThrough 52 = .ok (.getfield 39, 3) := by decide +kernel
theorem dX7_readThrough_55 : decode cX7_readThrough 55 = .ok (.iload_n 3, 1) := by decide +kernel
theorem dX7_readThrough_56 : decode cX7_readThrough 56 = .ok (.iaload, 1) := by decide +kernel
theorem dX7_readThrough_57 : decode cX7_readThrough 57 = .ok (.isub, 1) := by decide +kernel
theorem dX7_readThrough_58 : decode cX7_readThrough 58 = .ok (.iadd, 1) := by decide +kernel
theorem dX7_readThrough_59 : decode cX7_readThrough 59 = .ok (.istore_n 2, 1) := by decide +kernel
theorem dX7_readThrough_60 : decode cX7_readThrough 60 = .ok (.aload_n 0, 1) := by decide +kernel
theorem dX7_readThrough_61 : decode cX7_readThrough 61 = .ok (.getfield 39, 3) := by decide +kernel
theorem dX7_readThrough_64 : decode cX7_readThrough 64 = .ok (.iload_n 3, 1) := by decide +kernel
theorem dX7_readThrough_65 : decode cX7_readThrough 65 = .ok (.iconst 1, 1) := by decide +kernel
theorem dX7_readThrough_66 : decode cX7_readThrough 66 = .ok (.iastore, 1) := by decide +kernel
theorem dX7_readThrough_67 : decode cX7_readThrough 67 = .ok (.iinc 3 1, 3) := by decide +kernel
theorem dX7_readThrough_70 : decode cX7_readThrough 70 = .ok (.goto (-39), 3) := by decide +kernel
theorem dX7_readThrough_73 : decode cX7_readThrough 73 = .ok (.iload_n 2, 1) := by decide +kernel
theorem dX7_readThrough_74 : decode cX7_readThrough 74 = .ok (.ireturn, 1) := by decide +kernel
theorem dX7_waitFor_0 : decode cX7_waitFor 0 = .ok (.aload_n 0, 1) := by decide +kernel
theorem dX7_waitFor_1 : decode cX7_waitFor 1 = .ok (.dup, 1) := by decide +kernel
theorem dX7_waitFor_2 : decode cX7_waitFor 2 = .ok (.getfield 53, 3) := by decide +kernel
theorem dX7_waitFor_5 : decode cX7_waitFor 5 = .ok (.iload_n 1, 1) := by decide +kernel
theorem dX7_waitFor_6 : decode cX7_waitFor 6 = .ok (.iadd, 1) := by decide +kernel
theorem dX7_waitFor_7 : decode cX7_waitFor 7 = .ok (.putfield 53, 3) := by decide +kernel
theorem dX7_waitFor_10 : decode cX7_waitFor 10 = .ok (.aload_n 0, 1) := by decide +kernel
theorem dX7_waitFor_11 : decode cX7_waitFor 11 = .ok (.aload_n 0, 1) := by decide +kernel
theorem dX7_waitFor_12 : decode cX7_waitFor 12 = .ok (.getfield 53, 3) := by decide +kernel
theorem dX7_waitFor_15 : decode cX7_waitFor 15 = .ok (.invokevirtual 229, 3) := by decide +kernel
theorem dX7_waitFor_18 : decode cX7_waitFor 18 = .ok (.istore_n 2, 1) := by decide +kernel
theorem dX7_waitFor_19 : decode cX7_waitFor 19 = .ok (.iconst 0, 1) := by decide +kernel
theorem dX7_waitFor_20 : decode cX7_waitFor 20 = .ok (.istore_n 3, 1) := by decide +kernel
theorem dX7_waitFor_21 : decode cX7_waitFor 21 = .ok (.iload_n 3, 1) := by decide +kernel
theorem dX7_waitFor_22 : decode cX7_waitFor 22 = .ok (.aload_n 0, 1) := by decide +kernel
theorem dX7_waitFor_23 : decode cX7_waitFor 23 = .ok (.getfield 45, 3) := by decide +kernel
theorem dX7_waitFor_26 : decode cX7_waitFor 26 = .ok (.getfield 133, 3) := by decide +kernel
theorem dX7_waitFor_29 : decode cX7_waitFor 29 = .ok (.if_icmp .ge 24, 3) := by decide +kernel
theorem dX7_waitFor_32 : decode cX7_waitFor 32 = .ok (.iload_n 2, 1) := by decide +kernel
theorem dX7_waitFor_33 : decode cX7_waitFor 33 = .ok (.iload_n 3, 1) := by decide +kernel
theorem dX7_waitFor_34 : decode cX7_waitFor 34 = .ok (.ishr, 1) := by decide +kernel
theorem dX7_waitFor_35 : decode cX7_waitFor 35 = .ok (.iconst 1, 1) := by decide +kernel
theorem dX7_waitFor_36 : decode cX7_waitFor 36 = .ok (.iand, 1) := by decide +kernel
theorem dX7_waitFor_37 : decode cX7_waitFor 37 = .ok (.iconst 1, 1) := by decide +kernel
theorem dX7_waitFor_38 : decode cX7_waitFor 38 = .ok (.if_icmp .ne 9, 3) := by decide +kernel
theorem dX7_waitFor_41 : decode cX7_waitFor 41 = .ok (.aload_n 0, 1) := by decide +kernel
theorem dX7_waitFor_42 : decode cX7_waitFor 42 = .ok (.iload_n 3, 1) := by decide +kernel
theorem dX7_waitFor_43 : decode cX7_waitFor 43 = .ok (.invokevirtual 154, 3) := by decide +kernel
theorem dX7_waitFor_46 : decode cX7_waitFor 46 = .ok (.pop, 1) := by decide +kernel
theorem dX7_waitFor_47 : decode cX7_waitFor 47 = .ok (.iinc 3 1, 3) := by decide +kernel
theorem dX7_waitFor_50 : decode cX7_waitFor 50 = .ok (.goto (-29), 3) := by decide +kernel
theorem dX7_waitFor_53 : decode cX7_waitFor 53 = .ok (.iload_n 2, 1) := by decide +kernel
theorem dX7_waitFor_54 : decode cX7_waitFor 54 = .ok (.invokestatic 232, 3) := by decide +kernel
theorem dX7_waitFor_57 : decode cX7_waitFor 57 = .ok (.ireturn, 1) := by decide +kernel
theorem dX7_rescueWeak_0 : decode cX7_rescueWeak 0 = .ok (.aload_n 0, 1) := by decide +kernel
theorem dX7_rescueWeak_1 : decode cX7_rescueWeak 1 = .ok (.invokevirtual 130, 3) := by decide +kernel
theorem dX7_rescueWeak_4 : decode cX7_rescueWeak 4 = .ok (.istore_n 1, 1) := by decide +kernel
theorem dX7_rescueWeak_5 : decode cX7_rescueWeak 5 = .ok (.iconst 0, 1) := by decide +kernel
theorem dX7_rescueWeak_6 : decode cX7_rescueWeak 6 = .ok (.istore_n 2, 1) := by decide +kernel
theorem dX7_rescueWeak_7 : decode cX7_rescueWeak 7 = .ok (.iconst 0, 1) := by decide +kernel
theorem dX7_rescueWeak_8 : decode cX7_rescueWeak 8 = .ok (.istore_n 3, 1) := by decide +kernel
theorem dX7_rescueWeak_9 : decode cX7_rescueWeak 9 = .ok (.iload_n 3, 1) := by decide +kernel
theorem dX7_rescueWeak_10 : decode cX7_rescueWeak 10 = .ok (.aload_n 0, 1) := by decide +kernel
theorem dX7_rescueWeak_11 : decode cX7_rescueWeak 11 = .ok (.getfield 45, 3) := by decide +kernel
theorem dX7_rescueWeak_14 : decode cX7_rescueWeak 14 = .ok (.getfield 133, 3) := by decide +kernel
theorem dX7_rescueWeak_17 : decode cX7_rescueWeak 17 = .ok (.if_icmp .ge 46, 3) := by decide +kernel
theorem dX7_rescueWeak_20 : decode cX7_rescueWeak 20 = .ok (.iload_n 1, 1) := by decide +kernel
theorem dX7_rescueWeak_21 : decode cX7_rescueWeak 21 = .ok (.iload_n 3, 1) := by decide +kernel
theorem dX7_rescueWeak_22 : decode cX7_rescueWeak 22 = .ok (.ishr, 1) := by decide +kernel
theorem dX7_rescueWeak_23 : decode cX7_rescueWeak 23 = .ok (.iconst 1, 1) := by decide +kernel
theorem dX7_rescueWeak_24 : decode cX7_rescueWeak 24 = .ok (.iand, 1) := by decide +kernel
theorem dX7_rescueWeak_25 : decode cX7_rescueWeak 25 = .ok (.iconst 1, 1) := by decide +kernel
theorem dX7_rescueWeak_26 : decode cX7_rescueWeak 26 = .ok (.if_icmp .ne 11, 3) := by decide +kernel
theorem dX7_rescueWeak_29 : decode cX7_rescueWeak 29 = .ok (.aload_n 0, 1) := by decide +kernel
theorem dX7_rescueWeak_30 : decode cX7_rescueWeak 30 = .ok (.iload_n 3, 1) := by decide +kernel
theorem dX7_rescueWeak_31 : decode cX7_rescueWeak 31 = .ok (.invokevirtual 136, 3) := by decide +kernel
theorem dX7_rescueWeak_34 : decode cX7_rescueWeak 34 = .ok (.goto 4, 3) := by decide +kernel
theorem dX7_rescueWeak_37 : decode cX7_rescueWeak 37 = .ok (.iconst (-1), 1) := by decide +kernel
theorem dX7_rescueWeak_38 : decode cX7_rescueWeak 38 = .ok (.istore 4, 2) := by decide +kernel
theorem dX7_rescueWeak_40 : decode cX7_rescueWeak 40 = .ok (.iload 4, 2) := by decide +kernel
theorem dX7_rescueWeak_42 : decode cX7_rescueWeak 42 = .ok (.iconst (-1), 1) := by decide +kernel
theorem dX7_rescueWeak_43 : decode cX7_rescueWeak 43 = .ok (.if_icmp .eq 14, 3) := by decide +kernel
theorem dX7_rescueWeak_46 : decode cX7_rescueWeak 46 = .ok (.aload_n 0, 1) := by decide +kernel
theorem dX7_rescueWeak_47 : decode cX7_rescueWeak 47 = .ok (.iload_n 3, 1) := by decide +kernel
theorem dX7_rescueWeak_48 : decode cX7_rescueWeak 48 = .ok (.iload 4, 2) := by decide +kernel
theorem dX7_rescueWeak_50 : decode cX7_rescueWeak 50 = .ok (.invokevirtual 157, 3) := by decide +kernel
theorem dX7_rescueWeak_53 : decode cX7_rescueWeak 53 = .ok (.pop, 1) := by decide +kernel
theorem dX7_rescueWeak_54 : decode cX7_rescueWeak 54 = .ok (.iinc 2 1, 3) := by decide +kernel
theorem dX7_rescueWeak_57 : decode cX7_rescueWeak 57 = .ok (.iinc 3 1, 3) := by decide +kernel
theorem dX7_rescueWeak_60 : decode cX7_rescueWeak 60 = .ok (.goto (-51), 3) := by decide +kernel
theorem dX7_rescueWeak_63 : decode cX7_rescueWeak 63 = .ok (.iload_n 2, 1) := by decide +kernel
theorem dX7_rescueWeak_64 : decode cX7_rescueWeak 64 = .ok (.ireturn, 1) := by decide +kernel
theorem dX7_addFile_0 : decode cX7_addFile 0 = .ok (.aload_n 0, 1) := by decide +kernel
theorem dX7_addFile_1 : decode cX7_addFile 1 = .ok (.getfield 63, 3) := by decide +kernel
theorem dX7_addFile_4 : decode cX7_addFile 4 = .ok (.bipush 24, 2) := by decide +kernel
theorem dX7_addFile_6 : decode cX7_addFile 6 = .ok (.if_icmp .ge 42, 3) := by decide +kernel
theorem dX7_addFile_9 : decode cX7_addFile 9 = .ok (.aload_n 0, 1) := by decide +kernel
theorem dX7_addFile_10 : decode cX7_addFile 10 = .ok (.getfield 36, 3) := by decide +kernel
theorem dX7_addFile_13 : decode cX7_addFile 13 = .ok (.aload_n 0, 1) := by decide +kernel
theorem dX7_addFile_14 : decode cX7_addFile 14 = .ok (.getfield 63, 3) := by decide +kernel
theorem dX7_addFile_17 : decode cX7_addFile 17 = .ok (.iload_n 2, 1) := by decide +kernel
theorem dX7_addFile_18 : decode cX7_addFile 18 = .ok (.iastore, 1) := by decide +kernel
theorem dX7_addFile_19 : decode cX7_addFile 19 = .ok (.aload_n 0, 1) := by decide +kernel
theorem dX7_addFile_20 : decode cX7_addFile 20 = .ok (.getfield 42, 3) := by decide +kernel
theorem dX7_addFile_23 : decode cX7_addFile 23 = .ok (.aload_n 0, 1) := by decide +kernel
theorem dX7_addFile_24 : decode cX7_addFile 24 = .ok (.getfield 63, 3) := by decide +kernel
theorem dX7_addFile_27 : decode cX7_addFile 27 = .ok (.iconst 0, 1) := by decide +kernel
theorem dX7_addFile_28 : decode cX7_addFile 28 = .ok (.iastore, 1) := by decide +kernel
theorem dX7_addFile_29 : decode cX7_addFile 29 = .ok (.aload_n 0, 1) := by decide +kernel
theorem dX7_addFile_30 : decode cX7_addFile 30 = .ok (.aload_n 0, 1) := by decide +kernel
theorem dX7_addFile_31 : decode cX7_addFile 31 = .ok (.getfield 63, 3) := by decide +kernel
theorem dX7_addFile_34 : decode cX7_addFile 34 = .ok (.iload_n 1, 1) := by decide +kernel
theorem dX7_addFile_35 : decode cX7_addFile 35 = .ok (.invokevirtual 226, 3) := by decide +kernel
theorem dX7_addFile_38 : decode cX7_addFile 38 = .ok (.aload_n 0, 1) := by decide +kernel
theorem dX7_addFile_39 : decode cX7_addFile 39 = .ok (.dup, 1) := by decide +kernel
theorem dX7_addFile_40 : decode cX7_addFile 40 = .ok (.getfield 63, 3) := by decide +kernel
theorem dX7_addFile_43 : decode cX7_addFile 43 = .ok (.iconst 1, 1) := by decide +kernel
theorem dX7_addFile_44 : decode cX7_addFile 44 = .ok (.iadd, 1) := by decide +kernel
theorem dX7_addFile_45 : decode cX7_addFile 45 = .ok (.putfield 63, 3) := by decide +kernel
theorem dX7_addFile_48 : decode cX7_addFile 48 = .ok (.return_, 1) := by decide +kernel
theorem dX7_putBehind_0 : decode cX7_putBehind 0 = .ok (.aload_n 0, 1) := by decide +kernel
theorem dX7_putBehind_1 : decode cX7_putBehind 1 = .ok (.getfield 30, 3) := by decide +kernel
theorem dX7_putBehind_4 : decode cX7_putBehind 4 = .ok (.iload_n 1, 1) := by decide +kernel
theorem dX7_putBehind_5 : decode cX7_putBehind 5 = .ok (.iload_n 2, 1) := by decide +kernel
theorem dX7_putBehind_6 : decode cX7_putBehind 6 = .ok (.iastore, 1) := by decide +kernel
theorem dX7_putBehind_7 : decode cX7_putBehind 7 = .ok (.aload_n 0, 1) := by decide +kernel
theorem dX7_putBehind_8 : decode cX7_putBehind 8 = .ok (.getfield 33, 3) := by decide +kernel
theorem dX7_putBehind_11 : decode cX7_putBehind 11 = .ok (.iload_n 1, 1) := by decide +kernel
theorem dX7_putBehind_12 : decode cX7_putBehind 12 = .ok (.aload_n 0, 1) := by decide +kernel
theorem dX7_putBehind_13 : decode cX7_putBehind 13 = .ok (.getfield 18, 3) := by decide +kernel
theorem dX7_putBehind_16 : decode cX7_putBehind 16 = .ok (.iload_n 2, 1) := by decide +kernel
theorem dX7_putBehind_17 : decode cX7_putBehind 17 = .ok (.iaload, 1) := by decide +kernel
theorem dX7_putBehind_18 : decode cX7_putBehind 18 = .ok (.iastore, 1) := by decide +kernel
theorem dX7_putBehind_19 : decode cX7_putBehind 19 = .ok (.aload_n 0, 1) := by decide +kernel
theorem dX7_putBehind_20 : decode cX7_putBehind 20 = .ok (.getfield 39, 3) := by decide +kernel
theorem dX7_putBehind_23 : decode cX7_putBehind 23 = .ok (.iload_n 1, 1) := by decide +kernel
theorem dX7_putBehind_24 : decode cX7_putBehind 24 = .ok (.iconst 1, 1) := by decide +kernel
theorem dX7_putBehind_25 : decode cX7_putBehind 25 = .ok (.iastore, 1) := by decide +kernel
theorem dX7_putBehind_26 : decode cX7_putBehind 26 = .ok (.aload_n 0, 1) := by decide +kernel
theorem dX7_putBehind_27 : decode cX7_putBehind 27 = .ok (.getfield 18, 3) := by decide +kernel
theorem dX7_putBehind_30 : decode cX7_putBehind 30 = .ok (.iload_n 2, 1) := by decide +kernel
theorem dX7_putBehind_31 : decode cX7_putBehind 31 = .ok (.dup2, 1) := by decide +kernel
theorem dX7_putBehind_32 : decode cX7_putBehind 32 = .ok (.iaload, 1) := by decide +kernel
theorem dX7_putBehind_33 : decode cX7_putBehind 33 = .ok (.aload_n 0, 1) := by decide +kernel
theorem dX7_putBehind_34 : decode cX7_putBehind 34 = .ok (.getfield 36, 3) := by decide +kernel
theorem dX7_putBehind_37 : decode cX7_putBehind 37 = .ok (.iload_n 1, 1) := by decide +kernel
theorem dX7_putBehind_38 : decode cX7_putBehind 38 = .ok (.iaload, 1) := by decide +kernel
theorem dX7_putBehind_39 : decode cX7_putBehind 39 = .ok (.iadd, 1) := by decide +kernel
theorem dX7_putBehind_40 : decode cX7_putBehind 40 = .ok (.iastore, 1) := by decide +kernel
theorem dX7_putBehind_41 : decode cX7_putBehind 41 = .ok (.return_, 1) := by decide +kernel
theorem dX7_hasRoom_0 : decode cX7_hasRoom 0 = .ok (.aload_n 0, 1) := by decide +kernel
theorem dX7_hasRoom_1 : decode cX7_hasRoom 1 = .ok (.getfield 18, 3) := by decide +kernel
theorem dX7_hasRoom_4 : decode cX7_hasRoom 4 = .ok (.iload_n 1, 1) := by decide +kernel
theorem dX7_hasRoom_5 : decode cX7_hasRoom 5 = .ok (.iaload, 1) := by decide +kernel
theorem dX7_hasRoom_6 : decode cX7_hasRoom 6 = .ok (.iload_n 2, 1) := by decide +kernel
theorem dX7_hasRoom_7 : decode cX7_hasRoom 7 = .ok (.iadd, 1) := by decide +kernel
theorem dX7_hasRoom_8 : decode cX7_hasRoom 8 = .ok (.aload_n 0, 1) := by decide +kernel
theorem dX7_hasRoom_9 : decode cX7_hasRoom 9 = .ok (.getfield 45, 3) := by decide +kernel
theorem dX7_hasRoom_12 : decode cX7_hasRoom 12 = .ok (.getfield 237, 3) := by decide +kernel
theorem dX7_hasRoom_15 : decode cX7_hasRoom 15 = .ok (.if_icmp .gt 7, 3) := by decide +kernel
theorem dX7_hasRoom_18 : decode cX7_hasRoom 18 = .ok (.iconst 1, 1) := by decide +kernel
theorem dX7_hasRoom_19 : decode cX7_hasRoom 19 = .ok (.goto 4, 3) := by decide +kernel
theorem dX7_hasRoom_22 : decode cX7_hasRoom 22 = .ok (.iconst 0, 1) := by decide +kernel
theorem dX7_hasRoom_23 : decode cX7_hasRoom 23 = .ok (.ireturn, 1) := by decide +kernel
theorem dX7_isFile_0 : decode cX7_isFile 0 = .ok (.iload_n 1, 1) := by decide +kernel
theorem dX7_isFile_1 : decode cX7_isFile 1 = .ok (.ifCond .lt 15, 3) := by decide +kernel
theorem dX7_isFile_4 : decode cX7_isFile 4 = .ok (.iload_n 1, 1) := by decide +kernel
theorem dX7_isFile_5 : decode cX7_isFile 5 = .ok (.aload_n 0, 1) := by decide +kernel
theorem dX7_isFile_6 : decode cX7_isFile 6 = .ok (.getfield 63, 3) := by decide +kernel
theorem dX7_isFile_9 : decode cX7_isFile 9 = .ok (.if_icmp .ge 7, 3) := by decide +kernel
theorem dX7_isFile_12 : decode cX7_isFile 12 = .ok (.iconst 1, 1) := by decide +kernel
theorem dX7_isFile_13 : decode cX7_isFile 13 = .ok (.goto 4, 3) := by decide +kernel
theorem dX7_isFile_16 : decode cX7_isFile 16 = .ok (.iconst 0, 1) := by decide +kernel
theorem dX7_isFile_17 : decode cX7_isFile 17 = .ok (.ireturn, 1) := by decide +kernel
theorem dX7_isThere_0 : decode cX7_isThere 0 = .ok (.aload_n 0, 1) := by decide +kernel
theorem dX7_isThere_1 : decode cX7_isThere 1 = .ok (.iload_n 1, 1) := by decide +kernel
theorem dX7_isThere_2 : decode cX7_isThere 2 = .ok (.invokevirtual 240, 3) := by decide +kernel
theorem dX7_isThere_5 : decode cX7_isThere 5 = .ok (.ifCond .eq 17, 3) := by decide +kernel
theorem dX7_isThere_8 : decode cX7_isThere 8 = .ok (.aload_n 0, 1) := by decide +kernel
theorem dX7_isThere_9 : decode cX7_isThere 9 = .ok (.getfield 30, 3) := by decide +kernel
theorem dX7_isThere_12 : decode cX7_isThere 12 = .ok (.iload_n 1, 1) := by decide +kernel
theorem dX7_isThere_13 : decode cX7_isThere 13 = .ok (.iaload, 1) := by decide +kernel
theorem dX7_isThere_14 : decode cX7_isThere 14 = .ok (.iconst (-1), 1) := by decide +kernel
theorem dX7_isThere_15 : decode cX7_isThere 15 = .ok (.if_icmp .eq 7, 3) := by decide +kernel
theorem dX7_isThere_18 : decode cX7_isThere 18 = .ok (.iconst 1, 1) := by decide +kernel
theorem dX7_isThere_19 : decode cX7_isThere 19 = .ok (.goto 4, 3) := by decide +kernel
theorem dX7_isThere_22 : decode cX7_isThere 22 = .ok (.iconst 0, 1) := by decide +kernel
theorem dX7_isThere_23 : decode cX7_isThere 23 = .ok (.ireturn, 1) := by decide +kernel
theorem dX7_placeOf_0 : decode cX7_placeOf 0 = .ok (.aload_n 0, 1) := by decide +kernel
theorem dX7_placeOf_1 : decode cX7_placeOf 1 = .ok (.getfield 9, 3) := by decide +kernel
theorem dX7_placeOf_4 : decode cX7_placeOf 4 = .ok (.iload_n 1, 1) := by decide +kernel
theorem dX7_placeOf_5 : decode cX7_placeOf 5 = .ok (.iaload, 1) := by decide +kernel
theorem dX7_placeOf_6 : decode cX7_placeOf 6 = .ok (.iconst (-1), 1) := by decide +kernel
theorem dX7_placeOf_7 : decode cX7_placeOf 7 = .ok (.if_icmp .ne 7, 3) := by decide +kernel
theorem dX7_placeOf_10 : decode cX7_placeOf 10 = .ok (.iload_n 1, 1) := by decide +kernel
theorem dX7_placeOf_11 : decode cX7_placeOf 11 = .ok (.goto 19, 3) := by decide +kernel
theorem dX7_placeOf_14 : decode cX7_placeOf 14 = .ok (.aload_n 0, 1) := by decide +kernel
theorem dX7_placeOf_15 : decode cX7_placeOf 15 = .ok (.getfield 45, 3) := by decide +kernel
theorem dX7_placeOf_18 : decode cX7_placeOf 18 = .ok (.getfield 206, 3) := by decide +kernel
theorem dX7_placeOf_21 : decode cX7_placeOf 21 = .ok (.iconst 0, 1) := by decide +kernel
theorem dX7_placeOf_22 : decode cX7_placeOf 22 = .ok (.iaload, 1) := by decide +kernel
theorem dX7_placeOf_23 : decode cX7_placeOf 23 = .ok (.aload_n 0, 1) := by decide +kernel
theorem dX7_placeOf_24 : decode cX7_placeOf 24 = .ok (.getfield 9, 3) := by decide +kernel
theorem dX7_placeOf_27 : decode cX7_placeOf 27 = .ok (.iload_n 1, 1) := by decide +kernel
theorem dX7_placeOf_28 : decode cX7_placeOf 28 = .ok (.iaload, 1) := by decide +kernel
theorem dX7_placeOf_29 : decode cX7_placeOf 29 = .ok (.iadd, 1) := by decide +kernel
theorem dX7_placeOf_30 : decode cX7_placeOf 30 = .ok (.ireturn, 1) := by decide +kernel
theorem dX7_tapeIn_0 : decode cX7_tapeIn 0 = .ok (.iconst 0, 1) := by decide +kernel
theorem dX7_tapeIn_1 : decode cX7_tapeIn 1 = .ok (.istore_n 2, 1) := by decide +kernel
theorem dX7_tapeIn_2 : decode cX7_tapeIn 2 = .ok (.iload_n 2, 1) := by decide +kernel
theorem dX7_tapeIn_3 : decode cX7_tapeIn 3 = .ok (.aload_n 0, 1) := by decide +kernel
theorem dX7_tapeIn_4 : decode cX7_tapeIn 4 = .ok (.getfield 45, 3) := by decide +kernel
theorem dX7_tapeIn_7 : decode cX7_tapeIn 7 = .ok (.getfield 133, 3) := by decide +kernel
theorem dX7_tapeIn_10 : decode cX7_tapeIn 10 = .ok (.if_icmp .ge 21, 3) := by decide +kernel
theorem dX7_tapeIn_13 : decode cX7_tapeIn 13 = .ok (.aload_n 0, 1) := by decide +kernel
theorem dX7_tapeIn_14 : decode cX7_tapeIn 14 = .ok (.getfield 9, 3) := by decide +kernel
theorem dX7_tapeIn_17 : decode cX7_tapeIn 17 = .ok (.iload_n 2, 1) := by decide +kernel
theorem dX7_tapeIn_18 : decode cX7_tapeIn 18 = .ok (.iaload, 1) := by decide +kernel
theorem dX7_tapeIn_19 : decode cX7_tapeIn 19 = .ok (.iload_n 1, 1) := by decide +kernel
theorem dX7_tapeIn_20 : decode cX7_tapeIn 20 = .ok (.if_icmp .ne 5, 3) := by decide +kernel
theorem dX7_tapeIn_23 : decode cX7_tapeIn 23 = .ok (.iload_n 2, 1) := by decide +kernel
theorem dX7_tapeIn_24 : decode cX7_tapeIn 24 = .ok (.ireturn, 1) := by decide +kernel
theorem dX7_tapeIn_25 : decode cX7_tapeIn 25 = .ok (.iinc 2 1, 3) := by decide +kernel
theorem dX7_tapeIn_28 : decode cX7_tapeIn 28 = .ok (.goto (-26), 3) := by decide +kernel
theorem dX7_tapeIn_31 : decode cX7_tapeIn 31 = .ok (.iconst (-1), 1) := by decide +kernel
theorem dX7_tapeIn_32 : decode cX7_tapeIn 32 = .ok (.ireturn, 1) := by decide +kernel
theorem dX7_lowestEmptyDrive_0 : decode cX7_lowestEmptyDrive 0 = .ok (.iconst 0, 1) := by decide +kernel
theorem dX7_lowestEmptyDrive_1 : decode cX7_lowestEmptyDrive 1 = .ok (.istore_n 1, 1) := by decide +kernel
theorem dX7_lowestEmptyDrive_2 : decode cX7_lowestEmptyDrive 2 = .ok (.iload_n 1, 1) := by decide +kernel
theorem dX7_lowestEmptyDrive_3 : decode cX7_lowestEmptyDrive 3 = .ok (.aload_n 0, 1) := by decide +kernel
theorem dX7_lowestEmptyDrive_4 : decode cX7_lowestEmptyDrive 4 = .ok (.getfield 45, 3) := by decide +kernel
theorem dX7_lowestEmptyDrive_7 : decode cX7_lowestEmptyDrive 7 = .ok (.getfield 206, 3) := by decide +kernel
theorem dX7_lowestEmptyDrive_10 : decode cX7_lowestEmptyDrive 10 = .ok (.iconst 1, 1) := by decide +kernel
theorem dX7_lowestEmptyDrive_11 : decode cX7_lowestEmptyDrive 11 = .ok (.iaload, 1) := by decide +kernel
theorem dX7_lowestEmptyDrive_12 : decode cX7_lowestEmptyDrive 12 = .ok (.if_icmp .ge 20, 3) := by decide +kernel
theorem dX7_lowestEmptyDrive_15 : decode cX7_lowestEmptyDrive 15 = .ok (.aload_n 0, 1) := by decide +kernel
theorem dX7_lowestEmptyDrive_16 : decode cX7_lowestEmptyDrive 16 = .ok (.iload_n 1, 1) := by decide +kernel
theorem dX7_lowestEmptyDrive_17 : decode cX7_lowestEmptyDrive 17 = .ok (.invokevirtual 243, 3) := by decide +kernel
theorem dX7_lowestEmptyDrive_20 : decode cX7_lowestEmptyDrive 20 = .ok (.iconst (-1), 1) := by decide +kernel
theorem dX7_lowestEmptyDrive_21 : decode cX7_lowestEmptyDrive 21 = .ok (.if_icmp .ne 5, 3) := by decide +kernel
theorem dX7_lowestEmptyDrive_24 : decode cX7_lowestEmptyDrive 24 = .ok (.iload_n 1, 1) := by decide +kernel
theorem dX7_lowestEmptyDrive_25 : decode cX7_lowestEmptyDrive 25 = .ok (.ireturn, 1) := by decide +kernel
theorem dX7_lowestEmptyDrive_26 : decode cX7_lowestEmptyDrive 26 = .ok (.iinc 1 1, 3) := by decide +kernel
theorem dX7_lowestEmptyDrive_29 : decode cX7_lowestEmptyDrive 29 = .ok (.goto (-27), 3) := by decide +kernel
theorem dX7_lowestEmptyDrive_32 : decode cX7_lowestEmptyDrive 32 = .ok (.iconst (-1), 1) := by decide +kernel
theorem dX7_lowestEmptyDrive_33 : decode cX7_lowestEmptyDrive 33 = .ok (.ireturn, 1) := by decide +kernel
theorem dX7_longestUnused_0 : decode cX7_longestUnused 0 = .ok (.iconst (-1), 1) := by decide +kernel
theorem dX7_longestUnused_1 : decode cX7_longestUnused 1 = .ok (.istore_n 1, 1) := by decide +kernel
theorem dX7_longestUnused_2 : decode cX7_longestUnused 2 = .ok (.iconst 0, 1) := by decide +kernel
theorem dX7_longestUnused_3 : decode cX7_longestUnused 3 = .ok (.istore_n 2, 1) := by decide +kernel
theorem dX7_longestUnused_4 : decode cX7_longestUnused 4 = .ok (.iload_n 2, 1) := by decide +kernel
theorem dX7_longestUnused_5 : decode cX7_longestUnused 5 = .ok (.aload_n 0, 1) := by decide +kernel
theorem dX7_longestUnused_6 : decode cX7_longestUnused 6 = .ok (.getfield 45, 3) := by decide +kernel
theorem dX7_longestUnused_9 : decode cX7_longestUnused 9 = .ok (.getfield 133, 3) := by decide +kernel
theorem dX7_longestUnused_12 : decode cX7_longestUnused 12 = .ok (.if_icmp .ge 41, 3) := by decide +kernel
theorem dX7_longestUnused_15 : decode cX7_longestUnused 15 = .ok (.aload_n 0, 1) := by decide +kernel
theorem dX7_longestUnused_16 : decode cX7_longestUnused 16 = .ok (.getfield 9, 3) := by decide +kernel
theorem dX7_longestUnused_19 : decode cX7_longestUnused 19 = .ok (.iload_n 2, 1) := by decide +kernel
theorem dX7_longestUnused_20 : decode cX7_longestUnused 20 = .ok (.iaload, 1) := by decide +kernel
theorem dX7_longestUnused_21 : decode cX7_longestUnused 21 = .ok (.iconst (-1), 1) := by decide +kernel
theorem dX7_longestUnused_22 : decode cX7_longestUnused 22 = .ok (.if_icmp .eq 25, 3) := by decide +kernel
theorem dX7_longestUnused_25 : decode cX7_longestUnused 25 = .ok (.iload_n 1, 1) := by decide +kernel
theorem dX7_longestUnused_26 : decode cX7_longestUnused 26 = .ok (.iconst (-1), 1) := by decide +kernel
theorem dX7_longestUnused_27 : decode cX7_longestUnused 27 = .ok (.if_icmp .eq 18, 3) := by decide +kernel
theorem dX7_longestUnused_30 : decode cX7_longestUnused 30 = .ok (.aload_n 0, 1) := by decide +kernel
theorem dX7_longestUnused_31 : decode cX7_longestUnused 31 = .ok (.getfield 27, 3) := by decide +kernel
theorem dX7_longestUnused_34 : decode cX7_longestUnused 34 = .ok (.iload_n 2, 1) := by decide +kernel
theorem dX7_longestUnused_35 : decode cX7_longestUnused 35 = .ok (.iaload, 1) := by decide +kernel
theorem dX7_longestUnused_36 : decode cX7_longestUnused 36 = .ok (.aload_n 0, 1) := by decide +kernel
theorem dX7_longestUnused_37 : decode cX7_longestUnused 37 = .ok (.getfield 27, 3) := by decide +kernel
theorem dX7_longestUnused_40 : decode cX7_longestUnused 40 = .ok (.iload_n 1, 1) := by decide +kernel
theorem dX7_longestUnused_41 : decode cX7_longestUnused 41 = .ok (.iaload, 1) := by decide +kernel
theorem dX7_longestUnused_42 : decode cX7_longestUnused 42 = .ok (.if_icmp .ge 5, 3) := by decide +kernel
theorem dX7_longestUnused_45 : decode cX7_longestUnused 45 = .ok (.iload_n 2, 1) := by decide +kernel
theorem dX7_longestUnused_46 : decode cX7_longestUnused 46 = .ok (.istore_n 1, 1) := by decide +kernel
theorem dX7_longestUnused_47 : decode cX7_longestUnused 47 = .ok (.iinc 2 1, 3) := by decide +kernel
theorem dX7_longestUnused_50 : decode cX7_longestUnused 50 = .ok (.goto (-46), 3) := by decide +kernel
theorem dX7_longestUnused_53 : decode cX7_longestUnused 53 = .ok (.iload_n 1, 1) := by decide +kernel
theorem dX7_longestUnused_54 : decode cX7_longestUnused 54 = .ok (.ireturn, 1) := by decide +kernel
theorem dX7_firstFile_0 : decode cX7_firstFile 0 = .ok (.iconst (-1), 1) := by decide +kernel
theorem dX7_firstFile_1 : decode cX7_firstFile 1 = .ok (.istore_n 3, 1) := by decide +kernel
theorem dX7_firstFile_2 : decode cX7_firstFile 2 = .ok (.iconst 0, 1) := by decide +kernel
theorem dX7_firstFile_3 : decode cX7_firstFile 3 = .ok (.istore 4, 2) := by decide +kernel
theorem dX7_firstFile_5 : decode cX7_firstFile 5 = .ok (.iload 4, 2) := by decide +kernel
theorem dX7_firstFile_7 : decode cX7_firstFile 7 = .ok (.aload_n 0, 1) := by decide +kernel
theorem dX7_firstFile_8 : decode cX7_firstFile 8 = .ok (.getfield 63, 3) := by decide +kernel
theorem dX7_firstFile_11 : decode cX7_firstFile 11 = .ok (.if_icmp .ge 67, 3) := by decide +kernel
theorem dX7_firstFile_14 : decode cX7_firstFile 14 = .ok (.aload_n 0, 1) := by decide +kernel
theorem dX7_firstFile_15 : decode cX7_firstFile 15 = .ok (.getfield 30, 3) := by decide +kernel
theorem dX7_firstFile_18 : decode cX7_firstFile 18 = .ok (.iload 4, 2) := by decide +kernel
theorem dX7_firstFile_20 : decode cX7_firstFile 20 = .ok (.iaload, 1) := by decide +kernel
theorem dX7_firstFile_21 : decode cX7_firstFile 21 = .ok (.iload_n 1, 1) := by decide +kernel
theorem dX7_firstFile_22 : decode cX7_firstFile 22 = .ok (.if_icmp .ne 18, 3) := by decide +kernel
theorem dX7_firstFile_25 : decode cX7_firstFile 25 = .ok (.aload_n 0, 1) := by decide +kernel
theorem dX7_firstFile_26 : decode cX7_firstFile 26 = .ok (.getfield 33, 3) := by decide +kernel
theorem dX7_firstFile_29 : decode cX7_firstFile 29 = .ok (.iload 4, 2) := by decide +kernel
theorem dX7_firstFile_31 : decode cX7_firstFile 31 = .ok (.iaload, 1) := by decide +kernel
theorem dX7_firstFile_32 : decode cX7_firstFile 32 = .ok (.iload_n 2, 1) := by decide +kernel
theorem dX7_firstFile_33 : decode cX7_firstFile 33 = .ok (.if_icmp .lt 7, 3) := by decide +kernel
theorem dX7_firstFile_36 : decode cX7_firstFile 36 = .ok (.iconst 1, 1) := by decide +kernel
theorem dX7_firstFile_37 : decode cX7_firstFile 37 = .ok (.goto 4, 3) := by decide +kernel
theorem dX7_firstFile_40 : decode cX7_firstFile 40 = .ok (.iconst 0, 1) := by decide +kernel
theorem dX7_firstFile_41 : decode cX7_firstFile 41 = .ok (.istore 5, 2) := by decide +kernel
theorem dX7_firstFile_43 : decode cX7_firstFile 43 = .ok (.iload 5, 2) := by decide +kernel
theorem dX7_firstFile_45 : decode cX7_firstFile 45 = .ok (.ifCond .eq 27, 3) := by decide +kernel
theorem dX7_firstFile_48 : decode cX7_firstFile 48 = .ok (.iload_n 3, 1) := by decide +kernel
theorem dX7_firstFile_49 : decode cX7_firstFile 49 = .ok (.iconst (-1), 1) := by decide +kernel
theorem dX7_firstFile_50 : decode cX7_firstFile 50 = .ok (.if_icmp .eq 19, 3) := by decide +kernel
theorem dX7_firstFile_53 : decode cX7_firstFile 53 = .ok (.aload_n 0, 1) := by decide +kernel
theorem dX7_firstFile_54 : decode cX7_firstFile 54 = .ok (.getfield 33, 3) := by decide +kernel
theorem dX7_firstFile_57 : decode cX7_firstFile 57 = .ok (.iload 4, 2) := by decide +kernel
theorem dX7_firstFile_59 : decode cX7_firstFile 59 = .ok (.iaload, 1) := by decide +kernel
theorem dX7_firstFile_60 : decode cX7_firstFile 60 = .ok (.aload_n 0, 1) := by decide +kernel
theorem dX7_firstFile_61 : decode cX7_firstFile 61 = .ok (.getfield 33, 3) := by decide +kernel
theorem dX7_firstFile_64 : decode cX7_firstFile 64 = .ok (.iload_n 3, 1) := by decide +kernel
theorem dX7_firstFile_65 : decode cX7_firstFile 65 = .ok (.iaload, 1) := by decide +kernel
theorem dX7_firstFile_66 : decode cX7_firstFile 66 = .ok (.if_icmp .ge 6, 3) := by decide +kernel
theorem dX7_firstFile_69 : decode cX7_firstFile 69 = .ok (.iload 4, 2) := by decide +kernel
theorem dX7_firstFile_71 : decode cX7_firstFile 71 = .ok (.istore_n 3, 1) := by decide +kernel
theorem dX7_firstFile_72 : decode cX7_firstFile 72 = .ok (.iinc 4 1, 3) := by decide +kernel
theorem dX7_firstFile_75 : decode cX7_firstFile 75 = .ok (.goto (-70), 3) := by decide +kernel
theorem dX7_firstFile_78 : decode cX7_firstFile 78 = .ok (.iload_n 3, 1) := by decide +kernel
theorem dX7_firstFile_79 : decode cX7_firstFile 79 = .ok (.ireturn, 1) := by decide +kernel
theorem dX7_filesOn_0 : decode cX7_filesOn 0 = .ok (.iconst 0, 1) := by decide +kernel
theorem dX7_filesOn_1 : decode cX7_filesOn 1 = .ok (.istore_n 2, 1) := by decide +kernel
theorem dX7_filesOn_2 : decode cX7_filesOn 2 = .ok (.iconst 0, 1) := by decide +kernel
theorem dX7_filesOn_3 : decode cX7_filesOn 3 = .ok (.istore_n 3, 1) := by decide +kernel
theorem dX7_filesOn_4 : decode cX7_filesOn 4 = .ok (.iload_n 3, 1) := by decide +kernel
theorem dX7_filesOn_5 : decode cX7_filesOn 5 = .ok (.aload_n 0, 1) := by decide +kernel
theorem dX7_filesOn_6 : decode cX7_filesOn 6 = .ok (.getfield 63, 3) := by decide +kernel
theorem dX7_filesOn_9 : decode cX7_filesOn 9 = .ok (.if_icmp .ge 27, 3) := by decide +kernel
theorem dX7_filesOn_12 : decode cX7_filesOn 12 = .ok (.iload_n 2, 1) := by decide +kernel
theorem dX7_filesOn_13 : decode cX7_filesOn 13 = .ok (.aload_n 0, 1) := by decide +kernel
theorem dX7_filesOn_14 : decode cX7_filesOn 14 = .ok (.getfield 30, 3) := by decide +kernel
theorem dX7_filesOn_17 : decode cX7_filesOn 17 = .ok (.iload_n 3, 1) := by decide +kernel
theorem dX7_filesOn_18 : decode cX7_filesOn 18 = .ok (.iaload, 1) := by decide +kernel
theorem dX7_filesOn_19 : decode cX7_filesOn 19 = .ok (.iload_n 1, 1) := by decide +kernel
theorem dX7_filesOn_20 : decode cX7_filesOn 20 = .ok (.if_icmp .ne 7, 3) := by decide +kernel
theorem dX7_filesOn_23 : decode cX7_filesOn 23 = .ok (.iconst 1, 1) := by decide +kernel
theorem dX7_filesOn_24 : decode cX7_filesOn 24 = .ok (.goto 4, 3) := by decide +kernel
theorem dX7_filesOn_27 : decode cX7_filesOn 27 = .ok (.iconst 0, 1) := by decide +kernel
theorem dX7_filesOn_28 : decode cX7_filesOn 28 = .ok (.iadd, 1) := by decide +kernel
theorem dX7_filesOn_29 : decode cX7_filesOn 29 = .ok (.istore_n 2, 1) := by decide +kernel
theorem dX7_filesOn_30 : decode cX7_filesOn 30 = .ok (.iinc 3 1, 3) := by decide +kernel
theorem dX7_filesOn_33 : decode cX7_filesOn 33 = .ok (.goto (-29), 3) := by decide +kernel
theorem dX7_filesOn_36 : decode cX7_filesOn 36 = .ok (.iload_n 2, 1) := by decide +kernel
theorem dX7_filesOn_37 : decode cX7_filesOn 37 = .ok (.ireturn, 1) := by decide +kernel
theorem dX7_blocksOn_0 : decode cX7_blocksOn 0 = .ok (.iconst 0, 1) := by decide +kernel
theorem dX7_blocksOn_1 : decode cX7_blocksOn 1 = .ok (.istore_n 2, 1) := by decide +kernel
theorem dX7_blocksOn_2 : decode cX7_blocksOn 2 = .ok (.iconst 0, 1) := by decide +kernel
theorem dX7_blocksOn_3 : decode cX7_blocksOn 3 = .ok (.istore_n 3, 1) := by decide +kernel
theorem dX7_blocksOn_4 : decode cX7_blocksOn 4 = .ok (.iload_n 3, 1) := by decide +kernel
theorem dX7_blocksOn_5 : decode cX7_blocksOn 5 = .ok (.aload_n 0, 1) := by decide +kernel
theorem dX7_blocksOn_6 : decode cX7_blocksOn 6 = .ok (.getfield 63, 3) := by decide +kernel
theorem dX7_blocksOn_9 : decode cX7_blocksOn 9 = .ok (.if_icmp .ge 32, 3) := by decide +kernel
theorem dX7_blocksOn_12 : decode cX7_blocksOn 12 = .ok (.iload_n 2, 1) := by decide +kernel
theorem dX7_blocksOn_13 : decode cX7_blocksOn 13 = .ok (.aload_n 0, 1) := by decide +kernel
theorem dX7_blocksOn_14 : decode cX7_blocksOn 14 = .ok (.getfield 30, 3) := by decide +kernel
theorem dX7_blocksOn_17 : decode cX7_blocksOn 17 = .ok (.iload_n 3, 1) := by decide +kernel
theorem dX7_blocksOn_18 : decode cX7_blocksOn 18 = .ok (.iaload, 1) := by decide +kernel
theorem dX7_blocksOn_19 : decode cX7_blocksOn 19 = .ok (.iload_n 1, 1) := by decide +kernel
theorem dX7_blocksOn_20 : decode cX7_blocksOn 20 = .ok (.if_icmp .ne 12, 3) := by decide +kernel
theorem dX7_blocksOn_23 : decode cX7_blocksOn 23 = .ok (.aload_n 0, 1) := by decide +kernel
theorem dX7_blocksOn_24 : decode cX7_blocksOn 24 = .ok (.getfield 36, 3) := by decide +kernel
theorem dX7_blocksOn_27 : decode cX7_blocksOn 27 = .ok (.iload_n 3, 1) := by decide +kernel
theorem dX7_blocksOn_28 : decode cX7_blocksOn 28 = .ok (.iaload, 1) := by decide +kernel
theorem dX7_blocksOn_29 : decode cX7_blocksOn 29 = .ok (.goto 4, 3) := by decide +kernel
theorem dX7_blocksOn_32 : decode cX7_blocksOn 32 = .ok (.iconst 0, 1) := by decide +kernel
theorem dX7_blocksOn_33 : decode cX7_blocksOn 33 = .ok (.iadd, 1) := by decide +kernel
theorem dX7_blocksOn_34 : decode cX7_blocksOn 34 = .ok (.istore_n 2, 1) := by decide +kernel
theorem dX7_blocksOn_35 : decode cX7_blocksOn 35 = .ok (.iinc 3 1, 3) := by decide +kernel
theorem dX7_blocksOn_38 : decode cX7_blocksOn 38 = .ok (.goto (-34), 3) := by decide +kernel
theorem dX7_blocksOn_41 : decode cX7_blocksOn 41 = .ok (.iload_n 2, 1) := by decide +kernel
theorem dX7_blocksOn_42 : decode cX7_blocksOn 42 = .ok (.ireturn, 1) := by decide +kernel
theorem dX7_askedOn_0 : decode cX7_askedOn 0 = .ok (.iconst 0, 1) := by decide +kernel
theorem dX7_askedOn_1 : decode cX7_askedOn 1 = .ok (.istore_n 2, 1) := by decide +kernel
theorem dX7_askedOn_2 : decode cX7_askedOn 2 = .ok (.iconst 0, 1) := by decide +kernel
theorem dX7_askedOn_3 : decode cX7_askedOn 3 = .ok (.istore_n 3, 1) := by decide +kernel
theorem dX7_askedOn_4 : decode cX7_askedOn 4 = .ok (.iload_n 3, 1) := by decide +kernel
theorem dX7_askedOn_5 : decode cX7_askedOn 5 = .ok (.aload_n 0, 1) := by decide +kernel
theorem dX7_askedOn_6 : decode cX7_askedOn 6 = .ok (.getfield 63, 3) := by decide +kernel
theorem dX7_askedOn_9 : decode cX7_askedOn 9 = .ok (.if_icmp .ge 36, 3) := by decide +kernel
theorem dX7_askedOn_12 : decode cX7_askedOn 12 = .ok (.iload_n 2, 1) := by decide +kernel
theorem dX7_askedOn_13 : decode cX7_askedOn 13 = .ok (.aload_n 0, 1) := by decide +kernel
theorem dX7_askedOn_14 : decode cX7_askedOn 14 = .ok (.getfield 30, 3) := by decide +kernel
theorem dX7_askedOn_17 : decode cX7_askedOn 17 = .ok (.iload_n 3, 1) := by decide +kernel
theorem dX7_askedOn_18 : decode cX7_askedOn 18 = .ok (.iaload, 1) := by decide +kernel
theorem dX7_askedOn_19 : decode cX7_askedOn 19 = .ok (.iload_n 1, 1) := by decide +kernel
theorem dX7_askedOn_20 : decode cX7_askedOn 20 = .ok (.if_icmp .ne 16, 3) := by decide +kernel
theorem dX7_askedOn_23 : decode cX7_askedOn 23 = .ok (.aload_n 0, 1) := by decide +kernel
theorem dX7_askedOn_24 : decode cX7_askedOn 24 = .ok (.getfield 42, 3) := by decide +kernel
theorem dX7_askedOn_27 : decode cX7_askedOn 27 = .ok (.iload_n 3, 1) := by decide +kernel
theorem dX7_askedOn_28 : decode cX7_askedOn 28 = .ok (.iaload, 1) := by decide +kernel
theorem dX7_askedOn_29 : decode cX7_askedOn 29 = .ok (.ifCond .eq 7, 3) := by decide +kernel
theorem dX7_askedOn_32 : decode cX7_askedOn 32 = .ok (.iconst 1, 1) := by decide +kernel
theorem dX7_askedOn_33 : decode cX7_askedOn 33 = .ok (.goto 4, 3) := by decide +kernel
theorem dX7_askedOn_36 : decode cX7_askedOn 36 = .ok (.iconst 0, 1) := by decide +kernel
theorem dX7_askedOn_37 : decode cX7_askedOn 37 = .ok (.iadd, 1) := by decide +kernel
theorem dX7_askedOn_38 : decode cX7_askedOn 38 = .ok (.istore_n 2, 1) := by decide +kernel
theorem dX7_askedOn_39 : decode cX7_askedOn 39 = .ok (.iinc 3 1, 3) := by decide +kernel
theorem dX7_askedOn_42 : decode cX7_askedOn 42 = .ok (.goto (-38), 3) := by decide +kernel
theorem dX7_askedOn_45 : decode cX7_askedOn 45 = .ok (.iload_n 2, 1) := by decide +kernel
theorem dX7_askedOn_46 : decode cX7_askedOn 46 = .ok (.ireturn, 1) := by decide +kernel
theorem dX7_askedFiles_0 : decode cX7_askedFiles 0 = .ok (.iconst 0, 1) := by decide +kernel
theorem dX7_askedFiles_1 : decode cX7_askedFiles 1 = .ok (.istore_n 1, 1) := by decide +kernel
theorem dX7_askedFiles_2 : decode cX7_askedFiles 2 = .ok (.iconst 0, 1) := by decide +kernel
theorem dX7_askedFiles_3 : decode cX7_askedFiles 3 = .ok (.istore_n 2, 1) := by decide +kernel
theorem dX7_askedFiles_4 : decode cX7_askedFiles 4 = .ok (.iload_n 2, 1) := by decide +kernel
theorem dX7_askedFiles_5 : decode cX7_askedFiles 5 = .ok (.aload_n 0, 1) := by decide +kernel
theorem dX7_askedFiles_6 : decode cX7_askedFiles 6 = .ok (.getfield 63, 3) := by decide +kernel
theorem dX7_askedFiles_9 : decode cX7_askedFiles 9 = .ok (.if_icmp .ge 26, 3) := by decide +kernel
theorem dX7_askedFiles_12 : decode cX7_askedFiles 12 = .ok (.iload_n 1, 1) := by decide +kernel
theorem dX7_askedFiles_13 : decode cX7_askedFiles 13 = .ok (.aload_n 0, 1) := by decide +kernel
theorem dX7_askedFiles_14 : decode cX7_askedFiles 14 = .ok (.getfield 42, 3) := by decide +kernel
theorem dX7_askedFiles_17 : decode cX7_askedFiles 17 = .ok (.iload_n 2, 1) := by decide +kernel
theorem dX7_askedFiles_18 : decode cX7_askedFiles 18 = .ok (.iaload, 1) := by decide +kernel
theorem dX7_askedFiles_19 : decode cX7_askedFiles 19 = .ok (.ifCond .eq 7, 3) := by decide +kernel
theorem dX7_askedFiles_22 : decode cX7_askedFiles 22 = .ok (.iconst 1, 1) := by decide +kernel
theorem dX7_askedFiles_23 : decode cX7_askedFiles 23 = .ok (.goto 4, 3) := by decide +kernel
theorem dX7_askedFiles_26 : decode cX7_askedFiles 26 = .ok (.iconst 0, 1) := by decide +kernel
theorem dX7_askedFiles_27 : decode cX7_askedFiles 27 = .ok (.iadd, 1) := by decide +kernel
theorem dX7_askedFiles_28 : decode cX7_askedFiles 28 = .ok (.istore_n 1, 1) := by decide +kernel
theorem dX7_askedFiles_29 : decode cX7_askedFiles 29 = .ok (.iinc 2 1, 3) := by decide +kernel
theorem dX7_askedFiles_32 : decode cX7_askedFiles 32 = .ok (.goto (-28), 3) := by decide +kernel
theorem dX7_askedFiles_35 : decode cX7_askedFiles 35 = .ok (.iload_n 1, 1) := by decide +kernel
theorem dX7_askedFiles_36 : decode cX7_askedFiles 36 = .ok (.ireturn, 1) := by decide +kernel
theorem dX7_filesThere_0 : decode cX7_filesThere 0 = .ok (.aload_n 0, 1) := by decide +kernel
theorem dX7_filesThere_1 : decode cX7_filesThere 1 = .ok (.getfield 63, 3) := by decide +kernel
theorem dX7_filesThere_4 : decode cX7_filesThere 4 = .ok (.aload_n 0, 1) := by decide +kernel
theorem dX7_filesThere_5 : decode cX7_filesThere 5 = .ok (.iconst (-1), 1) := by decide +kernel
theorem dX7_filesThere_6 : decode cX7_filesThere 6 = .ok (.invokevirtual 121, 3) := by decide +kernel
theorem dX7_filesThere_9 : decode cX7_filesThere 9 = .ok (.isub, 1) := by decide +kernel
theorem dX7_filesThere_10 : decode cX7_filesThere 10 = .ok (.ireturn, 1) := by decide +kernel
theorem dX7_knownFiles_0 : decode cX7_knownFiles 0 = .ok (.iconst 0, 1) := by decide +kernel
theorem dX7_knownFiles_1 : decode cX7_knownFiles 1 = .ok (.istore_n 1, 1) := by decide +kernel
theorem dX7_knownFiles_2 : decode cX7_knownFiles 2 = .ok (.iconst 0, 1) := by decide +kernel
theorem dX7_knownFiles_3 : decode cX7_knownFiles 3 = .ok (.istore_n 2, 1) := by decide +kernel
theorem dX7_knownFiles_4 : decode cX7_knownFiles 4 = .ok (.iload_n 2, 1) := by decide +kernel
theorem dX7_knownFiles_5 : decode cX7_knownFiles 5 = .ok (.aload_n 0, 1) := by decide +kernel
theorem dX7_knownFiles_6 : decode cX7_knownFiles 6 = .ok (.getfield 63, 3) := by decide +kernel
theorem dX7_knownFiles_9 : decode cX7_knownFiles 9 = .ok (.if_icmp .ge 18, 3) := by decide +kernel
theorem dX7_knownFiles_12 : decode cX7_knownFiles 12 = .ok (.iload_n 1, 1) := by decide +kernel
theorem dX7_knownFiles_13 : decode cX7_knownFiles 13 = .ok (.aload_n 0, 1) := by decide +kernel
theorem dX7_knownFiles_14 : decode cX7_knownFiles 14 = .ok (.getfield 39, 3) := by decide +kernel
theorem dX7_knownFiles_17 : decode cX7_knownFiles 17 = .ok (.iload_n 2, 1) := by decide +kernel
theorem dX7_knownFiles_18 : decode cX7_knownFiles 18 = .ok (.iaload, 1) := by decide +kernel
theorem dX7_knownFiles_19 : decode cX7_knownFiles 19 = .ok (.iadd, 1) := by decide +kernel
theorem dX7_knownFiles_20 : decode cX7_knownFiles 20 = .ok (.istore_n 1, 1) := by decide +kernel
theorem dX7_knownFiles_21 : decode cX7_knownFiles 21 = .ok (.iinc 2 1, 3) := by decide +kernel
theorem dX7_knownFiles_24 : decode cX7_knownFiles 24 = .ok (.goto (-20), 3) := by decide +kernel
theorem dX7_knownFiles_27 : decode cX7_knownFiles 27 = .ok (.iload_n 1, 1) := by decide +kernel
theorem dX7_knownFiles_28 : decode cX7_knownFiles 28 = .ok (.ireturn, 1) := by decide +kernel
theorem dX7_mendedBlocks_0 : decode cX7_mendedBlocks 0 = .ok (.iconst 0, 1) := by decide +kernel
theorem dX7_mendedBlocks_1 : decode cX7_mendedBlocks 1 = .ok (.istore_n 1, 1) := by decide +kernel
theorem dX7_mendedBlocks_2 : decode cX7_mendedBlocks 2 = .ok (.iconst 0, 1) := by decide +kernel
theorem dX7_mendedBlocks_3 : decode cX7_mendedBlocks 3 = .ok (.istore_n 2, 1) := by decide +kernel
theorem dX7_mendedBlocks_4 : decode cX7_mendedBlocks 4 = .ok (.iload_n 2, 1) := by decide +kernel
theorem dX7_mendedBlocks_5 : decode cX7_mendedBlocks 5 = .ok (.aload_n 0, 1) := by decide +kernel
theorem dX7_mendedBlocks_6 : decode cX7_mendedBlocks 6 = .ok (.getfield 45, 3) := by decide +kernel
theorem dX7_mendedBlocks_9 : decode cX7_mendedBlocks 9 = .ok (.getfield 133, 3) := by decide +kernel
theorem dX7_mendedBlocks_12 : decode cX7_mendedBlocks 12 = .ok (.if_icmp .ge 18, 3) := by decide +kernel
theorem dX7_mendedBlocks_15 : decode cX7_mendedBlocks 15 = .ok (.iload_n 1, 1) := by decide +kernel
theorem dX7_mendedBlocks_16 : decode cX7_mendedBlocks 16 = .ok (.aload_n 0, 1) := by decide +kernel
theorem dX7_mendedBlocks_17 : decode cX7_mendedBlocks 17 = .ok (.getfield 24, 3) := by decide +kernel
theorem dX7_mendedBlocks_20 : decode cX7_mendedBlocks 20 = .ok (.iload_n 2, 1) := by decide +kernel
theorem dX7_mendedBlocks_21 : decode cX7_mendedBlocks 21 = .ok (.iaload, 1) := by decide +kernel
theorem dX7_mendedBlocks_22 : decode cX7_mendedBlocks 22 = .ok (.iadd, 1) := by decide +kernel
theorem dX7_mendedBlocks_23 : decode cX7_mendedBlocks 23 = .ok (.istore_n 1, 1) := by decide +kernel
theorem dX7_mendedBlocks_24 : decode cX7_mendedBlocks 24 = .ok (.iinc 2 1, 3) := by decide +kernel
theorem dX7_mendedBlocks_27 : decode cX7_mendedBlocks 27 = .ok (.goto (-23), 3) := by decide +kernel
theorem dX7_mendedBlocks_30 : decode cX7_mendedBlocks 30 = .ok (.iload_n 1, 1) := by decide +kernel
theorem dX7_mendedBlocks_31 : decode cX7_mendedBlocks 31 = .ok (.ireturn, 1) := by decide +kernel
theorem dX7_roomiest_0 : decode cX7_roomiest 0 = .ok (.iconst 0, 1) := by decide +kernel
theorem dX7_roomiest_1 : decode cX7_roomiest 1 = .ok (.istore_n 1, 1) := by decide +kernel
theorem dX7_roomiest_2 : decode cX7_roomiest 2 = .ok (.iconst 1, 1) := by decide +kernel
theorem dX7_roomiest_3 : decode cX7_roomiest 3 = .ok (.istore_n 2, 1) := by decide +kernel
theorem dX7_roomiest_4 : decode cX7_roomiest 4 = .ok (.iload_n 2, 1) := by decide +kernel
theorem dX7_roomiest_5 : decode cX7_roomiest 5 = .ok (.aload_n 0, 1) := by decide +kernel
theorem dX7_roomiest_6 : decode cX7_roomiest 6 = .ok (.getfield 45, 3) := by decide +kernel
theorem dX7_roomiest_9 : decode cX7_roomiest 9 = .ok (.getfield 133, 3) := by decide +kernel
theorem dX7_roomiest_12 : decode cX7_roomiest 12 = .ok (.if_icmp .ge 30, 3) := by decide +kernel
theorem dX7_roomiest_15 : decode cX7_roomiest 15 = .ok (.aload_n 0, 1) := by decide +kernel
theorem dX7_roomiest_16 : decode cX7_roomiest 16 = .ok (.getfield 18, 3) := by decide +kernel
theorem dX7_roomiest_19 : decode cX7_roomiest 19 = .ok (.iload_n 2, 1) := by decide +kernel
theorem dX7_roomiest_20 : decode cX7_roomiest 20 = .ok (.iaload, 1) := by decide +kernel
theorem dX7_roomiest_21 : decode cX7_roomiest 21 = .ok (.aload_n 0, 1) := by decide +kernel
theorem dX7_roomiest_22 : decode cX7_roomiest 22 = .ok (.getfield 18, 3) := by decide +kernel
theorem dX7_roomiest_25 : decode cX7_roomiest 25 = .ok (.iload_n 1, 1) := by decide +kernel
theorem dX7_roomiest_26 : decode cX7_roomiest 26 = .ok (.iaload, 1) := by decide +kernel
theorem dX7_roomiest_27 : decode cX7_roomiest 27 = .ok (.if_icmp .ge 7, 3) := by decide +kernel
theorem dX7_roomiest_30 : decode cX7_roomiest 30 = .ok (.iload_n 2, 1) := by decide +kernel
theorem dX7_roomiest_31 : decode cX7_roomiest 31 = .ok (.goto 4, 3) := by decide +kernel
theorem dX7_roomiest_34 : decode cX7_roomiest 34 = .ok (.iload_n 1, 1) := by decide +kernel
theorem dX7_roomiest_35 : decode cX7_roomiest 35 = .ok (.istore_n 1, 1) := by decide +kernel
theorem dX7_roomiest_36 : decode cX7_roomiest 36 = .ok (.iinc 2 1, 3) := by decide +kernel
theorem dX7_roomiest_39 : decode cX7_roomiest 39 = .ok (.goto (-35), 3) := by decide +kernel
theorem dX7_roomiest_42 : decode cX7_roomiest 42 = .ok (.iload_n 1, 1) := by decide +kernel
theorem dX7_roomiest_43 : decode cX7_roomiest 43 = .ok (.ireturn, 1) := by decide +kernel
theorem dX7_targetFor_0 : decode cX7_targetFor 0 = .ok (.aload_n 0, 1) := by decide +kernel
theorem dX7_targetFor_1 : decode cX7_targetFor 1 = .ok (.iload_n 1, 1) := by decide +kernel
theorem dX7_targetFor_2 : decode cX7_targetFor 2 = .ok (.invokevirtual 121, 3) := by decide +kernel
theorem dX7_targetFor_5 : decode cX7_targetFor 5 = .ok (.ifCond .ne 5, 3) := by decide +kernel
theorem dX7_targetFor_8 : decode cX7_targetFor 8 = .ok (.iconst (-1), 1) := by decide +kernel
theorem dX7_targetFor_9 : decode cX7_targetFor 9 = .ok (.ireturn, 1) := by decide +kernel
theorem dX7_targetFor_10 : decode cX7_targetFor 10 = .ok (.iconst (-1), 1) := by decide +kernel
theorem dX7_targetFor_11 : decode cX7_targetFor 11 = .ok (.istore_n 2, 1) := by decide +kernel
theorem dX7_targetFor_12 : decode cX7_targetFor 12 = .ok (.iconst 0, 1) := by decide +kernel
theorem dX7_targetFor_13 : decode cX7_targetFor 13 = .ok (.istore_n 3, 1) := by decide +kernel
theorem dX7_targetFor_14 : decode cX7_targetFor 14 = .ok (.iload_n 3, 1) := by decide +kernel
theorem dX7_targetFor_15 : decode cX7_targetFor 15 = .ok (.aload_n 0, 1) := by decide +kernel
theorem dX7_targetFor_16 : decode cX7_targetFor 16 = .ok (.getfield 45, 3) := by decide +kernel
theorem dX7_targetFor_19 : decode cX7_targetFor 19 = .ok (.getfield 133, 3) := by decide +kernel
theorem dX7_targetFor_22 : decode cX7_targetFor 22 = .ok (.if_icmp .ge 57, 3) := by decide +kernel
theorem dX7_targetFor_25 : decode cX7_targetFor 25 = .ok (.iload_n 3, 1) := by decide +kernel
theorem dX7_targetFor_26 : decode cX7_targetFor 26 = .ok (.iload_n 1, 1) := by decide +kernel
theorem dX7_targetFor_27 : decode cX7_targetFor 27 = .ok (.if_icmp .eq 16, 3) := by decide +kernel
theorem dX7_targetFor_30 : decode cX7_targetFor 30 = .ok (.aload_n 0, 1) := by decide +kernel
theorem dX7_targetFor_31 : decode cX7_targetFor 31 = .ok (.getfield 18, 3) := by decide +kernel
theorem dX7_targetFor_34 : decode cX7_targetFor 34 = .ok (.iload_n 3, 1) := by decide +kernel
theorem dX7_targetFor_35 : decode cX7_targetFor 35 = .ok (.iaload, 1) := by decide +kernel
theorem dX7_targetFor_36 : decode cX7_targetFor 36 = .ok (.ifCond .ne 7, 3) := by decide +kernel
theorem dX7_targetFor_39 : decode cX7_targetFor 39 = .ok (.iconst 1, 1) := by decide +kernel
theorem dX7_targetFor_40 : decode cX7_targetFor 40 = .ok (.goto 4, 3) := by decide +kernel
theorem dX7_targetFor_43 : decode cX7_targetFor 43 = .ok (.iconst 0, 1) := by decide +kernel
theorem dX7_targetFor_44 : decode cX7_targetFor 44 = .ok (.istore 4, 2) := by decide +kernel
theorem dX7_targetFor_46 : decode cX7_targetFor 46 = .ok (.iload 4, 2) := by decide +kernel
theorem dX7_targetFor_48 : decode cX7_targetFor 48 = .ok (.ifCond .eq 25, 3) := by decide +kernel
theorem dX7_targetFor_51 : decode cX7_targetFor 51 = .ok (.iload_n 2, 1) := by decide +kernel
theorem dX7_targetFor_52 : decode cX7_targetFor 52 = .ok (.iconst (-1), 1) := by decide +kernel
theorem dX7_targetFor_53 : decode cX7_targetFor 53 = .ok (.if_icmp .eq 18, 3) := by decide +kernel
theorem dX7_targetFor_56 : decode cX7_targetFor 56 = .ok (.aload_n 0, 1) := by decide +kernel
theorem dX7_targetFor_57 : decode cX7_targetFor 57 = .ok (.getfield 21, 3) := by decide +kernel
theorem dX7_targetFor_60 : decode cX7_targetFor 60 = .ok (.iload_n 3, 1) := by decide +kernel
theorem dX7_targetFor_61 : decode cX7_targetFor 61 = .ok (.iaload, 1) := by decide +kernel
theorem dX7_targetFor_62 : decode cX7_targetFor 62 = .ok (.aload_n 0, 1) := by decide +kernel
theorem dX7_targetFor_63 : decode cX7_targetFor 63 = .ok (.getfield 21, 3) := by decide +kernel
theorem dX7_targetFor_66 : decode cX7_targetFor 66 = .ok (.iload_n 2, 1) := by decide +kernel
theorem dX7_targetFor_67 : decode cX7_targetFor 67 = .ok (.iaload, 1) := by decide +kernel
theorem dX7_targetFor_68 : decode cX7_targetFor 68 = .ok (.if_icmp .ge 5, 3) := by decide +kernel
theorem dX7_targetFor_71 : decode cX7_targetFor 71 = .ok (.iload_n 3, 1) := by decide +kernel
theorem dX7_targetFor_72 : decode cX7_targetFor 72 = .ok (.istore_n 2, 1) := by decide +kernel
theorem dX7_targetFor_73 : decode cX7_targetFor 73 = .ok (.iinc 3 1, 3) := by decide +kernel
theorem dX7_targetFor_76 : decode cX7_targetFor 76 = .ok (.goto (-62), 3) := by decide +kernel
theorem dX7_targetFor_79 : decode cX7_targetFor 79 = .ok (.iload_n 2, 1) := by decide +kernel
theorem dX7_targetFor_80 : decode cX7_targetFor 80 = .ok (.ireturn, 1) := by decide +kernel
theorem dX7_tapesInDrives_0 : decode cX7_tapesInDrives 0 = .ok (.iconst 0, 1) := by decide +kernel
theorem dX7_tapesInDrives_1 : decode cX7_tapesInDrives 1 = .ok (.istore_n 1, 1) := by decide +kernel
theorem dX7_tapesInDrives_2 : decode cX7_tapesInDrives 2 = .ok (.iconst 0, 1) := by decide +kernel
theorem dX7_tapesInDrives_3 : decode cX7_tapesInDrives 3 = .ok (.istore_n 2, 1) := by decide +kernel
theorem dX7_tapesInDrives_4 : decode cX7_tapesInDrives 4 = .ok (.iload_n 2, 1) := by decide +kernel
theorem dX7_tapesInDrives_5 : decode cX7_tapesInDrives 5 = .ok (.aload_n 0, 1) := by decide +kernel
theorem dX7_tapesInDrives_6 : decode cX7_tapesInDrives 6 = .ok (.getfield 45, 3) := by decide +kernel
theorem dX7_tapesInDrives_9 : decode cX7_tapesInDrives 9 = .ok (.getfield 133, 3) := by decide +kernel
theorem dX7_tapesInDrives_12 : decode cX7_tapesInDrives 12 = .ok (.if_icmp .ge 29, 3) := by decide +kernel
theorem dX7_tapesInDrives_15 : decode cX7_tapesInDrives 15 = .ok (.iload_n 1, 1) := by decide +kernel
theorem dX7_tapesInDrives_16 : decode cX7_tapesInDrives 16 = .ok (.aload_n 0, 1) := by decide +kernel
theorem dX7_tapesInDrives_17 : decode cX7_tapesInDrives 17 = .ok (.getfield 9, 3) := by decide +kernel
theorem dX7_tapesInDrives_20 : decode cX7_tapesInDrives 20 = .ok (.iload_n 2, 1) := by decide +kernel
theorem dX7_tapesInDrives_21 : decode cX7_tapesInDrives 21 = .ok (.iaload, 1) := by decide +kernel
theorem dX7_tapesInDrives_22 : decode cX7_tapesInDrives 22 = .ok (.iconst (-1), 1) := by decide +kernel
theorem dX7_tapesInDrives_23 : decode cX7_tapesInDrives 23 = .ok (.if_icmp .eq 9, 3) := by decide +kernel
theorem dX7_tapesInDrives_26 : decode cX7_tapesInDrives 26 = .ok (.iconst 1, 1) := by decide +kernel
theorem dX7_tapesInDrives_27 : decode cX7_tapesInDrives 27 = .ok (.iload_n 2, 1) := by decide +kernel
theorem dX7_tapesInDrives_28 : decode cX7_tapesInDrives 28 = .ok (.ishl, 1) := by decide +kernel
theorem dX7_tapesInDrives_29 : decode cX7_tapesInDrives 29 = .ok (.goto 4, 3) := by decide +kernel
theorem dX7_tapesInDrives_32 : decode cX7_tapesInDrives 32 = .ok (.iconst 0, 1) := by decide +kernel
theorem dX7_tapesInDrives_33 : decode cX7_tapesInDrives 33 = .ok (.ior, 1) := by decide +kernel
theorem dX7_tapesInDrives_34 : decode cX7_tapesInDrives 34 = .ok (.istore_n 1, 1) := by decide +kernel
theorem dX7_tapesInDrives_35 : decode cX7_tapesInDrives 35 = .ok (.iinc 2 1, 3) := by decide +kernel
theorem dX7_tapesInDrives_38 : decode cX7_tapesInDrives 38 = .ok (.goto (-34), 3) := by decide +kernel
theorem dX7_tapesInDrives_41 : decode cX7_tapesInDrives 41 = .ok (.iload_n 1, 1) := by decide +kernel
theorem dX7_tapesInDrives_42 : decode cX7_tapesInDrives 42 = .ok (.ireturn, 1) := by decide +kernel
theorem dX7_weakTapes_0 : decode cX7_weakTapes 0 = .ok (.iconst 0, 1) := by decide +kernel
theorem dX7_weakTapes_1 : decode cX7_weakTapes 1 = .ok (.istore_n 1, 1) := by decide +kernel
theorem dX7_weakTapes_2 : decode cX7_weakTapes 2 = .ok (.iconst 0, 1) := by decide +kernel
theorem dX7_weakTapes_3 : decode cX7_weakTapes 3 = .ok (.istore_n 2, 1) := by decide +kernel
theorem dX7_weakTapes_4 : decode cX7_weakTapes 4 = .ok (.iload_n 2, 1) := by decide +kernel
theorem dX7_weakTapes_5 : decode cX7_weakTapes 5 = .ok (.aload_n 0, 1) := by decide +kernel
theorem dX7_weakTapes_6 : decode cX7_weakTapes 6 = .ok (.getfield 45, 3) := by decide +kernel
theorem dX7_weakTapes_9 : decode cX7_weakTapes 9 = .ok (.getfield 133, 3) := by decide +kernel
theorem dX7_weakTapes_12 : decode cX7_weakTapes 12 = .ok (.if_icmp .ge 46, 3) := by decide +kernel
theorem dX7_weakTapes_15 : decode cX7_weakTapes 15 = .ok (.iload_n 1, 1) := by decide +kernel
theorem dX7_weakTapes_16 : decode cX7_weakTapes 16 = .ok (.aload_n 0, 1) := by decide +kernel
theorem dX7_weakTapes_17 : decode cX7_weakTapes 17 = .ok (.getfield 21, 3) := by decide +kernel
theorem dX7_weakTapes_20 : decode cX7_weakTapes 20 = .ok (.iload_n 2, 1) := by decide +kernel
theorem dX7_weakTapes_21 : decode cX7_weakTapes 21 = .ok (.iaload, 1) := by decide +kernel
theorem dX7_weakTapes_22 : decode cX7_weakTapes 22 = .ok (.aload_n 0, 1) := by decide +kernel
theorem dX7_weakTapes_23 : decode cX7_weakTapes 23 = .ok (.getfield 45, 3) := by decide +kernel
theorem dX7_weakTapes_26 : decode cX7_weakTapes 26 = .ok (.getfield 206, 3) := by decide +kernel
theorem dX7_weakTapes_29 : decode cX7_weakTapes 29 = .ok (.bipush 6, 2) := by decide +kernel
theorem dX7_weakTapes_31 : decode cX7_weakTapes 31 = .ok (.iaload, 1) := by decide +kernel
theorem dX7_weakTapes_32 : decode cX7_weakTapes 32 = .ok (.if_icmp .le 17, 3) := by decide +kernel
theorem dX7_weakTapes_35 : decode cX7_weakTapes 35 = .ok (.aload_n 0, 1) := by decide +kernel
theorem dX7_weakTapes_36 : decode cX7_weakTapes 36 = .ok (.iload_n 2, 1) := by decide +kernel
theorem dX7_weakTapes_37 : decode cX7_weakTapes 37 = .ok (.invokevirtual 121, 3) := by decide +kernel
theorem dX7_weakTapes_40 : decode cX7_weakTapes 40 = .ok (.ifCond .le 9, 3) := by decide +kernel
theorem dX7_weakTapes_43 : decode cX7_weakTapes 43 = .ok (.iconst 1, 1) := by decide +kernel
theorem dX7_weakTapes_44 : decode cX7_weakTapes 44 = .ok (.iload_n 2, 1) := by decide +kernel
theorem dX7_weakTapes_45 : decode cX7_weakTapes 45 = .ok (.ishl, 1) := by decide +kernel
theorem dX7_weakTapes_46 : decode cX7_weakTapes 46 = .ok (.goto 4, 3) := by decide +kernel
theorem dX7_weakTapes_49 : decode cX7_weakTapes 49 = .ok (.iconst 0, 1) := by decide +kernel
theorem dX7_weakTapes_50 : decode cX7_weakTapes 50 = .ok (.ior, 1) := by decide +kernel
theorem dX7_weakTapes_51 : decode cX7_weakTapes 51 = .ok (.istore_n 1, 1) := by decide +kernel
theorem dX7_weakTapes_52 : decode cX7_weakTapes 52 = .ok (.iinc 2 1, 3) := by decide +kernel
theorem dX7_weakTapes_55 : decode cX7_weakTapes 55 = .ok (.goto (-51), 3) := by decide +kernel
theorem dX7_weakTapes_58 : decode cX7_weakTapes 58 = .ok (.iload_n 1, 1) := by decide +kernel
theorem dX7_weakTapes_59 : decode cX7_weakTapes 59 = .ok (.ireturn, 1) := by decide +kernel
theorem dX7_emptyTapes_0 : decode cX7_emptyTapes 0 = .ok (.iconst 0, 1) := by decide +kernel
theorem dX7_emptyTapes_1 : decode cX7_emptyTapes 1 = .ok (.istore_n 1, 1) := by decide +kernel
theorem dX7_emptyTapes_2 : decode cX7_emptyTapes 2 = .ok (.iconst 0, 1) := by decide +kernel
theorem dX7_emptyTapes_3 : decode cX7_emptyTapes 3 = .ok (.istore_n 2, 1) := by decide +kernel
theorem dX7_emptyTapes_4 : decode cX7_emptyTapes 4 = .ok (.iload_n 2, 1) := by decide +kernel
theorem dX7_emptyTapes_5 : decode cX7_emptyTapes 5 = .ok (.aload_n 0, 1) := by decide +kernel
theorem dX7_emptyTapes_6 : decode cX7_emptyTapes 6 = .ok (.getfield 45, 3) := by decide +kernel
theorem dX7_emptyTapes_9 : decode cX7_emptyTapes 9 = .ok (.getfield 133, 3) := by decide +kernel
theorem dX7_emptyTapes_12 : decode cX7_emptyTapes 12 = .ok (.if_icmp .ge 28, 3) := by decide +kernel
theorem dX7_emptyTapes_15 : decode cX7_emptyTapes 15 = .ok (.iload_n 1, 1) := by decide +kernel
theorem dX7_emptyTapes_16 : decode cX7_emptyTapes 16 = .ok (.aload_n 0, 1) := by decide +kernel
theorem dX7_emptyTapes_17 : decode cX7_emptyTapes 17 = .ok (.getfield 18, 3) := by decide +kernel
theorem dX7_emptyTapes_20 : decode cX7_emptyTapes 20 = .ok (.iload_n 2, 1) := by decide +kernel
theorem dX7_emptyTapes_21 : decode cX7_emptyTapes 21 = .ok (.iaload, 1) := by decide +kernel
theorem dX7_emptyTapes_22 : decode cX7_emptyTapes 22 = .ok (.ifCond .ne 9, 3) := by decide +kernel
theorem dX7_emptyTapes_25 : decode cX7_emptyTapes 25 = .ok (.iconst 1, 1) := by decide +kernel
theorem dX7_emptyTapes_26 : decode cX7_emptyTapes 26 = .ok (.iload_n 2, 1) := by decide +kernel
theorem dX7_emptyTapes_27 : decode cX7_emptyTapes 27 = .ok (.ishl, 1) := by decide +kernel
theorem dX7_emptyTapes_28 : decode cX7_emptyTapes 28 = .ok (.goto 4, 3) := by decide +kernel
theorem dX7_emptyTapes_31 : decode cX7_emptyTapes 31 = .ok (.iconst 0, 1) := by decide +kernel
theorem dX7_emptyTapes_32 : decode cX7_emptyTapes 32 = .ok (.ior, 1) := by decide +kernel
theorem dX7_emptyTapes_33 : decode cX7_emptyTapes 33 = .ok (.istore_n 1, 1) := by decide +kernel
theorem dX7_emptyTapes_34 : decode cX7_emptyTapes 34 = .ok (.iinc 2 1, 3) := by decide +kernel
theorem dX7_emptyTapes_37 : decode cX7_emptyTapes 37 = .ok (.goto (-33), 3) := by decide +kernel
theorem dX7_emptyTapes_40 : decode cX7_emptyTapes 40 = .ok (.iload_n 1, 1) := by decide +kernel
theorem dX7_emptyTapes_41 : decode cX7_emptyTapes 41 = .ok (.ireturn, 1) := by decide +kernel
theorem dX7_idleAt_0 : decode cX7_idleAt 0 = .ok (.iconst 0, 1) := by decide +kernel
theorem dX7_idleAt_1 : decode cX7_idleAt 1 = .ok (.istore_n 2, 1) := by decide +kernel
theorem dX7_idleAt_2 : decode cX7_idleAt 2 = .ok (.iconst 0, 1) := by decide +kernel
theorem dX7_idleAt_3 : decode cX7_idleAt 3 = .ok (.istore_n 3, 1) := by decide +kernel
theorem dX7_idleAt_4 : decode cX7_idleAt 4 = .ok (.iload_n 3, 1) := by decide +kernel
theorem dX7_idleAt_5 : decode cX7_idleAt 5 = .ok (.aload_n 0, 1) := by decide +kernel
theorem dX7_idleAt_6 : decode cX7_idleAt 6 = .ok (.getfield 45, 3) := by decide +kernel
theorem dX7_idleAt_9 : decode cX7_idleAt 9 = .ok (.getfield 133, 3) := by decide +kernel
theorem dX7_idleAt_12 : decode cX7_idleAt 12 = .ok (.if_icmp .ge 50, 3) := by decide +kernel
theorem dX7_idleAt_15 : decode cX7_idleAt 15 = .ok (.iload_n 2, 1) := by decide +kernel
theorem dX7_idleAt_16 : decode cX7_idleAt 16 = .ok (.aload_n 0, 1) := by decide +kernel
theorem dX7_idleAt_17 : decode cX7_idleAt 17 = .ok (.getfield 9, 3) := by decide +kernel
theorem dX7_idleAt_20 : decode cX7_idleAt 20 = .ok (.iload_n 3, 1) := by decide +kernel
theorem dX7_idleAt_21 : decode cX7_idleAt 21 = .ok (.iaload, 1) := by decide +kernel
theorem dX7_idleAt_22 : decode cX7_idleAt 22 = .ok (.iconst (-1), 1) := by decide +kernel
theorem dX7_idleAt_23 : decode cX7_idleAt 23 = .ok (.if_icmp .eq 30, 3) := by decide +kernel
theorem dX7_idleAt_26 : decode cX7_idleAt 26 = .ok (.iload_n 1, 1) := by decide +kernel
theorem dX7_idleAt_27 : decode cX7_idleAt 27 = .ok (.aload_n 0, 1) := by decide +kernel
theorem dX7_idleAt_28 : decode cX7_idleAt 28 = .ok (.getfield 27, 3) := by decide +kernel
theorem dX7_idleAt_31 : decode cX7_idleAt 31 = .ok (.iload_n 3, 1) := by decide +kernel
theorem dX7_idleAt_32 : decode cX7_idleAt 32 = .ok (.iaload, 1) := by decide +kernel
theorem dX7_idleAt_33 : decode cX7_idleAt 33 = .ok (.isub, 1) := by decide +kernel
theorem dX7_idleAt_34 : decode cX7_idleAt 34 = .ok (.aload_n 0, 1) := by decide +kernel
theorem dX7_idleAt_35 : decode cX7_idleAt 35 = .ok (.getfield 45, 3) := by decide +kernel
theorem dX7_idleAt_38 : decode cX7_idleAt 38 = .ok (.getfield 206, 3) := by decide +kernel
theorem dX7_idleAt_41 : decode cX7_idleAt 41 = .ok (.bipush 7, 2) := by decide +kernel
theorem dX7_idleAt_43 : decode cX7_idleAt 43 = .ok (.iaload, 1) := by decide +kernel
theorem dX7_idleAt_44 : decode cX7_idleAt 44 = .ok (.if_icmp .le 9, 3) := by decide +kernel
theorem dX7_idleAt_47 : decode cX7_idleAt 47 = .ok (.iconst 1, 1) := by decide +kernel
theorem dX7_idleAt_48 : decode cX7_idleAt 48 = .ok (.iload_n 3, 1) := by decide +kernel
theorem dX7_idleAt_49 : decode cX7_idleAt 49 = .ok (.ishl, 1) := by decide +kernel
theorem dX7_idleAt_50 : decode cX7_idleAt 50 = .ok (.goto 4, 3) := by decide +kernel
theorem dX7_idleAt_53 : decode cX7_idleAt 53 = .ok (.iconst 0, 1) := by decide +kernel
theorem dX7_idleAt_54 : decode cX7_idleAt 54 = .ok (.ior, 1) := by decide +kernel
theorem dX7_idleAt_55 : decode cX7_idleAt 55 = .ok (.istore_n 2, 1) := by decide +kernel
theorem dX7_idleAt_56 : decode cX7_idleAt 56 = .ok (.iinc 3 1, 3) := by decide +kernel
theorem dX7_idleAt_59 : decode cX7_idleAt 59 = .ok (.goto (-55), 3) := by decide +kernel
theorem dX7_idleAt_62 : decode cX7_idleAt 62 = .ok (.iload_n 2, 1) := by decide +kernel
theorem dX7_idleAt_63 : decode cX7_idleAt 63 = .ok (.ireturn, 1) := by decide +kernel
theorem dX8_init_0 : decode cX8_init 0 = .ok (.aload_n 0, 1) := by decide +kernel
theorem dX8_init_1 : decode cX8_init 1 = .ok (.invokespecial 1, 3) := by decide +kernel
theorem dX8_init_4 : decode cX8_init 4 = .ok (.aload_n 0, 1) := by decide +kernel
theorem dX8_init_5 : decode cX8_init 5 = .ok (.new 7, 3) := by decide +kernel
theorem dX8_init_8 : decode cX8_init 8 = .ok (.dup, 1) := by decide +kernel
theorem dX8_init_9 : decode cX8_init 9 = .ok (.invokespecial 9, 3) := by decide +kernel
theorem dX8_init_12 : decode cX8_init 12 = .ok (.putfield 10, 3) := by decide +kernel
theorem dX8_init_15 : decode cX8_init 15 = .ok (.aload_n 0, 1) := by decide +kernel
theorem dX8_init_16 : decode cX8_init 16 = .ok (.new 16, 3) := by decide +kernel
theorem dX8_init_19 : decode cX8_init 19 = .ok (.dup, 1) := by decide +kernel
theorem dX8_init_20 : decode cX8_init 20 = .ok (.aload_n 0, 1) := by decide +kernel
theorem dX8_init_21 : decode cX8_init 21 = .ok (.getfield 10, 3) := by decide +kernel
theorem dX8_init_24 : decode cX8_init 24 = .ok (.invokespecial 18, 3) := by decide +kernel
theorem dX8_init_27 : decode cX8_init 27 = .ok (.putfield 21, 3) := by decide +kernel
theorem dX8_init_30 : decode cX8_init 30 = .ok (.aload_n 0, 1) := by decide +kernel
theorem dX8_init_31 : decode cX8_init 31 = .ok (.new 25, 3) := by decide +kernel
theorem dX8_init_34 : decode cX8_init 34 = .ok (.dup, 1) := by decide +kernel
theorem dX8_init_35 : decode cX8_init 35 = .ok (.invokespecial 27, 3) := by decide +kernel
theorem dX8_init_38 : decode cX8_init 38 = .ok (.putfield 28, 3) := by decide +kernel
theorem dX8_init_41 : decode cX8_init 41 = .ok (.aload_n 0, 1) := by decide +kernel
theorem dX8_init_42 : decode cX8_init 42 = .ok (.new 25, 3) := by decide +kernel
theorem dX8_init_45 : decode cX8_init 45 = .ok (.dup, 1) := by decide +kernel
theorem dX8_init_46 : decode cX8_init 46 = .ok (.invokespecial 27, 3) := by decide +kernel
theorem dX8_init_49 : decode cX8_init 49 = .ok (.putfield 32, 3) := by decide +kernel
theorem dX8_init_52 : decode cX8_init 52 = .ok (.aload_n 0, 1) := by decide +kernel
theorem dX8_init_53 : decode cX8_init 53 = .ok (.iconst 4, 1) := by decide +kernel
theorem dX8_init_54 : decode cX8_init 54 = .ok (.anewarray 35, 3) := by decide +kernel
theorem dX8_init_57 : decode cX8_init 57 = .ok (.putfield 37, 3) := by decide +kernel
theorem dX8_init_60 : decode cX8_init 60 = .ok (.iconst 0, 1) := by decide +kernel
theorem dX8_init_61 : decode cX8_init 61 = .ok (.istore_n 1, 1) := by decide +kernel
theorem dX8_init_62 : decode cX8_init 62 = .ok (.iload_n 1, 1) := by decide +kernel
theorem dX8_init_63 : decode cX8_init 63 = .ok (.iconst 4, 1) := by decide +kernel
theorem dX8_init_64 : decode cX8_init 64 = .ok (.if_icmp .ge 22, 3) := by decide +kernel
theorem dX8_init_67 : decode cX8_init 67 = .ok (.aload_n 0, 1) := by decide +kernel
theorem dX8_init_68 : decode cX8_init 68 = .ok (.getfield 37, 3) := by decide +kernel
theorem dX8_init_71 : decode cX8_init 71 = .ok (.iload_n 1, 1) := by decide +kernel
theorem dX8_init_72 : decode cX8_init 72 = .ok (.new 35, 3) := by decide +kernel
theorem dX8_init_75 : decode cX8_init 75 = .ok (.dup, 1) := by decide +kernel
theorem dX8_init_76 : decode cX8_init 76 = .ok (.invokespecial 41, 3) := by decide +kernel
theorem dX8_init_79 : decode cX8_init 79 = .ok (.aastore, 1) := by decide +kernel
theorem dX8_init_80 : decode cX8_init 80 = .ok (.iinc 1 1, 3) := by decide +kernel
theorem dX8_init_83 : decode cX8_init 83 = .ok (.goto (-21), 3) := by decide +kernel
theorem dX8_init_86 : decode cX8_init 86 = .ok (.aload_n 0, 1) := by decide +kernel
theorem dX8_init_87 : decode cX8_init 87 = .ok (.new 35, 3) := by decide +kernel
theorem dX8_init_90 : decode cX8_init 90 = .ok (.dup, 1) := by decide +kernel
theorem dX8_init_91 : decode cX8_init 91 = .ok (.invokespecial 41, 3) := by decide +kernel
theorem dX8_init_94 : decode cX8_init 94 = .ok (.putfield 42, 3) := by decide +kernel
theorem dX8_init_97 : decode cX8_init 97 = .ok (.aload_n 0, 1) := by decide +kernel
theorem dX8_init_98 : decode cX8_init 98 = .ok (.new 46, 3) := by decide +kernel
theorem dX8_init_101 : decode cX8_init 101 = .ok (.dup, 1) := by decide +kernel
theorem dX8_init_102 : decode cX8_init 102 = .ok (.aload_n 0, 1) := by decide +kernel
theorem dX8_init_103 : decode cX8_init 103 = .ok (.getfield 28, 3) := by decide +kernel
theorem dX8_init_106 : decode cX8_init 106 = .ok (.invokespecial 48, 3) := by decide +kernel
theorem dX8_init_109 : decode cX8_init 109 = .ok (.putfield 51, 3) := by decide +kernel
theorem dX8_init_112 : decode cX8_init 112 = .ok (.aload_n 0, 1) := by decide +kernel
theorem dX8_init_113 : decode cX8_init 113 = .ok (.new 55, 3) := by decide +kernel
theorem dX8_init_116 : decode cX8_init 116 = .ok (.dup, 1) := by decide +kernel
theorem dX8_init_117 : decode cX8_init 117 = .ok (.aload_n 0, 1) := by decide +kernel
theorem dX8_init_118 : decode cX8_init 118 = .ok (.getfield 28, 3) := by decide +kernel
theorem dX8_init_121 : decode cX8_init 121 = .ok (.aload_n 0, 1) := by decide +kernel
theorem dX8_init_122 : decode cX8_init 122 = .ok (.getfield 51, 3) := by decide +kernel
theorem dX8_init_125 : decode cX8_init 125 = .ok (.invokespecial 57, 3) := by decide +kernel
theorem dX8_init_128 : decode cX8_init 128 = .ok (.putfield 60, 3) := by decide +kernel
theorem dX8_init_131 : decode cX8_init 131 = .ok (.aload_n 0, 1) := by decide +kernel
theorem dX8_init_132 : decode cX8_init 132 = .ok (.new 55, 3) := by decide +kernel
theorem dX8_init_135 : decode cX8_init 135 = .ok (.dup, 1) := by decide +kernel
theorem dX8_init_136 : decode cX8_init 136 = .ok (.aload_n 0, 1) := by decide +kernel
theorem dX8_init_137 : decode cX8_init 137 = .ok (.getfield 28, 3) := by decide +kernel
theorem dX8_init_140 : decode cX8_init 140 = .ok (.aload_n 0, 1) := by decide +kernel
theorem dX8_init_141 : decode cX8_init 141 = .ok (.getfield 51, 3) := by decide +kernel
theorem dX8_init_144 : decode cX8_init 144 = .ok (.invokespecial 57, 3) := by decide +kernel
theorem dX8_init_147 : decode cX8_init 147 = .ok (.putfield 64, 3) := by decide +kernel
theorem dX8_init_150 : decode cX8_init 150 = .ok (.aload_n 0, 1) := by decide +kernel
theorem dX8_init_151 : decode cX8_init 151 = .ok (.sipush 172, 3) := by decide +kernel
theorem dX8_init_154 : decode cX8_init 154 = .ok (.newarray .int, 2) := by decide +kernel
theorem dX8_init_156 : decode cX8_init 156 = .ok (.putfield 67, 3) := by decide +kernel
theorem dX8_init_159 : decode cX8_init 159 = .ok (.aload_n 0, 1) := by decide +kernel
theorem dX8_init_160 : decode cX8_init 160 = .ok (.bipush 8, 2) := by decide +kernel
theorem dX8_init_162 : decode cX8_init 162 = .ok (.newarray .int, 2) := by decide +kernel
theorem dX8_init_164 : decode cX8_init 164 = .ok (.putfield 71, 3) := by decide +kernel
theorem dX8_init_167 : decode cX8_init 167 = .ok (.aload_n 0, 1) := by decide +kernel
theorem dX8_init_168 : decode cX8_init 168 = .ok (.new 74, 3) := by decide +kernel
theorem dX8_init_171 : decode cX8_init 171 = .ok (.dup, 1) := by decide +kernel
theorem dX8_init_172 : decode cX8_init 172 = .ok (.invokespecial 76, 3) := by decide +kernel
theorem dX8_init_175 : decode cX8_init 175 = .ok (.putfield 77, 3) := by decide +kernel
theorem dX8_init_178 : decode cX8_init 178 = .ok (.aload_n 0, 1) := by decide +kernel
theorem dX8_init_179 : decode cX8_init 179 = .ok (.new 81, 3) := by decide +kernel
theorem dX8_init_182 : decode cX8_init 182 = .ok (.dup, 1) := by decide +kernel
theorem dX8_init_183 : decode cX8_init 183 = .ok (.invokespecial 83, 3) := by decide +kernel
theorem dX8_init_186 : decode cX8_init 186 = .ok (.putfield 84, 3) := by decide +kernel
theorem dX8_init_189 : decode cX8_init 189 = .ok (.aload_n 0, 1) := by decide +kernel
theorem dX8_init_190 : decode cX8_init 190 = .ok (.sipush 172, 3) := by decide +kernel
theorem dX8_init_193 : decode cX8_init 193 = .ok (.newarray .int, 2) := by decide +kernel
theorem dX8_init_195 : decode cX8_init 195 = .ok (.putfield 88, 3) := by decide +kernel
theorem dX8_init_198 : decode cX8_init 198 = .ok (.aload_n 0, 1) := by decide +kernel
theorem dX8_init_199 : decode cX8_init 199 = .ok (.new 81, 3) := by decide +kernel
theorem dX8_init_202 : decode cX8_init 202 = .ok (.dup, 1) := by decide +kernel
theorem dX8_init_203 : decode cX8_init 203 = .ok (.invokespecial 83, 3) := by decide +kernel
theorem dX8_init_206 : decode cX8_init 206 = .ok (.putfield 91, 3) := by decide +kernel
theorem dX8_init_209 : decode cX8_init 209 = .ok (.aload_n 0, 1) := by decide +kernel
theorem dX8_init_210 : decode cX8_init 210 = .ok (.iconst 4, 1) := by decide +kernel
theorem dX8_init_211 : decode cX8_init 211 = .ok (.newarray .int, 2) := by decide +kernel
theorem dX8_init_213 : decode cX8_init 213 = .ok (.putfield 94, 3) := by decide +kernel
theorem dX8_init_216 : decode cX8_init 216 = .ok (.return_, 1) := by decide +kernel
theorem dX8_feed_0 : decode cX8_feed 0 = .ok (.iload_n 1, 1) := by decide +kernel
theorem dX8_feed_1 : decode cX8_feed 1 = .ok (.invokestatic 97, 3) := by decide +kernel
theorem dX8_feed_4 : decode cX8_feed 4 = .ok (.iload_n 2, 1) := by decide +kernel
theorem dX8_feed_5 : decode cX8_feed 5 = .ok (.invokestatic 97, 3) := by decide +kernel
theorem dX8_feed_8 : decode cX8_feed 8 = .ok (.iadd, 1) := by decide +kernel
theorem dX8_feed_9 : decode cX8_feed 9 = .ok (.iload_n 3, 1) := by decide +kernel
theorem dX8_feed_10 : decode cX8_feed 10 = .ok (.invokestatic 97, 3) := by decide +kernel
theorem dX8_feed_13 : decode cX8_feed 13 = .ok (.iadd, 1) := by decide +kernel
theorem dX8_feed_14 : decode cX8_feed 14 = .ok (.iload 4, 2) := by decide +kernel
theorem dX8_feed_16 : decode cX8_feed 16 = .ok (.invokestatic 97, 3) := by decide +kernel
theorem dX8_feed_19 : decode cX8_feed 19 = .ok (.iadd, 1) := by decide +kernel
theorem dX8_feed_20 : decode cX8_feed 20 = .ok (.iload 5, 2) := by decide +kernel
theorem dX8_feed_22 : decode cX8_feed 22 = .ok (.invokestatic 97, 3) := by decide +kernel
theorem dX8_feed_25 : decode cX8_feed 25 = .ok (.iadd, 1) := by decide +kernel
theorem dX8_feed_26 : decode cX8_feed 26 = .ok (.istore 6, 2) := by decide +kernel
theorem dX8_feed_28 : decode cX8_feed 28 = .ok (.aload_n 0, 1) := by decide +kernel
theorem dX8_feed_29 : decode cX8_feed 29 = .ok (.getfield 10, 3) := by decide +kernel
theorem dX8_feed_32 : decode cX8_feed 32 = .ok (.getfield 101, 3) := by decide +kernel
theorem dX8_feed_35 : decode cX8_feed 35 = .ok (.iload 6, 2) := by decide +kernel
theorem dX8_feed_37 : decode cX8_feed 37 = .ok (.iadd, 1) := by decide +kernel
theorem dX8_feed_38 : decode cX8_feed 38 = .ok (.sipush 240, 3) := by decide +kernel
theorem dX8_feed_41 : decode cX8_feed 41 = .ok (.if_icmp .le 5, 3) := by decide +kernel
theorem dX8_feed_44 : decode cX8_feed 44 = .ok (.iconst (-1), 1) := by decide +kernel
theorem dX8_feed_45 : decode cX8_feed 45 = .ok (.ireturn, 1) := by decide +kernel
theorem dX8_feed_46 : decode cX8_feed 46 = .ok (.aload_n 0, 1) := by decide +kernel
theorem dX8_feed_47 : decode cX8_feed 47 = .ok (.getfield 10, 3) := by decide +kernel
theorem dX8_feed_50 : decode cX8_feed 50 = .ok (.iload_n 1, 1) := by decide +kernel
theorem dX8_feed_51 : decode cX8_feed 51 = .ok (.invokevirtual 105, 3) := by decide +kernel
theorem dX8_feed_54 : decode cX8_feed 54 = .ok (.aload_n 0, 1) := by decide +kernel
theorem dX8_feed_55 : decode cX8_feed 55 = .ok (.getfield 10, 3) := by decide +kernel
theorem dX8_feed_58 : decode cX8_feed 58 = .ok (.iload_n 2, 1) := by decide +kernel
theorem dX8_feed_59 : decode cX8_feed 59 = .ok (.invokevirtual 105, 3) := by decide +kernel
theorem dX8_feed_62 : decode cX8_feed 62 = .ok (.aload_n 0, 1) := by decide +kernel
theorem dX8_feed_63 : decode cX8_feed 63 = .ok (.getfield 10, 3) := by decide +kernel
theorem dX8_feed_66 : decode cX8_feed 66 = .ok (.iload_n 3, 1) := by decide +kernel
theorem dX8_feed_67 : decode cX8_feed 67 = .ok (.invokevirtual 105, 3) := by decide +kernel
theorem dX8_feed_70 : decode cX8_feed 70 = .ok (.aload_n 0, 1) := by decide +kernel
theorem dX8_feed_71 : decode cX8_feed 71 = .ok (.getfield 10, 3) := by decide +kernel
theorem dX8_feed_74 : decode cX8_feed 74 = .ok (.iload 4, 2) := by decide +kernel
theorem dX8_feed_76 : decode cX8_feed 76 = .ok (.invokevirtual 105, 3) := by decide +kernel
theorem dX8_feed_79 : decode cX8_feed 79 = .ok (.aload_n 0, 1) := by decide +kernel
theorem dX8_feed_80 : decode cX8_feed 80 = .ok (.getfield 10, 3) := by decide +kernel
theorem dX8_feed_83 : decode cX8_feed 83 = .ok (.iload 5, 2) := by decide +kernel
theorem dX8_feed_85 : decode cX8_feed 85 = .ok (.invokevirtual 105, 3) := by decide +kernel
theorem dX8_feed_88 : decode cX8_feed 88 = .ok (.aload_n 0, 1) := by decide +kernel
theorem dX8_feed_89 : decode cX8_feed 89 = .ok (.getfield 10, 3) := by decide +kernel
theorem dX8_feed_92 : decode cX8_feed 92 = .ok (.getfield 101, 3) := by decide +kernel
theorem dX8_feed_95 : decode cX8_feed 95 = .ok (.ireturn, 1) := by decide +kernel
theorem dX8_end_0 : decode cX8_end 0 = .ok (.iload_n 1, 1) := by decide +kernel
theorem dX8_end_1 : decode cX8_end 1 = .ok (.ifCond .lt 14, 3) := by decide +kernel
theorem dX8_end_4 : decode cX8_end 4 = .ok (.iload_n 1, 1) := by decide +kernel
theorem dX8_end_5 : decode cX8_end 5 = .ok (.aload_n 0, 1) := by decide +kernel
theorem dX8_end_6 : decode cX8_end 6 = .ok (.getfield 10, 3) := by decide +kernel
theorem dX8_end_9 : decode cX8_end 9 = .ok (.getfield 101, 3) := by decide +kernel
theorem dX8_end_12 : decode cX8_end 12 = .ok (.if_icmp .le 5, 3) := by decide +kernel
theorem dX8_end_15 : decode cX8_end 15 = .ok (.iconst 0, 1) := by decide +kernel
theorem dX8_end_16 : decode cX8_end 16 = .ok (.ireturn, 1) := by decide +kernel
theorem dX8_end_17 : decode cX8_end 17 = .ok (.aload_n 0, 1) := by decide +kernel
theorem dX8_end_18 : decode cX8_end 18 = .ok (.getfield 10, 3) := by decide +kernel
theorem dX8_end_21 : decode cX8_end 21 = .ok (.iload_n 1, 1) := by decide +kernel
theorem dX8_end_22 : decode cX8_end 22 = .ok (.putfield 101, 3) := by decide +kernel
theorem dX8_end_25 : decode cX8_end 25 = .ok (.iconst 1, 1) := by decide +kernel
theorem dX8_end_26 : decode cX8_end 26 = .ok (.ireturn, 1) := by decide +kernel
theorem dX8_fault_0 : decode cX8_fault 0 = .ok (.iload_n 1, 1) := by decide +kernel
theorem dX8_fault_1 : decode cX8_fault 1 = .ok (.ifCond .ne 15, 3) := by decide +kernel
theorem dX8_fault_4 : decode cX8_fault 4 = .ok (.aload_n 0, 1) := by decide +kernel
theorem dX8_fault_5 : decode cX8_fault 5 = .ok (.getfield 21, 3) := by decide +kernel
theorem dX8_fault_8 : decode cX8_fault 8 = .ok (.aload_n 0, 1) := by decide +kernel
theorem dX8_fault_9 : decode cX8_fault 9 = .ok (.getfield 32, 3) := by decide +kernel
theorem dX8_fault_12 : decode cX8_fault 12 = .ok (.invokevirtual 109, 3) := by decide +kernel
theorem dX8_fault_15 : decode cX8_fault 15 = .ok (.ireturn, 1) := by decide +kernel
theorem dX8_fault_16 : decode cX8_fault 16 = .ok (.iload_n 1, 1) := by decide +kernel
theorem dX8_fault_17 : decode cX8_fault 17 = .ok (.iconst 1, 1) := by decide +kernel
theorem dX8_fault_18 : decode cX8_fault 18 = .ok (.if_icmp .ne 15, 3) := by decide +kernel
theorem dX8_fault_21 : decode cX8_fault 21 = .ok (.aload_n 0, 1) := by decide +kernel
theorem dX8_fault_22 : decode cX8_fault 22 = .ok (.getfield 21, 3) := by decide +kernel
theorem dX8_fault_25 : decode cX8_fault 25 = .ok (.aload_n 0, 1) := by decide +kernel
theorem dX8_fault_26 : decode cX8_fault 26 = .ok (.getfield 42, 3) := by decide +kernel
theorem dX8_fault_29 : decode cX8_fault 29 = .ok (.invokevirtual 113, 3) := by decide +kernel
theorem dX8_fault_32 : decode cX8_fault 32 = .ok (.ireturn, 1) := by decide +kernel
theorem dX8_fault_33 : decode cX8_fault 33 = .ok (.bipush (-2), 2) := by decide +kernel
theorem dX8_fault_35 : decode cX8_fault 35 = .ok (.ireturn, 1) := by decide +kernel
theorem dX8_text_0 : decode cX8_text 0 = .ok (.iload_n 1, 1) := by decide +kernel
theorem dX8_text_1 : decode cX8_text 1 = .ok (.ifCond .ne 23, 3) := by decide +kernel
theorem dX8_text_4 : decode cX8_text 4 = .ok (.aload_n 0, 1) := by decide +kernel
theorem dX8_text_5 : decode cX8_text 5 = .ok (.getfield 21, 3) := by decide +kernel
theorem dX8_text_8 : decode cX8_text 8 = .ok (.aload_n 0, 1) := by decide +kernel
theorem dX8_text_9 : decode cX8_text 9 = .ok (.getfield 32, 3) := by decide +kernel
theorem dX8_text_12 : decode cX8_text 12 = .ok (.invokevirtual 109, 3) := by decide +kernel
theorem dX8_text_15 : decode cX8_text 15 = .ok (.iconst (-1), 1) := by decide +kernel
theorem dX8_text_16 : decode cX8_text 16 = .ok (.if_icmp .ne 8, 3) := by decide +kernel
theorem dX8_text_19 : decode cX8_text 19 = .ok (.aload_n 0, 1) := by decide +kernel
theorem dX8_text_20 : decode cX8_text 20 = .ok (.invokevirtual 117, 3) := by decide +kernel
theorem dX8_text_23 : decode cX8_text 23 = .ok (.ireturn, 1) := by decide +kernel
theorem dX8_text_24 : decode cX8_text 24 = .ok (.iload_n 1, 1) := by decide +kernel
theorem dX8_text_25 : decode cX8_text 25 = .ok (.iconst 1, 1) := by decide +kernel
theorem dX8_text_26 : decode cX8_text 26 = .ok (.if_icmp .ne 31, 3) := by decide +kernel
theorem dX8_text_29 : decode cX8_text 29 = .ok (.aload_n 0, 1) := by decide +kernel
theorem dX8_text_30 : decode cX8_text 30 = .ok (.getfield 121, 3) := by decide +kernel
theorem dX8_text_33 : decode cX8_text 33 = .ok (.iconst 4, 1) := by decide +kernel
theorem dX8_text_34 : decode cX8_text 34 = .ok (.if_icmp .ge 23, 3) := by decide +kernel
theorem dX8_text_37 : decode cX8_text 37 = .ok (.aload_n 0, 1) := by decide +kernel
theorem dX8_text_38 : decode cX8_text 38 = .ok (.getfield 21, 3) := by decide +kernel
theorem dX8_text_41 : decode cX8_text 41 = .ok (.aload_n 0, 1) := by decide +kernel
theorem dX8_text_42 : decode cX8_text 42 = .ok (.getfield 42, 3) := by decide +kernel
theorem dX8_text_45 : decode cX8_text 45 = .ok (.invokevirtual 113, 3) := by decide +kernel
theorem dX8_text_48 : decode cX8_text 48 = .ok (.iconst (-1), 1) := by decide +kernel
theorem dX8_text_49 : decode cX8_text 49 = .ok (.if_icmp .ne 8, 3) := by decide +kernel
theorem dX8_text_52 : decode cX8_text 52 = .ok (.aload_n 0, 1) := by decide +kernel
theorem dX8_text_53 : decode cX8_text 53 = .ok (.invokevirtual 124, 3) := by decide +kernel
theorem dX8_text_56 : decode cX8_text 56 = .ok (.ireturn, 1) := by decide +kernel
theorem dX8_text_57 : decode cX8_text 57 = .ok (.iconst (-1), 1) := by decide +kernel
theorem dX8_text_58 : decode cX8_text 58 = .ok (.ireturn, 1) := by decide +kernel
theorem dX8_openHall_0 : decode cX8_openHall 0 = .ok (.aload_n 0, 1) := by decide +kernel
theorem dX8_openHall_1 : decode cX8_openHall 1 = .ok (.getfield 28, 3) := by decide +kernel
theorem dX8_openHall_4 : decode cX8_openHall 4 = .ok (.aload_n 0, 1) := by decide +kernel
theorem dX8_openHall_5 : decode cX8_openHall 5 = .ok (.getfield 32, 3) := by decide +kernel
theorem dX8_openHall_8 : decode cX8_openHall 8 = .ok (.invokevirtual 127, 3) := by decide +kernel
theorem dX8_openHall_11 : decode cX8_openHall 11 = .ok (.aload_n 0, 1) := by decide +kernel
theorem dX8_openHall_12 : decode cX8_openHall 12 = .ok (.getfield 60, 3) := by decide +kernel
theorem dX8_openHall_15 : decode cX8_openHall 15 = .ok (.invokevirtual 130, 3) := by decide +kernel
theorem dX8_openHall_18 : decode cX8_openHall 18 = .ok (.aload_n 0, 1) := by decide +kernel
theorem dX8_openHall_19 : decode cX8_openHall 19 = .ok (.getfield 77, 3) := by decide +kernel
theorem dX8_openHall_22 : decode cX8_openHall 22 = .ok (.invokevirtual 133, 3) := by decide +kernel
theorem dX8_openHall_25 : decode cX8_openHall 25 = .ok (.aload_n 0, 1) := by decide +kernel
theorem dX8_openHall_26 : decode cX8_openHall 26 = .ok (.getfield 84, 3) := by decide +kernel
theorem dX8_openHall_29 : decode cX8_openHall 29 = .ok (.invokevirtual 136, 3) := by decide +kernel
theorem dX8_openHall_32 : decode cX8_openHall 32 = .ok (.aload_n 0, 1) := by decide +kernel
theorem dX8_openHall_33 : decode cX8_openHall 33 = .ok (.iconst 0, 1) := by decide +kernel
theorem dX8_openHall_34 : decode cX8_openHall 34 = .ok (.putfield 137, 3) := by decide +kernel
theorem dX8_openHall_37 : decode cX8_openHall 37 = .ok (.aload_n 0, 1) := by decide +kernel
theorem dX8_openHall_38 : decode cX8_openHall 38 = .ok (.getfield 10, 3) := by decide +kernel
theorem dX8_openHall_41 : decode cX8_openHall 41 = .ok (.iconst 0, 1) := by decide +kernel
theorem dX8_openHall_42 : decode cX8_openHall 42 = .ok (.putfield 101, 3) := by decide +kernel
theorem dX8_openHall_45 : decode cX8_openHall 45 = .ok (.aload_n 0, 1) := by decide +kernel
theorem dX8_openHall_46 : decode cX8_openHall 46 = .ok (.getfield 28, 3) := by decide +kernel
theorem dX8_openHall_49 : decode cX8_openHall 49 = .ok (.getfield 141, 3) := by decide +kernel
theorem dX8_openHall_52 : decode cX8_openHall 52 = .ok (.ireturn, 1) := by decide +kernel
theorem dX8_keepScript_0 : decode cX8_keepScript 0 = .ok (.aload_n 0, 1) := by decide +kernel
theorem dX8_keepScript_1 : decode cX8_keepScript 1 = .ok (.getfield 37, 3) := by decide +kernel
theorem dX8_keepScript_4 : decode cX8_keepScript 4 = .ok (.aload_n 0, 1) := by decide +kernel
theorem dX8_keepScript_5 : decode cX8_keepScript 5 = .ok (.getfield 121, 3) := by decide +kernel
theorem dX8_keepScript_8 : decode cX8_keepScript 8 = .ok (.aaload, 1) := by decide +kernel
theorem dX8_keepScript_9 : decode cX8_keepScript 9 = .ok (.aload_n 0, 1) := by decide +kernel
theorem dX8_keepScript_10 : decode cX8_keepScript 10 = .ok (.getfield 42, 3) := by decide +kernel
theorem dX8_keepScript_13 : decode cX8_keepScript 13 = .ok (.invokevirtual 144, 3) := by decide +kernel
theorem dX8_keepScript_16 : decode cX8_keepScript 16 = .ok (.aload_n 0, 1) := by decide +kernel
theorem dX8_keepScript_17 : decode cX8_keepScript 17 = .ok (.dup, 1) := by decide +kernel
theorem dX8_keepScript_18 : decode cX8_keepScript 18 = .ok (.getfield 121, 3) := by decide +kernel
theorem dX8_keepScript_21 : decode cX8_keepScript 21 = .ok (.iconst 1, 1) := by decide +kernel
theorem dX8_keepScript_22 : decode cX8_keepScript 22 = .ok (.iadd, 1) := by decide +kernel
theorem dX8_keepScript_23 : decode cX8_keepScript 23 = .ok (.putfield 121, 3) := by decide +kernel
theorem dX8_keepScript_26 : decode cX8_keepScript 26 = .ok (.aload_n 0, 1) := by decide +kernel
theorem dX8_keepScript_27 : decode cX8_keepScript 27 = .ok (.getfield 10, 3) := by decide +kernel
theorem dX8_keepScript_30 : decode cX8_keepScript 30 = .ok (.iconst 0, 1) := by decide +kernel
theorem dX8_keepScript_31 : decode cX8_keepScript 31 = .ok (.putfield 101, 3) := by decide +kernel
theorem dX8_keepScript_34 : decode cX8_keepScript 34 = .ok (.aload_n 0, 1) := by decide +kernel
theorem dX8_keepScript_35 : decode cX8_keepScript 35 = .ok (.getfield 121, 3) := by decide +kernel
theorem dX8_keepScript_38 : decode cX8_keepScript 38 = .ok (.iconst 1, 1) := by decide +kernel
theorem dX8_keepScript_39 : decode cX8_keepScript 39 = .ok (.isub, 1) := by decide +kernel
theorem dX8_keepScript_40 : decode cX8_keepScript 40 = .ok (.ireturn, 1) := by decide +kernel
theorem dX8_rule_0 : decode cX8_rule 0 = .ok (.aload_n 0, 1) := by decide +kernel
theorem dX8_rule_1 : decode cX8_rule 1 = .ok (.getfield 28, 3) := by decide +kernel
theorem dX8_rule_4 : decode cX8_rule 4 = .ok (.invokevirtual 147, 3) := by decide +kernel
theorem dX8_rule_7 : decode cX8_rule 7 = .ok (.ifCond .eq 13, 3) := by decide +kernel
theorem dX8_rule_10 : decode cX8_rule 10 = .ok (.iload_n 1, 1) := by decide +kernel
theorem dX8_rule_11 : decode cX8_rule 11 = .ok (.ifCond .lt 9, 3) := by decide +kernel
theorem dX8_rule_14 : decode cX8_rule 14 = .ok (.iload_n 1, 1) := by decide +kernel
theorem dX8_rule_15 : decode cX8_rule 15 = .ok (.bipush 8, 2) := by decide +kernel
theorem dX8_rule_17 : decode cX8_rule 17 = .ok (.if_icmp .le 5, 3) := by decide +kernel
theorem dX8_rule_20 : decode cX8_rule 20 = .ok (.iconst (-1), 1) := by decide +kernel
theorem dX8_rule_21 : decode cX8_rule 21 = .ok (.ireturn, 1) := by decide +kernel
theorem dX8_rule_22 : decode cX8_rule 22 = .ok (.iload_n 1, 1) := by decide +kernel
theorem dX8_rule_23 : decode cX8_rule 23 = .ok (.bipush 8, 2) := by decide +kernel
theorem dX8_rule_25 : decode cX8_rule 25 = .ok (.if_icmp .ne 13, 3) := by decide +kernel
theorem dX8_rule_28 : decode cX8_rule 28 = .ok (.aload_n 0, 1) := by decide +kernel
theorem dX8_rule_29 : decode cX8_rule 29 = .ok (.getfield 28, 3) := by decide +kernel
theorem dX8_rule_32 : decode cX8_rule 32 = .ok (.getfield 151, 3) := by decide +kernel
theorem dX8_rule_35 : decode cX8_rule 35 = .ok (.goto 12, 3) := by decide +kernel
theorem dX8_rule_38 : decode cX8_rule 38 = .ok (.aload_n 0, 1) := by decide +kernel
theorem dX8_rule_39 : decode cX8_rule 39 = .ok (.getfield 28, 3) := by decide +kernel
theorem dX8_rule_42 : decode cX8_rule 42 = .ok (.getfield 154, 3) := by decide +kernel
theorem dX8_rule_45 : decode cX8_rule 45 = .ok (.iload_n 1, 1) := by decide +kernel
theorem dX8_rule_46 : decode cX8_rule 46 = .ok (.iaload, 1) := by decide +kernel
theorem dX8_rule_47 : decode cX8_rule 47 = .ok (.ireturn, 1) := by decide +kernel
theorem dX8_tape_0 : decode cX8_tape 0 = .ok (.aload_n 0, 1) := by decide +kernel
theorem dX8_tape_1 : decode cX8_tape 1 = .ok (.getfield 28, 3) := by decide +kernel
theorem dX8_tape_4 : decode cX8_tape 4 = .ok (.iload_n 1, 1) := by decide +kernel
theorem dX8_tape_5 : decode cX8_tape 5 = .ok (.invokevirtual 157, 3) := by decide +kernel
theorem dX8_tape_8 : decode cX8_tape 8 = .ok (.ifCond .eq 13, 3) := by decide +kernel
theorem dX8_tape_11 : decode cX8_tape 11 = .ok (.iload_n 2, 1) := by decide +kernel
theorem dX8_tape_12 : decode cX8_tape 12 = .ok (.ifCond .lt 9, 3) := by decide +kernel
theorem dX8_tape_15 : decode cX8_tape 15 = .ok (.iload_n 2, 1) := by decide +kernel
theorem dX8_tape_16 : decode cX8_tape 16 = .ok (.bipush 10, 2) := by decide +kernel
theorem dX8_tape_18 : decode cX8_tape 18 = .ok (.if_icmp .le 13, 3) := by decide +kernel
theorem dX8_tape_21 : decode cX8_tape 21 = .ok (.new 161, 3) := by decide +kernel
theorem dX8_tape_24 : decode cX8_tape 24 = .ok (.dup, 1) := by decide +kernel
theorem dX8_tape_25 : decode cX8_tape 25 = .ok (.ldc 163, 2) := by decide +kernel
theorem dX8_tape_27 : decode cX8_tape 27 = .ok (.invokespecial 165, 3) := by decide +kernel
theorem dX8_tape_30 : decode cX8_tape 30 = .ok (.athrow, 1) := by decide +kernel
theorem dX8_tape_31 : decode cX8_tape 31 = .ok (.aload_n 0, 1) := by decide +kernel
theorem dX8_tape_32 : decode cX8_tape 32 = .ok (.getfield 60, 3) := by decide +kernel
theorem dX8_tape_35 : decode cX8_tape 35 = .ok (.getfield 168, 3) := by decide +kernel
theorem dX8_tape_38 : decode cX8_tape 38 = .ok (.iload_n 1, 1) := by decide +kernel
theorem dX8_tape_39 : decode cX8_tape 39 = .ok (.iaload, 1) := by decide +kernel
theorem dX8_tape_40 : decode cX8_tape 40 = .ok (.iconst (-1), 1) := by decide +kernel
theorem dX8_tape_41 : decode cX8_tape 41 = .ok (.if_icmp .eq 7, 3) := by decide +kernel
theorem dX8_tape_44 : decode cX8_tape 44 = .ok (.iconst 1, 1) := by decide +kernel
theorem dX8_tape_45 : decode cX8_tape 45 = .ok (.goto 4, 3) := by decide +kernel
theorem dX8_tape_48 : decode cX8_tape 48 = .ok (.iconst 0, 1) := by decide +kernel
theorem dX8_tape_49 : decode cX8_tape 49 = .ok (.istore_n 3, 1) := by decide +kernel
theorem dX8_tape_50 : decode cX8_tape 50 = .ok (.iload_n 2, 1) := by decide +kernel
theorem dX8_tape_51 : decode cX8_tape 51 = .ok (.tableswitch 166 0 9 #[53, 63, 72, 90, 100, 110, 120, 129, 138, 157], 53) := by decide +kernel
theorem dX8_tape_104 : decode cX8_tape 104 = .ok (.aload_n 0, 1) := by decide +kernel
theorem dX8_tape_105 : decode cX8_tape 105 = .ok (.getfield 28, 3) := by decide +kernel
theorem dX8_tape_108 : decode cX8_tape 108 = .ok (.getfield 171, 3) := by decide +kernel
theorem dX8_tape_111 : decode cX8_tape 111 = .ok (.iload_n 1, 1) := by decide +kernel
theorem dX8_tape_112 : decode cX8_tape 112 = .ok (.iaload, 1) := by decide +kernel
theorem dX8_tape_113 : decode cX8_tape 113 = .ok (.ireturn, 1) := by decide +kernel
theorem dX8_tape_114 : decode cX8_tape 114 = .ok (.aload_n 0, 1) := by decide +kernel
theorem dX8_tape_115 : decode cX8_tape 115 = .ok (.getfield 60, 3) := by decide +kernel
theorem dX8_tape_118 : decode cX8_tape 118 = .ok (.iload_n 1, 1) := by decide +kernel
theorem dX8_tape_119 : decode cX8_tape 119 = .ok (.invokevirtual 174, 3) := by decide +kernel
theorem dX8_tape_122 : decode cX8_tape 122 = .ok (.ireturn, 1) := by decide +kernel
theorem dX8_tape_123 : decode cX8_tape 123 = .ok (.iload_n 3, 1) := by decide +kernel
theorem dX8_tape_124 : decode cX8_tape 124 = .ok (.ifCond .eq 15, 3) := by decide +kernel
theorem dX8_tape_127 : decode cX8_tape 127 = .ok (.aload_n 0, 1) := by decide +kernel
theorem dX8_tape_128 : decode cX8_tape 128 = .ok (.getfield 60, 3) := by decide +kernel
theorem dX8_tape_131 : decode cX8_tape 131 = .ok (.getfield 177, 3) := by decide +kernel
theorem dX8_tape_134 : decode cX8_tape 134 = .ok (.iload_n 1, 1) := by decide +kernel
theorem dX8_tape_135 : decode cX8_tape 135 = .ok (.iaload, 1) := by decide +kernel
theorem dX8_tape_136 : decode cX8_tape 136 = .ok (.goto 4, 3) := by decide +kernel
theorem dX8_tape_139 : decode cX8_tape 139 = .ok (.iconst (-1), 1) := by decide +kernel
theorem dX8_tape_140 : decode cX8_tape 140 = .ok (.ireturn, 1) := by decide +kernel
theorem dX8_tape_141 : decode cX8_tape 141 = .ok (.aload_n 0, 1) := by decide +kernel
theorem dX8_tape_142 : decode cX8_tape 142 = .ok (.getfield 60, 3) := by decide +kernel
theorem dX8_tape_145 : decode cX8_tape 145 = .ok (.getfield 180, 3) := by decide +kernel
theorem dX8_tape_148 : decode cX8_tape 148 = .ok (.iload_n 1, 1) := by decide +kernel
theorem dX8_tape_149 : decode cX8_tape 149 = .ok (.iaload, 1) := by decide +kernel
theorem dX8_tape_150 : decode cX8_tape 150 = .ok (.ireturn, 1) := by decide +kernel
theorem dX8_tape_151 : decode cX8_tape 151 = .ok (.aload_n 0, 1) := by decide +kernel
theorem dX8_tape_152 : decode cX8_tape 152 = .ok (.getfield 60, 3) := by decide +kernel
theorem dX8_tape_155 : decode cX8_tape 155 = .ok (.getfield 183, 3) := by decide +kernel
theorem dX8_tape_158 : decode cX8_tape 158 = .ok (.iload_n 1, 1) := by decide +kernel
theorem dX8_tape_159 : decode cX8_tape 159 = .ok (.iaload, 1) := by decide +kernel
theorem dX8_tape_160 : decode cX8_tape 160 = .ok (.ireturn, 1) := by decide +kernel
theorem dX8_tape_161 : decode cX8_tape 161 = .ok (.aload_n 0, 1) := by decide +kernel
theorem dX8_tape_162 : decode cX8_tape 162 = .ok (.getfield 60, 3) := by decide +kernel
theorem dX8_tape_165 : decode cX8_tape 165 = .ok (.getfield 186, 3) := by decide +kernel
theorem dX8_tape_168 : decode cX8_tape 168 = .ok (.iload_n 1, 1) := by decide +kernel
theorem dX8_tape_169 : decode cX8_tape 169 = .ok (.iaload, 1) := by decide +kernel
theorem dX8_tape_170 : decode cX8_tape 170 = .ok (.ireturn, 1) := by decide +kernel
theorem dX8_tape_171 : decode cX8_tape 171 = .ok (.aload_n 0, 1) := by decide +kernel
theorem dX8_tape_172 : decode cX8_tape 172 = .ok (.getfield 60, 3) := by decide +kernel
theorem dX8_tape_175 : decode cX8_tape 175 = .ok (.iload_n 1, 1) := by decide +kernel
theorem dX8_tape_176 : decode cX8_tape 176 = .ok (.invokevirtual 189, 3) := by decide +kernel
theorem dX8_tape_179 : decode cX8_tape 179 = .ok (.ireturn, 1) := by decide +kernel
theorem dX8_tape_180 : decode cX8_tape 180 = .ok (.aload_n 0, 1) := by decide +kernel
theorem dX8_tape_181 : decode cX8_tape 181 = .ok (.getfield 60, 3) := by decide +kernel
theorem dX8_tape_184 : decode cX8_tape 184 = .ok (.iload_n 1, 1) := by decide +kernel
theorem dX8_tape_185 : decode cX8_tape 185 = .ok (.invokevirtual 192, 3) := by decide +kernel
theorem dX8_tape_188 : decode cX8_tape 188 = .ok (.ireturn, 1) := by decide +kernel
theorem dX8_tape_189 : decode cX8_tape 189 = .ok (.aload_n 0, 1) := by decide +kernel
theorem dX8_tape_190 : decode cX8_tape 190 = .ok (.getfield 60, 3) := by decide +kernel
theorem dX8_tape_193 : decode cX8_tape 193 = .ok (.getfield 180, 3) := by decide +kernel
theorem dX8_tape_196 : decode cX8_tape 196 = .ok (.iload_n 1, 1) := by decide +kernel
theorem dX8_tape_197 : decode cX8_tape 197 = .ok (.iaload, 1) := by decide +kernel
theorem dX8_tape_198 : decode cX8_tape 198 = .ok (.aload_n 0, 1) := by decide +kernel
theorem dX8_tape_199 : decode cX8_tape 199 = .ok (.getfield 60, 3) := by decide +kernel
theorem dX8_tape_202 : decode cX8_tape 202 = .ok (.iload_n 1, 1) := by decide +kernel
theorem dX8_tape_203 : decode cX8_tape 203 = .ok (.invokevirtual 192, 3) := by decide +kernel
theorem dX8_tape_206 : decode cX8_tape 206 = .ok (.isub, 1) := by decide +kernel
theorem dX8_tape_207 : decode cX8_tape 207 = .ok (.ireturn, 1) := by decide +kernel
theorem dX8_tape_208 : decode cX8_tape 208 = .ok (.aload_n 0, 1) := by decide +kernel
theorem dX8_tape_209 : decode cX8_tape 209 = .ok (.getfield 60, 3) := by decide +kernel
theorem dX8_tape_212 : decode cX8_tape 212 = .ok (.iload_n 1, 1) := by decide +kernel
theorem dX8_tape_213 : decode cX8_tape 213 = .ok (.invokevirtual 195, 3) := by decide +kernel
theorem dX8_tape_216 : decode cX8_tape 216 = .ok (.ireturn, 1) := by decide +kernel
theorem dX8_tape_217 : decode cX8_tape 217 = .ok (.iload_n 3, 1) := by decide +kernel
theorem dX8_tape_218 : decode cX8_tape 218 = .ok (.ifCond .eq 23, 3) := by decide +kernel
theorem dX8_tape_221 : decode cX8_tape 221 = .ok (.aload_n 0, 1) := by decide +kernel
theorem dX8_tape_222 : decode cX8_tape 222 = .ok (.getfield 60, 3) := by decide +kernel
theorem dX8_tape_225 : decode cX8_tape 225 = .ok (.getfield 198, 3) := by decide +kernel
theorem dX8_tape_228 : decode cX8_tape 228 = .ok (.aload_n 0, 1) := by decide +kernel
theorem dX8_tape_229 : decode cX8_tape 229 = .ok (.getfield 60, 3) := by decide +kernel
theorem dX8_tape_232 : decode cX8_tape 232 = .ok (.getfield 201, 3) := by decide +kernel
theorem dX8_tape_235 : decode cX8_tape 235 = .ok (.iload_n 1, 1) := by decide +kernel
theorem dX8_tape_236 : decode cX8_tape 236 = .ok (.iaload, 1) := by decide +kernel
theorem dX8_tape_237 : decode cX8_tape 237 = .ok (.isub, 1) := by decide +kernel
theorem dX8_tape_238 : decode cX8_tape 238 = .ok (.goto 4, 3) := by decide +kernel
theorem dX8_tape_241 : decode cX8_tape 241 = .ok (.iconst (-1), 1) := by decide +kernel
theorem dX8_tape_242 : decode cX8_tape 242 = .ok (.ireturn, 1) := by decide +kernel
theorem dX8_file_0 : decode cX8_file 0 = .ok (.aload_n 0, 1) := by decide +kernel
theorem dX8_file_1 : decode cX8_file 1 = .ok (.getfield 60, 3) := by decide +kernel
theorem dX8_file_4 : decode cX8_file 4 = .ok (.iload_n 1, 1) := by decide +kernel
theorem dX8_file_5 : decode cX8_file 5 = .ok (.invokevirtual 204, 3) := by decide +kernel
theorem dX8_file_8 : decode cX8_file 8 = .ok (.ifCond .ne 6, 3) := by decide +kernel
theorem dX8_file_11 : decode cX8_file 11 = .ok (.ldc 207, 2) := by decide +kernel
theorem dX8_file_13 : decode cX8_file 13 = .ok (.ireturn, 1) := by decide +kernel
theorem dX8_file_14 : decode cX8_file 14 = .ok (.aload_n 0, 1) := by decide +kernel
theorem dX8_file_15 : decode cX8_file 15 = .ok (.getfield 60, 3) := by decide +kernel
theorem dX8_file_18 : decode cX8_file 18 = .ok (.getfield 208, 3) := by decide +kernel
theorem dX8_file_21 : decode cX8_file 21 = .ok (.iload_n 1, 1) := by decide +kernel
theorem dX8_file_22 : decode cX8_file 22 = .ok (.iaload, 1) := by decide +kernel
theorem dX8_file_23 : decode cX8_file 23 = .ok (.iconst (-1), 1) := by decide +kernel
theorem dX8_file_24 : decode cX8_file 24 = .ok (.if_icmp .ne 7, 3) := by decide +kernel
theorem dX8_file_27 : decode cX8_file 27 = .ok (.iconst 1, 1) := by decide +kernel
theorem dX8_file_28 : decode cX8_file 28 = .ok (.goto 4, 3) := by decide +kernel
theorem dX8_file_31 : decode cX8_file 31 = .ok (.iconst 0, 1) := by decide +kernel
theorem dX8_file_32 : decode cX8_file 32 = .ok (.istore_n 3, 1) := by decide +kernel
theorem dX8_file_33 : decode cX8_file 33 = .ok (.iload_n 2, 1) := by decide +kernel
theorem dX8_file_34 : decode cX8_file 34 = .ok (.tableswitch 102 0 4 #[34, 44, 63, 82, 92], 34) := by decide +kernel
theorem dX8_file_68 : decode cX8_file 68 = .ok (.aload_n 0, 1) := by decide +kernel
theorem dX8_file_69 : decode cX8_file 69 = .ok (.getfield 60, 3) := by decide +kernel
theorem dX8_file_72 : decode cX8_file 72 = .ok (.getfield 208, 3) := by decide +kernel
theorem dX8_file_75 : decode cX8_file 75 = .ok (.iload_n 1, 1) := by decide +kernel
theorem dX8_file_76 : decode cX8_file 76 = .ok (.iaload, 1) := by decide +kernel
theorem dX8_file_77 : decode cX8_file 77 = .ok (.ireturn, 1) := by decide +kernel
theorem dX8_file_78 : decode cX8_file 78 = .ok (.iload_n 3, 1) := by decide +kernel
theorem dX8_file_79 : decode cX8_file 79 = .ok (.ifCond .eq 8, 3) := by decide +kernel
theorem dX8_file_82 : decode cX8_file 82 = .ok (.ldc 207, 2) := by decide +kernel
theorem dX8_file_84 : decode cX8_file 84 = .ok (.goto 12, 3) := by decide +kernel
theorem dX8_file_87 : decode cX8_file 87 = .ok (.aload_n 0, 1) := by decide +kernel
theorem dX8_file_88 : decode cX8_file 88 = .ok (.getfield 60, 3) := by decide +kernel
theorem dX8_file_91 : decode cX8_file 91 = .ok (.getfield 211, 3) := by decide +kernel
theorem dX8_file_94 : decode cX8_file 94 = .ok (.iload_n 1, 1) := by decide +kernel
theorem dX8_file_95 : decode cX8_file 95 = .ok (.iaload, 1) := by decide +kernel
theorem dX8_file_96 : decode cX8_file 96 = .ok (.ireturn, 1) := by decide +kernel
theorem dX8_file_97 : decode cX8_file 97 = .ok (.iload_n 3, 1) := by decide +kernel
theorem dX8_file_98 : decode cX8_file 98 = .ok (.ifCond .eq 8, 3) := by decide +kernel
theorem dX8_file_101 : decode cX8_file 101 = .ok (.ldc 207, 2) := by decide +kernel
theorem dX8_file_103 : decode cX8_file 103 = .ok (.goto 12, 3) := by decide +kernel
theorem dX8_file_106 : decode cX8_file 106 = .ok (.aload_n 0, 1) := by decide +kernel
theorem dX8_file_107 : decode cX8_file 107 = .ok (.getfield 60, 3) := by decide +kernel
theorem dX8_file_110 : decode cX8_file 110 = .ok (.getfield 214, 3) := by decide +kernel
theorem dX8_file_113 : decode cX8_file 113 = .ok (.iload_n 1, 1) := by decide +kernel
theorem dX8_file_114 : decode cX8_file 114 = .ok (.iaload, 1) := by decide +kernel
theorem dX8_file_115 : decode cX8_file 115 = .ok (.ireturn, 1) := by decide +kernel
theorem dX8_file_116 : decode cX8_file 116 = .ok (.aload_n 0, 1) := by decide +kernel
theorem dX8_file_117 : decode cX8_file 117 = .ok (.getfield 60, 3) := by decide +kernel
theorem dX8_file_120 : decode cX8_file 120 = .ok (.getfield 217, 3) := by decide +kernel
theorem dX8_file_123 : decode cX8_file 123 = .ok (.iload_n 1, 1) := by decide +kernel
theorem dX8_file_124 : decode cX8_file 124 = .ok (.iaload, 1) := by decide +kernel
theorem dX8_file_125 : decode cX8_file 125 = .ok (.ireturn, 1) := by decide +kernel
theorem dX8_file_126 : decode cX8_file 126 = .ok (.aload_n 0, 1) := by decide +kernel
theorem dX8_file_127 : decode cX8_file 127 = .ok (.getfield 60, 3) := by decide +kernel
theorem dX8_file_130 : decode cX8_file 130 = .ok (.getfield 220, 3) := by decide +kernel
theorem dX8_file_133 : decode cX8_file 133 = .ok (.iload_n 1, 1) := by decide +kernel
theorem dX8_file_134 : decode cX8_file 134 = .ok (.iaload, 1) := by decide +kernel
theorem dX8_file_135 : decode cX8_file 135 = .ok (.ireturn, 1) := by decide +kernel
theorem dX8_file_136 : decode cX8_file 136 = .ok (.ldc 207, 2) := by decide +kernel
theorem dX8_file_138 : decode cX8_file 138 = .ok (.ireturn, 1) := by decide +kernel
theorem dX8_drive_0 : decode cX8_drive 0 = .ok (.iload_n 1, 1) := by decide +kernel
theorem dX8_drive_1 : decode cX8_drive 1 = .ok (.ifCond .ge 7, 3) := by decide +kernel
theorem dX8_drive_4 : decode cX8_drive 4 = .ok (.iconst (-1), 1) := by decide +kernel
theorem dX8_drive_5 : decode cX8_drive 5 = .ok (.goto 11, 3) := by decide +kernel
theorem dX8_drive_8 : decode cX8_drive 8 = .ok (.aload_n 0, 1) := by decide +kernel
theorem dX8_drive_9 : decode cX8_drive 9 = .ok (.getfield 60, 3) := by decide +kernel
theorem dX8_drive_12 : decode cX8_drive 12 = .ok (.iload_n 1, 1) := by decide +kernel
theorem dX8_drive_13 : decode cX8_drive 13 = .ok (.invokevirtual 223, 3) := by decide +kernel
theorem dX8_drive_16 : decode cX8_drive 16 = .ok (.ireturn, 1) := by decide +kernel
theorem dX8_labelled_0 : decode cX8_labelled 0 = .ok (.iconst 0, 1) := by decide +kernel
theorem dX8_labelled_1 : decode cX8_labelled 1 = .ok (.istore_n 2, 1) := by decide +kernel
theorem dX8_labelled_2 : decode cX8_labelled 2 = .ok (.iload_n 2, 1) := by decide +kernel
theorem dX8_labelled_3 : decode cX8_labelled 3 = .ok (.aload_n 0, 1) := by decide +kernel
theorem dX8_labelled_4 : decode cX8_labelled 4 = .ok (.getfield 28, 3) := by decide +kernel
theorem dX8_labelled_7 : decode cX8_labelled 7 = .ok (.getfield 141, 3) := by decide +kernel
theorem dX8_labelled_10 : decode cX8_labelled 10 = .ok (.if_icmp .ge 24, 3) := by decide +kernel
theorem dX8_labelled_13 : decode cX8_labelled 13 = .ok (.aload_n 0, 1) := by decide +kernel
theorem dX8_labelled_14 : decode cX8_labelled 14 = .ok (.getfield 28, 3) := by decide +kernel
theorem dX8_labelled_17 : decode cX8_labelled 17 = .ok (.getfield 171, 3) := by decide +kernel
theorem dX8_labelled_20 : decode cX8_labelled 20 = .ok (.iload_n 2, 1) := by decide +kernel
theorem dX8_labelled_21 : decode cX8_labelled 21 = .ok (.iaload, 1) := by decide +kernel
theorem dX8_labelled_22 : decode cX8_labelled 22 = .ok (.iload_n 1, 1) := by decide +kernel
theorem dX8_labelled_23 : decode cX8_labelled 23 = .ok (.if_icmp .ne 5, 3) := by decide +kernel
theorem dX8_labelled_26 : decode cX8_labelled 26 = .ok (.iload_n 2, 1) := by decide +kernel
theorem dX8_labelled_27 : decode cX8_labelled 27 = .ok (.ireturn, 1) := by decide +kernel
theorem dX8_labelled_28 : decode cX8_labelled 28 = .ok (.iinc 2 1, 3) := by decide +kernel
theorem dX8_labelled_31 : decode cX8_labelled 31 = .ok (.goto (-29), 3) := by decide +kernel
theorem dX8_labelled_34 : decode cX8_labelled 34 = .ok (.iconst (-1), 1) := by decide +kernel
theorem dX8_labelled_35 : decode cX8_labelled 35 = .ok (.ireturn, 1) := by decide +kernel
theorem dX8_way_0 : decode cX8_way 0 = .ok (.aload_n 0, 1) := by decide +kernel
theorem dX8_way_1 : decode cX8_way 1 = .ok (.getfield 28, 3) := by decide +kernel
theorem dX8_way_4 : decode cX8_way 4 = .ok (.iload_n 1, 1) := by decide +kernel
theorem dX8_way_5 : decode cX8_way 5 = .ok (.invokevirtual 226, 3) := by decide +kernel
theorem dX8_way_8 : decode cX8_way 8 = .ok (.ifCond .eq 26, 3) := by decide +kernel
theorem dX8_way_11 : decode cX8_way 11 = .ok (.aload_n 0, 1) := by decide +kernel
theorem dX8_way_12 : decode cX8_way 12 = .ok (.getfield 28, 3) := by decide +kernel
theorem dX8_way_15 : decode cX8_way 15 = .ok (.iload_n 2, 1) := by decide +kernel
theorem dX8_way_16 : decode cX8_way 16 = .ok (.invokevirtual 226, 3) := by decide +kernel
theorem dX8_way_19 : decode cX8_way 19 = .ok (.ifCond .eq 15, 3) := by decide +kernel
theorem dX8_way_22 : decode cX8_way 22 = .ok (.aload_n 0, 1) := by decide +kernel
theorem dX8_way_23 : decode cX8_way 23 = .ok (.getfield 28, 3) := by decide +kernel
theorem dX8_way_26 : decode cX8_way 26 = .ok (.iload_n 1, 1) := by decide +kernel
theorem dX8_way_27 : decode cX8_way 27 = .ok (.iload_n 2, 1) := by decide +kernel
theorem dX8_way_28 : decode cX8_way 28 = .ok (.invokevirtual 229, 3) := by decide +kernel
theorem dX8_way_31 : decode cX8_way 31 = .ok (.goto 4, 3) := by decide +kernel
theorem dX8_way_34 : decode cX8_way 34 = .ok (.iconst (-1), 1) := by decide +kernel
theorem dX8_way_35 : decode cX8_way 35 = .ok (.ireturn, 1) := by decide +kernel
theorem dX8_seek_0 : decode cX8_seek 0 = .ok (.aload_n 0, 1) := by decide +kernel
theorem dX8_seek_1 : decode cX8_seek 1 = .ok (.getfield 28, 3) := by decide +kernel
theorem dX8_seek_4 : decode cX8_seek 4 = .ok (.iload_n 1, 1) := by decide +kernel
theorem dX8_seek_5 : decode cX8_seek 5 = .ok (.invokevirtual 233, 3) := by decide +kernel
theorem dX8_seek_8 : decode cX8_seek 8 = .ok (.ifCond .eq 26, 3) := by decide +kernel
theorem dX8_seek_11 : decode cX8_seek 11 = .ok (.aload_n 0, 1) := by decide +kernel
theorem dX8_seek_12 : decode cX8_seek 12 = .ok (.getfield 28, 3) := by decide +kernel
theorem dX8_seek_15 : decode cX8_seek 15 = .ok (.iload_n 2, 1) := by decide +kernel
theorem dX8_seek_16 : decode cX8_seek 16 = .ok (.invokevirtual 233, 3) := by decide +kernel
theorem dX8_seek_19 : decode cX8_seek 19 = .ok (.ifCond .eq 15, 3) := by decide +kernel
theorem dX8_seek_22 : decode cX8_seek 22 = .ok (.aload_n 0, 1) := by decide +kernel
theorem dX8_seek_23 : decode cX8_seek 23 = .ok (.getfield 28, 3) := by decide +kernel
theorem dX8_seek_26 : decode cX8_seek 26 = .ok (.iload_n 1, 1) := by decide +kernel
theorem dX8_seek_27 : decode cX8_seek 27 = .ok (.iload_n 2, 1) := by decide +kernel
theorem dX8_seek_28 : decode cX8_seek 28 = .ok (.invokevirtual 236, 3) := by decide +kernel
theorem dX8_seek_31 : decode cX8_seek 31 = .ok (.goto 4, 3) := by decide +kernel
theorem dX8_seek_34 : decode cX8_seek 34 = .ok (.iconst (-1), 1) := by decide +kernel
theorem dX8_seek_35 : decode cX8_seek 35 = .ok (.ireturn, 1) := by decide +kernel
theorem dX8_path_0 : decode cX8_path 0 = .ok (.aload_n 0, 1) := by decide +kernel
theorem dX8_path_1 : decode cX8_path 1 = .ok (.getfield 60, 3) := by decide +kernel
theorem dX8_path_4 : decode cX8_path 4 = .ok (.iload_n 1, 1) := by decide +kernel
theorem dX8_path_5 : decode cX8_path 5 = .ok (.invokevirtual 239, 3) := by decide +kernel
theorem dX8_path_8 : decode cX8_path 8 = .ok (.ifCond .eq 29, 3) := by decide +kernel
theorem dX8_path_11 : decode cX8_path 11 = .ok (.iload_n 2, 1) := by decide +kernel
theorem dX8_path_12 : decode cX8_path 12 = .ok (.ifCond .lt 25, 3) := by decide +kernel
theorem dX8_path_15 : decode cX8_path 15 = .ok (.iload_n 2, 1) := by decide +kernel
theorem dX8_path_16 : decode cX8_path 16 = .ok (.aload_n 0, 1) := by decide +kernel
theorem dX8_path_17 : decode cX8_path 17 = .ok (.getfield 60, 3) := by decide +kernel
theorem dX8_path_20 : decode cX8_path 20 = .ok (.getfield 214, 3) := by decide +kernel
theorem dX8_path_23 : decode cX8_path 23 = .ok (.iload_n 1, 1) := by decide +kernel
theorem dX8_path_24 : decode cX8_path 24 = .ok (.iaload, 1) := by decide +kernel
theorem dX8_path_25 : decode cX8_path 25 = .ok (.if_icmp .ge 12, 3) := by decide +kernel
theorem dX8_path_28 : decode cX8_path 28 = .ok (.iload_n 3, 1) := by decide +kernel
theorem dX8_path_29 : decode cX8_path 29 = .ok (.ifCond .lt 8, 3) := by decide +kernel
theorem dX8_path_32 : decode cX8_path 32 = .ok (.iload_n 3, 1) := by decide +kernel
theorem dX8_path_33 : decode cX8_path 33 = .ok (.iconst 1, 1) := by decide +kernel
theorem dX8_path_34 : decode cX8_path 34 = .ok (.if_icmp .le 5, 3) := by decide +kernel
theorem dX8_path_37 : decode cX8_path 37 = .ok (.iconst (-1), 1) := by decide +kernel
theorem dX8_path_38 : decode cX8_path 38 = .ok (.ireturn, 1) := by decide +kernel
theorem dX8_path_39 : decode cX8_path 39 = .ok (.aload_n 0, 1) := by decide +kernel
theorem dX8_path_40 : decode cX8_path 40 = .ok (.getfield 60, 3) := by decide +kernel
theorem dX8_path_43 : decode cX8_path 43 = .ok (.getfield 211, 3) := by decide +kernel
theorem dX8_path_46 : decode cX8_path 46 = .ok (.iload_n 1, 1) := by decide +kernel
theorem dX8_path_47 : decode cX8_path 47 = .ok (.iaload, 1) := by decide +kernel
theorem dX8_path_48 : decode cX8_path 48 = .ok (.iload_n 2, 1) := by decide +kernel
theorem dX8_path_49 : decode cX8_path 49 = .ok (.iadd, 1) := by decide +kernel
theorem dX8_path_50 : decode cX8_path 50 = .ok (.istore 4, 2) := by decide +kernel
theorem dX8_path_52 : decode cX8_path 52 = .ok (.aload_n 0, 1) := by decide +kernel
theorem dX8_path_53 : decode cX8_path 53 = .ok (.getfield 28, 3) := by decide +kernel
theorem dX8_path_56 : decode cX8_path 56 = .ok (.iload 4, 2) := by decide +kernel
theorem dX8_path_58 : decode cX8_path 58 = .ok (.invokevirtual 233, 3) := by decide +kernel
theorem dX8_path_61 : decode cX8_path 61 = .ok (.ifCond .ne 5, 3) := by decide +kernel
theorem dX8_path_64 : decode cX8_path 64 = .ok (.iconst (-1), 1) := by decide +kernel
theorem dX8_path_65 : decode cX8_path 65 = .ok (.ireturn, 1) := by decide +kernel
theorem dX8_path_66 : decode cX8_path 66 = .ok (.iload_n 3, 1) := by decide +kernel
theorem dX8_path_67 : decode cX8_path 67 = .ok (.ifCond .ne 16, 3) := by decide +kernel
theorem dX8_path_70 : decode cX8_path 70 = .ok (.aload_n 0, 1) := by decide +kernel
theorem dX8_path_71 : decode cX8_path 71 = .ok (.getfield 28, 3) := by decide +kernel
theorem dX8_path_74 : decode cX8_path 74 = .ok (.getfield 242, 3) := by decide +kernel
theorem dX8_path_77 : decode cX8_path 77 = .ok (.iload 4, 2) := by decide +kernel
theorem dX8_path_79 : decode cX8_path 79 = .ok (.iaload, 1) := by decide +kernel
theorem dX8_path_80 : decode cX8_path 80 = .ok (.goto 13, 3) := by decide +kernel
theorem dX8_path_83 : decode cX8_path 83 = .ok (.aload_n 0, 1) := by decide +kernel
theorem dX8_path_84 : decode cX8_path 84 = .ok (.getfield 28, 3) := by decide +kernel
theorem dX8_path_87 : decode cX8_path 87 = .ok (.getfield 245, 3) := by decide +kernel
theorem dX8_path_90 : decode cX8_path 90 = .ok (.iload 4, 2) := by decide +kernel
theorem dX8_path_92 : decode cX8_path 92 = .ok (.iaload, 1) := by decide +kernel
theorem dX8_path_93 : decode cX8_path 93 = .ok (.ireturn, 1) := by decide +kernel
theorem dX8_ask_0 : decode cX8_ask 0 = .ok (.aload_n 0, 1) := by decide +kernel
theorem dX8_ask_1 : decode cX8_ask 1 = .ok (.iconst 0, 1) := by decide +kernel
theorem dX8_ask_2 : decode cX8_ask 2 = .ok (.iload_n 1, 1) := by decide +kernel
theorem dX8_ask_3 : decode cX8_ask 3 = .ok (.iconst (-1), 1) := by decide +kernel
theorem dX8_ask_4 : decode cX8_ask 4 = .ok (.iconst 1, 1) := by decide +kernel
theorem dX8_ask_5 : decode cX8_ask 5 = .ok (.invokevirtual 248, 3) := by decide +kernel
theorem dX8_ask_8 : decode cX8_ask 8 = .ok (.ireturn, 1) := by decide +kernel
theorem dX8_serve_0 : decode cX8_serve 0 = .ok (.aload_n 0, 1) := by decide +kernel
theorem dX8_serve_1 : decode cX8_serve 1 = .ok (.iconst 1, 1) := by decide +kernel
theorem dX8_serve_2 : decode cX8_serve 2 = .ok (.iconst (-1), 1) := by decide +kernel
theorem dX8_serve_3 : decode cX8_serve 3 = .ok (.iconst (-1), 1) := by decide +kernel
theorem dX8_serve_4 : decode cX8_serve 4 = .ok (.iconst 1, 1) := by decide +kernel
theorem dX8_serve_5 : decode cX8_serve 5 = .ok (.invokevirtual 248, 3) := by decide +kernel
theorem dX8_serve_8 : decode cX8_serve 8 = .ok (.ireturn, 1) := by decide +kernel
theorem dX8_write_0 : decode cX8_write 0 = .ok (.aload_n 0, 1) := by decide +kernel
theorem dX8_write_1 : decode cX8_write 1 = .ok (.iconst 2, 1) := by decide +kernel
theorem dX8_write_2 : decode cX8_write 2 = .ok (.iload_n 1, 1) := by decide +kernel
theorem dX8_write_3 : decode cX8_write 3 = .ok (.iload_n 2, 1) := by decide +kernel
theorem dX8_write_4 : decode cX8_write 4 = .ok (.iconst 1, 1) := by decide +kernel
theorem dX8_write_5 : decode cX8_write 5 = .ok (.invokevirtual 248, 3) := by decide +kernel
theorem dX8_write_8 : decode cX8_write 8 = .ok (.ireturn, 1) := by decide +kernel
theorem dX8_drop_0 : decode cX8_drop 0 = .ok (.aload_n 0, 1) := by decide +kernel
theorem dX8_drop_1 : decode cX8_drop 1 = .ok (.iconst 3, 1) := by decide +kernel
theorem dX8_drop_2 : decode cX8_drop 2 = .ok (.iload_n 1, 1) := by decide +kernel
theorem dX8_drop_3 : decode cX8_drop 3 = .ok (.iconst (-1), 1) := by decide +kernel
theorem dX8_drop_4 : decode cX8_drop 4 = .ok (.iconst 1, 1) := by decide +kernel
theorem dX8_drop_5 : decode cX8_drop 5 = .ok (.invokevirtual 248, 3) := by decide +kernel
theorem dX8_drop_8 : decode cX8_drop 8 = .ok (.ireturn, 1) := by decide +kernel
theorem dX8_mount_0 : decode cX8_mount 0 = .ok (.aload_n 0, 1) := by decide +kernel
theorem dX8_mount_1 : decode cX8_mount 1 = .ok (.iconst 4, 1) := by decide +kernel
theorem dX8_mount_2 : decode cX8_mount 2 = .ok (.iload_n 1, 1) := by decide +kernel
theorem dX8_mount_3 : decode cX8_mount 3 = .ok (.iconst (-1), 1) := by decide +kernel
theorem dX8_mount_4 : decode cX8_mount 4 = .ok (.iconst 1, 1) := by decide +kernel
theorem dX8_mount_5 : decode cX8_mount 5 = .ok (.invokevirtual 248, 3) := by decide +kernel
theorem dX8_mount_8 : decode cX8_mount 8 = .ok (.ireturn, 1) := by decide +kernel
theorem dX8_unmount_0 : decode cX8_unmount 0 = .ok (.aload_n 0, 1) := by decide +kernel
theorem dX8_unmount_1 : decode cX8_unmount 1 = .ok (.iconst 5, 1) := by decide +kernel
theorem dX8_unmount_2 : decode cX8_unmount 2 = .ok (.iload_n 1, 1) := by decide +kernel
theorem dX8_unmount_3 : decode cX8_unmount 3 = .ok (.iconst (-1), 1) := by decide +kernel
theorem dX8_unmount_4 : decode cX8_unmount 4 = .ok (.iconst 1, 1) := by decide +kernel
theorem dX8_unmount_5 : decode cX8_unmount 5 = .ok (.invokevirtual 248, 3) := by decide +kernel
theorem dX8_unmount_8 : decode cX8_unmount 8 = .ok (.ireturn, 1) := by decide +kernel
theorem dX8_copy_0 : decode cX8_copy 0 = .ok (.aload_n 0, 1) := by decide +kernel
theorem dX8_copy_1 : decode cX8_copy 1 = .ok (.bipush 6, 2) := by decide +kernel
theorem dX8_copy_3 : decode cX8_copy 3 = .ok (.iload_n 1, 1) := by decide +kernel
theorem dX8_copy_4 : decode cX8_copy 4 = .ok (.iload_n 2, 1) := by decide +kernel
theorem dX8_copy_5 : decode cX8_copy 5 = .ok (.iconst 1, 1) := by decide +kernel
theorem dX8_copy_6 : decode cX8_copy 6 = .ok (.invokevirtual 248, 3) := by decide +kernel
theorem dX8_copy_9 : decode cX8_copy 9 = .ok (.ireturn, 1) := by decide +kernel
theorem dX8_lose_0 : decode cX8_lose 0 = .ok (.aload_n 0, 1) := by decide +kernel
theorem dX8_lose_1 : decode cX8_lose 1 = .ok (.bipush 7, 2) := by decide +kernel
theorem dX8_lose_3 : decode cX8_lose 3 = .ok (.iconst (-1), 1) := by decide +kernel
theorem dX8_lose_4 : decode cX8_lose 4 = .ok (.iconst (-1), 1) := by decide +kernel
theorem dX8_lose_5 : decode cX8_lose 5 = .ok (.iconst 1, 1) := by decide +kernel
theorem dX8_lose_6 : decode cX8_lose 6 = .ok (.invokevirtual 248, 3) := by decide +kernel
theorem dX8_lose_9 : decode cX8_lose 9 = .ok (.ireturn, 1) := by decide +kernel
theorem dX8_scan_0 : decode cX8_scan 0 = .ok (.aload_n 0, 1) := by decide +kernel
theorem dX8_scan_1 : decode cX8_scan 1 = .ok (.bipush 8, 2) := by decide +kernel
theorem dX8_scan_3 : decode cX8_scan 3 = .ok (.iload_n 1, 1) := by decide +kernel
theorem dX8_scan_4 : decode cX8_scan 4 = .ok (.iconst (-1), 1) := by decide +kernel
theorem dX8_scan_5 : decode cX8_scan 5 = .ok (.iconst 1, 1) := by decide +kernel
theorem dX8_scan_6 : decode cX8_scan 6 = .ok (.invokevirtual 248, 3) := by decide +kernel
theorem dX8_scan_9 : decode cX8_scan 9 = .ok (.ireturn, 1) := by decide +kernel
theorem dX8_pause_0 : decode cX8_pause 0 = .ok (.aload_n 0, 1) := by decide +kernel
theorem dX8_pause_1 : decode cX8_pause 1 = .ok (.bipush 9, 2) := by decide +kernel
theorem dX8_pause_3 : decode cX8_pause 3 = .ok (.iload_n 1, 1) := by decide +kernel
theorem dX8_pause_4 : decode cX8_pause 4 = .ok (.iconst (-1), 1) := by decide +kernel
theorem dX8_pause_5 : decode cX8_pause 5 = .ok (.iconst 1, 1) := by decide +kernel
theorem dX8_pause_6 : decode cX8_pause 6 = .ok (.invokevirtual 248, 3) := by decide +kernel
theorem dX8_pause_9 : decode cX8_pause 9 = .ok (.ireturn, 1) := by decide +kernel
theorem dX8_rescue_0 : decode cX8_rescue 0 = .ok (.aload_n 0, 1) := by decide +kernel
theorem dX8_rescue_1 : decode cX8_rescue 1 = .ok (.bipush 10, 2) := by decide +kernel
theorem dX8_rescue_3 : decode cX8_rescue 3 = .ok (.iconst (-1), 1) := by decide +kernel
theorem dX8_rescue_4 : decode cX8_rescue 4 = .ok (.iconst (-1), 1) := by decide +kernel
theorem dX8_rescue_5 : decode cX8_rescue 5 = .ok (.iconst 1, 1) := by decide +kernel
theorem dX8_rescue_6 : decode cX8_rescue 6 = .ok (.invokevirtual 248, 3) := by decide +kernel
theorem dX8_rescue_9 : decode cX8_rescue 9 = .ok (.ireturn, 1) := by decide +kernel
theorem dX8_attempt_0 : decode cX8_attempt 0 = .ok (.aload_n 0, 1) := by decide +kernel
theorem dX8_attempt_1 : decode cX8_attempt 1 = .ok (.getfield 60, 3) := by decide +kernel
theorem dX8_attempt_4 : decode cX8_attempt 4 = .ok (.iload_n 1, 1) := by decide +kernel
theorem dX8_attempt_5 : decode cX8_attempt 5 = .ok (.iload_n 2, 1) := by decide +kernel
theorem dX8_attempt_6 : decode cX8_attempt 6 = .ok (.iload_n 3, 1) := by decide +kernel
theorem dX8_attempt_7 : decode cX8_attempt 7 = .ok (.invokevirtual 252, 3) := by decide +kernel
theorem dX8_attempt_10 : decode cX8_attempt 10 = .ok (.istore 5, 2) := by decide +kernel
theorem dX8_attempt_12 : decode cX8_attempt 12 = .ok (.iload 5, 2) := by decide +kernel
theorem dX8_attempt_14 : decode cX8_attempt 14 = .ok (.iconst (-1), 1) := by decide +kernel
theorem dX8_attempt_15 : decode cX8_attempt 15 = .ok (.if_icmp .eq 21, 3) := by decide +kernel
theorem dX8_attempt_18 : decode cX8_attempt 18 = .ok (.iload 4, 2) := by decide +kernel
theorem dX8_attempt_20 : decode cX8_attempt 20 = .ok (.ifCond .eq 14, 3) := by decide +kernel
theorem dX8_attempt_23 : decode cX8_attempt 23 = .ok (.aload_n 0, 1) := by decide +kernel
theorem dX8_attempt_24 : decode cX8_attempt 24 = .ok (.getfield 94, 3) := by decide +kernel
theorem dX8_attempt_27 : decode cX8_attempt 27 = .ok (.iload 5, 2) := by decide +kernel
theorem dX8_attempt_29 : decode cX8_attempt 29 = .ok (.dup2, 1) := by decide +kernel
theorem dX8_attempt_30 : decode cX8_attempt 30 = .ok (.iaload, 1) := by decide +kernel
theorem dX8_attempt_31 : decode cX8_attempt 31 = .ok (.iconst 1, 1) := by decide +kernel
theorem dX8_attempt_32 : decode cX8_attempt 32 = .ok (.iadd, 1) := by decide +kernel
theorem dX8_attempt_33 : decode cX8_attempt 33 = .ok (.iastore, 1) := by decide +kernel
theorem dX8_attempt_34 : decode cX8_attempt 34 = .ok (.iconst (-1), 1) := by decide +kernel
theorem dX8_attempt_35 : decode cX8_attempt 35 = .ok (.ireturn, 1) := by decide +kernel
theorem dX8_attempt_36 : decode cX8_attempt 36 = .ok (.aload_n 0, 1) := by decide +kernel
theorem dX8_attempt_37 : decode cX8_attempt 37 = .ok (.getfield 77, 3) := by decide +kernel
theorem dX8_attempt_40 : decode cX8_attempt 40 = .ok (.aload_n 0, 1) := by decide +kernel
