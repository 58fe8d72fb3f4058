theorem dX8_other_0 : decode cX8_other 0 = .ok (.aload_n 0, 1) := by decide +kernel
theorem dX8_other_1 : decode cX8_other 1 = .ok (.getfield 73, 3) := by decide +kernel
theorem dX8_other_4 : decode cX8_other 4 = .ok (.ifCond .ne 16, 3) := by decide +kernel
theorem dX8_other_7 : decode cX8_other 7 = .ok (.aload_n 0, 1) := by decide +kernel
theorem dX8_other_8 : decode cX8_other 8 = .ok (.getfield 82, 3) := by decide +kernel
theorem dX8_other_11 : decode cX8_other 11 = .ok (.iconst 2, 1) := by decide +kernel
theorem dX8_other_12 : decode cX8_other 12 = .ok (.if_icmp .eq 8, 3) := by decide +kernel
theorem dX8_other_15 : decode cX8_other 15 = .ok (.aload_n 0, 1) := by decide +kernel
theorem dX8_other_16 : decode cX8_other 16 = .ok (.iconst 2, 1) := by decide +kernel
theorem dX8_other_17 : decode cX8_other 17 = .ok (.invokevirtual 103, 3) := by decide +kernel
theorem dX8_other_20 : decode cX8_other 20 = .ok (.aload_n 0, 1) := by decide +kernel
theorem dX8_other_21 : decode cX8_other 21 = .ok (.getfield 73, 3) := by decide +kernel
theorem dX8_other_24 : decode cX8_other 24 = .ok (.ifCond .ne 23, 3) := by decide +kernel
theorem dX8_other_27 : decode cX8_other 27 = .ok (.aload_n 0, 1) := by decide +kernel
theorem dX8_other_28 : decode cX8_other 28 = .ok (.getfield 92, 3) := by decide +kernel
theorem dX8_other_31 : decode cX8_other 31 = .ok (.i2l, 1) := by decide +kernel
theorem dX8_other_32 : decode cX8_other 32 = .ok (.iload_n 1, 1) := by decide +kernel
theorem dX8_other_33 : decode cX8_other 33 = .ok (.i2l, 1) := by decide +kernel
theorem dX8_other_34 : decode cX8_other 34 = .ok (.iload_n 2, 1) := by decide +kernel
theorem dX8_other_35 : decode cX8_other 35 = .ok (.i2l, 1) := by decide +kernel
theorem dX8_other_36 : decode cX8_other 36 = .ok (.invokestatic 69, 3) := by decide +kernel
theorem dX8_other_39 : decode cX8_other 39 = .ok (.ifCond .ne 8, 3) := by decide +kernel
theorem dX8_other_42 : decode cX8_other 42 = .ok (.aload_n 0, 1) := by decide +kernel
theorem dX8_other_43 : decode cX8_other 43 = .ok (.iconst 3, 1) := by decide +kernel
theorem dX8_other_44 : decode cX8_other 44 = .ok (.invokevirtual 103, 3) := by decide +kernel
theorem dX8_other_47 : decode cX8_other 47 = .ok (.aload_n 0, 1) := by decide +kernel
theorem dX8_other_48 : decode cX8_other 48 = .ok (.getfield 73, 3) := by decide +kernel
theorem dX8_other_51 : decode cX8_other 51 = .ok (.ifCond .ne 29, 3) := by decide +kernel
theorem dX8_other_54 : decode cX8_other 54 = .ok (.aload_n 0, 1) := by decide +kernel
theorem dX8_other_55 : decode cX8_other 55 = .ok (.getfield 92, 3) := by decide +kernel
theorem dX8_other_58 : decode cX8_other 58 = .ok (.bipush 31, 2) := by decide +kernel
theorem dX8_other_60 : decode cX8_other 60 = .ok (.if_icmp .ge 20, 3) := by decide +kernel
theorem dX8_other_63 : decode cX8_other 63 = .ok (.iload_n 3, 1) := by decide +kernel
theorem dX8_other_64 : decode cX8_other 64 = .ok (.aload_n 0, 1) := by decide +kernel
theorem dX8_other_65 : decode cX8_other 65 = .ok (.getfield 92, 3) := by decide +kernel
theorem dX8_other_68 : decode cX8_other 68 = .ok (.ishr, 1) := by decide +kernel
theorem dX8_other_69 : decode cX8_other 69 = .ok (.iconst 1, 1) := by decide +kernel
theorem dX8_other_70 : decode cX8_other 70 = .ok (.iand, 1) := by decide +kernel
theorem dX8_other_71 : decode cX8_other 71 = .ok (.iconst 1, 1) := by decide +kernel
theorem dX8_other_72 : decode cX8_other 72 = .ok (.if_icmp .ne 8, 3) := by decide +kernel
theorem dX8_other_75 : decode cX8_other 75 = .ok (.aload_n 0, 1) := by decide +kernel
theorem dX8_other_76 : decode cX8_other 76 = .ok (.iconst 4, 1) := by decide +kernel
theorem dX8_other_77 : decode cX8_other 77 = .ok (.invokevirtual 103, 3) := by decide +kernel
theorem dX8_other_80 : decode cX8_other 80 = .ok (.aload_n 0, 1) := by decide +kernel
theorem dX8_other_81 : decode cX8_other 81 = .ok (.getfield 73, 3) := by decide +kernel
theorem dX8_other_84 : decode cX8_other 84 = .ok (.ifCond .ne 10, 3) := by decide +kernel
theorem dX8_other_87 : decode cX8_other 87 = .ok (.aload_n 0, 1) := by decide +kernel
theorem dX8_other_88 : decode cX8_other 88 = .ok (.getfield 92, 3) := by decide +kernel
theorem dX8_other_91 : decode cX8_other 91 = .ok (.goto 4, 3) := by decide +kernel
theorem dX8_other_94 : decode cX8_other 94 = .ok (.iload_n 1, 1) := by decide +kernel
theorem dX8_other_95 : decode cX8_other 95 = .ok (.istore 4, 2) := by decide +kernel
theorem dX8_other_97 : decode cX8_other 97 = .ok (.aload_n 0, 1) := by decide +kernel
theorem dX8_other_98 : decode cX8_other 98 = .ok (.invokevirtual 107, 3) := by decide +kernel
theorem dX8_other_101 : decode cX8_other 101 = .ok (.iload 4, 2) := by decide +kernel
theorem dX8_other_103 : decode cX8_other 103 = .ok (.ireturn, 1) := by decide +kernel
theorem dX8_oneOf_0 : decode cX8_oneOf 0 = .ok (.aload_n 0, 1) := by decide +kernel
theorem dX8_oneOf_1 : decode cX8_oneOf 1 = .ok (.iconst 0, 1) := by decide +kernel
theorem dX8_oneOf_2 : decode cX8_oneOf 2 = .ok (.iconst 5, 1) := by decide +kernel
theorem dX8_oneOf_3 : decode cX8_oneOf 3 = .ok (.iload_n 1, 1) := by decide +kernel
theorem dX8_oneOf_4 : decode cX8_oneOf 4 = .ok (.invokevirtual 110, 3) := by decide +kernel
theorem dX8_oneOf_7 : decode cX8_oneOf 7 = .ok (.istore_n 2, 1) := by decide +kernel
theorem dX8_oneOf_8 : decode cX8_oneOf 8 = .ok (.aload_n 0, 1) := by decide +kernel
theorem dX8_oneOf_9 : decode cX8_oneOf 9 = .ok (.iload_n 2, 1) := by decide +kernel
theorem dX8_oneOf_10 : decode cX8_oneOf 10 = .ok (.aload_n 0, 1) := by decide +kernel
theorem dX8_oneOf_11 : decode cX8_oneOf 11 = .ok (.getfield 114, 3) := by decide +kernel
theorem dX8_oneOf_14 : decode cX8_oneOf 14 = .ok (.if_icmp .le 7, 3) := by decide +kernel
theorem dX8_oneOf_17 : decode cX8_oneOf 17 = .ok (.iload_n 2, 1) := by decide +kernel
theorem dX8_oneOf_18 : decode cX8_oneOf 18 = .ok (.goto 7, 3) := by decide +kernel
theorem dX8_oneOf_21 : decode cX8_oneOf 21 = .ok (.aload_n 0, 1) := by decide +kernel
theorem dX8_oneOf_22 : decode cX8_oneOf 22 = .ok (.getfield 114, 3) := by decide +kernel
theorem dX8_oneOf_25 : decode cX8_oneOf 25 = .ok (.putfield 114, 3) := by decide +kernel
theorem dX8_oneOf_28 : decode cX8_oneOf 28 = .ok (.iload_n 2, 1) := by decide +kernel
theorem dX8_oneOf_29 : decode cX8_oneOf 29 = .ok (.ireturn, 1) := by decide +kernel
theorem dX8_readOne_0 : decode cX8_readOne 0 = .ok (.aload_n 0, 1) := by decide +kernel
theorem dX8_readOne_1 : decode cX8_readOne 1 = .ok (.invokevirtual 117, 3) := by decide +kernel
theorem dX8_readOne_4 : decode cX8_readOne 4 = .ok (.bipush 7, 2) := by decide +kernel
theorem dX8_readOne_6 : decode cX8_readOne 6 = .ok (.isub, 1) := by decide +kernel
theorem dX8_readOne_7 : decode cX8_readOne 7 = .ok (.istore_n 1, 1) := by decide +kernel
theorem dX8_readOne_8 : decode cX8_readOne 8 = .ok (.iload_n 1, 1) := by decide +kernel
theorem dX8_readOne_9 : decode cX8_readOne 9 = .ok (.ifCond .ge 9, 3) := by decide +kernel
theorem dX8_readOne_12 : decode cX8_readOne 12 = .ok (.aload_n 0, 1) := by decide +kernel
theorem dX8_readOne_13 : decode cX8_readOne 13 = .ok (.iconst 2, 1) := by decide +kernel
theorem dX8_readOne_14 : decode cX8_readOne 14 = .ok (.invokevirtual 103, 3) := by decide +kernel
theorem dX8_readOne_17 : decode cX8_readOne 17 = .ok (.return_, 1) := by decide +kernel
theorem dX8_readOne_18 : decode cX8_readOne 18 = .ok (.aload_n 0, 1) := by decide +kernel
theorem dX8_readOne_19 : decode cX8_readOne 19 = .ok (.invokevirtual 107, 3) := by decide +kernel
theorem dX8_readOne_22 : decode cX8_readOne 22 = .ok (.iconst 3, 1) := by decide +kernel
theorem dX8_readOne_23 : decode cX8_readOne 23 = .ok (.aload_n 0, 1) := by decide +kernel
theorem dX8_readOne_24 : decode cX8_readOne 24 = .ok (.getfield 121, 3) := by decide +kernel
theorem dX8_readOne_27 : decode cX8_readOne 27 = .ok (.imul, 1) := by decide +kernel
theorem dX8_readOne_28 : decode cX8_readOne 28 = .ok (.istore_n 2, 1) := by decide +kernel
theorem dX8_readOne_29 : decode cX8_readOne 29 = .ok (.aload_n 0, 1) := by decide +kernel
theorem dX8_readOne_30 : decode cX8_readOne 30 = .ok (.getfield 19, 3) := by decide +kernel
theorem dX8_readOne_33 : decode cX8_readOne 33 = .ok (.iload_n 2, 1) := by decide +kernel
theorem dX8_readOne_34 : decode cX8_readOne 34 = .ok (.iload_n 1, 1) := by decide +kernel
theorem dX8_readOne_35 : decode cX8_readOne 35 = .ok (.iastore, 1) := by decide +kernel
theorem dX8_readOne_36 : decode cX8_readOne 36 = .ok (.aload_n 0, 1) := by decide +kernel
theorem dX8_readOne_37 : decode cX8_readOne 37 = .ok (.getfield 19, 3) := by decide +kernel
theorem dX8_readOne_40 : decode cX8_readOne 40 = .ok (.iload_n 2, 1) := by decide +kernel
theorem dX8_readOne_41 : decode cX8_readOne 41 = .ok (.iconst 1, 1) := by decide +kernel
theorem dX8_readOne_42 : decode cX8_readOne 42 = .ok (.iadd, 1) := by decide +kernel
theorem dX8_readOne_43 : decode cX8_readOne 43 = .ok (.aload_n 0, 1) := by decide +kernel
theorem dX8_readOne_44 : decode cX8_readOne 44 = .ok (.iconst 0, 1) := by decide +kernel
theorem dX8_readOne_45 : decode cX8_readOne 45 = .ok (.bipush 9, 2) := by decide +kernel
theorem dX8_readOne_47 : decode cX8_readOne 47 = .ok (.iconst 0, 1) := by decide +kernel
theorem dX8_readOne_48 : decode cX8_readOne 48 = .ok (.invokevirtual 110, 3) := by decide +kernel
theorem dX8_readOne_51 : decode cX8_readOne 51 = .ok (.iastore, 1) := by decide +kernel
theorem dX8_readOne_52 : decode cX8_readOne 52 = .ok (.aload_n 0, 1) := by decide +kernel
theorem dX8_readOne_53 : decode cX8_readOne 53 = .ok (.getfield 19, 3) := by decide +kernel
theorem dX8_readOne_56 : decode cX8_readOne 56 = .ok (.iload_n 2, 1) := by decide +kernel
theorem dX8_readOne_57 : decode cX8_readOne 57 = .ok (.iconst 2, 1) := by decide +kernel
theorem dX8_readOne_58 : decode cX8_readOne 58 = .ok (.iadd, 1) := by decide +kernel
theorem dX8_readOne_59 : decode cX8_readOne 59 = .ok (.aload_n 0, 1) := by decide +kernel
theorem dX8_readOne_60 : decode cX8_readOne 60 = .ok (.iconst 0, 1) := by decide +kernel
theorem dX8_readOne_61 : decode cX8_readOne 61 = .ok (.bipush 50, 2) := by decide +kernel
theorem dX8_readOne_63 : decode cX8_readOne 63 = .ok (.iconst 0, 1) := by decide +kernel
theorem dX8_readOne_64 : decode cX8_readOne 64 = .ok (.invokevirtual 110, 3) := by decide +kernel
theorem dX8_readOne_67 : decode cX8_readOne 67 = .ok (.iastore, 1) := by decide +kernel
theorem dX8_readOne_68 : decode cX8_readOne 68 = .ok (.aload_n 0, 1) := by decide +kernel
theorem dX8_readOne_69 : decode cX8_readOne 69 = .ok (.dup, 1) := by decide +kernel
theorem dX8_readOne_70 : decode cX8_readOne 70 = .ok (.getfield 121, 3) := by decide +kernel
theorem dX8_readOne_73 : decode cX8_readOne 73 = .ok (.iconst 1, 1) := by decide +kernel
theorem dX8_readOne_74 : decode cX8_readOne 74 = .ok (.iadd, 1) := by decide +kernel
theorem dX8_readOne_75 : decode cX8_readOne 75 = .ok (.putfield 121, 3) := by decide +kernel
theorem dX8_readOne_78 : decode cX8_readOne 78 = .ok (.return_, 1) := by decide +kernel
theorem dX8_readCoin_0 : decode cX8_readCoin 0 = .ok (.iconst 4, 1) := by decide +kernel
theorem dX8_readCoin_1 : decode cX8_readCoin 1 = .ok (.aload_n 0, 1) := by decide +kernel
theorem dX8_readCoin_2 : decode cX8_readCoin 2 = .ok (.getfield 124, 3) := by decide +kernel
theorem dX8_readCoin_5 : decode cX8_readCoin 5 = .ok (.imul, 1) := by decide +kernel
theorem dX8_readCoin_6 : decode cX8_readCoin 6 = .ok (.istore_n 1, 1) := by decide +kernel
theorem dX8_readCoin_7 : decode cX8_readCoin 7 = .ok (.aload_n 0, 1) := by decide +kernel
theorem dX8_readCoin_8 : decode cX8_readCoin 8 = .ok (.getfield 16, 3) := by decide +kernel
theorem dX8_readCoin_11 : decode cX8_readCoin 11 = .ok (.iload_n 1, 1) := by decide +kernel
theorem dX8_readCoin_12 : decode cX8_readCoin 12 = .ok (.aload_n 0, 1) := by decide +kernel
theorem dX8_readCoin_13 : decode cX8_readCoin 13 = .ok (.iconst 1, 1) := by decide +kernel
theorem dX8_readCoin_14 : decode cX8_readCoin 14 = .ok (.iconst 3, 1) := by decide +kernel
theorem dX8_readCoin_15 : decode cX8_readCoin 15 = .ok (.iconst 0, 1) := by decide +kernel
theorem dX8_readCoin_16 : decode cX8_readCoin 16 = .ok (.invokevirtual 110, 3) := by decide +kernel
theorem dX8_readCoin_19 : decode cX8_readCoin 19 = .ok (.iastore, 1) := by decide +kernel
theorem dX8_readCoin_20 : decode cX8_readCoin 20 = .ok (.aload_n 0, 1) := by decide +kernel
theorem dX8_readCoin_21 : decode cX8_readCoin 21 = .ok (.getfield 16, 3) := by decide +kernel
theorem dX8_readCoin_24 : decode cX8_readCoin 24 = .ok (.iload_n 1, 1) := by decide +kernel
theorem dX8_readCoin_25 : decode cX8_readCoin 25 = .ok (.iconst 1, 1) := by decide +kernel
theorem dX8_readCoin_26 : decode cX8_readCoin 26 = .ok (.iadd, 1) := by decide +kernel
theorem dX8_readCoin_27 : decode cX8_readCoin 27 = .ok (.aload_n 0, 1) := by decide +kernel
theorem dX8_readCoin_28 : decode cX8_readCoin 28 = .ok (.iconst 0, 1) := by decide +kernel
theorem dX8_readCoin_29 : decode cX8_readCoin 29 = .ok (.invokevirtual 127, 3) := by decide +kernel
theorem dX8_readCoin_32 : decode cX8_readCoin 32 = .ok (.iastore, 1) := by decide +kernel
theorem dX8_readCoin_33 : decode cX8_readCoin 33 = .ok (.aload_n 0, 1) := by decide +kernel
theorem dX8_readCoin_34 : decode cX8_readCoin 34 = .ok (.getfield 73, 3) := by decide +kernel
theorem dX8_readCoin_37 : decode cX8_readCoin 37 = .ok (.ifCond .ne 38, 3) := by decide +kernel
theorem dX8_readCoin_40 : decode cX8_readCoin 40 = .ok (.aload_n 0, 1) := by decide +kernel
theorem dX8_readCoin_41 : decode cX8_readCoin 41 = .ok (.getfield 82, 3) := by decide +kernel
theorem dX8_readCoin_44 : decode cX8_readCoin 44 = .ok (.iconst 1, 1) := by decide +kernel
theorem dX8_readCoin_45 : decode cX8_readCoin 45 = .ok (.if_icmp .ne 30, 3) := by decide +kernel
theorem dX8_readCoin_48 : decode cX8_readCoin 48 = .ok (.aload_n 0, 1) := by decide +kernel
theorem dX8_readCoin_49 : decode cX8_readCoin 49 = .ok (.invokevirtual 117, 3) := by decide +kernel
theorem dX8_readCoin_52 : decode cX8_readCoin 52 = .ok (.bipush 6, 2) := by decide +kernel
theorem dX8_readCoin_54 : decode cX8_readCoin 54 = .ok (.if_icmp .eq 8, 3) := by decide +kernel
theorem dX8_readCoin_57 : decode cX8_readCoin 57 = .ok (.aload_n 0, 1) := by decide +kernel
theorem dX8_readCoin_58 : decode cX8_readCoin 58 = .ok (.iconst 2, 1) := by decide +kernel
theorem dX8_readCoin_59 : decode cX8_readCoin 59 = .ok (.invokevirtual 103, 3) := by decide +kernel
theorem dX8_readCoin_62 : decode cX8_readCoin 62 = .ok (.aload_n 0, 1) := by decide +kernel
theorem dX8_readCoin_63 : decode cX8_readCoin 63 = .ok (.getfield 16, 3) := by decide +kernel
theorem dX8_readCoin_66 : decode cX8_readCoin 66 = .ok (.iload_n 1, 1) := by decide +kernel
theorem dX8_readCoin_67 : decode cX8_readCoin 67 = .ok (.iconst 2, 1) := by decide +kernel
theorem dX8_readCoin_68 : decode cX8_readCoin 68 = .ok (.iadd, 1) := by decide +kernel
theorem dX8_readCoin_69 : decode cX8_readCoin 69 = .ok (.iconst 1, 1) := by decide +kernel
theorem dX8_readCoin_70 : decode cX8_readCoin 70 = .ok (.iastore, 1) := by decide +kernel
theorem dX8_readCoin_71 : decode cX8_readCoin 71 = .ok (.aload_n 0, 1) := by decide +kernel
theorem dX8_readCoin_72 : decode cX8_readCoin 72 = .ok (.invokevirtual 107, 3) := by decide +kernel
theorem dX8_readCoin_75 : decode cX8_readCoin 75 = .ok (.aload_n 0, 1) := by decide +kernel
theorem dX8_readCoin_76 : decode cX8_readCoin 76 = .ok (.dup, 1) := by decide +kernel
theorem dX8_readCoin_77 : decode cX8_readCoin 77 = .ok (.getfield 124, 3) := by decide +kernel
theorem dX8_readCoin_80 : decode cX8_readCoin 80 = .ok (.iconst 1, 1) := by decide +kernel
theorem dX8_readCoin_81 : decode cX8_readCoin 81 = .ok (.iadd, 1) := by decide +kernel
theorem dX8_readCoin_82 : decode cX8_readCoin 82 = .ok (.putfield 124, 3) := by decide +kernel
theorem dX8_readCoin_85 : decode cX8_readCoin 85 = .ok (.return_, 1) := by decide +kernel
theorem dX8_readTalk_0 : decode cX8_readTalk 0 = .ok (.bipush 24, 2) := by decide +kernel
theorem dX8_readTalk_2 : decode cX8_readTalk 2 = .ok (.iconst 3, 1) := by decide +kernel
theorem dX8_readTalk_3 : decode cX8_readTalk 3 = .ok (.aload_n 0, 1) := by decide +kernel
theorem dX8_readTalk_4 : decode cX8_readTalk 4 = .ok (.getfield 16, 3) := by decide +kernel
theorem dX8_readTalk_7 : decode cX8_readTalk 7 = .ok (.bipush 54, 2) := by decide +kernel
theorem dX8_readTalk_9 : decode cX8_readTalk 9 = .ok (.iaload, 1) := by decide +kernel
theorem dX8_readTalk_10 : decode cX8_readTalk 10 = .ok (.imul, 1) := by decide +kernel
theorem dX8_readTalk_11 : decode cX8_readTalk 11 = .ok (.iadd, 1) := by decide +kernel
theorem dX8_readTalk_12 : decode cX8_readTalk 12 = .ok (.istore_n 1, 1) := by decide +kernel
theorem dX8_readTalk_13 : decode cX8_readTalk 13 = .ok (.aload_n 0, 1) := by decide +kernel
theorem dX8_readTalk_14 : decode cX8_readTalk 14 = .ok (.getfield 16, 3) := by decide +kernel
theorem dX8_readTalk_17 : decode cX8_readTalk 17 = .ok (.iload_n 1, 1) := by decide +kernel
theorem dX8_readTalk_18 : decode cX8_readTalk 18 = .ok (.aload_n 0, 1) := by decide +kernel
theorem dX8_readTalk_19 : decode cX8_readTalk 19 = .ok (.iconst 0, 1) := by decide +kernel
theorem dX8_readTalk_20 : decode cX8_readTalk 20 = .ok (.bipush 11, 2) := by decide +kernel
theorem dX8_readTalk_22 : decode cX8_readTalk 22 = .ok (.iconst 0, 1) := by decide +kernel
theorem dX8_readTalk_23 : decode cX8_readTalk 23 = .ok (.invokevirtual 110, 3) := by decide +kernel
theorem dX8_readTalk_26 : decode cX8_readTalk 26 = .ok (.iastore, 1) := by decide +kernel
theorem dX8_readTalk_27 : decode cX8_readTalk 27 = .ok (.aload_n 0, 1) := by decide +kernel
theorem dX8_readTalk_28 : decode cX8_readTalk 28 = .ok (.getfield 16, 3) := by decide +kernel
theorem dX8_readTalk_31 : decode cX8_readTalk 31 = .ok (.iload_n 1, 1) := by decide +kernel
theorem dX8_readTalk_32 : decode cX8_readTalk 32 = .ok (.iconst 1, 1) := by decide +kernel
theorem dX8_readTalk_33 : decode cX8_readTalk 33 = .ok (.iadd, 1) := by decide +kernel
theorem dX8_readTalk_34 : decode cX8_readTalk 34 = .ok (.aload_n 0, 1) := by decide +kernel
theorem dX8_readTalk_35 : decode cX8_readTalk 35 = .ok (.iconst 0, 1) := by decide +kernel
theorem dX8_readTalk_36 : decode cX8_readTalk 36 = .ok (.invokevirtual 127, 3) := by decide +kernel
theorem dX8_readTalk_39 : decode cX8_readTalk 39 = .ok (.iastore, 1) := by decide +kernel
theorem dX8_readTalk_40 : decode cX8_readTalk 40 = .ok (.aload_n 0, 1) := by decide +kernel
theorem dX8_readTalk_41 : decode cX8_readTalk 41 = .ok (.getfield 16, 3) := by decide +kernel
theorem dX8_readTalk_44 : decode cX8_readTalk 44 = .ok (.iload_n 1, 1) := by decide +kernel
theorem dX8_readTalk_45 : decode cX8_readTalk 45 = .ok (.iconst 2, 1) := by decide +kernel
theorem dX8_readTalk_46 : decode cX8_readTalk 46 = .ok (.iadd, 1) := by decide +kernel
theorem dX8_readTalk_47 : decode cX8_readTalk 47 = .ok (.aload_n 0, 1) := by decide +kernel
theorem dX8_readTalk_48 : decode cX8_readTalk 48 = .ok (.iconst 1, 1) := by decide +kernel
theorem dX8_readTalk_49 : decode cX8_readTalk 49 = .ok (.aload_n 0, 1) := by decide +kernel
theorem dX8_readTalk_50 : decode cX8_readTalk 50 = .ok (.getfield 16, 3) := by decide +kernel
theorem dX8_readTalk_53 : decode cX8_readTalk 53 = .ok (.iload_n 1, 1) := by decide +kernel
theorem dX8_readTalk_54 : decode cX8_readTalk 54 = .ok (.iconst 1, 1) := by decide +kernel
theorem dX8_readTalk_55 : decode cX8_readTalk 55 = .ok (.iadd, 1) := by decide +kernel
theorem dX8_readTalk_56 : decode cX8_readTalk 56 = .ok (.iaload, 1) := by decide +kernel
theorem dX8_readTalk_57 : decode cX8_readTalk 57 = .ok (.ishl, 1) := by decide +kernel
theorem dX8_readTalk_58 : decode cX8_readTalk 58 = .ok (.invokevirtual 127, 3) := by decide +kernel
theorem dX8_readTalk_61 : decode cX8_readTalk 61 = .ok (.iastore, 1) := by decide +kernel
theorem dX8_readTalk_62 : decode cX8_readTalk 62 = .ok (.aload_n 0, 1) := by decide +kernel
theorem dX8_readTalk_63 : decode cX8_readTalk 63 = .ok (.getfield 16, 3) := by decide +kernel
theorem dX8_readTalk_66 : decode cX8_readTalk 66 = .ok (.bipush 54, 2) := by decide +kernel
theorem dX8_readTalk_68 : decode cX8_readTalk 68 = .ok (.dup2, 1) := by decide +kernel
theorem dX8_readTalk_69 : decode cX8_readTalk 69 = .ok (.iaload, 1) := by decide +kernel
theorem dX8_readTalk_70 : decode cX8_readTalk 70 = .ok (.iconst 1, 1) := by decide +kernel
theorem dX8_readTalk_71 : decode cX8_readTalk 71 = .ok (.iadd, 1) := by decide +kernel
theorem dX8_readTalk_72 : decode cX8_readTalk 72 = .ok (.iastore, 1) := by decide +kernel
theorem dX8_readTalk_73 : decode cX8_readTalk 73 = .ok (.return_, 1) := by decide +kernel
theorem dX8_hasRoom_0 : decode cX8_hasRoom 0 = .ok (.iload_n 1, 1) := by decide +kernel
theorem dX8_hasRoom_1 : decode cX8_hasRoom 1 = .ok (.iconst 2, 1) := by decide +kernel
theorem dX8_hasRoom_2 : decode cX8_hasRoom 2 = .ok (.if_icmp .ne 12, 3) := by decide +kernel
theorem dX8_hasRoom_5 : decode cX8_hasRoom 5 = .ok (.aload_n 0, 1) := by decide +kernel
theorem dX8_hasRoom_6 : decode cX8_hasRoom 6 = .ok (.getfield 121, 3) := by decide +kernel
theorem dX8_hasRoom_9 : decode cX8_hasRoom 9 = .ok (.bipush 6, 2) := by decide +kernel
theorem dX8_hasRoom_11 : decode cX8_hasRoom 11 = .ok (.if_icmp .eq 34, 3) := by decide +kernel
theorem dX8_hasRoom_14 : decode cX8_hasRoom 14 = .ok (.iload_n 1, 1) := by decide +kernel
theorem dX8_hasRoom_15 : decode cX8_hasRoom 15 = .ok (.iconst 3, 1) := by decide +kernel
theorem dX8_hasRoom_16 : decode cX8_hasRoom 16 = .ok (.if_icmp .ne 12, 3) := by decide +kernel
theorem dX8_hasRoom_19 : decode cX8_hasRoom 19 = .ok (.aload_n 0, 1) := by decide +kernel
theorem dX8_hasRoom_20 : decode cX8_hasRoom 20 = .ok (.getfield 124, 3) := by decide +kernel
theorem dX8_hasRoom_23 : decode cX8_hasRoom 23 = .ok (.bipush 6, 2) := by decide +kernel
theorem dX8_hasRoom_25 : decode cX8_hasRoom 25 = .ok (.if_icmp .eq 20, 3) := by decide +kernel
theorem dX8_hasRoom_28 : decode cX8_hasRoom 28 = .ok (.iload_n 1, 1) := by decide +kernel
theorem dX8_hasRoom_29 : decode cX8_hasRoom 29 = .ok (.iconst 5, 1) := by decide +kernel
theorem dX8_hasRoom_30 : decode cX8_hasRoom 30 = .ok (.if_icmp .ne 19, 3) := by decide +kernel
theorem dX8_hasRoom_33 : decode cX8_hasRoom 33 = .ok (.aload_n 0, 1) := by decide +kernel
theorem dX8_hasRoom_34 : decode cX8_hasRoom 34 = .ok (.getfield 16, 3) := by decide +kernel
theorem dX8_hasRoom_37 : decode cX8_hasRoom 37 = .ok (.bipush 54, 2) := by decide +kernel
theorem dX8_hasRoom_39 : decode cX8_hasRoom 39 = .ok (.iaload, 1) := by decide +kernel
theorem dX8_hasRoom_40 : decode cX8_hasRoom 40 = .ok (.bipush 10, 2) := by decide +kernel
theorem dX8_hasRoom_42 : decode cX8_hasRoom 42 = .ok (.if_icmp .ne 7, 3) := by decide +kernel
theorem dX8_hasRoom_45 : decode cX8_hasRoom 45 = .ok (.iconst 1, 1) := by decide +kernel
theorem dX8_hasRoom_46 : decode cX8_hasRoom 46 = .ok (.goto 4, 3) := by decide +kernel
theorem dX8_hasRoom_49 : decode cX8_hasRoom 49 = .ok (.iconst 0, 1) := by decide +kernel
theorem dX8_hasRoom_50 : decode cX8_hasRoom 50 = .ok (.istore_n 2, 1) := by decide +kernel
theorem dX8_hasRoom_51 : decode cX8_hasRoom 51 = .ok (.iload_n 2, 1) := by decide +kernel
theorem dX8_hasRoom_52 : decode cX8_hasRoom 52 = .ok (.ifCond .eq 8, 3) := by decide +kernel
theorem dX8_hasRoom_55 : decode cX8_hasRoom 55 = .ok (.aload_n 0, 1) := by decide +kernel
theorem dX8_hasRoom_56 : decode cX8_hasRoom 56 = .ok (.iconst 5, 1) := by decide +kernel
theorem dX8_hasRoom_57 : decode cX8_hasRoom 57 = .ok (.invokevirtual 103, 3) := by decide +kernel
theorem dX8_hasRoom_60 : decode cX8_hasRoom 60 = .ok (.iload_n 1, 1) := by decide +kernel
theorem dX8_hasRoom_61 : decode cX8_hasRoom 61 = .ok (.ifCond .eq 8, 3) := by decide +kernel
theorem dX8_hasRoom_64 : decode cX8_hasRoom 64 = .ok (.iload_n 1, 1) := by decide +kernel
theorem dX8_hasRoom_65 : decode cX8_hasRoom 65 = .ok (.iconst 1, 1) := by decide +kernel
theorem dX8_hasRoom_66 : decode cX8_hasRoom 66 = .ok (.if_icmp .ne 20, 3) := by decide +kernel
theorem dX8_hasRoom_69 : decode cX8_hasRoom 69 = .ok (.aload_n 0, 1) := by decide +kernel
theorem dX8_hasRoom_70 : decode cX8_hasRoom 70 = .ok (.getfield 130, 3) := by decide +kernel
theorem dX8_hasRoom_73 : decode cX8_hasRoom 73 = .ok (.iload_n 1, 1) := by decide +kernel
theorem dX8_hasRoom_74 : decode cX8_hasRoom 74 = .ok (.ishr, 1) := by decide +kernel
theorem dX8_hasRoom_75 : decode cX8_hasRoom 75 = .ok (.iconst 1, 1) := by decide +kernel
theorem dX8_hasRoom_76 : decode cX8_hasRoom 76 = .ok (.iand, 1) := by decide +kernel
theorem dX8_hasRoom_77 : decode cX8_hasRoom 77 = .ok (.iconst 1, 1) := by decide +kernel
theorem dX8_hasRoom_78 : decode cX8_hasRoom 78 = .ok (.if_icmp .ne 8, 3) := by decide +kernel
theorem dX8_hasRoom_81 : decode cX8_hasRoom 81 = .ok (.aload_n 0, 1) := by decide +kernel
theorem dX8_hasRoom_82 : decode cX8_hasRoom 82 = .ok (.iconst 4, 1) := by decide +kernel
theorem dX8_hasRoom_83 : decode cX8_hasRoom 83 = .ok (.invokevirtual 103, 3) := by decide +kernel
theorem dX8_hasRoom_86 : decode cX8_hasRoom 86 = .ok (.aload_n 0, 1) := by decide +kernel
theorem dX8_hasRoom_87 : decode cX8_hasRoom 87 = .ok (.dup, 1) := by decide +kernel
theorem dX8_hasRoom_88 : decode cX8_hasRoom 88 = .ok (.getfield 130, 3) := by decide +kernel
theorem dX8_hasRoom_91 : decode cX8_hasRoom 91 = .ok (.iconst 1, 1) := by decide +kernel
theorem dX8_hasRoom_92 : decode cX8_hasRoom 92 = .ok (.iload_n 1, 1) := by decide +kernel
theorem dX8_hasRoom_93 : decode cX8_hasRoom 93 = .ok (.ishl, 1) := by decide +kernel
theorem dX8_hasRoom_94 : decode cX8_hasRoom 94 = .ok (.ior, 1) := by decide +kernel
theorem dX8_hasRoom_95 : decode cX8_hasRoom 95 = .ok (.putfield 130, 3) := by decide +kernel
theorem dX8_hasRoom_98 : decode cX8_hasRoom 98 = .ok (.aload_n 0, 1) := by decide +kernel
theorem dX8_hasRoom_99 : decode cX8_hasRoom 99 = .ok (.invokevirtual 107, 3) := by decide +kernel
theorem dX8_hasRoom_102 : decode cX8_hasRoom 102 = .ok (.aload_n 0, 1) := by decide +kernel
theorem dX8_hasRoom_103 : decode cX8_hasRoom 103 = .ok (.getfield 73, 3) := by decide +kernel
theorem dX8_hasRoom_106 : decode cX8_hasRoom 106 = .ok (.ifCond .ne 7, 3) := by decide +kernel
theorem dX8_hasRoom_109 : decode cX8_hasRoom 109 = .ok (.iconst 1, 1) := by decide +kernel
theorem dX8_hasRoom_110 : decode cX8_hasRoom 110 = .ok (.goto 4, 3) := by decide +kernel
theorem dX8_hasRoom_113 : decode cX8_hasRoom 113 = .ok (.iconst 0, 1) := by decide +kernel
theorem dX8_hasRoom_114 : decode cX8_hasRoom 114 = .ok (.ireturn, 1) := by decide +kernel
theorem dX8_readMore_0 : decode cX8_readMore 0 = .ok (.iload_n 1, 1) := by decide +kernel
theorem dX8_readMore_1 : decode cX8_readMore 1 = .ok (.ifCond .ne 20, 3) := by decide +kernel
theorem dX8_readMore_4 : decode cX8_readMore 4 = .ok (.aload_n 0, 1) := by decide +kernel
theorem dX8_readMore_5 : decode cX8_readMore 5 = .ok (.getfield 16, 3) := by decide +kernel
theorem dX8_readMore_8 : decode cX8_readMore 8 = .ok (.bipush 55, 2) := by decide +kernel
theorem dX8_readMore_10 : decode cX8_readMore 10 = .ok (.aload_n 0, 1) := by decide +kernel
theorem dX8_readMore_11 : decode cX8_readMore 11 = .ok (.iconst 0, 1) := by decide +kernel
theorem dX8_readMore_12 : decode cX8_readMore 12 = .ok (.iconst 2, 1) := by decide +kernel
theorem dX8_readMore_13 : decode cX8_readMore 13 = .ok (.iconst 0, 1) := by decide +kernel
theorem dX8_readMore_14 : decode cX8_readMore 14 = .ok (.invokevirtual 110, 3) := by decide +kernel
theorem dX8_readMore_17 : decode cX8_readMore 17 = .ok (.iastore, 1) := by decide +kernel
theorem dX8_readMore_18 : decode cX8_readMore 18 = .ok (.goto 87, 3) := by decide +kernel
theorem dX8_readMore_21 : decode cX8_readMore 21 = .ok (.iload_n 1, 1) := by decide +kernel
theorem dX8_readMore_22 : decode cX8_readMore 22 = .ok (.iconst 1, 1) := by decide +kernel
theorem dX8_readMore_23 : decode cX8_readMore 23 = .ok (.if_icmp .ne 23, 3) := by decide +kernel
theorem dX8_readMore_26 : decode cX8_readMore 26 = .ok (.aload_n 0, 1) := by decide +kernel
theorem dX8_readMore_27 : decode cX8_readMore 27 = .ok (.getfield 16, 3) := by decide +kernel
theorem dX8_readMore_30 : decode cX8_readMore 30 = .ok (.bipush 56, 2) := by decide +kernel
theorem dX8_readMore_32 : decode cX8_readMore 32 = .ok (.aload_n 0, 1) := by decide +kernel
theorem dX8_readMore_33 : decode cX8_readMore 33 = .ok (.iconst 0, 1) := by decide +kernel
theorem dX8_readMore_34 : decode cX8_readMore 34 = .ok (.bipush 9, 2) := by decide +kernel
theorem dX8_readMore_36 : decode cX8_readMore 36 = .ok (.iconst 0, 1) := by decide +kernel
theorem dX8_readMore_37 : decode cX8_readMore 37 = .ok (.invokevirtual 110, 3) := by decide +kernel
theorem dX8_readMore_40 : decode cX8_readMore 40 = .ok (.iconst 1, 1) := by decide +kernel
theorem dX8_readMore_41 : decode cX8_readMore 41 = .ok (.isub, 1) := by decide +kernel
theorem dX8_readMore_42 : decode cX8_readMore 42 = .ok (.iastore, 1) := by decide +kernel
theorem dX8_readMore_43 : decode cX8_readMore 43 = .ok (.goto 62, 3) := by decide +kernel
theorem dX8_readMore_46 : decode cX8_readMore 46 = .ok (.aload_n 0, 1) := by decide +kernel
theorem dX8_readMore_47 : decode cX8_readMore 47 = .ok (.iconst 0, 1) := by decide +kernel
theorem dX8_readMore_48 : decode cX8_readMore 48 = .ok (.iconst 5, 1) := by decide +kernel
theorem dX8_readMore_49 : decode cX8_readMore 49 = .ok (.aload_n 0, 1) := by decide +kernel
theorem dX8_readMore_50 : decode cX8_readMore 50 = .ok (.getfield 133, 3) := by decide +kernel
theorem dX8_readMore_53 : decode cX8_readMore 53 = .ok (.invokevirtual 110, 3) := by decide +kernel
theorem dX8_readMore_56 : decode cX8_readMore 56 = .ok (.istore_n 2, 1) := by decide +kernel
theorem dX8_readMore_57 : decode cX8_readMore 57 = .ok (.aload_n 0, 1) := by decide +kernel
theorem dX8_readMore_58 : decode cX8_readMore 58 = .ok (.dup, 1) := by decide +kernel
theorem dX8_readMore_59 : decode cX8_readMore 59 = .ok (.getfield 133, 3) := by decide +kernel
theorem dX8_readMore_62 : decode cX8_readMore 62 = .ok (.iconst 1, 1) := by decide +kernel
theorem dX8_readMore_63 : decode cX8_readMore 63 = .ok (.iload_n 2, 1) := by decide +kernel
theorem dX8_readMore_64 : decode cX8_readMore 64 = .ok (.ishl, 1) := by decide +kernel
theorem dX8_readMore_65 : decode cX8_readMore 65 = .ok (.ior, 1) := by decide +kernel
theorem dX8_readMore_66 : decode cX8_readMore 66 = .ok (.putfield 133, 3) := by decide +kernel
theorem dX8_readMore_69 : decode cX8_readMore 69 = .ok (.aload_n 0, 1) := by decide +kernel
theorem dX8_readMore_70 : decode cX8_readMore 70 = .ok (.iload_n 2, 1) := by decide +kernel
theorem dX8_readMore_71 : decode cX8_readMore 71 = .ok (.aload_n 0, 1) := by decide +kernel
theorem dX8_readMore_72 : decode cX8_readMore 72 = .ok (.getfield 136, 3) := by decide +kernel
theorem dX8_readMore_75 : decode cX8_readMore 75 = .ok (.if_icmp .le 7, 3) := by decide +kernel
theorem dX8_readMore_78 : decode cX8_readMore 78 = .ok (.iload_n 2, 1) := by decide +kernel
theorem dX8_readMore_79 : decode cX8_readMore 79 = .ok (.goto 7, 3) := by decide +kernel
theorem dX8_readMore_82 : decode cX8_readMore 82 = .ok (.aload_n 0, 1) := by decide +kernel
theorem dX8_readMore_83 : decode cX8_readMore 83 = .ok (.getfield 136, 3) := by decide +kernel
theorem dX8_readMore_86 : decode cX8_readMore 86 = .ok (.putfield 136, 3) := by decide +kernel
theorem dX8_readMore_89 : decode cX8_readMore 89 = .ok (.aload_n 0, 1) := by decide +kernel
theorem dX8_readMore_90 : decode cX8_readMore 90 = .ok (.getfield 22, 3) := by decide +kernel
theorem dX8_readMore_93 : decode cX8_readMore 93 = .ok (.iload_n 2, 1) := by decide +kernel
theorem dX8_readMore_94 : decode cX8_readMore 94 = .ok (.iconst 1, 1) := by decide +kernel
theorem dX8_readMore_95 : decode cX8_readMore 95 = .ok (.aload_n 0, 1) := by decide +kernel
theorem dX8_readMore_96 : decode cX8_readMore 96 = .ok (.iconst 0, 1) := by decide +kernel
theorem dX8_readMore_97 : decode cX8_readMore 97 = .ok (.bipush 11, 2) := by decide +kernel
theorem dX8_readMore_99 : decode cX8_readMore 99 = .ok (.iconst 0, 1) := by decide +kernel
theorem dX8_readMore_100 : decode cX8_readMore 100 = .ok (.invokevirtual 110, 3) := by decide +kernel
theorem dX8_readMore_103 : decode cX8_readMore 103 = .ok (.iadd, 1) := by decide +kernel
theorem dX8_readMore_104 : decode cX8_readMore 104 = .ok (.iastore, 1) := by decide +kernel
theorem dX8_readMore_105 : decode cX8_readMore 105 = .ok (.return_, 1) := by decide +kernel
theorem dX8_readLine_0 : decode cX8_readLine 0 = .ok (.aload_n 0, 1) := by decide +kernel
theorem dX8_readLine_1 : decode cX8_readLine 1 = .ok (.invokevirtual 117, 3) := by decide +kernel
theorem dX8_readLine_4 : decode cX8_readLine 4 = .ok (.istore_n 1, 1) := by decide +kernel
theorem dX8_readLine_5 : decode cX8_readLine 5 = .ok (.iload_n 1, 1) := by decide +kernel
theorem dX8_readLine_6 : decode cX8_readLine 6 = .ok (.i2l, 1) := by decide +kernel
theorem dX8_readLine_7 : decode cX8_readLine 7 = .ok (.lconst 0, 1) := by decide +kernel
theorem dX8_readLine_8 : decode cX8_readLine 8 = .ok (.ldc2_w 139, 3) := by decide +kernel
theorem dX8_readLine_11 : decode cX8_readLine 11 = .ok (.invokestatic 69, 3) := by decide +kernel
theorem dX8_readLine_14 : decode cX8_readLine 14 = .ok (.ifCond .ne 9, 3) := by decide +kernel
theorem dX8_readLine_17 : decode cX8_readLine 17 = .ok (.aload_n 0, 1) := by decide +kernel
theorem dX8_readLine_18 : decode cX8_readLine 18 = .ok (.iconst 2, 1) := by decide +kernel
theorem dX8_readLine_19 : decode cX8_readLine 19 = .ok (.invokevirtual 103, 3) := by decide +kernel
theorem dX8_readLine_22 : decode cX8_readLine 22 = .ok (.return_, 1) := by decide +kernel
theorem dX8_readLine_23 : decode cX8_readLine 23 = .ok (.aload_n 0, 1) := by decide +kernel
theorem dX8_readLine_24 : decode cX8_readLine 24 = .ok (.iload_n 1, 1) := by decide +kernel
theorem dX8_readLine_25 : decode cX8_readLine 25 = .ok (.invokevirtual 141, 3) := by decide +kernel
theorem dX8_readLine_28 : decode cX8_readLine 28 = .ok (.ifCond .eq 44, 3) := by decide +kernel
theorem dX8_readLine_31 : decode cX8_readLine 31 = .ok (.iload_n 1, 1) := by decide +kernel
theorem dX8_readLine_32 : decode cX8_readLine 32 = .ok (.iconst 2, 1) := by decide +kernel
theorem dX8_readLine_33 : decode cX8_readLine 33 = .ok (.if_icmp .ne 10, 3) := by decide +kernel
theorem dX8_readLine_36 : decode cX8_readLine 36 = .ok (.aload_n 0, 1) := by decide +kernel
theorem dX8_readLine_37 : decode cX8_readLine 37 = .ok (.invokevirtual 145, 3) := by decide +kernel
theorem dX8_readLine_40 : decode cX8_readLine 40 = .ok (.goto 32, 3) := by decide +kernel
theorem dX8_readLine_43 : decode cX8_readLine 43 = .ok (.iload_n 1, 1) := by decide +kernel
theorem dX8_readLine_44 : decode cX8_readLine 44 = .ok (.iconst 3, 1) := by decide +kernel
theorem dX8_readLine_45 : decode cX8_readLine 45 = .ok (.if_icmp .ne 10, 3) := by decide +kernel
theorem dX8_readLine_48 : decode cX8_readLine 48 = .ok (.aload_n 0, 1) := by decide +kernel
theorem dX8_readLine_49 : decode cX8_readLine 49 = .ok (.invokevirtual 148, 3) := by decide +kernel
theorem dX8_readLine_52 : decode cX8_readLine 52 = .ok (.goto 20, 3) := by decide +kernel
theorem dX8_readLine_55 : decode cX8_readLine 55 = .ok (.iload_n 1, 1) := by decide +kernel
theorem dX8_readLine_56 : decode cX8_readLine 56 = .ok (.iconst 5, 1) := by decide +kernel
theorem dX8_readLine_57 : decode cX8_readLine 57 = .ok (.if_icmp .ne 10, 3) := by decide +kernel
theorem dX8_readLine_60 : decode cX8_readLine 60 = .ok (.aload_n 0, 1) := by decide +kernel
theorem dX8_readLine_61 : decode cX8_readLine 61 = .ok (.invokevirtual 151, 3) := by decide +kernel
theorem dX8_readLine_64 : decode cX8_readLine 64 = .ok (.goto 8, 3) := by decide +kernel
theorem dX8_readLine_67 : decode cX8_readLine 67 = .ok (.aload_n 0, 1) := by decide +kernel
theorem dX8_readLine_68 : decode cX8_readLine 68 = .ok (.iload_n 1, 1) := by decide +kernel
theorem dX8_readLine_69 : decode cX8_readLine 69 = .ok (.invokevirtual 154, 3) := by decide +kernel
theorem dX8_readLine_72 : decode cX8_readLine 72 = .ok (.aload_n 0, 1) := by decide +kernel
theorem dX8_readLine_73 : decode cX8_readLine 73 = .ok (.getfield 73, 3) := by decide +kernel
theorem dX8_readLine_76 : decode cX8_readLine 76 = .ok (.ifCond .ne 16, 3) := by decide +kernel
theorem dX8_readLine_79 : decode cX8_readLine 79 = .ok (.aload_n 0, 1) := by decide +kernel
theorem dX8_readLine_80 : decode cX8_readLine 80 = .ok (.getfield 82, 3) := by decide +kernel
theorem dX8_readLine_83 : decode cX8_readLine 83 = .ok (.iconst 3, 1) := by decide +kernel
theorem dX8_readLine_84 : decode cX8_readLine 84 = .ok (.if_icmp .eq 8, 3) := by decide +kernel
theorem dX8_readLine_87 : decode cX8_readLine 87 = .ok (.aload_n 0, 1) := by decide +kernel
theorem dX8_readLine_88 : decode cX8_readLine 88 = .ok (.iconst 2, 1) := by decide +kernel
theorem dX8_readLine_89 : decode cX8_readLine 89 = .ok (.invokevirtual 103, 3) := by decide +kernel
theorem dX8_readLine_92 : decode cX8_readLine 92 = .ok (.aload_n 0, 1) := by decide +kernel
theorem dX8_readLine_93 : decode cX8_readLine 93 = .ok (.invokevirtual 107, 3) := by decide +kernel
theorem dX8_readLine_96 : decode cX8_readLine 96 = .ok (.return_, 1) := by decide +kernel
theorem dX8_beginsText_0 : decode cX8_beginsText 0 = .ok (.aload_n 0, 1) := by decide +kernel
theorem dX8_beginsText_1 : decode cX8_beginsText 1 = .ok (.iconst 0, 1) := by decide +kernel
theorem dX8_beginsText_2 : decode cX8_beginsText 2 = .ok (.putfield 73, 3) := by decide +kernel
theorem dX8_beginsText_5 : decode cX8_beginsText 5 = .ok (.aload_n 0, 1) := by decide +kernel
theorem dX8_beginsText_6 : decode cX8_beginsText 6 = .ok (.iconst 0, 1) := by decide +kernel
theorem dX8_beginsText_7 : decode cX8_beginsText 7 = .ok (.putfield 85, 3) := by decide +kernel
theorem dX8_beginsText_10 : decode cX8_beginsText 10 = .ok (.aload_n 0, 1) := by decide +kernel
theorem dX8_beginsText_11 : decode cX8_beginsText 11 = .ok (.iconst 0, 1) := by decide +kernel
theorem dX8_beginsText_12 : decode cX8_beginsText 12 = .ok (.putfield 121, 3) := by decide +kernel
theorem dX8_beginsText_15 : decode cX8_beginsText 15 = .ok (.aload_n 0, 1) := by decide +kernel
theorem dX8_beginsText_16 : decode cX8_beginsText 16 = .ok (.iconst 0, 1) := by decide +kernel
theorem dX8_beginsText_17 : decode cX8_beginsText 17 = .ok (.putfield 124, 3) := by decide +kernel
theorem dX8_beginsText_20 : decode cX8_beginsText 20 = .ok (.aload_n 0, 1) := by decide +kernel
theorem dX8_beginsText_21 : decode cX8_beginsText 21 = .ok (.iconst 0, 1) := by decide +kernel
theorem dX8_beginsText_22 : decode cX8_beginsText 22 = .ok (.putfield 130, 3) := by decide +kernel
theorem dX8_beginsText_25 : decode cX8_beginsText 25 = .ok (.aload_n 0, 1) := by decide +kernel
theorem dX8_beginsText_26 : decode cX8_beginsText 26 = .ok (.iconst 0, 1) := by decide +kernel
theorem dX8_beginsText_27 : decode cX8_beginsText 27 = .ok (.putfield 133, 3) := by decide +kernel
theorem dX8_beginsText_30 : decode cX8_beginsText 30 = .ok (.aload_n 0, 1) := by decide +kernel
theorem dX8_beginsText_31 : decode cX8_beginsText 31 = .ok (.iconst (-1), 1) := by decide +kernel
theorem dX8_beginsText_32 : decode cX8_beginsText 32 = .ok (.putfield 114, 3) := by decide +kernel
theorem dX8_beginsText_35 : decode cX8_beginsText 35 = .ok (.aload_n 0, 1) := by decide +kernel
theorem dX8_beginsText_36 : decode cX8_beginsText 36 = .ok (.iconst (-1), 1) := by decide +kernel
theorem dX8_beginsText_37 : decode cX8_beginsText 37 = .ok (.putfield 136, 3) := by decide +kernel
theorem dX8_beginsText_40 : decode cX8_beginsText 40 = .ok (.iconst 0, 1) := by decide +kernel
theorem dX8_beginsText_41 : decode cX8_beginsText 41 = .ok (.istore_n 1, 1) := by decide +kernel
theorem dX8_beginsText_42 : decode cX8_beginsText 42 = .ok (.iload_n 1, 1) := by decide +kernel
theorem dX8_beginsText_43 : decode cX8_beginsText 43 = .ok (.bipush 57, 2) := by decide +kernel
theorem dX8_beginsText_45 : decode cX8_beginsText 45 = .ok (.if_icmp .ge 26, 3) := by decide +kernel
theorem dX8_beginsText_48 : decode cX8_beginsText 48 = .ok (.aload_n 0, 1) := by decide +kernel
theorem dX8_beginsText_49 : decode cX8_beginsText 49 = .ok (.getfield 16, 3) := by decide +kernel
theorem dX8_beginsText_52 : decode cX8_beginsText 52 = .ok (.iload_n 1, 1) := by decide +kernel
theorem dX8_beginsText_53 : decode cX8_beginsText 53 = .ok (.iconst 0, 1) := by decide +kernel
theorem dX8_beginsText_54 : decode cX8_beginsText 54 = .ok (.iastore, 1) := by decide +kernel
theorem dX8_beginsText_55 : decode cX8_beginsText 55 = .ok (.aload_n 0, 1) := by decide +kernel
theorem dX8_beginsText_56 : decode cX8_beginsText 56 = .ok (.getfield 22, 3) := by decide +kernel
theorem dX8_beginsText_59 : decode cX8_beginsText 59 = .ok (.iload_n 1, 1) := by decide +kernel
theorem dX8_beginsText_60 : decode cX8_beginsText 60 = .ok (.bipush 6, 2) := by decide +kernel
theorem dX8_beginsText_62 : decode cX8_beginsText 62 = .ok (.irem, 1) := by decide +kernel
theorem dX8_beginsText_63 : decode cX8_beginsText 63 = .ok (.iconst 0, 1) := by decide +kernel
theorem dX8_beginsText_64 : decode cX8_beginsText 64 = .ok (.iastore, 1) := by decide +kernel
theorem dX8_beginsText_65 : decode cX8_beginsText 65 = .ok (.iinc 1 1, 3) := by decide +kernel
theorem dX8_beginsText_68 : decode cX8_beginsText 68 = .ok (.goto (-26), 3) := by decide +kernel
theorem dX8_beginsText_71 : decode cX8_beginsText 71 = .ok (.return_, 1) := by decide +kernel
theorem dX8_text_0 : decode cX8_text 0 = .ok (.aload_n 0, 1) := by decide +kernel
theorem dX8_text_1 : decode cX8_text 1 = .ok (.invokevirtual 157, 3) := by decide +kernel
theorem dX8_text_4 : decode cX8_text 4 = .ok (.iconst 0, 1) := by decide +kernel
theorem dX8_text_5 : decode cX8_text 5 = .ok (.istore_n 1, 1) := by decide +kernel
theorem dX8_text_6 : decode cX8_text 6 = .ok (.aload_n 0, 1) := by decide +kernel
theorem dX8_text_7 : decode cX8_text 7 = .ok (.invokevirtual 107, 3) := by decide +kernel
theorem dX8_text_10 : decode cX8_text 10 = .ok (.aload_n 0, 1) := by decide +kernel
theorem dX8_text_11 : decode cX8_text 11 = .ok (.getfield 73, 3) := by decide +kernel
theorem dX8_text_14 : decode cX8_text 14 = .ok (.ifCond .ne 20, 3) := by decide +kernel
theorem dX8_text_17 : decode cX8_text 17 = .ok (.aload_n 0, 1) := by decide +kernel
theorem dX8_text_18 : decode cX8_text 18 = .ok (.getfield 82, 3) := by decide +kernel
theorem dX8_text_21 : decode cX8_text 21 = .ok (.ifCond .eq 13, 3) := by decide +kernel
theorem dX8_text_24 : decode cX8_text 24 = .ok (.aload_n 0, 1) := by decide +kernel
theorem dX8_text_25 : decode cX8_text 25 = .ok (.invokevirtual 160, 3) := by decide +kernel
theorem dX8_text_28 : decode cX8_text 28 = .ok (.iinc 1 1, 3) := by decide +kernel
theorem dX8_text_31 : decode cX8_text 31 = .ok (.goto (-21), 3) := by decide +kernel
theorem dX8_text_34 : decode cX8_text 34 = .ok (.aload_n 0, 1) := by decide +kernel
theorem dX8_text_35 : decode cX8_text 35 = .ok (.getfield 73, 3) := by decide +kernel
theorem dX8_text_38 : decode cX8_text 38 = .ok (.ifCond .ne 31, 3) := by decide +kernel
theorem dX8_text_41 : decode cX8_text 41 = .ok (.aload_n 0, 1) := by decide +kernel
theorem dX8_text_42 : decode cX8_text 42 = .ok (.getfield 114, 3) := by decide +kernel
theorem dX8_text_45 : decode cX8_text 45 = .ok (.aload_n 0, 1) := by decide +kernel
theorem dX8_text_46 : decode cX8_text 46 = .ok (.getfield 121, 3) := by decide +kernel
theorem dX8_text_49 : decode cX8_text 49 = .ok (.if_icmp .ge 14, 3) := by decide +kernel
theorem dX8_text_52 : decode cX8_text 52 = .ok (.aload_n 0, 1) := by decide +kernel
theorem dX8_text_53 : decode cX8_text 53 = .ok (.getfield 136, 3) := by decide +kernel
theorem dX8_text_56 : decode cX8_text 56 = .ok (.aload_n 0, 1) := by decide +kernel
theorem dX8_text_57 : decode cX8_text 57 = .ok (.getfield 124, 3) := by decide +kernel
theorem dX8_text_60 : decode cX8_text 60 = .ok (.if_icmp .lt 9, 3) := by decide +kernel
theorem dX8_text_63 : decode cX8_text 63 = .ok (.aload_n 0, 1) := by decide +kernel
theorem dX8_text_64 : decode cX8_text 64 = .ok (.bipush 6, 2) := by decide +kernel
theorem dX8_text_66 : decode cX8_text 66 = .ok (.invokevirtual 103, 3) := by decide +kernel
theorem dX8_text_69 : decode cX8_text 69 = .ok (.aload_n 0, 1) := by decide +kernel
theorem dX8_text_70 : decode cX8_text 70 = .ok (.iconst 0, 1) := by decide +kernel
theorem dX8_text_71 : decode cX8_text 71 = .ok (.putfield 65, 3) := by decide +kernel
theorem dX8_text_74 : decode cX8_text 74 = .ok (.aload_n 0, 1) := by decide +kernel
theorem dX8_text_75 : decode cX8_text 75 = .ok (.aload_n 0, 1) := by decide +kernel
theorem dX8_text_76 : decode cX8_text 76 = .ok (.getfield 73, 3) := by decide +kernel
theorem dX8_text_79 : decode cX8_text 79 = .ok (.putfield 163, 3) := by decide +kernel
theorem dX8_text_82 : decode cX8_text 82 = .ok (.aload_n 0, 1) := by decide +kernel
theorem dX8_text_83 : decode cX8_text 83 = .ok (.getfield 73, 3) := by decide +kernel
theorem dX8_text_86 : decode cX8_text 86 = .ok (.ifCond .le 11, 3) := by decide +kernel
theorem dX8_text_89 : decode cX8_text 89 = .ok (.bipush (-10), 2) := by decide +kernel
theorem dX8_text_91 : decode cX8_text 91 = .ok (.aload_n 0, 1) := by decide +kernel
theorem dX8_text_92 : decode cX8_text 92 = .ok (.getfield 79, 3) := by decide +kernel
theorem dX8_text_95 : decode cX8_text 95 = .ok (.isub, 1) := by decide +kernel
theorem dX8_text_96 : decode cX8_text 96 = .ok (.ireturn, 1) := by decide +kernel
theorem dX8_text_97 : decode cX8_text 97 = .ok (.iconst 0, 1) := by decide +kernel
theorem dX8_text_98 : decode cX8_text 98 = .ok (.istore_n 2, 1) := by decide +kernel
theorem dX8_text_99 : decode cX8_text 99 = .ok (.iload_n 2, 1) := by decide +kernel
theorem dX8_text_100 : decode cX8_text 100 = .ok (.bipush 57, 2) := by decide +kernel
theorem dX8_text_102 : decode cX8_text 102 = .ok (.if_icmp .ge 39, 3) := by decide +kernel
theorem dX8_text_105 : decode cX8_text 105 = .ok (.aload_n 0, 1) := by decide +kernel
theorem dX8_text_106 : decode cX8_text 106 = .ok (.getfield 7, 3) := by decide +kernel
theorem dX8_text_109 : decode cX8_text 109 = .ok (.iload_n 2, 1) := by decide +kernel
theorem dX8_text_110 : decode cX8_text 110 = .ok (.aload_n 0, 1) := by decide +kernel
theorem dX8_text_111 : decode cX8_text 111 = .ok (.getfield 16, 3) := by decide +kernel
theorem dX8_text_114 : decode cX8_text 114 = .ok (.iload_n 2, 1) := by decide +kernel
theorem dX8_text_115 : decode cX8_text 115 = .ok (.iaload, 1) := by decide +kernel
theorem dX8_text_116 : decode cX8_text 116 = .ok (.iastore, 1) := by decide +kernel
theorem dX8_text_117 : decode cX8_text 117 = .ok (.aload_n 0, 1) := by decide +kernel
theorem dX8_text_118 : decode cX8_text 118 = .ok (.getfield 13, 3) := by decide +kernel
theorem dX8_text_121 : decode cX8_text 121 = .ok (.iload_n 2, 1) := by decide +kernel
theorem dX8_text_122 : decode cX8_text 122 = .ok (.bipush 18, 2) := by decide +kernel
theorem dX8_text_124 : decode cX8_text 124 = .ok (.irem, 1) := by decide +kernel
theorem dX8_text_125 : decode cX8_text 125 = .ok (.aload_n 0, 1) := by decide +kernel
theorem dX8_text_126 : decode cX8_text 126 = .ok (.getfield 19, 3) := by decide +kernel
theorem dX8_text_129 : decode cX8_text 129 = .ok (.iload_n 2, 1) := by decide +kernel
theorem dX8_text_130 : decode cX8_text 130 = .ok (.bipush 18, 2) := by decide +kernel
theorem dX8_text_132 : decode cX8_text 132 = .ok (.irem, 1) := by decide +kernel
theorem dX8_text_133 : decode cX8_text 133 = .ok (.iaload, 1) := by decide +kernel
theorem dX8_text_134 : decode cX8_text 134 = .ok (.iastore, 1) := by decide +kernel
theorem dX8_text_135 : decode cX8_text 135 = .ok (.iinc 2 1, 3) := by decide +kernel
theorem dX8_text_138 : decode cX8_text 138 = .ok (.goto (-39), 3) := by decide +kernel
theorem dX8_text_141 : decode cX8_text 141 = .ok (.iconst 0, 1) := by decide +kernel
theorem dX8_text_142 : decode cX8_text 142 = .ok (.istore_n 2, 1) := by decide +kernel
theorem dX8_text_143 : decode cX8_text 143 = .ok (.iload_n 2, 1) := by decide +kernel
theorem dX8_text_144 : decode cX8_text 144 = .ok (.bipush 6, 2) := by decide +kernel
theorem dX8_text_146 : decode cX8_text 146 = .ok (.if_icmp .ge 25, 3) := by decide +kernel
theorem dX8_text_149 : decode cX8_text 149 = .ok (.aload_n 0, 1) := by decide +kernel
theorem dX8_text_150 : decode cX8_text 150 = .ok (.getfield 7, 3) := by decide +kernel
theorem dX8_text_153 : decode cX8_text 153 = .ok (.iconst 4, 1) := by decide +kernel
theorem dX8_text_154 : decode cX8_text 154 = .ok (.iload_n 2, 1) := by decide +kernel
theorem dX8_text_155 : decode cX8_text 155 = .ok (.imul, 1) := by decide +kernel
theorem dX8_text_156 : decode cX8_text 156 = .ok (.iconst 3, 1) := by decide +kernel
theorem dX8_text_157 : decode cX8_text 157 = .ok (.iadd, 1) := by decide +kernel
theorem dX8_text_158 : decode cX8_text 158 = .ok (.aload_n 0, 1) := by decide +kernel
theorem dX8_text_159 : decode cX8_text 159 = .ok (.getfield 22, 3) := by decide +kernel
theorem dX8_text_162 : decode cX8_text 162 = .ok (.iload_n 2, 1) := by decide +kernel
theorem dX8_text_163 : decode cX8_text 163 = .ok (.iaload, 1) := by decide +kernel
theorem dX8_text_164 : decode cX8_text 164 = .ok (.iastore, 1) := by decide +kernel
theorem dX8_text_165 : decode cX8_text 165 = .ok (.iinc 2 1, 3) := by decide +kernel
theorem dX8_text_168 : decode cX8_text 168 = .ok (.goto (-25), 3) := by decide +kernel
theorem dX8_text_171 : decode cX8_text 171 = .ok (.aload_n 0, 1) := by decide +kernel
theorem dX8_text_172 : decode cX8_text 172 = .ok (.aload_n 0, 1) := by decide +kernel
theorem dX8_text_173 : decode cX8_text 173 = .ok (.getfield 121, 3) := by decide +kernel
theorem dX8_text_176 : decode cX8_text 176 = .ok (.putfield 166, 3) := by decide +kernel
theorem dX8_text_179 : decode cX8_text 179 = .ok (.aload_n 0, 1) := by decide +kernel
theorem dX8_text_180 : decode cX8_text 180 = .ok (.aload_n 0, 1) := by decide +kernel
theorem dX8_text_181 : decode cX8_text 181 = .ok (.getfield 124, 3) := by decide +kernel
theorem dX8_text_184 : decode cX8_text 184 = .ok (.putfield 169, 3) := by decide +kernel
theorem dX8_text_187 : decode cX8_text 187 = .ok (.aload_n 0, 1) := by decide +kernel
theorem dX8_text_188 : decode cX8_text 188 = .ok (.iconst 0, 1) := by decide +kernel
theorem dX8_text_189 : decode cX8_text 189 = .ok (.putfield 172, 3) := by decide +kernel
theorem dX8_text_192 : decode cX8_text 192 = .ok (.aload_n 0, 1) := by decide +kernel
theorem dX8_text_193 : decode cX8_text 193 = .ok (.iconst 0, 1) := by decide +kernel
theorem dX8_text_194 : decode cX8_text 194 = .ok (.putfield 175, 3) := by decide +kernel
theorem dX8_text_197 : decode cX8_text 197 = .ok (.aload_n 0, 1) := by decide +kernel
theorem dX8_text_198 : decode cX8_text 198 = .ok (.getfield 52, 3) := by decide +kernel
theorem dX8_text_201 : decode cX8_text 201 = .ok (.iconst 0, 1) := by decide +kernel
theorem dX8_text_202 : decode cX8_text 202 = .ok (.iconst 0, 1) := by decide +kernel
theorem dX8_text_203 : decode cX8_text 203 = .ok (.bastore, 1) := by decide +kernel
theorem dX8_text_204 : decode cX8_text 204 = .ok (.aload_n 0, 1) := by decide +kernel
theorem dX8_text_205 : decode cX8_text 205 = .ok (.getfield 52, 3) := by decide +kernel
theorem dX8_text_208 : decode cX8_text 208 = .ok (.iconst 1, 1) := by decide +kernel
theorem dX8_text_209 : decode cX8_text 209 = .ok (.iconst 0, 1) := by decide +kernel
theorem dX8_text_210 : decode cX8_text 210 = .ok (.bastore, 1) := by decide +kernel
theorem dX8_text_211 : decode cX8_text 211 = .ok (.iload_n 1, 1) := by decide +kernel
theorem dX8_text_212 : decode cX8_text 212 = .ok (.ireturn, 1) := by decide +kernel
theorem dX8_fault_0 : decode cX8_fault 0 = .ok (.aload_n 0, 1) := by decide +kernel
theorem dX8_fault_1 : decode cX8_fault 1 = .ok (.getfield 163, 3) := by decide +kernel
theorem dX8_fault_4 : decode cX8_fault 4 = .ok (.ireturn, 1) := by decide +kernel
theorem dX8_isOne_0 : decode cX8_isOne 0 = .ok (.iload_n 1, 1) := by decide +kernel
theorem dX8_isOne_1 : decode cX8_isOne 1 = .ok (.i2l, 1) := by decide +kernel
theorem dX8_isOne_2 : decode cX8_isOne 2 = .ok (.lconst 0, 1) := by decide +kernel
theorem dX8_isOne_3 : decode cX8_isOne 3 = .ok (.aload_n 0, 1) := by decide +kernel
theorem dX8_isOne_4 : decode cX8_isOne 4 = .ok (.getfield 166, 3) := by decide +kernel
theorem dX8_isOne_7 : decode cX8_isOne 7 = .ok (.iconst 1, 1) := by decide +kernel
theorem dX8_isOne_8 : decode cX8_isOne 8 = .ok (.isub, 1) := by decide +kernel
theorem dX8_isOne_9 : decode cX8_isOne 9 = .ok (.i2l, 1) := by decide +kernel
theorem dX8_isOne_10 : decode cX8_isOne 10 = .ok (.invokestatic 69, 3) := by decide +kernel
theorem dX8_isOne_13 : decode cX8_isOne 13 = .ok (.ireturn, 1) := by decide +kernel
theorem dX8_isCoin_0 : decode cX8_isCoin 0 = .ok (.iload_n 1, 1) := by decide +kernel
theorem dX8_isCoin_1 : decode cX8_isCoin 1 = .ok (.i2l, 1) := by decide +kernel
theorem dX8_isCoin_2 : decode cX8_isCoin 2 = .ok (.lconst 0, 1) := by decide +kernel
theorem dX8_isCoin_3 : decode cX8_isCoin 3 = .ok (.aload_n 0, 1) := by decide +kernel
theorem dX8_isCoin_4 : decode cX8_isCoin 4 = .ok (.getfield 169, 3) := by decide +kernel
theorem dX8_isCoin_7 : decode cX8_isCoin 7 = .ok (.iconst 1, 1) := by decide +kernel
theorem dX8_isCoin_8 : decode cX8_isCoin 8 = .ok (.isub, 1) := by decide +kernel
theorem dX8_isCoin_9 : decode cX8_isCoin 9 = .ok (.i2l, 1) := by decide +kernel
theorem dX8_isCoin_10 : decode cX8_isCoin 10 = .ok (.invokestatic 69, 3) := by decide +kernel
theorem dX8_isCoin_13 : decode cX8_isCoin 13 = .ok (.ireturn, 1) := by decide +kernel
theorem dX8_isHour_0 : decode cX8_isHour 0 = .ok (.iload_n 0, 1) := by decide +kernel
theorem dX8_isHour_1 : decode cX8_isHour 1 = .ok (.i2l, 1) := by decide +kernel
theorem dX8_isHour_2 : decode cX8_isHour 2 = .ok (.lconst 0, 1) := by decide +kernel
theorem dX8_isHour_3 : decode cX8_isHour 3 = .ok (.ldc2_w 178, 3) := by decide +kernel
theorem dX8_isHour_6 : decode cX8_isHour 6 = .ok (.invokestatic 69, 3) := by decide +kernel
theorem dX8_isHour_9 : decode cX8_isHour 9 = .ok (.ireturn, 1) := by decide +kernel
theorem dX8_areTwo_0 : decode cX8_areTwo 0 = .ok (.aload_n 0, 1) := by decide +kernel
theorem dX8_areTwo_1 : decode cX8_areTwo 1 = .ok (.iload_n 1, 1) := by decide +kernel
theorem dX8_areTwo_2 : decode cX8_areTwo 2 = .ok (.invokevirtual 180, 3) := by decide +kernel
theorem dX8_areTwo_5 : decode cX8_areTwo 5 = .ok (.ifCond .eq 20, 3) := by decide +kernel
theorem dX8_areTwo_8 : decode cX8_areTwo 8 = .ok (.aload_n 0, 1) := by decide +kernel
theorem dX8_areTwo_9 : decode cX8_areTwo 9 = .ok (.iload_n 2, 1) := by decide +kernel
theorem dX8_areTwo_10 : decode cX8_areTwo 10 = .ok (.invokevirtual 180, 3) := by decide +kernel
theorem dX8_areTwo_13 : decode cX8_areTwo 13 = .ok (.ifCond .eq 12, 3) := by decide +kernel
theorem dX8_areTwo_16 : decode cX8_areTwo 16 = .ok (.iload_n 1, 1) := by decide +kernel
theorem dX8_areTwo_17 : decode cX8_areTwo 17 = .ok (.iload_n 2, 1) := by decide +kernel
theorem dX8_areTwo_18 : decode cX8_areTwo 18 = .ok (.if_icmp .eq 7, 3) := by decide +kernel
theorem dX8_areTwo_21 : decode cX8_areTwo 21 = .ok (.iconst 1, 1) := by decide +kernel
theorem dX8_areTwo_22 : decode cX8_areTwo 22 = .ok (.goto 4, 3) := by decide +kernel
theorem dX8_areTwo_25 : decode cX8_areTwo 25 = .ok (.iconst 0, 1) := by decide +kernel
theorem dX8_areTwo_26 : decode cX8_areTwo 26 = .ok (.ireturn, 1) := by decide +kernel
theorem dX8_feeNow_0 : decode cX8_feeNow 0 = .ok (.aload_n 0, 1) := by decide +kernel
theorem dX8_feeNow_1 : decode cX8_feeNow 1 = .ok (.getfield 7, 3) := by decide +kernel
theorem dX8_feeNow_4 : decode cX8_feeNow 4 = .ok (.bipush 56, 2) := by decide +kernel
theorem dX8_feeNow_6 : decode cX8_feeNow 6 = .ok (.iaload, 1) := by decide +kernel
theorem dX8_feeNow_7 : decode cX8_feeNow 7 = .ok (.iconst 1, 1) := by decide +kernel
theorem dX8_feeNow_8 : decode cX8_feeNow 8 = .ok (.iadd, 1) := by decide +kernel
theorem dX8_feeNow_9 : decode cX8_feeNow 9 = .ok (.ireturn, 1) := by decide +kernel
theorem dX8_rule_0 : decode cX8_rule 0 = .ok (.iload_n 1, 1) := by decide +kernel
theorem dX8_rule_1 : decode cX8_rule 1 = .ok (.tableswitch 66 0 4 #[35, 40, 45, 53, 61], 35) := by decide +kernel
theorem dX8_rule_36 : decode cX8_rule 36 = .ok (.aload_n 0, 1) := by decide +kernel
theorem dX8_rule_37 : decode cX8_rule 37 = .ok (.getfield 166, 3) := by decide +kernel
theorem dX8_rule_40 : decode cX8_rule 40 = .ok (.ireturn, 1) := by decide +kernel
theorem dX8_rule_41 : decode cX8_rule 41 = .ok (.aload_n 0, 1) := by decide +kernel
theorem dX8_rule_42 : decode cX8_rule 42 = .ok (.getfield 169, 3) := by decide +kernel
theorem dX8_rule_45 : decode cX8_rule 45 = .ok (.ireturn, 1) := by decide +kernel
theorem dX8_rule_46 : decode cX8_rule 46 = .ok (.aload_n 0, 1) := by decide +kernel
theorem dX8_rule_47 : decode cX8_rule 47 = .ok (.getfield 7, 3) := by decide +kernel
theorem dX8_rule_50 : decode cX8_rule 50 = .ok (.bipush 54, 2) := by decide +kernel
theorem dX8_rule_52 : decode cX8_rule 52 = .ok (.iaload, 1) := by decide +kernel
theorem dX8_rule_53 : decode cX8_rule 53 = .ok (.ireturn, 1) := by decide +kernel
theorem dX8_rule_54 : decode cX8_rule 54 = .ok (.aload_n 0, 1) := by decide +kernel
theorem dX8_rule_55 : decode cX8_rule 55 = .ok (.getfield 7, 3) := by decide +kernel
theorem dX8_rule_58 : decode cX8_rule 58 = .ok (.bipush 55, 2) := by decide +kernel
theorem dX8_rule_60 : decode cX8_rule 60 = .ok (.iaload, 1) := by decide +kernel
theorem dX8_rule_61 : decode cX8_rule 61 = .ok (.ireturn, 1) := by decide +kernel
theorem dX8_rule_62 : decode cX8_rule 62 = .ok (.aload_n 0, 1) := by decide +kernel
theorem dX8_rule_63 : decode cX8_rule 63 = .ok (.invokevirtual 183, 3) := by decide +kernel
theorem dX8_rule_66 : decode cX8_rule 66 = .ok (.ireturn, 1) := by decide +kernel
theorem dX8_rule_67 : decode cX8_rule 67 = .ok (.iconst (-1), 1) := by decide +kernel
theorem dX8_rule_68 : decode cX8_rule 68 = .ok (.ireturn, 1) := by decide +kernel
theorem dX8_one_0 : decode cX8_one 0 = .ok (.aload_n 0, 1) := by decide +kernel
theorem dX8_one_1 : decode cX8_one 1 = .ok (.iload_n 1, 1) := by decide +kernel
theorem dX8_one_2 : decode cX8_one 2 = .ok (.invokevirtual 180, 3) := by decide +kernel
theorem dX8_one_5 : decode cX8_one 5 = .ok (.ifCond .eq 28, 3) := by decide +kernel
theorem dX8_one_8 : decode cX8_one 8 = .ok (.iload_n 2, 1) := by decide +kernel
theorem dX8_one_9 : decode cX8_one 9 = .ok (.i2l, 1) := by decide +kernel
theorem dX8_one_10 : decode cX8_one 10 = .ok (.lconst 0, 1) := by decide +kernel
theorem dX8_one_11 : decode cX8_one 11 = .ok (.ldc2_w 186, 3) := by decide +kernel
theorem dX8_one_14 : decode cX8_one 14 = .ok (.invokestatic 69, 3) := by decide +kernel
theorem dX8_one_17 : decode cX8_one 17 = .ok (.ifCond .eq 16, 3) := by decide +kernel
theorem dX8_one_20 : decode cX8_one 20 = .ok (.aload_n 0, 1) := by decide +kernel
theorem dX8_one_21 : decode cX8_one 21 = .ok (.getfield 13, 3) := by decide +kernel
theorem dX8_one_24 : decode cX8_one 24 = .ok (.iconst 3, 1) := by decide +kernel
theorem dX8_one_25 : decode cX8_one 25 = .ok (.iload_n 1, 1) := by decide +kernel
theorem dX8_one_26 : decode cX8_one 26 = .ok (.imul, 1) := by decide +kernel
theorem dX8_one_27 : decode cX8_one 27 = .ok (.iload_n 2, 1) := by decide +kernel
theorem dX8_one_28 : decode cX8_one 28 = .ok (.iadd, 1) := by decide +kernel
theorem dX8_one_29 : decode cX8_one 29 = .ok (.iaload, 1) := by decide +kernel
theorem dX8_one_30 : decode cX8_one 30 = .ok (.goto 4, 3) := by decide +kernel
theorem dX8_one_33 : decode cX8_one 33 = .ok (.iconst (-1), 1) := by decide +kernel
theorem dX8_one_34 : decode cX8_one 34 = .ok (.ireturn, 1) := by decide +kernel
theorem dX8_kindOf_0 : decode cX8_kindOf 0 = .ok (.aload_n 0, 1) := by decide +kernel
theorem dX8_kindOf_1 : decode cX8_kindOf 1 = .ok (.getfield 13, 3) := by decide +kernel
theorem dX8_kindOf_4 : decode cX8_kindOf 4 = .ok (.iconst 3, 1) := by decide +kernel
theorem dX8_kindOf_5 : decode cX8_kindOf 5 = .ok (.iload_n 1, 1) := by decide +kernel
theorem dX8_kindOf_6 : decode cX8_kindOf 6 = .ok (.imul, 1) := by decide +kernel
theorem dX8_kindOf_7 : decode cX8_kindOf 7 = .ok (.iaload, 1) := by decide +kernel
theorem dX8_kindOf_8 : decode cX8_kindOf 8 = .ok (.ireturn, 1) := by decide +kernel
theorem dX8_lengthBy_0 : decode cX8_lengthBy 0 = .ok (.aload_n 0, 1) := by decide +kernel
theorem dX8_lengthBy_1 : decode cX8_lengthBy 1 = .ok (.getfield 7, 3) := by decide +kernel
theorem dX8_lengthBy_4 : decode cX8_lengthBy 4 = .ok (.iconst 4, 1) := by decide +kernel
theorem dX8_lengthBy_5 : decode cX8_lengthBy 5 = .ok (.iload_n 1, 1) := by decide +kernel
theorem dX8_lengthBy_6 : decode cX8_lengthBy 6 = .ok (.imul, 1) := by decide +kernel
theorem dX8_lengthBy_7 : decode cX8_lengthBy 7 = .ok (.iaload, 1) := by decide +kernel
theorem dX8_lengthBy_8 : decode cX8_lengthBy 8 = .ok (.aload_n 0, 1) := by decide +kernel
theorem dX8_lengthBy_9 : decode cX8_lengthBy 9 = .ok (.getfield 7, 3) := by decide +kernel
theorem dX8_lengthBy_12 : decode cX8_lengthBy 12 = .ok (.iconst 4, 1) := by decide +kernel
theorem dX8_lengthBy_13 : decode cX8_lengthBy 13 = .ok (.iload_n 1, 1) := by decide +kernel
theorem dX8_lengthBy_14 : decode cX8_lengthBy 14 = .ok (.imul, 1) := by decide +kernel
theorem dX8_lengthBy_15 : decode cX8_lengthBy 15 = .ok (.iconst 2, 1) := by decide +kernel
theorem dX8_lengthBy_16 : decode cX8_lengthBy 16 = .ok (.iadd, 1) := by decide +kernel
theorem dX8_lengthBy_17 : decode cX8_lengthBy 17 = .ok (.iaload, 1) := by decide +kernel
theorem dX8_lengthBy_18 : decode cX8_lengthBy 18 = .ok (.isub, 1) := by decide +kernel
theorem dX8_lengthBy_19 : decode cX8_lengthBy 19 = .ok (.istore_n 3, 1) := by decide +kernel
theorem dX8_lengthBy_20 : decode cX8_lengthBy 20 = .ok (.iload_n 3, 1) := by decide +kernel
theorem dX8_lengthBy_21 : decode cX8_lengthBy 21 = .ok (.iconst 1, 1) := by decide +kernel
theorem dX8_lengthBy_22 : decode cX8_lengthBy 22 = .ok (.if_icmp .ge 7, 3) := by decide +kernel
theorem dX8_lengthBy_25 : decode cX8_lengthBy 25 = .ok (.iconst 1, 1) := by decide +kernel
theorem dX8_lengthBy_26 : decode cX8_lengthBy 26 = .ok (.goto 4, 3) := by decide +kernel
theorem dX8_lengthBy_29 : decode cX8_lengthBy 29 = .ok (.iload_n 3, 1) := by decide +kernel
theorem dX8_lengthBy_30 : decode cX8_lengthBy 30 = .ok (.aload_n 0, 1) := by decide +kernel
theorem dX8_lengthBy_31 : decode cX8_lengthBy 31 = .ok (.iload_n 2, 1) := by decide +kernel
theorem dX8_lengthBy_32 : decode cX8_lengthBy 32 = .ok (.invokevirtual 188, 3) := by decide +kernel
theorem dX8_lengthBy_35 : decode cX8_lengthBy 35 = .ok (.iconst 3, 1) := by decide +kernel
theorem dX8_lengthBy_36 : decode cX8_lengthBy 36 = .ok (.if_icmp .ne 7, 3) := by decide +kernel
theorem dX8_lengthBy_39 : decode cX8_lengthBy 39 = .ok (.iconst 1, 1) := by decide +kernel
theorem dX8_lengthBy_40 : decode cX8_lengthBy 40 = .ok (.goto 4, 3) := by decide +kernel
theorem dX8_lengthBy_43 : decode cX8_lengthBy 43 = .ok (.iconst 0, 1) := by decide +kernel
theorem dX8_lengthBy_44 : decode cX8_lengthBy 44 = .ok (.iadd, 1) := by decide +kernel
theorem dX8_lengthBy_45 : decode cX8_lengthBy 45 = .ok (.ireturn, 1) := by decide +kernel
theorem dX8_ownerOf_0 : decode cX8_ownerOf 0 = .ok (.aload_n 0, 1) := by decide +kernel
theorem dX8_ownerOf_1 : decode cX8_ownerOf 1 = .ok (.getfield 7, 3) := by decide +kernel
theorem dX8_ownerOf_4 : decode cX8_ownerOf 4 = .ok (.iconst 4, 1) := by decide +kernel
theorem dX8_ownerOf_5 : decode cX8_ownerOf 5 = .ok (.iload_n 1, 1) := by decide +kernel
theorem dX8_ownerOf_6 : decode cX8_ownerOf 6 = .ok (.imul, 1) := by decide +kernel
theorem dX8_ownerOf_7 : decode cX8_ownerOf 7 = .ok (.iconst 1, 1) := by decide +kernel
theorem dX8_ownerOf_8 : decode cX8_ownerOf 8 = .ok (.iadd, 1) := by decide +kernel
theorem dX8_ownerOf_9 : decode cX8_ownerOf 9 = .ok (.iaload, 1) := by decide +kernel
theorem dX8_ownerOf_10 : decode cX8_ownerOf 10 = .ok (.ireturn, 1) := by decide +kernel
theorem dX8_isSpent_0 : decode cX8_isSpent 0 = .ok (.aload_n 0, 1) := by decide +kernel
theorem dX8_isSpent_1 : decode cX8_isSpent 1 = .ok (.getfield 7, 3) := by decide +kernel
theorem dX8_isSpent_4 : decode cX8_isSpent 4 = .ok (.iconst 4, 1) := by decide +kernel
theorem dX8_isSpent_5 : decode cX8_isSpent 5 = .ok (.iload_n 1, 1) := by decide +kernel
theorem dX8_isSpent_6 : decode cX8_isSpent 6 = .ok (.imul, 1) := by decide +kernel
theorem dX8_isSpent_7 : decode cX8_isSpent 7 = .ok (.iconst 3, 1) := by decide +kernel
theorem dX8_isSpent_8 : decode cX8_isSpent 8 = .ok (.iadd, 1) := by decide +kernel
theorem dX8_isSpent_9 : decode cX8_isSpent 9 = .ok (.iaload, 1) := by decide +kernel
theorem dX8_isSpent_10 : decode cX8_isSpent 10 = .ok (.ifCond .le 7, 3) := by decide +kernel
theorem dX8_isSpent_13 : decode cX8_isSpent 13 = .ok (.iconst 1, 1) := by decide +kernel
theorem dX8_isSpent_14 : decode cX8_isSpent 14 = .ok (.goto 4, 3) := by decide +kernel
theorem dX8_isSpent_17 : decode cX8_isSpent 17 = .ok (.iconst 0, 1) := by decide +kernel
theorem dX8_isSpent_18 : decode cX8_isSpent 18 = .ok (.ireturn, 1) := by decide +kernel
theorem dX8_coin_0 : decode cX8_coin 0 = .ok (.aload_n 0, 1) := by decide +kernel
theorem dX8_coin_1 : decode cX8_coin 1 = .ok (.iload_n 1, 1) := by decide +kernel
theorem dX8_coin_2 : decode cX8_coin 2 = .ok (.invokevirtual 191, 3) := by decide +kernel
theorem dX8_coin_5 : decode cX8_coin 5 = .ok (.ifCond .eq 15, 3) := by decide +kernel
theorem dX8_coin_8 : decode cX8_coin 8 = .ok (.iload_n 2, 1) := by decide +kernel
theorem dX8_coin_9 : decode cX8_coin 9 = .ok (.i2l, 1) := by decide +kernel
theorem dX8_coin_10 : decode cX8_coin 10 = .ok (.lconst 0, 1) := by decide +kernel
theorem dX8_coin_11 : decode cX8_coin 11 = .ok (.ldc2_w 194, 3) := by decide +kernel
theorem dX8_coin_14 : decode cX8_coin 14 = .ok (.invokestatic 69, 3) := by decide +kernel
theorem dX8_coin_17 : decode cX8_coin 17 = .ok (.ifCond .ne 5, 3) := by decide +kernel
theorem dX8_coin_20 : decode cX8_coin 20 = .ok (.iconst (-1), 1) := by decide +kernel
theorem dX8_coin_21 : decode cX8_coin 21 = .ok (.ireturn, 1) := by decide +kernel
theorem dX8_coin_22 : decode cX8_coin 22 = .ok (.iload_n 2, 1) := by decide +kernel
theorem dX8_coin_23 : decode cX8_coin 23 = .ok (.iconst 4, 1) := by decide +kernel
theorem dX8_coin_24 : decode cX8_coin 24 = .ok (.if_icmp .ne 16, 3) := by decide +kernel
theorem dX8_coin_27 : decode cX8_coin 27 = .ok (.aload_n 0, 1) := by decide +kernel
theorem dX8_coin_28 : decode cX8_coin 28 = .ok (.iload_n 1, 1) := by decide +kernel
theorem dX8_coin_29 : decode cX8_coin 29 = .ok (.aload_n 0, 1) := by decide +kernel
theorem dX8_coin_30 : decode cX8_coin 30 = .ok (.iload_n 1, 1) := by decide +kernel
theorem dX8_coin_31 : decode cX8_coin 31 = .ok (.invokevirtual 196, 3) := by decide +kernel
theorem dX8_coin_34 : decode cX8_coin 34 = .ok (.invokevirtual 199, 3) := by decide +kernel
theorem dX8_coin_37 : decode cX8_coin 37 = .ok (.goto 46, 3) := by decide +kernel
theorem dX8_coin_40 : decode cX8_coin 40 = .ok (.iload_n 2, 1) := by decide +kernel
theorem dX8_coin_41 : decode cX8_coin 41 = .ok (.iconst 3, 1) := by decide +kernel
theorem dX8_coin_42 : decode cX8_coin 42 = .ok (.if_icmp .ne 31, 3) := by decide +kernel
theorem dX8_coin_45 : decode cX8_coin 45 = .ok (.aload_n 0, 1) := by decide +kernel
theorem dX8_coin_46 : decode cX8_coin 46 = .ok (.iload_n 1, 1) := by decide +kernel
theorem dX8_coin_47 : decode cX8_coin 47 = .ok (.invokevirtual 203, 3) := by decide +kernel
theorem dX8_coin_50 : decode cX8_coin 50 = .ok (.ifCond .eq 18, 3) := by decide +kernel
theorem dX8_coin_53 : decode cX8_coin 53 = .ok (.aload_n 0, 1) := by decide +kernel
theorem dX8_coin_54 : decode cX8_coin 54 = .ok (.getfield 7, 3) := by decide +kernel
theorem dX8_coin_57 : decode cX8_coin 57 = .ok (.iconst 4, 1) := by decide +kernel
theorem dX8_coin_58 : decode cX8_coin 58 = .ok (.iload_n 1, 1) := by decide +kernel
theorem dX8_coin_59 : decode cX8_coin 59 = .ok (.imul, 1) := by decide +kernel
theorem dX8_coin_60 : decode cX8_coin 60 = .ok (.iconst 3, 1) := by decide +kernel
theorem dX8_coin_61 : decode cX8_coin 61 = .ok (.iadd, 1) := by decide +kernel
theorem dX8_coin_62 : decode cX8_coin 62 = .ok (.iaload, 1) := by decide +kernel
theorem dX8_coin_63 : decode cX8_coin 63 = .ok (.iconst 1, 1) := by decide +kernel
theorem dX8_coin_64 : decode cX8_coin 64 = .ok (.isub, 1) := by decide +kernel
theorem dX8_coin_65 : decode cX8_coin 65 = .ok (.goto 18, 3) := by decide +kernel
theorem dX8_coin_68 : decode cX8_coin 68 = .ok (.bipush (-4), 2) := by decide +kernel
theorem dX8_coin_70 : decode cX8_coin 70 = .ok (.goto 13, 3) := by decide +kernel
theorem dX8_coin_73 : decode cX8_coin 73 = .ok (.aload_n 0, 1) := by decide +kernel
theorem dX8_coin_74 : decode cX8_coin 74 = .ok (.getfield 7, 3) := by decide +kernel
theorem dX8_coin_77 : decode cX8_coin 77 = .ok (.iconst 4, 1) := by decide +kernel
theorem dX8_coin_78 : decode cX8_coin 78 = .ok (.iload_n 1, 1) := by decide +kernel
theorem dX8_coin_79 : decode cX8_coin 79 = .ok (.imul, 1) := by decide +kernel
theorem dX8_coin_80 : decode cX8_coin 80 = .ok (.iload_n 2, 1) := by decide +kernel
theorem dX8_coin_81 : decode cX8_coin 81 = .ok (.iadd, 1) := by decide +kernel
theorem dX8_coin_82 : decode cX8_coin 82 = .ok (.iaload, 1) := by decide +kernel
theorem dX8_coin_83 : decode cX8_coin 83 = .ok (.ireturn, 1) := by decide +kernel
theorem dX8_quietOf_0 : decode cX8_quietOf 0 = .ok (.iconst 0, 1) := by decide +kernel
theorem dX8_quietOf_1 : decode cX8_quietOf 1 = .ok (.istore_n 2, 1) := by decide +kernel
theorem dX8_quietOf_2 : decode cX8_quietOf 2 = .ok (.iconst 0, 1) := by decide +kernel
theorem dX8_quietOf_3 : decode cX8_quietOf 3 = .ok (.istore_n 3, 1) := by decide +kernel
theorem dX8_quietOf_4 : decode cX8_quietOf 4 = .ok (.iload_n 3, 1) := by decide +kernel
theorem dX8_quietOf_5 : decode cX8_quietOf 5 = .ok (.aload_n 0, 1) := by decide +kernel
theorem dX8_quietOf_6 : decode cX8_quietOf 6 = .ok (.getfield 169, 3) := by decide +kernel
theorem dX8_quietOf_9 : decode cX8_quietOf 9 = .ok (.if_icmp .ge 52, 3) := by decide +kernel
theorem dX8_quietOf_12 : decode cX8_quietOf 12 = .ok (.aload_n 0, 1) := by decide +kernel
theorem dX8_quietOf_13 : decode cX8_quietOf 13 = .ok (.iload_n 3, 1) := by decide +kernel
theorem dX8_quietOf_14 : decode cX8_quietOf 14 = .ok (.invokevirtual 203, 3) := by decide +kernel
theorem dX8_quietOf_17 : decode cX8_quietOf 17 = .ok (.ifCond .eq 38, 3) := by decide +kernel
theorem dX8_quietOf_20 : decode cX8_quietOf 20 = .ok (.aload_n 0, 1) := by decide +kernel
theorem dX8_quietOf_21 : decode cX8_quietOf 21 = .ok (.iload_n 3, 1) := by decide +kernel
theorem dX8_quietOf_22 : decode cX8_quietOf 22 = .ok (.invokevirtual 196, 3) := by decide +kernel
theorem dX8_quietOf_25 : decode cX8_quietOf 25 = .ok (.iload_n 1, 1) := by decide +kernel
theorem dX8_quietOf_26 : decode cX8_quietOf 26 = .ok (.if_icmp .ne 29, 3) := by decide +kernel
theorem dX8_quietOf_29 : decode cX8_quietOf 29 = .ok (.iload_n 2, 1) := by decide +kernel
theorem dX8_quietOf_30 : decode cX8_quietOf 30 = .ok (.iconst 1, 1) := by decide +kernel
theorem dX8_quietOf_31 : decode cX8_quietOf 31 = .ok (.aload_n 0, 1) := by decide +kernel
theorem dX8_quietOf_32 : decode cX8_quietOf 32 = .ok (.iload_n 3, 1) := by decide +kernel
theorem dX8_quietOf_33 : decode cX8_quietOf 33 = .ok (.iload_n 1, 1) := by decide +kernel
theorem dX8_quietOf_34 : decode cX8_quietOf 34 = .ok (.invokevirtual 199, 3) := by decide +kernel
theorem dX8_quietOf_37 : decode cX8_quietOf 37 = .ok (.ishl, 1) := by decide +kernel
theorem dX8_quietOf_38 : decode cX8_quietOf 38 = .ok (.iconst 1, 1) := by decide +kernel
theorem dX8_quietOf_39 : decode cX8_quietOf 39 = .ok (.isub, 1) := by decide +kernel
theorem dX8_quietOf_40 : decode cX8_quietOf 40 = .ok (.aload_n 0, 1) := by decide +kernel
theorem dX8_quietOf_41 : decode cX8_quietOf 41 = .ok (.getfield 7, 3) := by decide +kernel
theorem dX8_quietOf_44 : decode cX8_quietOf 44 = .ok (.iconst 4, 1) := by decide +kernel
theorem dX8_quietOf_45 : decode cX8_quietOf 45 = .ok (.iload_n 3, 1) := by decide +kernel
theorem dX8_quietOf_46 : decode cX8_quietOf 46 = .ok (.imul, 1) := by decide +kernel
theorem dX8_quietOf_47 : decode cX8_quietOf 47 = .ok (.iconst 3, 1) := by decide +kernel
theorem dX8_quietOf_48 : decode cX8_quietOf 48 = .ok (.iadd, 1) := by decide +kernel
theorem dX8_quietOf_49 : decode cX8_quietOf 49 = .ok (.iaload, 1) := by decide +kernel
theorem dX8_quietOf_50 : decode cX8_quietOf 50 = .ok (.iconst 1, 1) := by decide +kernel
theorem dX8_quietOf_51 : decode cX8_quietOf 51 = .ok (.isub, 1) := by decide +kernel
theorem dX8_quietOf_52 : decode cX8_quietOf 52 = .ok (.ishl, 1) := by decide +kernel
theorem dX8_quietOf_53 : decode cX8_quietOf 53 = .ok (.ior, 1) := by decide +kernel
theorem dX8_quietOf_54 : decode cX8_quietOf 54 = .ok (.istore_n 2, 1) := by decide +kernel
theorem dX8_quietOf_55 : decode cX8_quietOf 55 = .ok (.iinc 3 1, 3) := by decide +kernel
theorem dX8_quietOf_58 : decode cX8_quietOf 58 = .ok (.goto (-54), 3) := by decide +kernel
theorem dX8_quietOf_61 : decode cX8_quietOf 61 = .ok (.iload_n 2, 1) := by decide +kernel
theorem dX8_quietOf_62 : decode cX8_quietOf 62 = .ok (.sipush 4095, 3) := by decide +kernel
theorem dX8_quietOf_65 : decode cX8_quietOf 65 = .ok (.iand, 1) := by decide +kernel
theorem dX8_quietOf_66 : decode cX8_quietOf 66 = .ok (.ireturn, 1) := by decide +kernel
theorem dX8_isSilent_0 : decode cX8_isSilent 0 = .ok (.aload_n 0, 1) := by decide +kernel
theorem dX8_isSilent_1 : decode cX8_isSilent 1 = .ok (.iload_n 1, 1) := by decide +kernel
theorem dX8_isSilent_2 : decode cX8_isSilent 2 = .ok (.invokevirtual 206, 3) := by decide +kernel
theorem dX8_isSilent_5 : decode cX8_isSilent 5 = .ok (.iload_n 2, 1) := by decide +kernel
theorem dX8_isSilent_6 : decode cX8_isSilent 6 = .ok (.ishr, 1) := by decide +kernel
theorem dX8_isSilent_7 : decode cX8_isSilent 7 = .ok (.iconst 1, 1) := by decide +kernel
theorem dX8_isSilent_8 : decode cX8_isSilent 8 = .ok (.iand, 1) := by decide +kernel
theorem dX8_isSilent_9 : decode cX8_isSilent 9 = .ok (.iconst 1, 1) := by decide +kernel
theorem dX8_isSilent_10 : decode cX8_isSilent 10 = .ok (.if_icmp .ne 7, 3) := by decide +kernel
theorem dX8_isSilent_13 : decode cX8_isSilent 13 = .ok (.iconst 1, 1) := by decide +kernel
theorem dX8_isSilent_14 : decode cX8_isSilent 14 = .ok (.goto 4, 3) := by decide +kernel
theorem dX8_isSilent_17 : decode cX8_isSilent 17 = .ok (.iconst 0, 1) := by decide +kernel
theorem dX8_isSilent_18 : decode cX8_isSilent 18 = .ok (.ireturn, 1) := by decide +kernel
theorem dX8_isSaid_0 : decode cX8_isSaid 0 = .ok (.aload_n 0, 1) := by decide +kernel
theorem dX8_isSaid_1 : decode cX8_isSaid 1 = .ok (.iload_n 2, 1) := by decide +kernel
theorem dX8_isSaid_2 : decode cX8_isSaid 2 = .ok (.invokevirtual 188, 3) := by decide +kernel
theorem dX8_isSaid_5 : decode cX8_isSaid 5 = .ok (.iconst 4, 1) := by decide +kernel
theorem dX8_isSaid_6 : decode cX8_isSaid 6 = .ok (.if_icmp .ne 5, 3) := by decide +kernel
theorem dX8_isSaid_9 : decode cX8_isSaid 9 = .ok (.iconst 1, 1) := by decide +kernel
theorem dX8_isSaid_10 : decode cX8_isSaid 10 = .ok (.ireturn, 1) := by decide +kernel
theorem dX8_isSaid_11 : decode cX8_isSaid 11 = .ok (.aload_n 0, 1) := by decide +kernel
theorem dX8_isSaid_12 : decode cX8_isSaid 12 = .ok (.iload_n 2, 1) := by decide +kernel
theorem dX8_isSaid_13 : decode cX8_isSaid 13 = .ok (.iload_n 1, 1) := by decide +kernel
theorem dX8_isSaid_14 : decode cX8_isSaid 14 = .ok (.invokevirtual 209, 3) := by decide +kernel
theorem dX8_isSaid_17 : decode cX8_isSaid 17 = .ok (.istore 4, 2) := by decide +kernel
theorem dX8_isSaid_19 : decode cX8_isSaid 19 = .ok (.aload_n 0, 1) := by decide +kernel
theorem dX8_isSaid_20 : decode cX8_isSaid 20 = .ok (.iload_n 3, 1) := by decide +kernel
theorem dX8_isSaid_21 : decode cX8_isSaid 21 = .ok (.iload_n 1, 1) := by decide +kernel
theorem dX8_isSaid_22 : decode cX8_isSaid 22 = .ok (.invokevirtual 209, 3) := by decide +kernel
theorem dX8_isSaid_25 : decode cX8_isSaid 25 = .ok (.istore 5, 2) := by decide +kernel
theorem dX8_isSaid_27 : decode cX8_isSaid 27 = .ok (.aload_n 0, 1) := by decide +kernel
theorem dX8_isSaid_28 : decode cX8_isSaid 28 = .ok (.getfield 7, 3) := by decide +kernel
theorem dX8_isSaid_31 : decode cX8_isSaid 31 = .ok (.bipush 55, 2) := by decide +kernel
theorem dX8_isSaid_33 : decode cX8_isSaid 33 = .ok (.iaload, 1) := by decide +kernel
theorem dX8_isSaid_34 : decode cX8_isSaid 34 = .ok (.ifCond .ne 16, 3) := by decide +kernel
theorem dX8_isSaid_37 : decode cX8_isSaid 37 = .ok (.iload 5, 2) := by decide +kernel
theorem dX8_isSaid_39 : decode cX8_isSaid 39 = .ok (.ifCond .ne 7, 3) := by decide +kernel
theorem dX8_isSaid_42 : decode cX8_isSaid 42 = .ok (.iconst 1, 1) := by decide +kernel
theorem dX8_isSaid_43 : decode cX8_isSaid 43 = .ok (.goto 51, 3) := by decide +kernel
theorem dX8_isSaid_46 : decode cX8_isSaid 46 = .ok (.iconst 0, 1) := by decide +kernel
theorem dX8_isSaid_47 : decode cX8_isSaid 47 = .ok (.goto 47, 3) := by decide +kernel
theorem dX8_isSaid_50 : decode cX8_isSaid 50 = .ok (.aload_n 0, 1) := by decide +kernel
theorem dX8_isSaid_51 : decode cX8_isSaid 51 = .ok (.getfield 7, 3) := by decide +kernel
theorem dX8_isSaid_54 : decode cX8_isSaid 54 = .ok (.bipush 55, 2) := by decide +kernel
theorem dX8_isSaid_56 : decode cX8_isSaid 56 = .ok (.iaload, 1) := by decide +kernel
theorem dX8_isSaid_57 : decode cX8_isSaid 57 = .ok (.iconst 1, 1) := by decide +kernel
theorem dX8_isSaid_58 : decode cX8_isSaid 58 = .ok (.if_icmp .ne 21, 3) := by decide +kernel
theorem dX8_isSaid_61 : decode cX8_isSaid 61 = .ok (.iload 5, 2) := by decide +kernel
theorem dX8_isSaid_63 : decode cX8_isSaid 63 = .ok (.ifCond .eq 8, 3) := by decide +kernel
theorem dX8_isSaid_66 : decode cX8_isSaid 66 = .ok (.iload 4, 2) := by decide +kernel
theorem dX8_isSaid_68 : decode cX8_isSaid 68 = .ok (.ifCond .eq 7, 3) := by decide +kernel
theorem dX8_isSaid_71 : decode cX8_isSaid 71 = .ok (.iconst 1, 1) := by decide +kernel
theorem dX8_isSaid_72 : decode cX8_isSaid 72 = .ok (.goto 22, 3) := by decide +kernel
theorem dX8_isSaid_75 : decode cX8_isSaid 75 = .ok (.iconst 0, 1) := by decide +kernel
theorem dX8_isSaid_76 : decode cX8_isSaid 76 = .ok (.goto 18, 3) := by decide +kernel
theorem dX8_isSaid_79 : decode cX8_isSaid 79 = .ok (.iload 5, 2) := by decide +kernel
theorem dX8_isSaid_81 : decode cX8_isSaid 81 = .ok (.ifCond .ne 12, 3) := by decide +kernel
theorem dX8_isSaid_84 : decode cX8_isSaid 84 = .ok (.iload 4, 2) := by decide +kernel
theorem dX8_isSaid_86 : decode cX8_isSaid 86 = .ok (.ifCond .ne 7, 3) := by decide +kernel
theorem dX8_isSaid_89 : decode cX8_isSaid 89 = .ok (.iconst 1, 1) := by decide +kernel
theorem dX8_isSaid_90 : decode cX8_isSaid 90 = .ok (.goto 4, 3) := by decide +kernel
theorem dX8_isSaid_93 : decode cX8_isSaid 93 = .ok (.iconst 0, 1) := by decide +kernel
theorem dX8_isSaid_94 : decode cX8_isSaid 94 = .ok (.ireturn, 1) := by decide +kernel
theorem dX8_isTalkSaid_0 : decode cX8_isTalkSaid 0 = .ok (.bipush 24, 2) := by decide +kernel
theorem dX8_isTalkSaid_2 : decode cX8_isTalkSaid 2 = .ok (.iconst 3, 1) := by decide +kernel
theorem dX8_isTalkSaid_3 : decode cX8_isTalkSaid 3 = .ok (.iload_n 1, 1) := by decide +kernel
theorem dX8_isTalkSaid_4 : decode cX8_isTalkSaid 4 = .ok (.imul, 1) := by decide +kernel
theorem dX8_isTalkSaid_5 : decode cX8_isTalkSaid 5 = .ok (.iadd, 1) := by decide +kernel
theorem dX8_isTalkSaid_6 : decode cX8_isTalkSaid 6 = .ok (.istore_n 2, 1) := by decide +kernel
theorem dX8_isTalkSaid_7 : decode cX8_isTalkSaid 7 = .ok (.aload_n 0, 1) := by decide +kernel
theorem dX8_isTalkSaid_8 : decode cX8_isTalkSaid 8 = .ok (.aload_n 0, 1) := by decide +kernel
theorem dX8_isTalkSaid_9 : decode cX8_isTalkSaid 9 = .ok (.getfield 7, 3) := by decide +kernel
theorem dX8_isTalkSaid_12 : decode cX8_isTalkSaid 12 = .ok (.iload_n 2, 1) := by decide +kernel
theorem dX8_isTalkSaid_13 : decode cX8_isTalkSaid 13 = .ok (.iaload, 1) := by decide +kernel
theorem dX8_isTalkSaid_14 : decode cX8_isTalkSaid 14 = .ok (.aload_n 0, 1) := by decide +kernel
theorem dX8_isTalkSaid_15 : decode cX8_isTalkSaid 15 = .ok (.getfield 7, 3) := by decide +kernel
theorem dX8_isTalkSaid_18 : decode cX8_isTalkSaid 18 = .ok (.iload_n 2, 1) := by decide +kernel
theorem dX8_isTalkSaid_19 : decode cX8_isTalkSaid 19 = .ok (.iconst 1, 1) := by decide +kernel
theorem dX8_isTalkSaid_20 : decode cX8_isTalkSaid 20 = .ok (.iadd, 1) := by decide +kernel
theorem dX8_isTalkSaid_21 : decode cX8_isTalkSaid 21 = .ok (.iaload, 1) := by decide +kernel
theorem dX8_isTalkSaid_22 : decode cX8_isTalkSaid 22 = .ok (.aload_n 0, 1) := by decide +kernel
theorem dX8_isTalkSaid_23 : decode cX8_isTalkSaid 23 = .ok (.getfield 7, 3) := by decide +kernel
theorem dX8_isTalkSaid_26 : decode cX8_isTalkSaid 26 = .ok (.iload_n 2, 1) := by decide +kernel
theorem dX8_isTalkSaid_27 : decode cX8_isTalkSaid 27 = .ok (.iconst 2, 1) := by decide +kernel
theorem dX8_isTalkSaid_28 : decode cX8_isTalkSaid 28 = .ok (.iadd, 1) := by decide +kernel
theorem dX8_isTalkSaid_29 : decode cX8_isTalkSaid 29 = .ok (.iaload, 1) := by decide +kernel
theorem dX8_isTalkSaid_30 : decode cX8_isTalkSaid 30 = .ok (.invokevirtual 213, 3) := by decide +kernel
theorem dX8_isTalkSaid_33 : decode cX8_isTalkSaid 33 = .ok (.ireturn, 1) := by decide +kernel
theorem dX8_talk_0 : decode cX8_talk 0 = .ok (.iload_n 1, 1) := by decide +kernel
theorem dX8_talk_1 : decode cX8_talk 1 = .ok (.i2l, 1) := by decide +kernel
theorem dX8_talk_2 : decode cX8_talk 2 = .ok (.lconst 0, 1) := by decide +kernel
theorem dX8_talk_3 : decode cX8_talk 3 = .ok (.aload_n 0, 1) := by decide +kernel
theorem dX8_talk_4 : decode cX8_talk 4 = .ok (.getfield 7, 3) := by decide +kernel
theorem dX8_talk_7 : decode cX8_talk 7 = .ok (.bipush 54, 2) := by decide +kernel
theorem dX8_talk_9 : decode cX8_talk 9 = .ok (.iaload, 1) := by decide +kernel
theorem dX8_talk_10 : decode cX8_talk 10 = .ok (.iconst 1, 1) := by decide +kernel
theorem dX8_talk_11 : decode cX8_talk 11 = .ok (.isub, 1) := by decide +kernel
theorem dX8_talk_12 : decode cX8_talk 12 = .ok (.i2l, 1) := by decide +kernel
theorem dX8_talk_13 : decode cX8_talk 13 = .ok (.invokestatic 69, 3) := by decide +kernel
theorem dX8_talk_16 : decode cX8_talk 16 = .ok (.ifCond .eq 15, 3) := by decide +kernel
theorem dX8_talk_19 : decode cX8_talk 19 = .ok (.iload_n 2, 1) := by decide +kernel
theorem dX8_talk_20 : decode cX8_talk 20 = .ok (.i2l, 1) := by decide +kernel
theorem dX8_talk_21 : decode cX8_talk 21 = .ok (.lconst 0, 1) := by decide +kernel
theorem dX8_talk_22 : decode cX8_talk 22 = .ok (.ldc2_w 217, 3) := by decide +kernel
theorem dX8_talk_25 : decode cX8_talk 25 = .ok (.invokestatic 69, 3) := by decide +kernel
theorem dX8_talk_28 : decode cX8_talk 28 = .ok (.ifCond .ne 5, 3) := by decide +kernel
theorem dX8_talk_31 : decode cX8_talk 31 = .ok (.iconst (-1), 1) := by decide +kernel
theorem dX8_talk_32 : decode cX8_talk 32 = .ok (.ireturn, 1) := by decide +kernel
theorem dX8_talk_33 : decode cX8_talk 33 = .ok (.iload_n 2, 1) := by decide +kernel
theorem dX8_talk_34 : decode cX8_talk 34 = .ok (.iconst 3, 1) := by decide +kernel
theorem dX8_talk_35 : decode cX8_talk 35 = .ok (.if_icmp .ne 19, 3) := by decide +kernel
theorem dX8_talk_38 : decode cX8_talk 38 = .ok (.aload_n 0, 1) := by decide +kernel
theorem dX8_talk_39 : decode cX8_talk 39 = .ok (.iload_n 1, 1) := by decide +kernel
theorem dX8_talk_40 : decode cX8_talk 40 = .ok (.invokevirtual 219, 3) := by decide +kernel
theorem dX8_talk_43 : decode cX8_talk 43 = .ok (.ifCond .eq 7, 3) := by decide +kernel
theorem dX8_talk_46 : decode cX8_talk 46 = .ok (.iconst 1, 1) := by decide +kernel
theorem dX8_talk_47 : decode cX8_talk 47 = .ok (.goto 20, 3) := by decide +kernel
theorem dX8_talk_50 : decode cX8_talk 50 = .ok (.iconst 0, 1) := by decide +kernel
theorem dX8_talk_51 : decode cX8_talk 51 = .ok (.goto 16, 3) := by decide +kernel
theorem dX8_talk_54 : decode cX8_talk 54 = .ok (.aload_n 0, 1) := by decide +kernel
theorem dX8_talk_55 : decode cX8_talk 55 = .ok (.getfield 7, 3) := by decide +kernel
theorem dX8_talk_58 : decode cX8_talk 58 = .ok (.bipush 24, 2) := by decide +kernel
theorem dX8_talk_60 : decode cX8_talk 60 = .ok (.iconst 3, 1) := by decide +kernel
theorem dX8_talk_61 : decode cX8_talk 61 = .ok (.iload_n 1, 1) := by decide +kernel
theorem dX8_talk_62 : decode cX8_talk 62 = .ok (.imul, 1) := by decide +kernel
theorem dX8_talk_63 : decode cX8_talk 63 = .ok (.iadd, 1) := by decide +kernel
theorem dX8_talk_64 : decode cX8_talk 64 = .ok (.iload_n 2, 1) := by decide +kernel
theorem dX8_talk_65 : decode cX8_talk 65 = .ok (.iadd, 1) := by decide +kernel
theorem dX8_talk_66 : decode cX8_talk 66 = .ok (.iaload, 1) := by decide +kernel
theorem dX8_talk_67 : decode cX8_talk 67 = .ok (.ireturn, 1) := by decide +kernel
theorem dX8_silent_0 : decode cX8_silent 0 = .ok (.iload_n 1, 1) := by decide +kernel
theorem dX8_silent_1 : decode cX8_silent 1 = .ok (.invokestatic 222, 3) := by decide +kernel
theorem dX8_silent_4 : decode cX8_silent 4 = .ok (.ifCond .ne 5, 3) := by decide +kernel
theorem dX8_silent_7 : decode cX8_silent 7 = .ok (.iconst (-1), 1) := by decide +kernel
theorem dX8_silent_8 : decode cX8_silent 8 = .ok (.ireturn, 1) := by decide +kernel
theorem dX8_silent_9 : decode cX8_silent 9 = .ok (.iconst 0, 1) := by decide +kernel
theorem dX8_silent_10 : decode cX8_silent 10 = .ok (.istore_n 2, 1) := by decide +kernel
theorem dX8_silent_11 : decode cX8_silent 11 = .ok (.iconst 0, 1) := by decide +kernel
theorem dX8_silent_12 : decode cX8_silent 12 = .ok (.istore_n 3, 1) := by decide +kernel
theorem dX8_silent_13 : decode cX8_silent 13 = .ok (.iload_n 3, 1) := by decide +kernel
theorem dX8_silent_14 : decode cX8_silent 14 = .ok (.aload_n 0, 1) := by decide +kernel
theorem dX8_silent_15 : decode cX8_silent 15 = .ok (.getfield 166, 3) := by decide +kernel
theorem dX8_silent_18 : decode cX8_silent 18 = .ok (.if_icmp .ge 28, 3) := by decide +kernel
theorem dX8_silent_21 : decode cX8_silent 21 = .ok (.iload_n 2, 1) := by decide +kernel
theorem dX8_silent_22 : decode cX8_silent 22 = .ok (.aload_n 0, 1) := by decide +kernel
theorem dX8_silent_23 : decode cX8_silent 23 = .ok (.iload_n 3, 1) := by decide +kernel
theorem dX8_silent_24 : decode cX8_silent 24 = .ok (.iload_n 1, 1) := by decide +kernel
theorem dX8_silent_25 : decode cX8_silent 25 = .ok (.invokevirtual 209, 3) := by decide +kernel
theorem dX8_silent_28 : decode cX8_silent 28 = .ok (.ifCond .eq 9, 3) := by decide +kernel
theorem dX8_silent_31 : decode cX8_silent 31 = .ok (.iconst 1, 1) := by decide +kernel
theorem dX8_silent_32 : decode cX8_silent 32 = .ok (.iload_n 3, 1) := by decide +kernel
theorem dX8_silent_33 : decode cX8_silent 33 = .ok (.ishl, 1) := by decide +kernel
theorem dX8_silent_34 : decode cX8_silent 34 = .ok (.goto 4, 3) := by decide +kernel
theorem dX8_silent_37 : decode cX8_silent 37 = .ok (.iconst 0, 1) := by decide +kernel
theorem dX8_silent_38 : decode cX8_silent 38 = .ok (.ior, 1) := by decide +kernel
theorem dX8_silent_39 : decode cX8_silent 39 = .ok (.istore_n 2, 1) := by decide +kernel
theorem dX8_silent_40 : decode cX8_silent 40 = .ok (.iinc 3 1, 3) := by decide +kernel
theorem dX8_silent_43 : decode cX8_silent 43 = .ok (.goto (-30), 3) := by decide +kernel
theorem dX8_silent_46 : decode cX8_silent 46 = .ok (.iload_n 2, 1) := by decide +kernel
theorem dX8_silent_47 : decode cX8_silent 47 = .ok (.ireturn, 1) := by decide +kernel
theorem dX8_quiet_0 : decode cX8_quiet 0 = .ok (.aload_n 0, 1) := by decide +kernel
theorem dX8_quiet_1 : decode cX8_quiet 1 = .ok (.iload_n 1, 1) := by decide +kernel
theorem dX8_quiet_2 : decode cX8_quiet 2 = .ok (.invokevirtual 180, 3) := by decide +kernel
theorem dX8_quiet_5 : decode cX8_quiet 5 = .ok (.ifCond .eq 11, 3) := by decide +kernel
theorem dX8_quiet_8 : decode cX8_quiet 8 = .ok (.aload_n 0, 1) := by decide +kernel
theorem dX8_quiet_9 : decode cX8_quiet 9 = .ok (.iload_n 1, 1) := by decide +kernel
theorem dX8_quiet_10 : decode cX8_quiet 10 = .ok (.invokevirtual 206, 3) := by decide +kernel
theorem dX8_quiet_13 : decode cX8_quiet 13 = .ok (.goto 4, 3) := by decide +kernel
theorem dX8_quiet_16 : decode cX8_quiet 16 = .ok (.iconst (-1), 1) := by decide +kernel
theorem dX8_quiet_17 : decode cX8_quiet 17 = .ok (.ireturn, 1) := by decide +kernel
theorem dX8_may_0 : decode cX8_may 0 = .ok (.iload_n 1, 1) := by decide +kernel
theorem dX8_may_1 : decode cX8_may 1 = .ok (.invokestatic 222, 3) := by decide +kernel
theorem dX8_may_4 : decode cX8_may 4 = .ok (.ifCond .eq 30, 3) := by decide +kernel
theorem dX8_may_7 : decode cX8_may 7 = .ok (.aload_n 0, 1) := by decide +kernel
theorem dX8_may_8 : decode cX8_may 8 = .ok (.iload_n 2, 1) := by decide +kernel
theorem dX8_may_9 : decode cX8_may 9 = .ok (.iload_n 3, 1) := by decide +kernel
theorem dX8_may_10 : decode cX8_may 10 = .ok (.invokevirtual 225, 3) := by decide +kernel
theorem dX8_may_13 : decode cX8_may 13 = .ok (.ifCond .eq 21, 3) := by decide +kernel
theorem dX8_may_16 : decode cX8_may 16 = .ok (.aload_n 0, 1) := by decide +kernel
theorem dX8_may_17 : decode cX8_may 17 = .ok (.iload_n 1, 1) := by decide +kernel
theorem dX8_may_18 : decode cX8_may 18 = .ok (.iload_n 2, 1) := by decide +kernel
theorem dX8_may_19 : decode cX8_may 19 = .ok (.iload_n 3, 1) := by decide +kernel
theorem dX8_may_20 : decode cX8_may 20 = .ok (.invokevirtual 213, 3) := by decide +kernel
theorem dX8_may_23 : decode cX8_may 23 = .ok (.ifCond .eq 7, 3) := by decide +kernel
theorem dX8_may_26 : decode cX8_may 26 = .ok (.iconst 1, 1) := by decide +kernel
theorem dX8_may_27 : decode cX8_may 27 = .ok (.goto 8, 3) := by decide +kernel
theorem dX8_may_30 : decode cX8_may 30 = .ok (.iconst 0, 1) := by decide +kernel
theorem dX8_may_31 : decode cX8_may 31 = .ok (.goto 4, 3) := by decide +kernel
theorem dX8_may_34 : decode cX8_may 34 = .ok (.iconst (-1), 1) := by decide +kernel
theorem dX8_may_35 : decode cX8_may 35 = .ok (.ireturn, 1) := by decide +kernel
theorem dX8_said_0 : decode cX8_said 0 = .ok (.iconst 0, 1) := by decide +kernel
theorem dX8_said_1 : decode cX8_said 1 = .ok (.istore_n 1, 1) := by decide +kernel
theorem dX8_said_2 : decode cX8_said 2 = .ok (.iconst 0, 1) := by decide +kernel
theorem dX8_said_3 : decode cX8_said 3 = .ok (.istore_n 2, 1) := by decide +kernel
theorem dX8_said_4 : decode cX8_said 4 = .ok (.iload_n 2, 1) := by decide +kernel
theorem dX8_said_5 : decode cX8_said 5 = .ok (.aload_n 0, 1) := by decide +kernel
theorem dX8_said_6 : decode cX8_said 6 = .ok (.getfield 7, 3) := by decide +kernel
theorem dX8_said_9 : decode cX8_said 9 = .ok (.bipush 54, 2) := by decide +kernel
theorem dX8_said_11 : decode cX8_said 11 = .ok (.iaload, 1) := by decide +kernel
theorem dX8_said_12 : decode cX8_said 12 = .ok (.if_icmp .ge 27, 3) := by decide +kernel
theorem dX8_said_15 : decode cX8_said 15 = .ok (.iload_n 1, 1) := by decide +kernel
theorem dX8_said_16 : decode cX8_said 16 = .ok (.aload_n 0, 1) := by decide +kernel
theorem dX8_said_17 : decode cX8_said 17 = .ok (.iload_n 2, 1) := by decide +kernel
theorem dX8_said_18 : decode cX8_said 18 = .ok (.invokevirtual 219, 3) := by decide +kernel
theorem dX8_said_21 : decode cX8_said 21 = .ok (.ifCond .eq 9, 3) := by decide +kernel
theorem dX8_said_24 : decode cX8_said 24 = .ok (.iconst 1, 1) := by decide +kernel
theorem dX8_said_25 : decode cX8_said 25 = .ok (.iload_n 2, 1) := by decide +kernel
theorem dX8_said_26 : decode cX8_said 26 = .ok (.ishl, 1) := by decide +kernel
theorem dX8_said_27 : decode cX8_said 27 = .ok (.goto 4, 3) := by decide +kernel
theorem dX8_said_30 : decode cX8_said 30 = .ok (.iconst 0, 1) := by decide +kernel
theorem dX8_said_31 : decode cX8_said 31 = .ok (.ior, 1) := by decide +kernel
theorem dX8_said_32 : decode cX8_said 32 = .ok (.istore_n 1, 1) := by decide +kernel
theorem dX8_said_33 : decode cX8_said 33 = .ok (.iinc 2 1, 3) := by decide +kernel
theorem dX8_said_36 : decode cX8_said 36 = .ok (.goto (-32), 3) := by decide +kernel
theorem dX8_said_39 : decode cX8_said 39 = .ok (.iload_n 1, 1) := by decide +kernel
theorem dX8_said_40 : decode cX8_said 40 = .ok (.ireturn, 1) := by decide +kernel
theorem dX8_law_0 : decode cX8_law 0 = .ok (.iload_n 1, 1) := by decide +kernel
theorem dX8_law_1 : decode cX8_law 1 = .ok (.i2l, 1) := by decide +kernel
theorem dX8_law_2 : decode cX8_law 2 = .ok (.lconst 0, 1) := by decide +kernel
theorem dX8_law_3 : decode cX8_law 3 = .ok (.ldc2_w 186, 3) := by decide +kernel
theorem dX8_law_6 : decode cX8_law 6 = .ok (.invokestatic 69, 3) := by decide +kernel
theorem dX8_law_9 : decode cX8_law 9 = .ok (.ifCond .ne 5, 3) := by decide +kernel
theorem dX8_law_12 : decode cX8_law 12 = .ok (.iconst (-1), 1) := by decide +kernel
theorem dX8_law_13 : decode cX8_law 13 = .ok (.ireturn, 1) := by decide +kernel
theorem dX8_law_14 : decode cX8_law 14 = .ok (.aload_n 0, 1) := by decide +kernel
theorem dX8_law_15 : decode cX8_law 15 = .ok (.getfield 7, 3) := by decide +kernel
theorem dX8_law_18 : decode cX8_law 18 = .ok (.bipush 55, 2) := by decide +kernel
theorem dX8_law_20 : decode cX8_law 20 = .ok (.iaload, 1) := by decide +kernel
theorem dX8_law_21 : decode cX8_law 21 = .ok (.istore_n 2, 1) := by decide +kernel
theorem dX8_law_22 : decode cX8_law 22 = .ok (.aload_n 0, 1) := by decide +kernel
theorem dX8_law_23 : decode cX8_law 23 = .ok (.getfield 7, 3) := by decide +kernel
theorem dX8_law_26 : decode cX8_law 26 = .ok (.bipush 55, 2) := by decide +kernel
theorem dX8_law_28 : decode cX8_law 28 = .ok (.iload_n 1, 1) := by decide +kernel
theorem dX8_law_29 : decode cX8_law 29 = .ok (.iastore, 1) := by decide +kernel
theorem dX8_law_30 : decode cX8_law 30 = .ok (.iload_n 2, 1) := by decide +kernel
theorem dX8_law_31 : decode cX8_law 31 = .ok (.ireturn, 1) := by decide +kernel
theorem dX8_fee_0 : decode cX8_fee 0 = .ok (.iload_n 1, 1) := by decide +kernel
theorem dX8_fee_1 : decode cX8_fee 1 = .ok (.i2l, 1) := by decide +kernel
theorem dX8_fee_2 : decode cX8_fee 2 = .ok (.lconst 0, 1) := by decide +kernel
theorem dX8_fee_3 : decode cX8_fee 3 = .ok (.ldc2_w 228, 3) := by decide +kernel
theorem dX8_fee_6 : decode cX8_fee 6 = .ok (.invokestatic 69, 3) := by decide +kernel
theorem dX8_fee_9 : decode cX8_fee 9 = .ok (.ifCond .ne 5, 3) := by decide +kernel
theorem dX8_fee_12 : decode cX8_fee 12 = .ok (.iconst (-1), 1) := by decide +kernel
theorem dX8_fee_13 : decode cX8_fee 13 = .ok (.ireturn, 1) := by decide +kernel
theorem dX8_fee_14 : decode cX8_fee 14 = .ok (.aload_n 0, 1) := by decide +kernel
theorem dX8_fee_15 : decode cX8_fee 15 = .ok (.invokevirtual 183, 3) := by decide +kernel
theorem dX8_fee_18 : decode cX8_fee 18 = .ok (.istore_n 2, 1) := by decide +kernel
theorem dX8_fee_19 : decode cX8_fee 19 = .ok (.aload_n 0, 1) := by decide +kernel
theorem dX8_fee_20 : decode cX8_fee 20 = .ok (.getfield 7, 3) := by decide +kernel
theorem dX8_fee_23 : decode cX8_fee 23 = .ok (.bipush 56, 2) := by decide +kernel
theorem dX8_fee_25 : decode cX8_fee 25 = .ok (.iload_n 1, 1) := by decide +kernel
theorem dX8_fee_26 : decode cX8_fee 26 = .ok (.iconst 1, 1) := by decide +kernel
theorem dX8_fee_27 : decode cX8_fee 27 = .ok (.isub, 1) := by decide +kernel
theorem dX8_fee_28 : decode cX8_fee 28 = .ok (.iastore, 1) := by decide +kernel
theorem dX8_fee_29 : decode cX8_fee 29 = .ok (.iload_n 2, 1) := by decide +kernel
theorem dX8_fee_30 : decode cX8_fee 30 = .ok (.ireturn, 1) := by decide +kernel
theorem dX8_give_0 : decode cX8_give 0 = .ok (.aload_n 0, 1) := by decide +kernel
theorem dX8_give_1 : decode cX8_give 1 = .ok (.iload_n 1, 1) := by decide +kernel
theorem dX8_give_2 : decode cX8_give 2 = .ok (.invokevirtual 191, 3) := by decide +kernel
theorem dX8_give_5 : decode cX8_give 5 = .ok (.ifCond .eq 11, 3) := by decide +kernel
theorem dX8_give_8 : decode cX8_give 8 = .ok (.aload_n 0, 1) := by decide +kernel
theorem dX8_give_9 : decode cX8_give 9 = .ok (.iload_n 2, 1) := by decide +kernel
theorem dX8_give_10 : decode cX8_give 10 = .ok (.invokevirtual 180, 3) := by decide +kernel
theorem dX8_give_13 : decode cX8_give 13 = .ok (.ifCond .ne 5, 3) := by decide +kernel
theorem dX8_give_16 : decode cX8_give 16 = .ok (.iconst (-1), 1) := by decide +kernel
theorem dX8_give_17 : decode cX8_give 17 = .ok (.ireturn, 1) := by decide +kernel
theorem dX8_give_18 : decode cX8_give 18 = .ok (.aload_n 0, 1) := by decide +kernel
theorem dX8_give_19 : decode cX8_give 19 = .ok (.iload_n 1, 1) := by decide +kernel
theorem dX8_give_20 : decode cX8_give 20 = .ok (.invokevirtual 203, 3) := by decide +kernel
theorem dX8_give_23 : decode cX8_give 23 = .ok (.ifCond .eq 6, 3) := by decide +kernel
theorem dX8_give_26 : decode cX8_give 26 = .ok (.bipush (-2), 2) := by decide +kernel
theorem dX8_give_28 : decode cX8_give 28 = .ok (.ireturn, 1) := by decide +kernel
theorem dX8_give_29 : decode cX8_give 29 = .ok (.aload_n 0, 1) := by decide +kernel
theorem dX8_give_30 : decode cX8_give 30 = .ok (.iload_n 1, 1) := by decide +kernel
theorem dX8_give_31 : decode cX8_give 31 = .ok (.invokevirtual 196, 3) := by decide +kernel
theorem dX8_give_34 : decode cX8_give 34 = .ok (.istore_n 3, 1) := by decide +kernel
theorem dX8_give_35 : decode cX8_give 35 = .ok (.aload_n 0, 1) := by decide +kernel
theorem dX8_give_36 : decode cX8_give 36 = .ok (.getfield 7, 3) := by decide +kernel
theorem dX8_give_39 : decode cX8_give 39 = .ok (.iconst 4, 1) := by decide +kernel
theorem dX8_give_40 : decode cX8_give 40 = .ok (.iload_n 1, 1) := by decide +kernel
theorem dX8_give_41 : decode cX8_give 41 = .ok (.imul, 1) := by decide +kernel
theorem dX8_give_42 : decode cX8_give 42 = .ok (.iconst 1, 1) := by decide +kernel
theorem dX8_give_43 : decode cX8_give 43 = .ok (.iadd, 1) := by decide +kernel
theorem dX8_give_44 : decode cX8_give 44 = .ok (.iload_n 2, 1) := by decide +kernel
theorem dX8_give_45 : decode cX8_give 45 = .ok (.iastore, 1) := by decide +kernel
theorem dX8_give_46 : decode cX8_give 46 = .ok (.iload_n 3, 1) := by decide +kernel
theorem dX8_give_47 : decode cX8_give 47 = .ok (.ireturn, 1) := by decide +kernel
theorem dX8_clip_0 : decode cX8_clip 0 = .ok (.aload_n 0, 1) := by decide +kernel
theorem dX8_clip_1 : decode cX8_clip 1 = .ok (.iload_n 1, 1) := by decide +kernel
theorem dX8_clip_2 : decode cX8_clip 2 = .ok (.invokevirtual 191, 3) := by decide +kernel
theorem dX8_clip_5 : decode cX8_clip 5 = .ok (.ifCond .ne 5, 3) := by decide +kernel
theorem dX8_clip_8 : decode cX8_clip 8 = .ok (.iconst (-1), 1) := by decide +kernel
theorem dX8_clip_9 : decode cX8_clip 9 = .ok (.ireturn, 1) := by decide +kernel
theorem dX8_clip_10 : decode cX8_clip 10 = .ok (.aload_n 0, 1) := by decide +kernel
theorem dX8_clip_11 : decode cX8_clip 11 = .ok (.getfield 7, 3) := by decide +kernel
theorem dX8_clip_14 : decode cX8_clip 14 = .ok (.iconst 4, 1) := by decide +kernel
theorem dX8_clip_15 : decode cX8_clip 15 = .ok (.iload_n 1, 1) := by decide +kernel
theorem dX8_clip_16 : decode cX8_clip 16 = .ok (.imul, 1) := by decide +kernel
theorem dX8_clip_17 : decode cX8_clip 17 = .ok (.iconst 2, 1) := by decide +kernel
theorem dX8_clip_18 : decode cX8_clip 18 = .ok (.iadd, 1) := by decide +kernel
theorem dX8_clip_19 : decode cX8_clip 19 = .ok (.iaload, 1) := by decide +kernel
theorem dX8_clip_20 : decode cX8_clip 20 = .ok (.istore_n 2, 1) := by decide +kernel
theorem dX8_clip_21 : decode cX8_clip 21 = .ok (.aload_n 0, 1) := by decide +kernel
theorem dX8_clip_22 : decode cX8_clip 22 = .ok (.getfield 7, 3) := by decide +kernel
theorem dX8_clip_25 : decode cX8_clip 25 = .ok (.iconst 4, 1) := by decide +kernel
theorem dX8_clip_26 : decode cX8_clip 26 = .ok (.iload_n 1, 1) := by decide +kernel
theorem dX8_clip_27 : decode cX8_clip 27 = .ok (.imul, 1) := by decide +kernel
theorem dX8_clip_28 : decode cX8_clip 28 = .ok (.iconst 2, 1) := by decide +kernel
theorem dX8_clip_29 : decode cX8_clip 29 = .ok (.iadd, 1) := by decide +kernel
theorem dX8_clip_30 : decode cX8_clip 30 = .ok (.iconst 1, 1) := by decide +kernel
theorem dX8_clip_31 : decode cX8_clip 31 = .ok (.iastore, 1) := by decide +kernel
theorem dX8_clip_32 : decode cX8_clip 32 = .ok (.iconst 1, 1) := by decide +kernel
theorem dX8_clip_33 : decode cX8_clip 33 = .ok (.iload_n 2, 1) := by decide +kernel
theorem dX8_clip_34 : decode cX8_clip 34 = .ok (.isub, 1) := by decide +kernel
theorem dX8_clip_35 : decode cX8_clip 35 = .ok (.ireturn, 1) := by decide +kernel
theorem dX8_spend_0 : decode cX8_spend 0 = .ok (.aload_n 0, 1) := by decide +kernel
theorem dX8_spend_1 : decode cX8_spend 1 = .ok (.iload_n 1, 1) := by decide +kernel
theorem dX8_spend_2 : decode cX8_spend 2 = .ok (.invokevirtual 191, 3) := by decide +kernel
theorem dX8_spend_5 : decode cX8_spend 5 = .ok (.ifCond .eq 10, 3) := by decide +kernel
theorem dX8_spend_8 : decode cX8_spend 8 = .ok (.iload_n 2, 1) := by decide +kernel
theorem dX8_spend_9 : decode cX8_spend 9 = .ok (.invokestatic 222, 3) := by decide +kernel
theorem dX8_spend_12 : decode cX8_spend 12 = .ok (.ifCond .ne 5, 3) := by decide +kernel
theorem dX8_spend_15 : decode cX8_spend 15 = .ok (.iconst (-1), 1) := by decide +kernel
theorem dX8_spend_16 : decode cX8_spend 16 = .ok (.ireturn, 1) := by decide +kernel
theorem dX8_spend_17 : decode cX8_spend 17 = .ok (.aload_n 0, 1) := by decide +kernel
theorem dX8_spend_18 : decode cX8_spend 18 = .ok (.iload_n 1, 1) := by decide +kernel
theorem dX8_spend_19 : decode cX8_spend 19 = .ok (.invokevirtual 203, 3) := by decide +kernel
theorem dX8_spend_22 : decode cX8_spend 22 = .ok (.ifCond .eq 6, 3) := by decide +kernel
theorem dX8_spend_25 : decode cX8_spend 25 = .ok (.bipush (-2), 2) := by decide +kernel
theorem dX8_spend_27 : decode cX8_spend 27 = .ok (.ireturn, 1) := by decide +kernel
theorem dX8_spend_28 : decode cX8_spend 28 = .ok (.aload_n 0, 1) := by decide +kernel
theorem dX8_spend_29 : decode cX8_spend 29 = .ok (.getfield 7, 3) := by decide +kernel
theorem dX8_spend_32 : decode cX8_spend 32 = .ok (.iconst 4, 1) := by decide +kernel
theorem dX8_spend_33 : decode cX8_spend 33 = .ok (.iload_n 1, 1) := by decide +kernel
theorem dX8_spend_34 : decode cX8_spend 34 = .ok (.imul, 1) := by decide +kernel
theorem dX8_spend_35 : decode cX8_spend 35 = .ok (.iconst 3, 1) := by decide +kernel
theorem dX8_spend_36 : decode cX8_spend 36 = .ok (.iadd, 1) := by decide +kernel
theorem dX8_spend_37 : decode cX8_spend 37 = .ok (.iload_n 2, 1) := by decide +kernel
theorem dX8_spend_38 : decode cX8_spend 38 = .ok (.iconst 1, 1) := by decide +kernel
theorem dX8_spend_39 : decode cX8_spend 39 = .ok (.iadd, 1) := by decide +kernel
theorem dX8_spend_40 : decode cX8_spend 40 = .ok (.iastore, 1) := by decide +kernel
theorem dX8_spend_41 : decode cX8_spend 41 = .ok (.aload_n 0, 1) := by decide +kernel
theorem dX8_spend_42 : decode cX8_spend 42 = .ok (.iload_n 1, 1) := by decide +kernel
theorem dX8_spend_43 : decode cX8_spend 43 = .ok (.aload_n 0, 1) := by decide +kernel
theorem dX8_spend_44 : decode cX8_spend 44 = .ok (.iload_n 1, 1) := by decide +kernel
theorem dX8_spend_45 : decode cX8_spend 45 = .ok (.invokevirtual 196, 3) := by decide +kernel
theorem dX8_spend_48 : decode cX8_spend 48 = .ok (.invokevirtual 199, 3) := by decide +kernel
theorem dX8_spend_51 : decode cX8_spend 51 = .ok (.ireturn, 1) := by decide +kernel
theorem dX8_undo_0 : decode cX8_undo 0 = .ok (.aload_n 0, 1) := by decide +kernel
theorem dX8_undo_1 : decode cX8_undo 1 = .ok (.iload_n 1, 1) := by decide +kernel
theorem dX8_undo_2 : decode cX8_undo 2 = .ok (.invokevirtual 191, 3) := by decide +kernel
theorem dX8_undo_5 : decode cX8_undo 5 = .ok (.ifCond .ne 5, 3) := by decide +kernel
theorem dX8_undo_8 : decode cX8_undo 8 = .ok (.iconst (-1), 1) := by decide +kernel
theorem dX8_undo_9 : decode cX8_undo 9 = .ok (.ireturn, 1) := by decide +kernel
theorem dX8_undo_10 : decode cX8_undo 10 = .ok (.aload_n 0, 1) := by decide +kernel
theorem dX8_undo_11 : decode cX8_undo 11 = .ok (.iload_n 1, 1) := by decide +kernel
theorem dX8_undo_12 : decode cX8_undo 12 = .ok (.invokevirtual 203, 3) := by decide +kernel
theorem dX8_undo_15 : decode cX8_undo 15 = .ok (.ifCond .eq 18, 3) := by decide +kernel
theorem dX8_undo_18 : decode cX8_undo 18 = .ok (.aload_n 0, 1) := by decide +kernel
theorem dX8_undo_19 : decode cX8_undo 19 = .ok (.getfield 7, 3) := by decide +kernel
theorem dX8_undo_22 : decode cX8_undo 22 = .ok (.iconst 4, 1) := by decide +kernel
theorem dX8_undo_23 : decode cX8_undo 23 = .ok (.iload_n 1, 1) := by decide +kernel
theorem dX8_undo_24 : decode cX8_undo 24 = .ok (.imul, 1) := by decide +kernel
theorem dX8_undo_25 : decode cX8_undo 25 = .ok (.iconst 3, 1) := by decide +kernel
theorem dX8_undo_26 : decode cX8_undo 26 = .ok (.iadd, 1) := by decide +kernel
theorem dX8_undo_27 : decode cX8_undo 27 = .ok (.iaload, 1) := by decide +kernel
theorem dX8_undo_28 : decode cX8_undo 28 = .ok (.iconst 1, 1) := by decide +kernel
theorem dX8_undo_29 : decode cX8_undo 29 = .ok (.isub, 1) := by decide +kernel
theorem dX8_undo_30 : decode cX8_undo 30 = .ok (.goto 5, 3) := by decide +kernel
theorem dX8_undo_33 : decode cX8_undo 33 = .ok (.bipush (-4), 2) := by decide +kernel
theorem dX8_undo_35 : decode cX8_undo 35 = .ok (.istore_n 2, 1) := by decide +kernel
theorem dX8_undo_36 : decode cX8_undo 36 = .ok (.aload_n 0, 1) := by decide +kernel
theorem dX8_undo_37 : decode cX8_undo 37 = .ok (.getfield 7, 3) := by decide +kernel
theorem dX8_undo_40 : decode cX8_undo 40 = .ok (.iconst 4, 1) := by decide +kernel
theorem dX8_undo_41 : decode cX8_undo 41 = .ok (.iload_n 1, 1) := by decide +kernel
theorem dX8_undo_42 : decode cX8_undo 42 = .ok (.imul, 1) := by decide +kernel
theorem dX8_undo_43 : decode cX8_undo 43 = .ok (.iconst 3, 1) := by decide +kernel
theorem dX8_undo_44 : decode cX8_undo 44 = .ok (.iadd, 1) := by decide +kernel
theorem dX8_undo_45 : decode cX8_undo 45 = .ok (.iconst 0, 1) := by decide +kernel
theorem dX8_undo_46 : decode cX8_undo 46 = .ok (.iastore, 1) := by decide +kernel
theorem dX8_undo_47 : decode cX8_undo 47 = .ok (.iload_n 2, 1) := by decide +kernel
theorem dX8_undo_48 : decode cX8_undo 48 = .ok (.ireturn, 1) := by decide +kernel
theorem dX8_speaks_0 : decode cX8_speaks 0 = .ok (.iload_n 1, 1) := by decide +kernel
theorem dX8_speaks_1 : decode cX8_speaks 1 = .ok (.invokestatic 222, 3) := by decide +kernel
theorem dX8_speaks_4 : decode cX8_speaks 4 = .ok (.ifCond .eq 12, 3) := by decide +kernel
theorem dX8_speaks_7 : decode cX8_speaks 7 = .ok (.aload_n 0, 1) := by decide +kernel
theorem dX8_speaks_8 : decode cX8_speaks 8 = .ok (.iload_n 2, 1) := by decide +kernel
theorem dX8_speaks_9 : decode cX8_speaks 9 = .ok (.iload_n 3, 1) := by decide +kernel
theorem dX8_speaks_10 : decode cX8_speaks 10 = .ok (.invokevirtual 225, 3) := by decide +kernel
theorem dX8_speaks_13 : decode cX8_speaks 13 = .ok (.ifCond .ne 5, 3) := by decide +kernel
theorem dX8_speaks_16 : decode cX8_speaks 16 = .ok (.iconst (-1), 1) := by decide +kernel
theorem dX8_speaks_17 : decode cX8_speaks 17 = .ok (.ireturn, 1) := by decide +kernel
theorem dX8_speaks_18 : decode cX8_speaks 18 = .ok (.aload_n 0, 1) := by decide +kernel
theorem dX8_speaks_19 : decode cX8_speaks 19 = .ok (.getfield 7, 3) := by decide +kernel
theorem dX8_speaks_22 : decode cX8_speaks 22 = .ok (.bipush 54, 2) := by decide +kernel
theorem dX8_speaks_24 : decode cX8_speaks 24 = .ok (.iaload, 1) := by decide +kernel
theorem dX8_speaks_25 : decode cX8_speaks 25 = .ok (.istore 4, 2) := by decide +kernel
theorem dX8_speaks_27 : decode cX8_speaks 27 = .ok (.iload 4, 2) := by decide +kernel
theorem dX8_speaks_29 : decode cX8_speaks 29 = .ok (.bipush 10, 2) := by decide +kernel
theorem dX8_speaks_31 : decode cX8_speaks 31 = .ok (.if_icmp .ne 6, 3) := by decide +kernel
theorem dX8_speaks_34 : decode cX8_speaks 34 = .ok (.bipush (-3), 2) := by decide +kernel
theorem dX8_speaks_36 : decode cX8_speaks 36 = .ok (.ireturn, 1) := by decide +kernel
theorem dX8_speaks_37 : decode cX8_speaks 37 = .ok (.aload_n 0, 1) := by decide +kernel
theorem dX8_speaks_38 : decode cX8_speaks 38 = .ok (.getfield 7, 3) := by decide +kernel
theorem dX8_speaks_41 : decode cX8_speaks 41 = .ok (.bipush 24, 2) := by decide +kernel
theorem dX8_speaks_43 : decode cX8_speaks 43 = .ok (.iconst 3, 1) := by decide +kernel
theorem dX8_speaks_44 : decode cX8_speaks 44 = .ok (.iload 4, 2) := by decide +kernel
theorem dX8_speaks_46 : decode cX8_speaks 46 = .ok (.imul, 1) := by decide +kernel
theorem dX8_speaks_47 : decode cX8_speaks 47 = .ok (.iadd, 1) := by decide +kernel
theorem dX8_speaks_48 : decode cX8_speaks 48 = .ok (.iload_n 1, 1) := by decide +kernel
theorem dX8_speaks_49 : decode cX8_speaks 49 = .ok (.iastore, 1) := by decide +kernel
theorem dX8_speaks_50 : decode cX8_speaks 50 = .ok (.aload_n 0, 1) := by decide +kernel
theorem dX8_speaks_51 : decode cX8_speaks 51 = .ok (.getfield 7, 3) := by decide +kernel
theorem dX8_speaks_54 : decode cX8_speaks 54 = .ok (.bipush 24, 2) := by decide +kernel
theorem dX8_speaks_56 : decode cX8_speaks 56 = .ok (.iconst 3, 1) := by decide +kernel
theorem dX8_speaks_57 : decode cX8_speaks 57 = .ok (.iload 4, 2) := by decide +kernel
theorem dX8_speaks_59 : decode cX8_speaks 59 = .ok (.imul, 1) := by decide +kernel
theorem dX8_speaks_60 : decode cX8_speaks 60 = .ok (.iadd, 1) := by decide +kernel
theorem dX8_speaks_61 : decode cX8_speaks 61 = .ok (.iconst 1, 1) := by decide +kernel
theorem dX8_speaks_62 : decode cX8_speaks 62 = .ok (.iadd, 1) := by decide +kernel
theorem dX8_speaks_63 : decode cX8_speaks 63 = .ok (.iload_n 2, 1) := by decide +kernel
theorem dX8_speaks_64 : decode cX8_speaks 64 = .ok (.iastore, 1) := by decide +kernel
theorem dX8_speaks_65 : decode cX8_speaks 65 = .ok (.aload_n 0, 1) := by decide +kernel
theorem dX8_speaks_66 : decode cX8_speaks 66 = .ok (.getfield 7, 3) := by decide +kernel
theorem dX8_speaks_69 : decode cX8_speaks 69 = .ok (.bipush 24, 2) := by decide +kernel
theorem dX8_speaks_71 : decode cX8_speaks 71 = .ok (.iconst 3, 1) := by decide +kernel
theorem dX8_speaks_72 : decode cX8_speaks 72 = .ok (.iload 4, 2) := by decide +kernel
theorem dX8_speaks_74 : decode cX8_speaks 74 = .ok (.imul, 1) := by decide +kernel
theorem dX8_speaks_75 : decode cX8_speaks 75 = .ok (.iadd, 1) := by decide +kernel
theorem dX8_speaks_76 : decode cX8_speaks 76 = .ok (.iconst 2, 1) := by decide +kernel
theorem dX8_speaks_77 : decode cX8_speaks 77 = .ok (.iadd, 1) := by decide +kernel
theorem dX8_speaks_78 : decode cX8_speaks 78 = .ok (.iload_n 3, 1) := by decide +kernel
theorem dX8_speaks_79 : decode cX8_speaks 79 = .ok (.iastore, 1) := by decide +kernel
theorem dX8_speaks_80 : decode cX8_speaks 80 = .ok (.aload_n 0, 1) := by decide +kernel
theorem dX8_speaks_81 : decode cX8_speaks 81 = .ok (.getfield 7, 3) := by decide +kernel
theorem dX8_speaks_84 : decode cX8_speaks 84 = .ok (.bipush 54, 2) := by decide +kernel
theorem dX8_speaks_86 : decode cX8_speaks 86 = .ok (.dup2, 1) := by decide +kernel
theorem dX8_speaks_87 : decode cX8_speaks 87 = .ok (.iaload, 1) := by decide +kernel
theorem dX8_speaks_88 : decode cX8_speaks 88 = .ok (.iconst 1, 1) := by decide +kernel
theorem dX8_speaks_89 : decode cX8_speaks 89 = .ok (.iadd, 1) := by decide +kernel
theorem dX8_speaks_90 : decode cX8_speaks 90 = .ok (.iastore, 1) := by decide +kernel
theorem dX8_speaks_91 : decode cX8_speaks 91 = .ok (.iload 4, 2) := by decide +kernel
theorem dX8_speaks_93 : decode cX8_speaks 93 = .ok (.iconst 1, 1) := by decide +kernel
theorem dX8_speaks_94 : decode cX8_speaks 94 = .ok (.iadd, 1) := by decide +kernel
theorem dX8_speaks_95 : decode cX8_speaks 95 = .ok (.ireturn, 1) := by decide +kernel
theorem dX8_speak_0 : decode cX8_speak 0 = .ok (.aload_n 0, 1) := by decide +kernel
theorem dX8_speak_1 : decode cX8_speak 1 = .ok (.iload_n 1, 1) := by decide +kernel
theorem dX8_speak_2 : decode cX8_speak 2 = .ok (.iload_n 2, 1) := by decide +kernel
theorem dX8_speak_3 : decode cX8_speak 3 = .ok (.iload_n 3, 1) := by decide +kernel
theorem dX8_speak_4 : decode cX8_speak 4 = .ok (.invokevirtual 230, 3) := by decide +kernel
theorem dX8_speak_7 : decode cX8_speak 7 = .ok (.ireturn, 1) := by decide +kernel
theorem dX8_layRumour_0 : decode cX8_layRumour 0 = .ok (.iconst 1, 1) := by decide +kernel
theorem dX8_layRumour_1 : decode cX8_layRumour 1 = .ok (.iload_n 1, 1) := by decide +kernel
theorem dX8_layRumour_2 : decode cX8_layRumour 2 = .ok (.ishl, 1) := by decide +kernel
theorem dX8_layRumour_3 : decode cX8_layRumour 3 = .ok (.istore_n 2, 1) := by decide +kernel
theorem dX8_layRumour_4 : decode cX8_layRumour 4 = .ok (.iconst 0, 1) := by decide +kernel
theorem dX8_layRumour_5 : decode cX8_layRumour 5 = .ok (.istore_n 3, 1) := by decide +kernel
theorem dX8_layRumour_6 : decode cX8_layRumour 6 = .ok (.iload_n 3, 1) := by decide +kernel
theorem dX8_layRumour_7 : decode cX8_layRumour 7 = .ok (.bipush 12, 2) := by decide +kernel
theorem dX8_layRumour_9 : decode cX8_layRumour 9 = .ok (.if_icmp .ge 193, 3) := by decide +kernel
theorem dX8_layRumour_12 : decode cX8_layRumour 12 = .ok (.iconst 0, 1) := by decide +kernel
theorem dX8_layRumour_13 : decode cX8_layRumour 13 = .ok (.istore 4, 2) := by decide +kernel
theorem dX8_layRumour_15 : decode cX8_layRumour 15 = .ok (.iload 4, 2) := by decide +kernel
theorem dX8_layRumour_17 : decode cX8_layRumour 17 = .ok (.aload_n 0, 1) := by decide +kernel
theorem dX8_layRumour_18 : decode cX8_layRumour 18 = .ok (.getfield 7, 3) := by decide +kernel
theorem dX8_layRumour_21 : decode cX8_layRumour 21 = .ok (.bipush 54, 2) := by decide +kernel
theorem dX8_layRumour_23 : decode cX8_layRumour 23 = .ok (.iaload, 1) := by decide +kernel
theorem dX8_layRumour_24 : decode cX8_layRumour 24 = .ok (.if_icmp .ge 165, 3) := by decide +kernel
theorem dX8_layRumour_27 : decode cX8_layRumour 27 = .ok (.aload_n 0, 1) := by decide +kernel
theorem dX8_layRumour_28 : decode cX8_layRumour 28 = .ok (.getfield 7, 3) := by decide +kernel
theorem dX8_layRumour_31 : decode cX8_layRumour 31 = .ok (.bipush 24, 2) := by decide +kernel
theorem dX8_layRumour_33 : decode cX8_layRumour 33 = .ok (.iconst 3, 1) := by decide +kernel
theorem dX8_layRumour_34 : decode cX8_layRumour 34 = .ok (.iload 4, 2) := by decide +kernel
theorem dX8_layRumour_36 : decode cX8_layRumour 36 = .ok (.imul, 1) := by decide +kernel
theorem dX8_layRumour_37 : decode cX8_layRumour 37 = .ok (.iadd, 1) := by decide +kernel
theorem dX8_layRumour_38 : decode cX8_layRumour 38 = .ok (.iconst 1, 1) := by decide +kernel
theorem dX8_layRumour_39 : decode cX8_layRumour 39 = .ok (.iadd, 1) := by decide +kernel
theorem dX8_layRumour_40 : decode cX8_layRumour 40 = .ok (.iaload, 1) := by decide +kernel
theorem dX8_layRumour_41 : decode cX8_layRumour 41 = .ok (.istore 5, 2) := by decide +kernel
theorem dX8_layRumour_43 : decode cX8_layRumour 43 = .ok (.aload_n 0, 1) := by decide +kernel
theorem dX8_layRumour_44 : decode cX8_layRumour 44 = .ok (.getfield 7, 3) := by decide +kernel
theorem dX8_layRumour_47 : decode cX8_layRumour 47 = .ok (.bipush 24, 2) := by decide +kernel
theorem dX8_layRumour_49 : decode cX8_layRumour 49 = .ok (.iconst 3, 1) := by decide +kernel
theorem dX8_layRumour_50 : decode cX8_layRumour 50 = .ok (.iload 4, 2) := by decide +kernel
theorem dX8_layRumour_52 : decode cX8_layRumour 52 = .ok (.imul, 1) := by decide +kernel
theorem dX8_layRumour_53 : decode cX8_layRumour 53 = .ok (.iadd, 1) := by decide +kernel
theorem dX8_layRumour_54 : decode cX8_layRumour 54 = .ok (.iconst 2, 1) := by decide +kernel
theorem dX8_layRumour_55 : decode cX8_layRumour 55 = .ok (.iadd, 1) := by decide +kernel
theorem dX8_layRumour_56 : decode cX8_layRumour 56 = .ok (.iaload, 1) := by decide +kernel
theorem dX8_layRumour_57 : decode cX8_layRumour 57 = .ok (.istore 6, 2) := by decide +kernel
theorem dX8_layRumour_59 : decode cX8_layRumour 59 = .ok (.aload_n 0, 1) := by decide +kernel
theorem dX8_layRumour_60 : decode cX8_layRumour 60 = .ok (.getfield 7, 3) := by decide +kernel
theorem dX8_layRumour_63 : decode cX8_layRumour 63 = .ok (.bipush 24, 2) := by decide +kernel
theorem dX8_layRumour_65 : decode cX8_layRumour 65 = .ok (.iconst 3, 1) := by decide +kernel
theorem dX8_layRumour_66 : decode cX8_layRumour 66 = .ok (.iload 4, 2) := by decide +kernel
theorem dX8_layRumour_68 : decode cX8_layRumour 68 = .ok (.imul, 1) := by decide +kernel
theorem dX8_layRumour_69 : decode cX8_layRumour 69 = .ok (.iadd, 1) := by decide +kernel
theorem dX8_layRumour_70 : decode cX8_layRumour 70 = .ok (.iaload, 1) := by decide +kernel
theorem dX8_layRumour_71 : decode cX8_layRumour 71 = .ok (.iload_n 3, 1) := by decide +kernel
theorem dX8_layRumour_72 : decode cX8_layRumour 72 = .ok (.if_icmp .ne 111, 3) := by decide +kernel
theorem dX8_layRumour_75 : decode cX8_layRumour 75 = .ok (.aload_n 0, 1) := by decide +kernel
theorem dX8_layRumour_76 : decode cX8_layRumour 76 = .ok (.iload 4, 2) := by decide +kernel
theorem dX8_layRumour_78 : decode cX8_layRumour 78 = .ok (.invokevirtual 219, 3) := by decide +kernel
theorem dX8_layRumour_81 : decode cX8_layRumour 81 = .ok (.ifCond .eq 102, 3) := by decide +kernel
theorem dX8_layRumour_84 : decode cX8_layRumour 84 = .ok (.aload_n 0, 1) := by decide +kernel
theorem dX8_layRumour_85 : decode cX8_layRumour 85 = .ok (.iload 5, 2) := by decide +kernel
theorem dX8_layRumour_87 : decode cX8_layRumour 87 = .ok (.invokevirtual 188, 3) := by decide +kernel
theorem dX8_layRumour_90 : decode cX8_layRumour 90 = .ok (.iconst 1, 1) := by decide +kernel
theorem dX8_layRumour_91 : decode cX8_layRumour 91 = .ok (.if_icmp .eq 13, 3) := by decide +kernel
theorem dX8_layRumour_94 : decode cX8_layRumour 94 = .ok (.aload_n 0, 1) := by decide +kernel
theorem dX8_layRumour_95 : decode cX8_layRumour 95 = .ok (.iload 6, 2) := by decide +kernel
theorem dX8_layRumour_97 : decode cX8_layRumour 97 = .ok (.invokevirtual 188, 3) := by decide +kernel
theorem dX8_layRumour_100 : decode cX8_layRumour 100 = .ok (.iconst 1, 1) := by decide +kernel
theorem dX8_layRumour_101 : decode cX8_layRumour 101 = .ok (.if_icmp .ne 7, 3) := by decide +kernel
theorem dX8_layRumour_104 : decode cX8_layRumour 104 = .ok (.iconst 1, 1) := by decide +kernel
theorem dX8_layRumour_105 : decode cX8_layRumour 105 = .ok (.goto 4, 3) := by decide +kernel
theorem dX8_layRumour_108 : decode cX8_layRumour 108 = .ok (.iconst 0, 1) := by decide +kernel
theorem dX8_layRumour_109 : decode cX8_layRumour 109 = .ok (.istore 7, 2) := by decide +kernel
theorem dX8_layRumour_111 : decode cX8_layRumour 111 = .ok (.iload_n 2, 1) := by decide +kernel
theorem dX8_layRumour_112 : decode cX8_layRumour 112 = .ok (.istore 8, 2) := by decide +kernel
theorem dX8_layRumour_114 : decode cX8_layRumour 114 = .ok (.iload_n 2, 1) := by decide +kernel
theorem dX8_layRumour_115 : decode cX8_layRumour 115 = .ok (.iload 8, 2) := by decide +kernel
theorem dX8_layRumour_117 : decode cX8_layRumour 117 = .ok (.iload 5, 2) := by decide +kernel
theorem dX8_layRumour_119 : decode cX8_layRumour 119 = .ok (.ishr, 1) := by decide +kernel
theorem dX8_layRumour_120 : decode cX8_layRumour 120 = .ok (.iconst 1, 1) := by decide +kernel
theorem dX8_layRumour_121 : decode cX8_layRumour 121 = .ok (.iand, 1) := by decide +kernel
theorem dX8_layRumour_122 : decode cX8_layRumour 122 = .ok (.iconst 1, 1) := by decide +kernel
theorem dX8_layRumour_123 : decode cX8_layRumour 123 = .ok (.if_icmp .ne 20, 3) := by decide +kernel
theorem dX8_layRumour_126 : decode cX8_layRumour 126 = .ok (.aload_n 0, 1) := by decide +kernel
theorem dX8_layRumour_127 : decode cX8_layRumour 127 = .ok (.iload 6, 2) := by decide +kernel
theorem dX8_layRumour_129 : decode cX8_layRumour 129 = .ok (.invokevirtual 188, 3) := by decide +kernel
theorem dX8_layRumour_132 : decode cX8_layRumour 132 = .ok (.iconst 2, 1) := by decide +kernel
theorem dX8_layRumour_133 : decode cX8_layRumour 133 = .ok (.if_icmp .eq 10, 3) := by decide +kernel
theorem dX8_layRumour_136 : decode cX8_layRumour 136 = .ok (.iconst 1, 1) := by decide +kernel
theorem dX8_layRumour_137 : decode cX8_layRumour 137 = .ok (.iload 6, 2) := by decide +kernel
theorem dX8_layRumour_139 : decode cX8_layRumour 139 = .ok (.ishl, 1) := by decide +kernel
theorem dX8_layRumour_140 : decode cX8_layRumour 140 = .ok (.goto 4, 3) := by decide +kernel
theorem dX8_layRumour_143 : decode cX8_layRumour 143 = .ok (.iconst 0, 1) := by decide +kernel
theorem dX8_layRumour_144 : decode cX8_layRumour 144 = .ok (.ior, 1) := by decide +kernel
theorem dX8_layRumour_145 : decode cX8_layRumour 145 = .ok (.istore_n 2, 1) := by decide +kernel
theorem dX8_layRumour_146 : decode cX8_layRumour 146 = .ok (.iload_n 2, 1) := by decide +kernel
theorem dX8_layRumour_147 : decode cX8_layRumour 147 = .ok (.iload 7, 2) := by decide +kernel
theorem dX8_layRumour_149 : decode cX8_layRumour 149 = .ok (.ifCond .eq 31, 3) := by decide +kernel
theorem dX8_layRumour_152 : decode cX8_layRumour 152 = .ok (.iload 8, 2) := by decide +kernel
theorem dX8_layRumour_154 : decode cX8_layRumour 154 = .ok (.iload 6, 2) := by decide +kernel
theorem dX8_layRumour_156 : decode cX8_layRumour 156 = .ok (.ishr, 1) := by decide +kernel
theorem dX8_layRumour_157 : decode cX8_layRumour 157 = .ok (.iconst 1, 1) := by decide +kernel
theorem dX8_layRumour_158 : decode cX8_layRumour 158 = .ok (.iand, 1) := by decide +kernel
theorem dX8_layRumour_159 : decode cX8_layRumour 159 = .ok (.iconst 1, 1) := by decide +kernel
theorem dX8_layRumour_160 : decode cX8_layRumour 160 = .ok (.if_icmp .ne 20, 3) := by decide +kernel
theorem dX8_layRumour_163 : decode cX8_layRumour 163 = .ok (.aload_n 0, 1) := by decide +kernel
theorem dX8_layRumour_164 : decode cX8_layRumour 164 = .ok (.iload 5, 2) := by decide +kernel
theorem dX8_layRumour_166 : decode cX8_layRumour 166 = .ok (.invokevirtual 188, 3) := by decide +kernel
theorem dX8_layRumour_169 : decode cX8_layRumour 169 = .ok (.iconst 2, 1) := by decide +kernel
theorem dX8_layRumour_170 : decode cX8_layRumour 170 = .ok (.if_icmp .eq 10, 3) := by decide +kernel
theorem dX8_layRumour_173 : decode cX8_layRumour 173 = .ok (.iconst 1, 1) := by decide +kernel
theorem dX8_layRumour_174 : decode cX8_layRumour 174 = .ok (.iload 5, 2) := by decide +kernel
theorem dX8_layRumour_176 : decode cX8_layRumour 176 = .ok (.ishl, 1) := by decide +kernel
theorem dX8_layRumour_177 : decode cX8_layRumour 177 = .ok (.goto 4, 3) := by decide +kernel
theorem dX8_layRumour_180 : decode cX8_layRumour 180 = .ok (.iconst 0, 1) := by decide +kernel
theorem dX8_layRumour_181 : decode cX8_layRumour 181 = .ok (.ior, 1) := by decide +kernel
theorem dX8_layRumour_182 : decode cX8_layRumour 182 = .ok (.istore_n 2, 1) := by decide +kernel
theorem dX8_layRumour_183 : decode cX8_layRumour 183 = .ok (.iinc 4 1, 3) := by decide +kernel
theorem dX8_layRumour_186 : decode cX8_layRumour 186 = .ok (.goto (-171), 3) := by decide +kernel
theorem dX8_layRumour_189 : decode cX8_layRumour 189 = .ok (.aload_n 0, 1) := by decide +kernel
theorem dX8_layRumour_190 : decode cX8_layRumour 190 = .ok (.getfield 34, 3) := by decide +kernel
theorem dX8_layRumour_193 : decode cX8_layRumour 193 = .ok (.iload_n 3, 1) := by decide +kernel
theorem dX8_layRumour_194 : decode cX8_layRumour 194 = .ok (.iload_n 2, 1) := by decide +kernel
theorem dX8_layRumour_195 : decode cX8_layRumour 195 = .ok (.iastore, 1) := by decide +kernel
theorem dX8_layRumour_196 : decode cX8_layRumour 196 = .ok (.iinc 3 1, 3) := by decide +kernel
theorem dX8_layRumour_199 : decode cX8_layRumour 199 = .ok (.goto (-193), 3) := by decide +kernel
theorem dX8_layRumour_202 : decode cX8_layRumour 202 = .ok (.return_, 1) := by decide +kernel
theorem dX8_knows_0 : decode cX8_knows 0 = .ok (.aload_n 0, 1) := by decide +kernel
theorem dX8_knows_1 : decode cX8_knows 1 = .ok (.iload_n 1, 1) := by decide +kernel
theorem dX8_knows_2 : decode cX8_knows 2 = .ok (.invokevirtual 180, 3) := by decide +kernel
