theorem dX5_readCoin_47 : decode cX5_readCoin 47 = .ok (.iastore, 1) := by decide +kernel
theorem dX5_readCoin_48 : decode cX5_readCoin 48 = .ok (.aload_n 0, 1) := by decide +kernel
theorem dX5_readCoin_49 : decode cX5_readCoin 49 = .ok (.iconst 0, 1) := by decide +kernel
theorem dX5_readCoin_50 : decode cX5_readCoin 50 = .ok (.iconst 5, 1) := by decide +kernel
theorem dX5_readCoin_51 : decode cX5_readCoin 51 = .ok (.invokevirtual 127, 3) := by decide +kernel
theorem dX5_readCoin_54 : decode cX5_readCoin 54 = .ok (.ifCond .ne 5, 3) := by decide +kernel
theorem dX5_readCoin_57 : decode cX5_readCoin 57 = .ok (.iconst 0, 1) := by decide +kernel
theorem dX5_readCoin_58 : decode cX5_readCoin 58 = .ok (.ireturn, 1) := by decide +kernel
theorem dX5_readCoin_59 : decode cX5_readCoin 59 = .ok (.aload_n 0, 1) := by decide +kernel
theorem dX5_readCoin_60 : decode cX5_readCoin 60 = .ok (.getfield 12, 3) := by decide +kernel
theorem dX5_readCoin_63 : decode cX5_readCoin 63 = .ok (.getfield 171, 3) := by decide +kernel
theorem dX5_readCoin_66 : decode cX5_readCoin 66 = .ok (.iload_n 1, 1) := by decide +kernel
theorem dX5_readCoin_67 : decode cX5_readCoin 67 = .ok (.aload_n 0, 1) := by decide +kernel
theorem dX5_readCoin_68 : decode cX5_readCoin 68 = .ok (.getfield 87, 3) := by decide +kernel
theorem dX5_readCoin_71 : decode cX5_readCoin 71 = .ok (.iastore, 1) := by decide +kernel
theorem dX5_readCoin_72 : decode cX5_readCoin 72 = .ok (.aload_n 0, 1) := by decide +kernel
theorem dX5_readCoin_73 : decode cX5_readCoin 73 = .ok (.getfield 12, 3) := by decide +kernel
theorem dX5_readCoin_76 : decode cX5_readCoin 76 = .ok (.dup, 1) := by decide +kernel
theorem dX5_readCoin_77 : decode cX5_readCoin 77 = .ok (.getfield 165, 3) := by decide +kernel
theorem dX5_readCoin_80 : decode cX5_readCoin 80 = .ok (.iconst 1, 1) := by decide +kernel
theorem dX5_readCoin_81 : decode cX5_readCoin 81 = .ok (.iadd, 1) := by decide +kernel
theorem dX5_readCoin_82 : decode cX5_readCoin 82 = .ok (.putfield 165, 3) := by decide +kernel
theorem dX5_readCoin_85 : decode cX5_readCoin 85 = .ok (.aload_n 0, 1) := by decide +kernel
theorem dX5_readCoin_86 : decode cX5_readCoin 86 = .ok (.invokevirtual 50, 3) := by decide +kernel
theorem dX5_readCoin_89 : decode cX5_readCoin 89 = .ok (.ifCond .ne 5, 3) := by decide +kernel
theorem dX5_readCoin_92 : decode cX5_readCoin 92 = .ok (.iconst 0, 1) := by decide +kernel
theorem dX5_readCoin_93 : decode cX5_readCoin 93 = .ok (.ireturn, 1) := by decide +kernel
theorem dX5_readCoin_94 : decode cX5_readCoin 94 = .ok (.aload_n 0, 1) := by decide +kernel
theorem dX5_readCoin_95 : decode cX5_readCoin 95 = .ok (.ldc 174, 2) := by decide +kernel
theorem dX5_readCoin_97 : decode cX5_readCoin 97 = .ok (.invokevirtual 95, 3) := by decide +kernel
theorem dX5_readCoin_100 : decode cX5_readCoin 100 = .ok (.ifCond .eq 18, 3) := by decide +kernel
theorem dX5_readCoin_103 : decode cX5_readCoin 103 = .ok (.aload_n 0, 1) := by decide +kernel
theorem dX5_readCoin_104 : decode cX5_readCoin 104 = .ok (.getfield 12, 3) := by decide +kernel
theorem dX5_readCoin_107 : decode cX5_readCoin 107 = .ok (.getfield 176, 3) := by decide +kernel
theorem dX5_readCoin_110 : decode cX5_readCoin 110 = .ok (.iload_n 1, 1) := by decide +kernel
theorem dX5_readCoin_111 : decode cX5_readCoin 111 = .ok (.iconst 1, 1) := by decide +kernel
theorem dX5_readCoin_112 : decode cX5_readCoin 112 = .ok (.bastore, 1) := by decide +kernel
theorem dX5_readCoin_113 : decode cX5_readCoin 113 = .ok (.aload_n 0, 1) := by decide +kernel
theorem dX5_readCoin_114 : decode cX5_readCoin 114 = .ok (.invokevirtual 133, 3) := by decide +kernel
theorem dX5_readCoin_117 : decode cX5_readCoin 117 = .ok (.ireturn, 1) := by decide +kernel
theorem dX5_readCoin_118 : decode cX5_readCoin 118 = .ok (.aload_n 0, 1) := by decide +kernel
theorem dX5_readCoin_119 : decode cX5_readCoin 119 = .ok (.invokevirtual 90, 3) := by decide +kernel
theorem dX5_readCoin_122 : decode cX5_readCoin 122 = .ok (.ireturn, 1) := by decide +kernel
theorem dX5_readSpend_0 : decode cX5_readSpend 0 = .ok (.aload_n 0, 1) := by decide +kernel
theorem dX5_readSpend_1 : decode cX5_readSpend 1 = .ok (.iconst 0, 1) := by decide +kernel
theorem dX5_readSpend_2 : decode cX5_readSpend 2 = .ok (.iconst 5, 1) := by decide +kernel
theorem dX5_readSpend_3 : decode cX5_readSpend 3 = .ok (.invokevirtual 127, 3) := by decide +kernel
theorem dX5_readSpend_6 : decode cX5_readSpend 6 = .ok (.ifCond .ne 5, 3) := by decide +kernel
theorem dX5_readSpend_9 : decode cX5_readSpend 9 = .ok (.iconst 0, 1) := by decide +kernel
theorem dX5_readSpend_10 : decode cX5_readSpend 10 = .ok (.ireturn, 1) := by decide +kernel
theorem dX5_readSpend_11 : decode cX5_readSpend 11 = .ok (.aload_n 0, 1) := by decide +kernel
theorem dX5_readSpend_12 : decode cX5_readSpend 12 = .ok (.getfield 87, 3) := by decide +kernel
theorem dX5_readSpend_15 : decode cX5_readSpend 15 = .ok (.istore_n 1, 1) := by decide +kernel
theorem dX5_readSpend_16 : decode cX5_readSpend 16 = .ok (.aload_n 0, 1) := by decide +kernel
theorem dX5_readSpend_17 : decode cX5_readSpend 17 = .ok (.getfield 12, 3) := by decide +kernel
theorem dX5_readSpend_20 : decode cX5_readSpend 20 = .ok (.iload_n 1, 1) := by decide +kernel
theorem dX5_readSpend_21 : decode cX5_readSpend 21 = .ok (.invokevirtual 180, 3) := by decide +kernel
theorem dX5_readSpend_24 : decode cX5_readSpend 24 = .ok (.ifCond .eq 13, 3) := by decide +kernel
theorem dX5_readSpend_27 : decode cX5_readSpend 27 = .ok (.aload_n 0, 1) := by decide +kernel
theorem dX5_readSpend_28 : decode cX5_readSpend 28 = .ok (.iconst 4, 1) := by decide +kernel
theorem dX5_readSpend_29 : decode cX5_readSpend 29 = .ok (.aload_n 0, 1) := by decide +kernel
theorem dX5_readSpend_30 : decode cX5_readSpend 30 = .ok (.getfield 63, 3) := by decide +kernel
theorem dX5_readSpend_33 : decode cX5_readSpend 33 = .ok (.invokevirtual 74, 3) := by decide +kernel
theorem dX5_readSpend_36 : decode cX5_readSpend 36 = .ok (.ireturn, 1) := by decide +kernel
theorem dX5_readSpend_37 : decode cX5_readSpend 37 = .ok (.aload_n 0, 1) := by decide +kernel
theorem dX5_readSpend_38 : decode cX5_readSpend 38 = .ok (.iconst 0, 1) := by decide +kernel
theorem dX5_readSpend_39 : decode cX5_readSpend 39 = .ok (.bipush 11, 2) := by decide +kernel
theorem dX5_readSpend_41 : decode cX5_readSpend 41 = .ok (.invokevirtual 127, 3) := by decide +kernel
theorem dX5_readSpend_44 : decode cX5_readSpend 44 = .ok (.ifCond .ne 5, 3) := by decide +kernel
theorem dX5_readSpend_47 : decode cX5_readSpend 47 = .ok (.iconst 0, 1) := by decide +kernel
theorem dX5_readSpend_48 : decode cX5_readSpend 48 = .ok (.ireturn, 1) := by decide +kernel
theorem dX5_readSpend_49 : decode cX5_readSpend 49 = .ok (.aload_n 0, 1) := by decide +kernel
theorem dX5_readSpend_50 : decode cX5_readSpend 50 = .ok (.getfield 12, 3) := by decide +kernel
theorem dX5_readSpend_53 : decode cX5_readSpend 53 = .ok (.getfield 184, 3) := by decide +kernel
theorem dX5_readSpend_56 : decode cX5_readSpend 56 = .ok (.iload_n 1, 1) := by decide +kernel
theorem dX5_readSpend_57 : decode cX5_readSpend 57 = .ok (.aload_n 0, 1) := by decide +kernel
theorem dX5_readSpend_58 : decode cX5_readSpend 58 = .ok (.getfield 87, 3) := by decide +kernel
theorem dX5_readSpend_61 : decode cX5_readSpend 61 = .ok (.iastore, 1) := by decide +kernel
theorem dX5_readSpend_62 : decode cX5_readSpend 62 = .ok (.aload_n 0, 1) := by decide +kernel
theorem dX5_readSpend_63 : decode cX5_readSpend 63 = .ok (.invokevirtual 133, 3) := by decide +kernel
theorem dX5_readSpend_66 : decode cX5_readSpend 66 = .ok (.ireturn, 1) := by decide +kernel
theorem dX5_readTalk_0 : decode cX5_readTalk 0 = .ok (.aload_n 0, 1) := by decide +kernel
theorem dX5_readTalk_1 : decode cX5_readTalk 1 = .ok (.getfield 12, 3) := by decide +kernel
theorem dX5_readTalk_4 : decode cX5_readTalk 4 = .ok (.getfield 187, 3) := by decide +kernel
theorem dX5_readTalk_7 : decode cX5_readTalk 7 = .ok (.bipush 10, 2) := by decide +kernel
theorem dX5_readTalk_9 : decode cX5_readTalk 9 = .ok (.if_icmp .lt 13, 3) := by decide +kernel
theorem dX5_readTalk_12 : decode cX5_readTalk 12 = .ok (.aload_n 0, 1) := by decide +kernel
theorem dX5_readTalk_13 : decode cX5_readTalk 13 = .ok (.iconst 5, 1) := by decide +kernel
theorem dX5_readTalk_14 : decode cX5_readTalk 14 = .ok (.aload_n 0, 1) := by decide +kernel
theorem dX5_readTalk_15 : decode cX5_readTalk 15 = .ok (.getfield 63, 3) := by decide +kernel
theorem dX5_readTalk_18 : decode cX5_readTalk 18 = .ok (.invokevirtual 74, 3) := by decide +kernel
theorem dX5_readTalk_21 : decode cX5_readTalk 21 = .ok (.ireturn, 1) := by decide +kernel
theorem dX5_readTalk_22 : decode cX5_readTalk 22 = .ok (.aload_n 0, 1) := by decide +kernel
theorem dX5_readTalk_23 : decode cX5_readTalk 23 = .ok (.iconst 0, 1) := by decide +kernel
theorem dX5_readTalk_24 : decode cX5_readTalk 24 = .ok (.bipush 11, 2) := by decide +kernel
theorem dX5_readTalk_26 : decode cX5_readTalk 26 = .ok (.invokevirtual 127, 3) := by decide +kernel
theorem dX5_readTalk_29 : decode cX5_readTalk 29 = .ok (.ifCond .ne 5, 3) := by decide +kernel
theorem dX5_readTalk_32 : decode cX5_readTalk 32 = .ok (.iconst 0, 1) := by decide +kernel
theorem dX5_readTalk_33 : decode cX5_readTalk 33 = .ok (.ireturn, 1) := by decide +kernel
theorem dX5_readTalk_34 : decode cX5_readTalk 34 = .ok (.aload_n 0, 1) := by decide +kernel
theorem dX5_readTalk_35 : decode cX5_readTalk 35 = .ok (.getfield 87, 3) := by decide +kernel
theorem dX5_readTalk_38 : decode cX5_readTalk 38 = .ok (.istore_n 1, 1) := by decide +kernel
theorem dX5_readTalk_39 : decode cX5_readTalk 39 = .ok (.aload_n 0, 1) := by decide +kernel
theorem dX5_readTalk_40 : decode cX5_readTalk 40 = .ok (.iconst 0, 1) := by decide +kernel
theorem dX5_readTalk_41 : decode cX5_readTalk 41 = .ok (.iconst 5, 1) := by decide +kernel
theorem dX5_readTalk_42 : decode cX5_readTalk 42 = .ok (.invokevirtual 127, 3) := by decide +kernel
theorem dX5_readTalk_45 : decode cX5_readTalk 45 = .ok (.ifCond .ne 5, 3) := by decide +kernel
theorem dX5_readTalk_48 : decode cX5_readTalk 48 = .ok (.iconst 0, 1) := by decide +kernel
theorem dX5_readTalk_49 : decode cX5_readTalk 49 = .ok (.ireturn, 1) := by decide +kernel
theorem dX5_readTalk_50 : decode cX5_readTalk 50 = .ok (.aload_n 0, 1) := by decide +kernel
theorem dX5_readTalk_51 : decode cX5_readTalk 51 = .ok (.getfield 87, 3) := by decide +kernel
theorem dX5_readTalk_54 : decode cX5_readTalk 54 = .ok (.istore_n 2, 1) := by decide +kernel
theorem dX5_readTalk_55 : decode cX5_readTalk 55 = .ok (.aload_n 0, 1) := by decide +kernel
theorem dX5_readTalk_56 : decode cX5_readTalk 56 = .ok (.iconst 0, 1) := by decide +kernel
theorem dX5_readTalk_57 : decode cX5_readTalk 57 = .ok (.iconst 5, 1) := by decide +kernel
theorem dX5_readTalk_58 : decode cX5_readTalk 58 = .ok (.invokevirtual 127, 3) := by decide +kernel
theorem dX5_readTalk_61 : decode cX5_readTalk 61 = .ok (.ifCond .ne 5, 3) := by decide +kernel
theorem dX5_readTalk_64 : decode cX5_readTalk 64 = .ok (.iconst 0, 1) := by decide +kernel
theorem dX5_readTalk_65 : decode cX5_readTalk 65 = .ok (.ireturn, 1) := by decide +kernel
theorem dX5_readTalk_66 : decode cX5_readTalk 66 = .ok (.aload_n 0, 1) := by decide +kernel
theorem dX5_readTalk_67 : decode cX5_readTalk 67 = .ok (.getfield 87, 3) := by decide +kernel
theorem dX5_readTalk_70 : decode cX5_readTalk 70 = .ok (.iload_n 2, 1) := by decide +kernel
theorem dX5_readTalk_71 : decode cX5_readTalk 71 = .ok (.if_icmp .ne 13, 3) := by decide +kernel
theorem dX5_readTalk_74 : decode cX5_readTalk 74 = .ok (.aload_n 0, 1) := by decide +kernel
theorem dX5_readTalk_75 : decode cX5_readTalk 75 = .ok (.iconst 4, 1) := by decide +kernel
theorem dX5_readTalk_76 : decode cX5_readTalk 76 = .ok (.aload_n 0, 1) := by decide +kernel
theorem dX5_readTalk_77 : decode cX5_readTalk 77 = .ok (.getfield 63, 3) := by decide +kernel
theorem dX5_readTalk_80 : decode cX5_readTalk 80 = .ok (.invokevirtual 74, 3) := by decide +kernel
theorem dX5_readTalk_83 : decode cX5_readTalk 83 = .ok (.ireturn, 1) := by decide +kernel
theorem dX5_readTalk_84 : decode cX5_readTalk 84 = .ok (.aload_n 0, 1) := by decide +kernel
theorem dX5_readTalk_85 : decode cX5_readTalk 85 = .ok (.getfield 12, 3) := by decide +kernel
theorem dX5_readTalk_88 : decode cX5_readTalk 88 = .ok (.iload_n 1, 1) := by decide +kernel
theorem dX5_readTalk_89 : decode cX5_readTalk 89 = .ok (.iload_n 2, 1) := by decide +kernel
theorem dX5_readTalk_90 : decode cX5_readTalk 90 = .ok (.aload_n 0, 1) := by decide +kernel
theorem dX5_readTalk_91 : decode cX5_readTalk 91 = .ok (.getfield 87, 3) := by decide +kernel
theorem dX5_readTalk_94 : decode cX5_readTalk 94 = .ok (.invokevirtual 190, 3) := by decide +kernel
theorem dX5_readTalk_97 : decode cX5_readTalk 97 = .ok (.aload_n 0, 1) := by decide +kernel
theorem dX5_readTalk_98 : decode cX5_readTalk 98 = .ok (.invokevirtual 133, 3) := by decide +kernel
theorem dX5_readTalk_101 : decode cX5_readTalk 101 = .ok (.ireturn, 1) := by decide +kernel
theorem dX5_checkNamed_0 : decode cX5_checkNamed 0 = .ok (.iconst 0, 1) := by decide +kernel
theorem dX5_checkNamed_1 : decode cX5_checkNamed 1 = .ok (.istore_n 1, 1) := by decide +kernel
theorem dX5_checkNamed_2 : decode cX5_checkNamed 2 = .ok (.iload_n 1, 1) := by decide +kernel
theorem dX5_checkNamed_3 : decode cX5_checkNamed 3 = .ok (.bipush 6, 2) := by decide +kernel
theorem dX5_checkNamed_5 : decode cX5_checkNamed 5 = .ok (.if_icmp .ge 70, 3) := by decide +kernel
theorem dX5_checkNamed_8 : decode cX5_checkNamed 8 = .ok (.aload_n 0, 1) := by decide +kernel
theorem dX5_checkNamed_9 : decode cX5_checkNamed 9 = .ok (.getfield 12, 3) := by decide +kernel
theorem dX5_checkNamed_12 : decode cX5_checkNamed 12 = .ok (.iload_n 1, 1) := by decide +kernel
theorem dX5_checkNamed_13 : decode cX5_checkNamed 13 = .ok (.invokevirtual 194, 3) := by decide +kernel
theorem dX5_checkNamed_16 : decode cX5_checkNamed 16 = .ok (.istore_n 2, 1) := by decide +kernel
theorem dX5_checkNamed_17 : decode cX5_checkNamed 17 = .ok (.iload_n 2, 1) := by decide +kernel
theorem dX5_checkNamed_18 : decode cX5_checkNamed 18 = .ok (.ifCond .eq 22, 3) := by decide +kernel
theorem dX5_checkNamed_21 : decode cX5_checkNamed 21 = .ok (.aload_n 0, 1) := by decide +kernel
theorem dX5_checkNamed_22 : decode cX5_checkNamed 22 = .ok (.getfield 12, 3) := by decide +kernel
theorem dX5_checkNamed_25 : decode cX5_checkNamed 25 = .ok (.aload_n 0, 1) := by decide +kernel
theorem dX5_checkNamed_26 : decode cX5_checkNamed 26 = .ok (.getfield 12, 3) := by decide +kernel
theorem dX5_checkNamed_29 : decode cX5_checkNamed 29 = .ok (.getfield 171, 3) := by decide +kernel
theorem dX5_checkNamed_32 : decode cX5_checkNamed 32 = .ok (.iload_n 1, 1) := by decide +kernel
theorem dX5_checkNamed_33 : decode cX5_checkNamed 33 = .ok (.iaload, 1) := by decide +kernel
theorem dX5_checkNamed_34 : decode cX5_checkNamed 34 = .ok (.invokevirtual 197, 3) := by decide +kernel
theorem dX5_checkNamed_37 : decode cX5_checkNamed 37 = .ok (.ifCond .eq 18, 3) := by decide +kernel
theorem dX5_checkNamed_40 : decode cX5_checkNamed 40 = .ok (.iload_n 2, 1) := by decide +kernel
theorem dX5_checkNamed_41 : decode cX5_checkNamed 41 = .ok (.ifCond .ne 28, 3) := by decide +kernel
theorem dX5_checkNamed_44 : decode cX5_checkNamed 44 = .ok (.aload_n 0, 1) := by decide +kernel
theorem dX5_checkNamed_45 : decode cX5_checkNamed 45 = .ok (.getfield 12, 3) := by decide +kernel
theorem dX5_checkNamed_48 : decode cX5_checkNamed 48 = .ok (.iload_n 1, 1) := by decide +kernel
theorem dX5_checkNamed_49 : decode cX5_checkNamed 49 = .ok (.invokevirtual 180, 3) := by decide +kernel
theorem dX5_checkNamed_52 : decode cX5_checkNamed 52 = .ok (.ifCond .eq 17, 3) := by decide +kernel
theorem dX5_checkNamed_55 : decode cX5_checkNamed 55 = .ok (.aload_n 0, 1) := by decide +kernel
theorem dX5_checkNamed_56 : decode cX5_checkNamed 56 = .ok (.bipush 6, 2) := by decide +kernel
theorem dX5_checkNamed_58 : decode cX5_checkNamed 58 = .ok (.aload_n 0, 1) := by decide +kernel
theorem dX5_checkNamed_59 : decode cX5_checkNamed 59 = .ok (.getfield 18, 3) := by decide +kernel
theorem dX5_checkNamed_62 : decode cX5_checkNamed 62 = .ok (.getfield 45, 3) := by decide +kernel
theorem dX5_checkNamed_65 : decode cX5_checkNamed 65 = .ok (.invokevirtual 74, 3) := by decide +kernel
theorem dX5_checkNamed_68 : decode cX5_checkNamed 68 = .ok (.ireturn, 1) := by decide +kernel
theorem dX5_checkNamed_69 : decode cX5_checkNamed 69 = .ok (.iinc 1 1, 3) := by decide +kernel
theorem dX5_checkNamed_72 : decode cX5_checkNamed 72 = .ok (.goto (-70), 3) := by decide +kernel
theorem dX5_checkNamed_75 : decode cX5_checkNamed 75 = .ok (.iconst 0, 1) := by decide +kernel
theorem dX5_checkNamed_76 : decode cX5_checkNamed 76 = .ok (.istore_n 1, 1) := by decide +kernel
theorem dX5_checkNamed_77 : decode cX5_checkNamed 77 = .ok (.iload_n 1, 1) := by decide +kernel
theorem dX5_checkNamed_78 : decode cX5_checkNamed 78 = .ok (.aload_n 0, 1) := by decide +kernel
theorem dX5_checkNamed_79 : decode cX5_checkNamed 79 = .ok (.getfield 12, 3) := by decide +kernel
theorem dX5_checkNamed_82 : decode cX5_checkNamed 82 = .ok (.getfield 187, 3) := by decide +kernel
theorem dX5_checkNamed_85 : decode cX5_checkNamed 85 = .ok (.if_icmp .ge 61, 3) := by decide +kernel
theorem dX5_checkNamed_88 : decode cX5_checkNamed 88 = .ok (.aload_n 0, 1) := by decide +kernel
theorem dX5_checkNamed_89 : decode cX5_checkNamed 89 = .ok (.getfield 12, 3) := by decide +kernel
theorem dX5_checkNamed_92 : decode cX5_checkNamed 92 = .ok (.aload_n 0, 1) := by decide +kernel
theorem dX5_checkNamed_93 : decode cX5_checkNamed 93 = .ok (.getfield 12, 3) := by decide +kernel
theorem dX5_checkNamed_96 : decode cX5_checkNamed 96 = .ok (.getfield 200, 3) := by decide +kernel
theorem dX5_checkNamed_99 : decode cX5_checkNamed 99 = .ok (.iload_n 1, 1) := by decide +kernel
theorem dX5_checkNamed_100 : decode cX5_checkNamed 100 = .ok (.iaload, 1) := by decide +kernel
theorem dX5_checkNamed_101 : decode cX5_checkNamed 101 = .ok (.invokevirtual 197, 3) := by decide +kernel
theorem dX5_checkNamed_104 : decode cX5_checkNamed 104 = .ok (.ifCond .eq 22, 3) := by decide +kernel
theorem dX5_checkNamed_107 : decode cX5_checkNamed 107 = .ok (.aload_n 0, 1) := by decide +kernel
theorem dX5_checkNamed_108 : decode cX5_checkNamed 108 = .ok (.getfield 12, 3) := by decide +kernel
theorem dX5_checkNamed_111 : decode cX5_checkNamed 111 = .ok (.aload_n 0, 1) := by decide +kernel
theorem dX5_checkNamed_112 : decode cX5_checkNamed 112 = .ok (.getfield 12, 3) := by decide +kernel
theorem dX5_checkNamed_115 : decode cX5_checkNamed 115 = .ok (.getfield 203, 3) := by decide +kernel
theorem dX5_checkNamed_118 : decode cX5_checkNamed 118 = .ok (.iload_n 1, 1) := by decide +kernel
theorem dX5_checkNamed_119 : decode cX5_checkNamed 119 = .ok (.iaload, 1) := by decide +kernel
theorem dX5_checkNamed_120 : decode cX5_checkNamed 120 = .ok (.invokevirtual 197, 3) := by decide +kernel
theorem dX5_checkNamed_123 : decode cX5_checkNamed 123 = .ok (.ifCond .ne 17, 3) := by decide +kernel
theorem dX5_checkNamed_126 : decode cX5_checkNamed 126 = .ok (.aload_n 0, 1) := by decide +kernel
theorem dX5_checkNamed_127 : decode cX5_checkNamed 127 = .ok (.bipush 6, 2) := by decide +kernel
theorem dX5_checkNamed_129 : decode cX5_checkNamed 129 = .ok (.aload_n 0, 1) := by decide +kernel
theorem dX5_checkNamed_130 : decode cX5_checkNamed 130 = .ok (.getfield 18, 3) := by decide +kernel
theorem dX5_checkNamed_133 : decode cX5_checkNamed 133 = .ok (.getfield 45, 3) := by decide +kernel
theorem dX5_checkNamed_136 : decode cX5_checkNamed 136 = .ok (.invokevirtual 74, 3) := by decide +kernel
theorem dX5_checkNamed_139 : decode cX5_checkNamed 139 = .ok (.ireturn, 1) := by decide +kernel
theorem dX5_checkNamed_140 : decode cX5_checkNamed 140 = .ok (.iinc 1 1, 3) := by decide +kernel
theorem dX5_checkNamed_143 : decode cX5_checkNamed 143 = .ok (.goto (-66), 3) := by decide +kernel
theorem dX5_checkNamed_146 : decode cX5_checkNamed 146 = .ok (.iconst 1, 1) := by decide +kernel
theorem dX5_checkNamed_147 : decode cX5_checkNamed 147 = .ok (.ireturn, 1) := by decide +kernel
theorem dX6_init_0 : decode cX6_init 0 = .ok (.aload_n 0, 1) := by decide +kernel
theorem dX6_init_1 : decode cX6_init 1 = .ok (.invokespecial 3, 3) := by decide +kernel
theorem dX6_init_4 : decode cX6_init 4 = .ok (.aload_n 0, 1) := by decide +kernel
theorem dX6_init_5 : decode cX6_init 5 = .ok (.bipush 6, 2) := by decide +kernel
theorem dX6_init_7 : decode cX6_init 7 = .ok (.newarray .int, 2) := by decide +kernel
theorem dX6_init_9 : decode cX6_init 9 = .ok (.putfield 9, 3) := by decide +kernel
theorem dX6_init_12 : decode cX6_init 12 = .ok (.aload_n 0, 1) := by decide +kernel
theorem dX6_init_13 : decode cX6_init 13 = .ok (.bipush 6, 2) := by decide +kernel
theorem dX6_init_15 : decode cX6_init 15 = .ok (.newarray .int, 2) := by decide +kernel
theorem dX6_init_17 : decode cX6_init 17 = .ok (.putfield 15, 3) := by decide +kernel
theorem dX6_init_20 : decode cX6_init 20 = .ok (.aload_n 0, 1) := by decide +kernel
theorem dX6_init_21 : decode cX6_init 21 = .ok (.bipush 6, 2) := by decide +kernel
theorem dX6_init_23 : decode cX6_init 23 = .ok (.newarray .int, 2) := by decide +kernel
theorem dX6_init_25 : decode cX6_init 25 = .ok (.putfield 18, 3) := by decide +kernel
theorem dX6_init_28 : decode cX6_init 28 = .ok (.aload_n 0, 1) := by decide +kernel
theorem dX6_init_29 : decode cX6_init 29 = .ok (.bipush 6, 2) := by decide +kernel
theorem dX6_init_31 : decode cX6_init 31 = .ok (.newarray .int, 2) := by decide +kernel
theorem dX6_init_33 : decode cX6_init 33 = .ok (.putfield 21, 3) := by decide +kernel
theorem dX6_init_36 : decode cX6_init 36 = .ok (.aload_n 0, 1) := by decide +kernel
theorem dX6_init_37 : decode cX6_init 37 = .ok (.bipush 6, 2) := by decide +kernel
theorem dX6_init_39 : decode cX6_init 39 = .ok (.newarray .int, 2) := by decide +kernel
theorem dX6_init_41 : decode cX6_init 41 = .ok (.putfield 24, 3) := by decide +kernel
theorem dX6_init_44 : decode cX6_init 44 = .ok (.aload_n 0, 1) := by decide +kernel
theorem dX6_init_45 : decode cX6_init 45 = .ok (.bipush 6, 2) := by decide +kernel
theorem dX6_init_47 : decode cX6_init 47 = .ok (.newarray .boolean, 2) := by decide +kernel
theorem dX6_init_49 : decode cX6_init 49 = .ok (.putfield 27, 3) := by decide +kernel
theorem dX6_init_52 : decode cX6_init 52 = .ok (.aload_n 0, 1) := by decide +kernel
theorem dX6_init_53 : decode cX6_init 53 = .ok (.bipush 6, 2) := by decide +kernel
theorem dX6_init_55 : decode cX6_init 55 = .ok (.newarray .int, 2) := by decide +kernel
theorem dX6_init_57 : decode cX6_init 57 = .ok (.putfield 31, 3) := by decide +kernel
theorem dX6_init_60 : decode cX6_init 60 = .ok (.aload_n 0, 1) := by decide +kernel
theorem dX6_init_61 : decode cX6_init 61 = .ok (.bipush 10, 2) := by decide +kernel
theorem dX6_init_63 : decode cX6_init 63 = .ok (.newarray .int, 2) := by decide +kernel
theorem dX6_init_65 : decode cX6_init 65 = .ok (.putfield 34, 3) := by decide +kernel
theorem dX6_init_68 : decode cX6_init 68 = .ok (.aload_n 0, 1) := by decide +kernel
theorem dX6_init_69 : decode cX6_init 69 = .ok (.bipush 10, 2) := by decide +kernel
theorem dX6_init_71 : decode cX6_init 71 = .ok (.newarray .int, 2) := by decide +kernel
theorem dX6_init_73 : decode cX6_init 73 = .ok (.putfield 37, 3) := by decide +kernel
theorem dX6_init_76 : decode cX6_init 76 = .ok (.aload_n 0, 1) := by decide +kernel
theorem dX6_init_77 : decode cX6_init 77 = .ok (.bipush 10, 2) := by decide +kernel
theorem dX6_init_79 : decode cX6_init 79 = .ok (.newarray .int, 2) := by decide +kernel
theorem dX6_init_81 : decode cX6_init 81 = .ok (.putfield 40, 3) := by decide +kernel
theorem dX6_init_84 : decode cX6_init 84 = .ok (.aload_n 0, 1) := by decide +kernel
theorem dX6_init_85 : decode cX6_init 85 = .ok (.invokevirtual 43, 3) := by decide +kernel
theorem dX6_init_88 : decode cX6_init 88 = .ok (.return_, 1) := by decide +kernel
theorem dX6_clear_0 : decode cX6_clear 0 = .ok (.aload_n 0, 1) := by decide +kernel
theorem dX6_clear_1 : decode cX6_clear 1 = .ok (.iconst 0, 1) := by decide +kernel
theorem dX6_clear_2 : decode cX6_clear 2 = .ok (.putfield 46, 3) := by decide +kernel
theorem dX6_clear_5 : decode cX6_clear 5 = .ok (.aload_n 0, 1) := by decide +kernel
theorem dX6_clear_6 : decode cX6_clear 6 = .ok (.iconst 0, 1) := by decide +kernel
theorem dX6_clear_7 : decode cX6_clear 7 = .ok (.putfield 50, 3) := by decide +kernel
theorem dX6_clear_10 : decode cX6_clear 10 = .ok (.aload_n 0, 1) := by decide +kernel
theorem dX6_clear_11 : decode cX6_clear 11 = .ok (.iconst 0, 1) := by decide +kernel
theorem dX6_clear_12 : decode cX6_clear 12 = .ok (.putfield 53, 3) := by decide +kernel
theorem dX6_clear_15 : decode cX6_clear 15 = .ok (.aload_n 0, 1) := by decide +kernel
theorem dX6_clear_16 : decode cX6_clear 16 = .ok (.iconst 0, 1) := by decide +kernel
theorem dX6_clear_17 : decode cX6_clear 17 = .ok (.putfield 56, 3) := by decide +kernel
theorem dX6_clear_20 : decode cX6_clear 20 = .ok (.aload_n 0, 1) := by decide +kernel
theorem dX6_clear_21 : decode cX6_clear 21 = .ok (.iconst 1, 1) := by decide +kernel
theorem dX6_clear_22 : decode cX6_clear 22 = .ok (.putfield 59, 3) := by decide +kernel
theorem dX6_clear_25 : decode cX6_clear 25 = .ok (.iconst 0, 1) := by decide +kernel
theorem dX6_clear_26 : decode cX6_clear 26 = .ok (.istore_n 1, 1) := by decide +kernel
theorem dX6_clear_27 : decode cX6_clear 27 = .ok (.iload_n 1, 1) := by decide +kernel
theorem dX6_clear_28 : decode cX6_clear 28 = .ok (.bipush 6, 2) := by decide +kernel
theorem dX6_clear_30 : decode cX6_clear 30 = .ok (.if_icmp .ge 24, 3) := by decide +kernel
theorem dX6_clear_33 : decode cX6_clear 33 = .ok (.aload_n 0, 1) := by decide +kernel
theorem dX6_clear_34 : decode cX6_clear 34 = .ok (.getfield 27, 3) := by decide +kernel
theorem dX6_clear_37 : decode cX6_clear 37 = .ok (.iload_n 1, 1) := by decide +kernel
theorem dX6_clear_38 : decode cX6_clear 38 = .ok (.iconst 0, 1) := by decide +kernel
theorem dX6_clear_39 : decode cX6_clear 39 = .ok (.bastore, 1) := by decide +kernel
theorem dX6_clear_40 : decode cX6_clear 40 = .ok (.aload_n 0, 1) := by decide +kernel
theorem dX6_clear_41 : decode cX6_clear 41 = .ok (.getfield 31, 3) := by decide +kernel
theorem dX6_clear_44 : decode cX6_clear 44 = .ok (.iload_n 1, 1) := by decide +kernel
theorem dX6_clear_45 : decode cX6_clear 45 = .ok (.bipush (-4), 2) := by decide +kernel
theorem dX6_clear_47 : decode cX6_clear 47 = .ok (.iastore, 1) := by decide +kernel
theorem dX6_clear_48 : decode cX6_clear 48 = .ok (.iinc 1 1, 3) := by decide +kernel
theorem dX6_clear_51 : decode cX6_clear 51 = .ok (.goto (-24), 3) := by decide +kernel
theorem dX6_clear_54 : decode cX6_clear 54 = .ok (.return_, 1) := by decide +kernel
theorem dX6_copyFrom_0 : decode cX6_copyFrom 0 = .ok (.aload_n 0, 1) := by decide +kernel
theorem dX6_copyFrom_1 : decode cX6_copyFrom 1 = .ok (.aload_n 1, 1) := by decide +kernel
theorem dX6_copyFrom_2 : decode cX6_copyFrom 2 = .ok (.getfield 46, 3) := by decide +kernel
theorem dX6_copyFrom_5 : decode cX6_copyFrom 5 = .ok (.putfield 46, 3) := by decide +kernel
theorem dX6_copyFrom_8 : decode cX6_copyFrom 8 = .ok (.aload_n 1, 1) := by decide +kernel
theorem dX6_copyFrom_9 : decode cX6_copyFrom 9 = .ok (.getfield 9, 3) := by decide +kernel
theorem dX6_copyFrom_12 : decode cX6_copyFrom 12 = .ok (.iconst 0, 1) := by decide +kernel
theorem dX6_copyFrom_13 : decode cX6_copyFrom 13 = .ok (.aload_n 0, 1) := by decide +kernel
theorem dX6_copyFrom_14 : decode cX6_copyFrom 14 = .ok (.getfield 9, 3) := by decide +kernel
theorem dX6_copyFrom_17 : decode cX6_copyFrom 17 = .ok (.iconst 0, 1) := by decide +kernel
theorem dX6_copyFrom_18 : decode cX6_copyFrom 18 = .ok (.bipush 6, 2) := by decide +kernel
theorem dX6_copyFrom_20 : decode cX6_copyFrom 20 = .ok (.invokestatic 62, 3) := by decide +kernel
theorem dX6_copyFrom_23 : decode cX6_copyFrom 23 = .ok (.aload_n 1, 1) := by decide +kernel
theorem dX6_copyFrom_24 : decode cX6_copyFrom 24 = .ok (.getfield 15, 3) := by decide +kernel
theorem dX6_copyFrom_27 : decode cX6_copyFrom 27 = .ok (.iconst 0, 1) := by decide +kernel
theorem dX6_copyFrom_28 : decode cX6_copyFrom 28 = .ok (.aload_n 0, 1) := by decide +kernel
theorem dX6_copyFrom_29 : decode cX6_copyFrom 29 = .ok (.getfield 15, 3) := by decide +kernel
theorem dX6_copyFrom_32 : decode cX6_copyFrom 32 = .ok (.iconst 0, 1) := by decide +kernel
theorem dX6_copyFrom_33 : decode cX6_copyFrom 33 = .ok (.bipush 6, 2) := by decide +kernel
theorem dX6_copyFrom_35 : decode cX6_copyFrom 35 = .ok (.invokestatic 62, 3) := by decide +kernel
theorem dX6_copyFrom_38 : decode cX6_copyFrom 38 = .ok (.aload_n 1, 1) := by decide +kernel
theorem dX6_copyFrom_39 : decode cX6_copyFrom 39 = .ok (.getfield 18, 3) := by decide +kernel
theorem dX6_copyFrom_42 : decode cX6_copyFrom 42 = .ok (.iconst 0, 1) := by decide +kernel
theorem dX6_copyFrom_43 : decode cX6_copyFrom 43 = .ok (.aload_n 0, 1) := by decide +kernel
theorem dX6_copyFrom_44 : decode cX6_copyFrom 44 = .ok (.getfield 18, 3) := by decide +kernel
theorem dX6_copyFrom_47 : decode cX6_copyFrom 47 = .ok (.iconst 0, 1) := by decide +kernel
theorem dX6_copyFrom_48 : decode cX6_copyFrom 48 = .ok (.bipush 6, 2) := by decide +kernel
theorem dX6_copyFrom_50 : decode cX6_copyFrom 50 = .ok (.invokestatic 62, 3) := by decide +kernel
theorem dX6_copyFrom_53 : decode cX6_copyFrom 53 = .ok (.aload_n 0, 1) := by decide +kernel
theorem dX6_copyFrom_54 : decode cX6_copyFrom 54 = .ok (.aload_n 1, 1) := by decide +kernel
theorem dX6_copyFrom_55 : decode cX6_copyFrom 55 = .ok (.getfield 50, 3) := by decide +kernel
theorem dX6_copyFrom_58 : decode cX6_copyFrom 58 = .ok (.putfield 50, 3) := by decide +kernel
theorem dX6_copyFrom_61 : decode cX6_copyFrom 61 = .ok (.aload_n 1, 1) := by decide +kernel
theorem dX6_copyFrom_62 : decode cX6_copyFrom 62 = .ok (.getfield 21, 3) := by decide +kernel
theorem dX6_copyFrom_65 : decode cX6_copyFrom 65 = .ok (.iconst 0, 1) := by decide +kernel
theorem dX6_copyFrom_66 : decode cX6_copyFrom 66 = .ok (.aload_n 0, 1) := by decide +kernel
theorem dX6_copyFrom_67 : decode cX6_copyFrom 67 = .ok (.getfield 21, 3) := by decide +kernel
theorem dX6_copyFrom_70 : decode cX6_copyFrom 70 = .ok (.iconst 0, 1) := by decide +kernel
theorem dX6_copyFrom_71 : decode cX6_copyFrom 71 = .ok (.bipush 6, 2) := by decide +kernel
theorem dX6_copyFrom_73 : decode cX6_copyFrom 73 = .ok (.invokestatic 62, 3) := by decide +kernel
theorem dX6_copyFrom_76 : decode cX6_copyFrom 76 = .ok (.aload_n 1, 1) := by decide +kernel
theorem dX6_copyFrom_77 : decode cX6_copyFrom 77 = .ok (.getfield 24, 3) := by decide +kernel
theorem dX6_copyFrom_80 : decode cX6_copyFrom 80 = .ok (.iconst 0, 1) := by decide +kernel
theorem dX6_copyFrom_81 : decode cX6_copyFrom 81 = .ok (.aload_n 0, 1) := by decide +kernel
theorem dX6_copyFrom_82 : decode cX6_copyFrom 82 = .ok (.getfield 24, 3) := by decide +kernel
theorem dX6_copyFrom_85 : decode cX6_copyFrom 85 = .ok (.iconst 0, 1) := by decide +kernel
theorem dX6_copyFrom_86 : decode cX6_copyFrom 86 = .ok (.bipush 6, 2) := by decide +kernel
theorem dX6_copyFrom_88 : decode cX6_copyFrom 88 = .ok (.invokestatic 62, 3) := by decide +kernel
theorem dX6_copyFrom_91 : decode cX6_copyFrom 91 = .ok (.aload_n 1, 1) := by decide +kernel
theorem dX6_copyFrom_92 : decode cX6_copyFrom 92 = .ok (.getfield 31, 3) := by decide +kernel
theorem dX6_copyFrom_95 : decode cX6_copyFrom 95 = .ok (.iconst 0, 1) := by decide +kernel
theorem dX6_copyFrom_96 : decode cX6_copyFrom 96 = .ok (.aload_n 0, 1) := by decide +kernel
theorem dX6_copyFrom_97 : decode cX6_copyFrom 97 = .ok (.getfield 31, 3) := by decide +kernel
theorem dX6_copyFrom_100 : decode cX6_copyFrom 100 = .ok (.iconst 0, 1) := by decide +kernel
theorem dX6_copyFrom_101 : decode cX6_copyFrom 101 = .ok (.bipush 6, 2) := by decide +kernel
theorem dX6_copyFrom_103 : decode cX6_copyFrom 103 = .ok (.invokestatic 62, 3) := by decide +kernel
theorem dX6_copyFrom_106 : decode cX6_copyFrom 106 = .ok (.iconst 0, 1) := by decide +kernel
theorem dX6_copyFrom_107 : decode cX6_copyFrom 107 = .ok (.istore_n 2, 1) := by decide +kernel
theorem dX6_copyFrom_108 : decode cX6_copyFrom 108 = .ok (.iload_n 2, 1) := by decide +kernel
theorem dX6_copyFrom_109 : decode cX6_copyFrom 109 = .ok (.bipush 6, 2) := by decide +kernel
theorem dX6_copyFrom_111 : decode cX6_copyFrom 111 = .ok (.if_icmp .ge 21, 3) := by decide +kernel
theorem dX6_copyFrom_114 : decode cX6_copyFrom 114 = .ok (.aload_n 0, 1) := by decide +kernel
theorem dX6_copyFrom_115 : decode cX6_copyFrom 115 = .ok (.getfield 27, 3) := by decide +kernel
theorem dX6_copyFrom_118 : decode cX6_copyFrom 118 = .ok (.iload_n 2, 1) := by decide +kernel
theorem dX6_copyFrom_119 : decode cX6_copyFrom 119 = .ok (.aload_n 1, 1) := by decide +kernel
theorem dX6_copyFrom_120 : decode cX6_copyFrom 120 = .ok (.getfield 27, 3) := by decide +kernel
theorem dX6_copyFrom_123 : decode cX6_copyFrom 123 = .ok (.iload_n 2, 1) := by decide +kernel
theorem dX6_copyFrom_124 : decode cX6_copyFrom 124 = .ok (.baload, 1) := by decide +kernel
theorem dX6_copyFrom_125 : decode cX6_copyFrom 125 = .ok (.bastore, 1) := by decide +kernel
theorem dX6_copyFrom_126 : decode cX6_copyFrom 126 = .ok (.iinc 2 1, 3) := by decide +kernel
theorem dX6_copyFrom_129 : decode cX6_copyFrom 129 = .ok (.goto (-21), 3) := by decide +kernel
theorem dX6_copyFrom_132 : decode cX6_copyFrom 132 = .ok (.aload_n 0, 1) := by decide +kernel
theorem dX6_copyFrom_133 : decode cX6_copyFrom 133 = .ok (.aload_n 1, 1) := by decide +kernel
theorem dX6_copyFrom_134 : decode cX6_copyFrom 134 = .ok (.getfield 53, 3) := by decide +kernel
theorem dX6_copyFrom_137 : decode cX6_copyFrom 137 = .ok (.putfield 53, 3) := by decide +kernel
theorem dX6_copyFrom_140 : decode cX6_copyFrom 140 = .ok (.aload_n 1, 1) := by decide +kernel
theorem dX6_copyFrom_141 : decode cX6_copyFrom 141 = .ok (.getfield 34, 3) := by decide +kernel
theorem dX6_copyFrom_144 : decode cX6_copyFrom 144 = .ok (.iconst 0, 1) := by decide +kernel
theorem dX6_copyFrom_145 : decode cX6_copyFrom 145 = .ok (.aload_n 0, 1) := by decide +kernel
theorem dX6_copyFrom_146 : decode cX6_copyFrom 146 = .ok (.getfield 34, 3) := by decide +kernel
theorem dX6_copyFrom_149 : decode cX6_copyFrom 149 = .ok (.iconst 0, 1) := by decide +kernel
theorem dX6_copyFrom_150 : decode cX6_copyFrom 150 = .ok (.bipush 10, 2) := by decide +kernel
theorem dX6_copyFrom_152 : decode cX6_copyFrom 152 = .ok (.invokestatic 62, 3) := by decide +kernel
theorem dX6_copyFrom_155 : decode cX6_copyFrom 155 = .ok (.aload_n 1, 1) := by decide +kernel
theorem dX6_copyFrom_156 : decode cX6_copyFrom 156 = .ok (.getfield 37, 3) := by decide +kernel
theorem dX6_copyFrom_159 : decode cX6_copyFrom 159 = .ok (.iconst 0, 1) := by decide +kernel
theorem dX6_copyFrom_160 : decode cX6_copyFrom 160 = .ok (.aload_n 0, 1) := by decide +kernel
theorem dX6_copyFrom_161 : decode cX6_copyFrom 161 = .ok (.getfield 37, 3) := by decide +kernel
theorem dX6_copyFrom_164 : decode cX6_copyFrom 164 = .ok (.iconst 0, 1) := by decide +kernel
theorem dX6_copyFrom_165 : decode cX6_copyFrom 165 = .ok (.bipush 10, 2) := by decide +kernel
theorem dX6_copyFrom_167 : decode cX6_copyFrom 167 = .ok (.invokestatic 62, 3) := by decide +kernel
theorem dX6_copyFrom_170 : decode cX6_copyFrom 170 = .ok (.aload_n 1, 1) := by decide +kernel
theorem dX6_copyFrom_171 : decode cX6_copyFrom 171 = .ok (.getfield 40, 3) := by decide +kernel
theorem dX6_copyFrom_174 : decode cX6_copyFrom 174 = .ok (.iconst 0, 1) := by decide +kernel
theorem dX6_copyFrom_175 : decode cX6_copyFrom 175 = .ok (.aload_n 0, 1) := by decide +kernel
theorem dX6_copyFrom_176 : decode cX6_copyFrom 176 = .ok (.getfield 40, 3) := by decide +kernel
theorem dX6_copyFrom_179 : decode cX6_copyFrom 179 = .ok (.iconst 0, 1) := by decide +kernel
theorem dX6_copyFrom_180 : decode cX6_copyFrom 180 = .ok (.bipush 10, 2) := by decide +kernel
theorem dX6_copyFrom_182 : decode cX6_copyFrom 182 = .ok (.invokestatic 62, 3) := by decide +kernel
theorem dX6_copyFrom_185 : decode cX6_copyFrom 185 = .ok (.aload_n 0, 1) := by decide +kernel
theorem dX6_copyFrom_186 : decode cX6_copyFrom 186 = .ok (.aload_n 1, 1) := by decide +kernel
theorem dX6_copyFrom_187 : decode cX6_copyFrom 187 = .ok (.getfield 56, 3) := by decide +kernel
theorem dX6_copyFrom_190 : decode cX6_copyFrom 190 = .ok (.putfield 56, 3) := by decide +kernel
theorem dX6_copyFrom_193 : decode cX6_copyFrom 193 = .ok (.aload_n 0, 1) := by decide +kernel
theorem dX6_copyFrom_194 : decode cX6_copyFrom 194 = .ok (.aload_n 1, 1) := by decide +kernel
theorem dX6_copyFrom_195 : decode cX6_copyFrom 195 = .ok (.getfield 59, 3) := by decide +kernel
theorem dX6_copyFrom_198 : decode cX6_copyFrom 198 = .ok (.putfield 59, 3) := by decide +kernel
theorem dX6_copyFrom_201 : decode cX6_copyFrom 201 = .ok (.return_, 1) := by decide +kernel
theorem dX6_hasOne_0 : decode cX6_hasOne 0 = .ok (.iload_n 1, 1) := by decide +kernel
theorem dX6_hasOne_1 : decode cX6_hasOne 1 = .ok (.ifCond .lt 15, 3) := by decide +kernel
theorem dX6_hasOne_4 : decode cX6_hasOne 4 = .ok (.iload_n 1, 1) := by decide +kernel
theorem dX6_hasOne_5 : decode cX6_hasOne 5 = .ok (.aload_n 0, 1) := by decide +kernel
theorem dX6_hasOne_6 : decode cX6_hasOne 6 = .ok (.getfield 46, 3) := by decide +kernel
theorem dX6_hasOne_9 : decode cX6_hasOne 9 = .ok (.if_icmp .ge 7, 3) := by decide +kernel
theorem dX6_hasOne_12 : decode cX6_hasOne 12 = .ok (.iconst 1, 1) := by decide +kernel
theorem dX6_hasOne_13 : decode cX6_hasOne 13 = .ok (.goto 4, 3) := by decide +kernel
theorem dX6_hasOne_16 : decode cX6_hasOne 16 = .ok (.iconst 0, 1) := by decide +kernel
theorem dX6_hasOne_17 : decode cX6_hasOne 17 = .ok (.ireturn, 1) := by decide +kernel
theorem dX6_hasCoin_0 : decode cX6_hasCoin 0 = .ok (.iload_n 1, 1) := by decide +kernel
theorem dX6_hasCoin_1 : decode cX6_hasCoin 1 = .ok (.ifCond .lt 15, 3) := by decide +kernel
theorem dX6_hasCoin_4 : decode cX6_hasCoin 4 = .ok (.iload_n 1, 1) := by decide +kernel
theorem dX6_hasCoin_5 : decode cX6_hasCoin 5 = .ok (.aload_n 0, 1) := by decide +kernel
theorem dX6_hasCoin_6 : decode cX6_hasCoin 6 = .ok (.getfield 50, 3) := by decide +kernel
theorem dX6_hasCoin_9 : decode cX6_hasCoin 9 = .ok (.if_icmp .ge 7, 3) := by decide +kernel
theorem dX6_hasCoin_12 : decode cX6_hasCoin 12 = .ok (.iconst 1, 1) := by decide +kernel
theorem dX6_hasCoin_13 : decode cX6_hasCoin 13 = .ok (.goto 4, 3) := by decide +kernel
theorem dX6_hasCoin_16 : decode cX6_hasCoin 16 = .ok (.iconst 0, 1) := by decide +kernel
theorem dX6_hasCoin_17 : decode cX6_hasCoin 17 = .ok (.ireturn, 1) := by decide +kernel
theorem dX6_isSpent_0 : decode cX6_isSpent 0 = .ok (.aload_n 0, 1) := by decide +kernel
theorem dX6_isSpent_1 : decode cX6_isSpent 1 = .ok (.getfield 31, 3) := by decide +kernel
theorem dX6_isSpent_4 : decode cX6_isSpent 4 = .ok (.iload_n 1, 1) := by decide +kernel
theorem dX6_isSpent_5 : decode cX6_isSpent 5 = .ok (.iaload, 1) := by decide +kernel
theorem dX6_isSpent_6 : decode cX6_isSpent 6 = .ok (.bipush (-4), 2) := by decide +kernel
theorem dX6_isSpent_8 : decode cX6_isSpent 8 = .ok (.if_icmp .eq 7, 3) := by decide +kernel
theorem dX6_isSpent_11 : decode cX6_isSpent 11 = .ok (.iconst 1, 1) := by decide +kernel
theorem dX6_isSpent_12 : decode cX6_isSpent 12 = .ok (.goto 4, 3) := by decide +kernel
theorem dX6_isSpent_15 : decode cX6_isSpent 15 = .ok (.iconst 0, 1) := by decide +kernel
theorem dX6_isSpent_16 : decode cX6_isSpent 16 = .ok (.ireturn, 1) := by decide +kernel
theorem dX6_canTalk_0 : decode cX6_canTalk 0 = .ok (.iload_n 1, 1) := by decide +kernel
theorem dX6_canTalk_1 : decode cX6_canTalk 1 = .ok (.invokestatic 68, 3) := by decide +kernel
theorem dX6_canTalk_4 : decode cX6_canTalk 4 = .ok (.ifCond .eq 28, 3) := by decide +kernel
theorem dX6_canTalk_7 : decode cX6_canTalk 7 = .ok (.aload_n 0, 1) := by decide +kernel
theorem dX6_canTalk_8 : decode cX6_canTalk 8 = .ok (.iload_n 2, 1) := by decide +kernel
theorem dX6_canTalk_9 : decode cX6_canTalk 9 = .ok (.invokevirtual 72, 3) := by decide +kernel
theorem dX6_canTalk_12 : decode cX6_canTalk 12 = .ok (.ifCond .eq 20, 3) := by decide +kernel
theorem dX6_canTalk_15 : decode cX6_canTalk 15 = .ok (.aload_n 0, 1) := by decide +kernel
theorem dX6_canTalk_16 : decode cX6_canTalk 16 = .ok (.iload_n 3, 1) := by decide +kernel
theorem dX6_canTalk_17 : decode cX6_canTalk 17 = .ok (.invokevirtual 72, 3) := by decide +kernel
theorem dX6_canTalk_20 : decode cX6_canTalk 20 = .ok (.ifCond .eq 12, 3) := by decide +kernel
theorem dX6_canTalk_23 : decode cX6_canTalk 23 = .ok (.iload_n 2, 1) := by decide +kernel
theorem dX6_canTalk_24 : decode cX6_canTalk 24 = .ok (.iload_n 3, 1) := by decide +kernel
theorem dX6_canTalk_25 : decode cX6_canTalk 25 = .ok (.if_icmp .eq 7, 3) := by decide +kernel
theorem dX6_canTalk_28 : decode cX6_canTalk 28 = .ok (.iconst 1, 1) := by decide +kernel
theorem dX6_canTalk_29 : decode cX6_canTalk 29 = .ok (.goto 4, 3) := by decide +kernel
theorem dX6_canTalk_32 : decode cX6_canTalk 32 = .ok (.iconst 0, 1) := by decide +kernel
theorem dX6_canTalk_33 : decode cX6_canTalk 33 = .ok (.ireturn, 1) := by decide +kernel
theorem dX6_addTalk_0 : decode cX6_addTalk 0 = .ok (.aload_n 0, 1) := by decide +kernel
theorem dX6_addTalk_1 : decode cX6_addTalk 1 = .ok (.iload_n 1, 1) := by decide +kernel
theorem dX6_addTalk_2 : decode cX6_addTalk 2 = .ok (.iload_n 2, 1) := by decide +kernel
theorem dX6_addTalk_3 : decode cX6_addTalk 3 = .ok (.iload_n 3, 1) := by decide +kernel
theorem dX6_addTalk_4 : decode cX6_addTalk 4 = .ok (.invokevirtual 75, 3) := by decide +kernel
theorem dX6_addTalk_7 : decode cX6_addTalk 7 = .ok (.ifCond .ne 5, 3) := by decide +kernel
theorem dX6_addTalk_10 : decode cX6_addTalk 10 = .ok (.iconst (-1), 1) := by decide +kernel
theorem dX6_addTalk_11 : decode cX6_addTalk 11 = .ok (.ireturn, 1) := by decide +kernel
theorem dX6_addTalk_12 : decode cX6_addTalk 12 = .ok (.aload_n 0, 1) := by decide +kernel
theorem dX6_addTalk_13 : decode cX6_addTalk 13 = .ok (.getfield 53, 3) := by decide +kernel
theorem dX6_addTalk_16 : decode cX6_addTalk 16 = .ok (.bipush 10, 2) := by decide +kernel
theorem dX6_addTalk_18 : decode cX6_addTalk 18 = .ok (.if_icmp .lt 6, 3) := by decide +kernel
theorem dX6_addTalk_21 : decode cX6_addTalk 21 = .ok (.bipush (-3), 2) := by decide +kernel
theorem dX6_addTalk_23 : decode cX6_addTalk 23 = .ok (.ireturn, 1) := by decide +kernel
theorem dX6_addTalk_24 : decode cX6_addTalk 24 = .ok (.aload_n 0, 1) := by decide +kernel
theorem dX6_addTalk_25 : decode cX6_addTalk 25 = .ok (.iload_n 1, 1) := by decide +kernel
theorem dX6_addTalk_26 : decode cX6_addTalk 26 = .ok (.iload_n 2, 1) := by decide +kernel
theorem dX6_addTalk_27 : decode cX6_addTalk 27 = .ok (.iload_n 3, 1) := by decide +kernel
theorem dX6_addTalk_28 : decode cX6_addTalk 28 = .ok (.invokevirtual 79, 3) := by decide +kernel
theorem dX6_addTalk_31 : decode cX6_addTalk 31 = .ok (.aload_n 0, 1) := by decide +kernel
theorem dX6_addTalk_32 : decode cX6_addTalk 32 = .ok (.getfield 53, 3) := by decide +kernel
theorem dX6_addTalk_35 : decode cX6_addTalk 35 = .ok (.ireturn, 1) := by decide +kernel
theorem dX6_putTalk_0 : decode cX6_putTalk 0 = .ok (.aload_n 0, 1) := by decide +kernel
theorem dX6_putTalk_1 : decode cX6_putTalk 1 = .ok (.getfield 53, 3) := by decide +kernel
theorem dX6_putTalk_4 : decode cX6_putTalk 4 = .ok (.bipush 10, 2) := by decide +kernel
theorem dX6_putTalk_6 : decode cX6_putTalk 6 = .ok (.if_icmp .ge 43, 3) := by decide +kernel
theorem dX6_putTalk_9 : decode cX6_putTalk 9 = .ok (.aload_n 0, 1) := by decide +kernel
theorem dX6_putTalk_10 : decode cX6_putTalk 10 = .ok (.getfield 34, 3) := by decide +kernel
theorem dX6_putTalk_13 : decode cX6_putTalk 13 = .ok (.aload_n 0, 1) := by decide +kernel
theorem dX6_putTalk_14 : decode cX6_putTalk 14 = .ok (.getfield 53, 3) := by decide +kernel
theorem dX6_putTalk_17 : decode cX6_putTalk 17 = .ok (.iload_n 1, 1) := by decide +kernel
theorem dX6_putTalk_18 : decode cX6_putTalk 18 = .ok (.iastore, 1) := by decide +kernel
theorem dX6_putTalk_19 : decode cX6_putTalk 19 = .ok (.aload_n 0, 1) := by decide +kernel
theorem dX6_putTalk_20 : decode cX6_putTalk 20 = .ok (.getfield 37, 3) := by decide +kernel
theorem dX6_putTalk_23 : decode cX6_putTalk 23 = .ok (.aload_n 0, 1) := by decide +kernel
theorem dX6_putTalk_24 : decode cX6_putTalk 24 = .ok (.getfield 53, 3) := by decide +kernel
theorem dX6_putTalk_27 : decode cX6_putTalk 27 = .ok (.iload_n 2, 1) := by decide +kernel
theorem dX6_putTalk_28 : decode cX6_putTalk 28 = .ok (.iastore, 1) := by decide +kernel
theorem dX6_putTalk_29 : decode cX6_putTalk 29 = .ok (.aload_n 0, 1) := by decide +kernel
theorem dX6_putTalk_30 : decode cX6_putTalk 30 = .ok (.getfield 40, 3) := by decide +kernel
theorem dX6_putTalk_33 : decode cX6_putTalk 33 = .ok (.aload_n 0, 1) := by decide +kernel
theorem dX6_putTalk_34 : decode cX6_putTalk 34 = .ok (.getfield 53, 3) := by decide +kernel
theorem dX6_putTalk_37 : decode cX6_putTalk 37 = .ok (.iload_n 3, 1) := by decide +kernel
theorem dX6_putTalk_38 : decode cX6_putTalk 38 = .ok (.iastore, 1) := by decide +kernel
theorem dX6_putTalk_39 : decode cX6_putTalk 39 = .ok (.aload_n 0, 1) := by decide +kernel
theorem dX6_putTalk_40 : decode cX6_putTalk 40 = .ok (.dup, 1) := by decide +kernel
theorem dX6_putTalk_41 : decode cX6_putTalk 41 = .ok (.getfield 53, 3) := by decide +kernel
theorem dX6_putTalk_44 : decode cX6_putTalk 44 = .ok (.iconst 1, 1) := by decide +kernel
theorem dX6_putTalk_45 : decode cX6_putTalk 45 = .ok (.iadd, 1) := by decide +kernel
theorem dX6_putTalk_46 : decode cX6_putTalk 46 = .ok (.putfield 53, 3) := by decide +kernel
theorem dX6_putTalk_49 : decode cX6_putTalk 49 = .ok (.return_, 1) := by decide +kernel
theorem dX6_lengthBy_0 : decode cX6_lengthBy 0 = .ok (.aload_n 0, 1) := by decide +kernel
theorem dX6_lengthBy_1 : decode cX6_lengthBy 1 = .ok (.getfield 27, 3) := by decide +kernel
theorem dX6_lengthBy_4 : decode cX6_lengthBy 4 = .ok (.iload_n 1, 1) := by decide +kernel
theorem dX6_lengthBy_5 : decode cX6_lengthBy 5 = .ok (.baload, 1) := by decide +kernel
theorem dX6_lengthBy_6 : decode cX6_lengthBy 6 = .ok (.ifCond .eq 18, 3) := by decide +kernel
theorem dX6_lengthBy_9 : decode cX6_lengthBy 9 = .ok (.iconst 1, 1) := by decide +kernel
theorem dX6_lengthBy_10 : decode cX6_lengthBy 10 = .ok (.aload_n 0, 1) := by decide +kernel
theorem dX6_lengthBy_11 : decode cX6_lengthBy 11 = .ok (.getfield 21, 3) := by decide +kernel
theorem dX6_lengthBy_14 : decode cX6_lengthBy 14 = .ok (.iload_n 1, 1) := by decide +kernel
theorem dX6_lengthBy_15 : decode cX6_lengthBy 15 = .ok (.iaload, 1) := by decide +kernel
theorem dX6_lengthBy_16 : decode cX6_lengthBy 16 = .ok (.iconst 1, 1) := by decide +kernel
theorem dX6_lengthBy_17 : decode cX6_lengthBy 17 = .ok (.isub, 1) := by decide +kernel
theorem dX6_lengthBy_18 : decode cX6_lengthBy 18 = .ok (.invokestatic 83, 3) := by decide +kernel
theorem dX6_lengthBy_21 : decode cX6_lengthBy 21 = .ok (.goto 9, 3) := by decide +kernel
theorem dX6_lengthBy_24 : decode cX6_lengthBy 24 = .ok (.aload_n 0, 1) := by decide +kernel
theorem dX6_lengthBy_25 : decode cX6_lengthBy 25 = .ok (.getfield 21, 3) := by decide +kernel
theorem dX6_lengthBy_28 : decode cX6_lengthBy 28 = .ok (.iload_n 1, 1) := by decide +kernel
theorem dX6_lengthBy_29 : decode cX6_lengthBy 29 = .ok (.iaload, 1) := by decide +kernel
theorem dX6_lengthBy_30 : decode cX6_lengthBy 30 = .ok (.istore_n 3, 1) := by decide +kernel
theorem dX6_lengthBy_31 : decode cX6_lengthBy 31 = .ok (.aload_n 0, 1) := by decide +kernel
theorem dX6_lengthBy_32 : decode cX6_lengthBy 32 = .ok (.getfield 9, 3) := by decide +kernel
theorem dX6_lengthBy_35 : decode cX6_lengthBy 35 = .ok (.iload_n 2, 1) := by decide +kernel
theorem dX6_lengthBy_36 : decode cX6_lengthBy 36 = .ok (.iaload, 1) := by decide +kernel
theorem dX6_lengthBy_37 : decode cX6_lengthBy 37 = .ok (.iconst 3, 1) := by decide +kernel
theorem dX6_lengthBy_38 : decode cX6_lengthBy 38 = .ok (.if_icmp .ne 9, 3) := by decide +kernel
theorem dX6_lengthBy_41 : decode cX6_lengthBy 41 = .ok (.iload_n 3, 1) := by decide +kernel
theorem dX6_lengthBy_42 : decode cX6_lengthBy 42 = .ok (.iconst 1, 1) := by decide +kernel
theorem dX6_lengthBy_43 : decode cX6_lengthBy 43 = .ok (.iadd, 1) := by decide +kernel
theorem dX6_lengthBy_44 : decode cX6_lengthBy 44 = .ok (.goto 4, 3) := by decide +kernel
theorem dX6_lengthBy_47 : decode cX6_lengthBy 47 = .ok (.iload_n 3, 1) := by decide +kernel
theorem dX6_lengthBy_48 : decode cX6_lengthBy 48 = .ok (.ireturn, 1) := by decide +kernel
theorem dX6_silencedBy_0 : decode cX6_silencedBy 0 = .ok (.aload_n 0, 1) := by decide +kernel
theorem dX6_silencedBy_1 : decode cX6_silencedBy 1 = .ok (.getfield 24, 3) := by decide +kernel
theorem dX6_silencedBy_4 : decode cX6_silencedBy 4 = .ok (.iload_n 1, 1) := by decide +kernel
theorem dX6_silencedBy_5 : decode cX6_silencedBy 5 = .ok (.iaload, 1) := by decide +kernel
theorem dX6_silencedBy_6 : decode cX6_silencedBy 6 = .ok (.istore 4, 2) := by decide +kernel
theorem dX6_silencedBy_8 : decode cX6_silencedBy 8 = .ok (.iload_n 3, 1) := by decide +kernel
theorem dX6_silencedBy_9 : decode cX6_silencedBy 9 = .ok (.iload_n 2, 1) := by decide +kernel
theorem dX6_silencedBy_10 : decode cX6_silencedBy 10 = .ok (.if_icmp .lt 23, 3) := by decide +kernel
theorem dX6_silencedBy_13 : decode cX6_silencedBy 13 = .ok (.iload_n 3, 1) := by decide +kernel
theorem dX6_silencedBy_14 : decode cX6_silencedBy 14 = .ok (.iload_n 2, 1) := by decide +kernel
theorem dX6_silencedBy_15 : decode cX6_silencedBy 15 = .ok (.aload_n 0, 1) := by decide +kernel
theorem dX6_silencedBy_16 : decode cX6_silencedBy 16 = .ok (.iload_n 1, 1) := by decide +kernel
theorem dX6_silencedBy_17 : decode cX6_silencedBy 17 = .ok (.iload 4, 2) := by decide +kernel
theorem dX6_silencedBy_19 : decode cX6_silencedBy 19 = .ok (.invokevirtual 89, 3) := by decide +kernel
theorem dX6_silencedBy_22 : decode cX6_silencedBy 22 = .ok (.iadd, 1) := by decide +kernel
theorem dX6_silencedBy_23 : decode cX6_silencedBy 23 = .ok (.if_icmp .ge 10, 3) := by decide +kernel
theorem dX6_silencedBy_26 : decode cX6_silencedBy 26 = .ok (.iconst 1, 1) := by decide +kernel
theorem dX6_silencedBy_27 : decode cX6_silencedBy 27 = .ok (.iload 4, 2) := by decide +kernel
theorem dX6_silencedBy_29 : decode cX6_silencedBy 29 = .ok (.ishl, 1) := by decide +kernel
theorem dX6_silencedBy_30 : decode cX6_silencedBy 30 = .ok (.goto 4, 3) := by decide +kernel
theorem dX6_silencedBy_33 : decode cX6_silencedBy 33 = .ok (.iconst 0, 1) := by decide +kernel
theorem dX6_silencedBy_34 : decode cX6_silencedBy 34 = .ok (.ireturn, 1) := by decide +kernel
theorem dX6_silentOnes_0 : decode cX6_silentOnes 0 = .ok (.iconst 0, 1) := by decide +kernel
theorem dX6_silentOnes_1 : decode cX6_silentOnes 1 = .ok (.istore_n 2, 1) := by decide +kernel
theorem dX6_silentOnes_2 : decode cX6_silentOnes 2 = .ok (.iconst 0, 1) := by decide +kernel
theorem dX6_silentOnes_3 : decode cX6_silentOnes 3 = .ok (.istore_n 3, 1) := by decide +kernel
theorem dX6_silentOnes_4 : decode cX6_silentOnes 4 = .ok (.iload_n 3, 1) := by decide +kernel
theorem dX6_silentOnes_5 : decode cX6_silentOnes 5 = .ok (.aload_n 0, 1) := by decide +kernel
theorem dX6_silentOnes_6 : decode cX6_silentOnes 6 = .ok (.getfield 50, 3) := by decide +kernel
theorem dX6_silentOnes_9 : decode cX6_silentOnes 9 = .ok (.if_icmp .ge 32, 3) := by decide +kernel
theorem dX6_silentOnes_12 : decode cX6_silentOnes 12 = .ok (.aload_n 0, 1) := by decide +kernel
theorem dX6_silentOnes_13 : decode cX6_silentOnes 13 = .ok (.iload_n 3, 1) := by decide +kernel
theorem dX6_silentOnes_14 : decode cX6_silentOnes 14 = .ok (.invokevirtual 92, 3) := by decide +kernel
theorem dX6_silentOnes_17 : decode cX6_silentOnes 17 = .ok (.ifCond .eq 18, 3) := by decide +kernel
theorem dX6_silentOnes_20 : decode cX6_silentOnes 20 = .ok (.iload_n 2, 1) := by decide +kernel
theorem dX6_silentOnes_21 : decode cX6_silentOnes 21 = .ok (.aload_n 0, 1) := by decide +kernel
theorem dX6_silentOnes_22 : decode cX6_silentOnes 22 = .ok (.iload_n 3, 1) := by decide +kernel
theorem dX6_silentOnes_23 : decode cX6_silentOnes 23 = .ok (.aload_n 0, 1) := by decide +kernel
theorem dX6_silentOnes_24 : decode cX6_silentOnes 24 = .ok (.getfield 31, 3) := by decide +kernel
theorem dX6_silentOnes_27 : decode cX6_silentOnes 27 = .ok (.iload_n 3, 1) := by decide +kernel
theorem dX6_silentOnes_28 : decode cX6_silentOnes 28 = .ok (.iaload, 1) := by decide +kernel
theorem dX6_silentOnes_29 : decode cX6_silentOnes 29 = .ok (.iload_n 1, 1) := by decide +kernel
theorem dX6_silentOnes_30 : decode cX6_silentOnes 30 = .ok (.invokevirtual 95, 3) := by decide +kernel
theorem dX6_silentOnes_33 : decode cX6_silentOnes 33 = .ok (.ior, 1) := by decide +kernel
theorem dX6_silentOnes_34 : decode cX6_silentOnes 34 = .ok (.istore_n 2, 1) := by decide +kernel
theorem dX6_silentOnes_35 : decode cX6_silentOnes 35 = .ok (.iinc 3 1, 3) := by decide +kernel
theorem dX6_silentOnes_38 : decode cX6_silentOnes 38 = .ok (.goto (-34), 3) := by decide +kernel
theorem dX6_silentOnes_41 : decode cX6_silentOnes 41 = .ok (.iload_n 2, 1) := by decide +kernel
theorem dX6_silentOnes_42 : decode cX6_silentOnes 42 = .ok (.ireturn, 1) := by decide +kernel
theorem dX6_isSaid_0 : decode cX6_isSaid 0 = .ok (.aload_n 0, 1) := by decide +kernel
theorem dX6_isSaid_1 : decode cX6_isSaid 1 = .ok (.getfield 9, 3) := by decide +kernel
theorem dX6_isSaid_4 : decode cX6_isSaid 4 = .ok (.iload_n 2, 1) := by decide +kernel
theorem dX6_isSaid_5 : decode cX6_isSaid 5 = .ok (.iaload, 1) := by decide +kernel
theorem dX6_isSaid_6 : decode cX6_isSaid 6 = .ok (.iconst 4, 1) := by decide +kernel
theorem dX6_isSaid_7 : decode cX6_isSaid 7 = .ok (.if_icmp .ne 5, 3) := by decide +kernel
theorem dX6_isSaid_10 : decode cX6_isSaid 10 = .ok (.iconst 1, 1) := by decide +kernel
theorem dX6_isSaid_11 : decode cX6_isSaid 11 = .ok (.ireturn, 1) := by decide +kernel
theorem dX6_isSaid_12 : decode cX6_isSaid 12 = .ok (.iload_n 1, 1) := by decide +kernel
theorem dX6_isSaid_13 : decode cX6_isSaid 13 = .ok (.iload_n 2, 1) := by decide +kernel
theorem dX6_isSaid_14 : decode cX6_isSaid 14 = .ok (.invokestatic 99, 3) := by decide +kernel
theorem dX6_isSaid_17 : decode cX6_isSaid 17 = .ok (.istore 4, 2) := by decide +kernel
theorem dX6_isSaid_19 : decode cX6_isSaid 19 = .ok (.iload_n 1, 1) := by decide +kernel
theorem dX6_isSaid_20 : decode cX6_isSaid 20 = .ok (.iload_n 3, 1) := by decide +kernel
theorem dX6_isSaid_21 : decode cX6_isSaid 21 = .ok (.invokestatic 99, 3) := by decide +kernel
theorem dX6_isSaid_24 : decode cX6_isSaid 24 = .ok (.istore 5, 2) := by decide +kernel
theorem dX6_isSaid_26 : decode cX6_isSaid 26 = .ok (.aload_n 0, 1) := by decide +kernel
theorem dX6_isSaid_27 : decode cX6_isSaid 27 = .ok (.getfield 56, 3) := by decide +kernel
theorem dX6_isSaid_30 : decode cX6_isSaid 30 = .ok (.lookupswitch 53 #[(0, 26), (1, 37)], 26) := by decide +kernel
theorem dX6_isSaid_56 : decode cX6_isSaid 56 = .ok (.iload 5, 2) := by decide +kernel
theorem dX6_isSaid_58 : decode cX6_isSaid 58 = .ok (.ifCond .ne 7, 3) := by decide +kernel
theorem dX6_isSaid_61 : decode cX6_isSaid 61 = .ok (.iconst 1, 1) := by decide +kernel
theorem dX6_isSaid_62 : decode cX6_isSaid 62 = .ok (.goto 4, 3) := by decide +kernel
theorem dX6_isSaid_65 : decode cX6_isSaid 65 = .ok (.iconst 0, 1) := by decide +kernel
theorem dX6_isSaid_66 : decode cX6_isSaid 66 = .ok (.ireturn, 1) := by decide +kernel
theorem dX6_isSaid_67 : decode cX6_isSaid 67 = .ok (.iload 5, 2) := by decide +kernel
theorem dX6_isSaid_69 : decode cX6_isSaid 69 = .ok (.ifCond .eq 8, 3) := by decide +kernel
theorem dX6_isSaid_72 : decode cX6_isSaid 72 = .ok (.iload 4, 2) := by decide +kernel
theorem dX6_isSaid_74 : decode cX6_isSaid 74 = .ok (.ifCond .eq 7, 3) := by decide +kernel
theorem dX6_isSaid_77 : decode cX6_isSaid 77 = .ok (.iconst 1, 1) := by decide +kernel
theorem dX6_isSaid_78 : decode cX6_isSaid 78 = .ok (.goto 4, 3) := by decide +kernel
theorem dX6_isSaid_81 : decode cX6_isSaid 81 = .ok (.iconst 0, 1) := by decide +kernel
theorem dX6_isSaid_82 : decode cX6_isSaid 82 = .ok (.ireturn, 1) := by decide +kernel
theorem dX6_isSaid_83 : decode cX6_isSaid 83 = .ok (.iload 5, 2) := by decide +kernel
theorem dX6_isSaid_85 : decode cX6_isSaid 85 = .ok (.ifCond .ne 12, 3) := by decide +kernel
theorem dX6_isSaid_88 : decode cX6_isSaid 88 = .ok (.iload 4, 2) := by decide +kernel
theorem dX6_isSaid_90 : decode cX6_isSaid 90 = .ok (.ifCond .ne 7, 3) := by decide +kernel
theorem dX6_isSaid_93 : decode cX6_isSaid 93 = .ok (.iconst 1, 1) := by decide +kernel
theorem dX6_isSaid_94 : decode cX6_isSaid 94 = .ok (.goto 4, 3) := by decide +kernel
theorem dX6_isSaid_97 : decode cX6_isSaid 97 = .ok (.iconst 0, 1) := by decide +kernel
theorem dX6_isSaid_98 : decode cX6_isSaid 98 = .ok (.ireturn, 1) := by decide +kernel
theorem dX6_isTalkSaid_0 : decode cX6_isTalkSaid 0 = .ok (.aload_n 0, 1) := by decide +kernel
theorem dX6_isTalkSaid_1 : decode cX6_isTalkSaid 1 = .ok (.aload_n 0, 1) := by decide +kernel
theorem dX6_isTalkSaid_2 : decode cX6_isTalkSaid 2 = .ok (.aload_n 0, 1) := by decide +kernel
theorem dX6_isTalkSaid_3 : decode cX6_isTalkSaid 3 = .ok (.getfield 34, 3) := by decide +kernel
theorem dX6_isTalkSaid_6 : decode cX6_isTalkSaid 6 = .ok (.iload_n 1, 1) := by decide +kernel
theorem dX6_isTalkSaid_7 : decode cX6_isTalkSaid 7 = .ok (.iaload, 1) := by decide +kernel
theorem dX6_isTalkSaid_8 : decode cX6_isTalkSaid 8 = .ok (.invokevirtual 103, 3) := by decide +kernel
theorem dX6_isTalkSaid_11 : decode cX6_isTalkSaid 11 = .ok (.aload_n 0, 1) := by decide +kernel
theorem dX6_isTalkSaid_12 : decode cX6_isTalkSaid 12 = .ok (.getfield 37, 3) := by decide +kernel
theorem dX6_isTalkSaid_15 : decode cX6_isTalkSaid 15 = .ok (.iload_n 1, 1) := by decide +kernel
theorem dX6_isTalkSaid_16 : decode cX6_isTalkSaid 16 = .ok (.iaload, 1) := by decide +kernel
theorem dX6_isTalkSaid_17 : decode cX6_isTalkSaid 17 = .ok (.aload_n 0, 1) := by decide +kernel
theorem dX6_isTalkSaid_18 : decode cX6_isTalkSaid 18 = .ok (.getfield 40, 3) := by decide +kernel
theorem dX6_isTalkSaid_21 : decode cX6_isTalkSaid 21 = .ok (.iload_n 1, 1) := by decide +kernel
theorem dX6_isTalkSaid_22 : decode cX6_isTalkSaid 22 = .ok (.iaload, 1) := by decide +kernel
theorem dX6_isTalkSaid_23 : decode cX6_isTalkSaid 23 = .ok (.invokevirtual 107, 3) := by decide +kernel
theorem dX6_isTalkSaid_26 : decode cX6_isTalkSaid 26 = .ok (.ireturn, 1) := by decide +kernel
theorem dX6_spentCoins_0 : decode cX6_spentCoins 0 = .ok (.iconst 0, 1) := by decide +kernel
theorem dX6_spentCoins_1 : decode cX6_spentCoins 1 = .ok (.istore_n 1, 1) := by decide +kernel
theorem dX6_spentCoins_2 : decode cX6_spentCoins 2 = .ok (.iconst 0, 1) := by decide +kernel
theorem dX6_spentCoins_3 : decode cX6_spentCoins 3 = .ok (.istore_n 2, 1) := by decide +kernel
theorem dX6_spentCoins_4 : decode cX6_spentCoins 4 = .ok (.iload_n 2, 1) := by decide +kernel
theorem dX6_spentCoins_5 : decode cX6_spentCoins 5 = .ok (.aload_n 0, 1) := by decide +kernel
theorem dX6_spentCoins_6 : decode cX6_spentCoins 6 = .ok (.getfield 50, 3) := by decide +kernel
theorem dX6_spentCoins_9 : decode cX6_spentCoins 9 = .ok (.if_icmp .ge 20, 3) := by decide +kernel
theorem dX6_spentCoins_12 : decode cX6_spentCoins 12 = .ok (.iload_n 1, 1) := by decide +kernel
theorem dX6_spentCoins_13 : decode cX6_spentCoins 13 = .ok (.aload_n 0, 1) := by decide +kernel
theorem dX6_spentCoins_14 : decode cX6_spentCoins 14 = .ok (.iload_n 2, 1) := by decide +kernel
theorem dX6_spentCoins_15 : decode cX6_spentCoins 15 = .ok (.invokevirtual 92, 3) := by decide +kernel
theorem dX6_spentCoins_18 : decode cX6_spentCoins 18 = .ok (.invokestatic 110, 3) := by decide +kernel
theorem dX6_spentCoins_21 : decode cX6_spentCoins 21 = .ok (.iadd, 1) := by decide +kernel
theorem dX6_spentCoins_22 : decode cX6_spentCoins 22 = .ok (.istore_n 1, 1) := by decide +kernel
theorem dX6_spentCoins_23 : decode cX6_spentCoins 23 = .ok (.iinc 2 1, 3) := by decide +kernel
theorem dX6_spentCoins_26 : decode cX6_spentCoins 26 = .ok (.goto (-22), 3) := by decide +kernel
theorem dX6_spentCoins_29 : decode cX6_spentCoins 29 = .ok (.iload_n 1, 1) := by decide +kernel
theorem dX6_spentCoins_30 : decode cX6_spentCoins 30 = .ok (.ireturn, 1) := by decide +kernel
theorem dX6_unspentWorths_0 : decode cX6_unspentWorths 0 = .ok (.iconst 0, 1) := by decide +kernel
theorem dX6_unspentWorths_1 : decode cX6_unspentWorths 1 = .ok (.istore_n 1, 1) := by decide +kernel
theorem dX6_unspentWorths_2 : decode cX6_unspentWorths 2 = .ok (.iconst 0, 1) := by decide +kernel
theorem dX6_unspentWorths_3 : decode cX6_unspentWorths 3 = .ok (.istore_n 2, 1) := by decide +kernel
theorem dX6_unspentWorths_4 : decode cX6_unspentWorths 4 = .ok (.iload_n 2, 1) := by decide +kernel
theorem dX6_unspentWorths_5 : decode cX6_unspentWorths 5 = .ok (.aload_n 0, 1) := by decide +kernel
theorem dX6_unspentWorths_6 : decode cX6_unspentWorths 6 = .ok (.getfield 50, 3) := by decide +kernel
theorem dX6_unspentWorths_9 : decode cX6_unspentWorths 9 = .ok (.if_icmp .ge 30, 3) := by decide +kernel
theorem dX6_unspentWorths_12 : decode cX6_unspentWorths 12 = .ok (.iload_n 1, 1) := by decide +kernel
theorem dX6_unspentWorths_13 : decode cX6_unspentWorths 13 = .ok (.aload_n 0, 1) := by decide +kernel
theorem dX6_unspentWorths_14 : decode cX6_unspentWorths 14 = .ok (.iload_n 2, 1) := by decide +kernel
theorem dX6_unspentWorths_15 : decode cX6_unspentWorths 15 = .ok (.invokevirtual 92, 3) := by decide +kernel
theorem dX6_unspentWorths_18 : decode cX6_unspentWorths 18 = .ok (.ifCond .eq 7, 3) := by decide +kernel
theorem dX6_unspentWorths_21 : decode cX6_unspentWorths 21 = .ok (.iconst 0, 1) := by decide +kernel
theorem dX6_unspentWorths_22 : decode cX6_unspentWorths 22 = .ok (.goto 9, 3) := by decide +kernel
theorem dX6_unspentWorths_25 : decode cX6_unspentWorths 25 = .ok (.aload_n 0, 1) := by decide +kernel
theorem dX6_unspentWorths_26 : decode cX6_unspentWorths 26 = .ok (.getfield 21, 3) := by decide +kernel
theorem dX6_unspentWorths_29 : decode cX6_unspentWorths 29 = .ok (.iload_n 2, 1) := by decide +kernel
theorem dX6_unspentWorths_30 : decode cX6_unspentWorths 30 = .ok (.iaload, 1) := by decide +kernel
theorem dX6_unspentWorths_31 : decode cX6_unspentWorths 31 = .ok (.iadd, 1) := by decide +kernel
theorem dX6_unspentWorths_32 : decode cX6_unspentWorths 32 = .ok (.istore_n 1, 1) := by decide +kernel
theorem dX6_unspentWorths_33 : decode cX6_unspentWorths 33 = .ok (.iinc 2 1, 3) := by decide +kernel
theorem dX6_unspentWorths_36 : decode cX6_unspentWorths 36 = .ok (.goto (-32), 3) := by decide +kernel
theorem dX6_unspentWorths_39 : decode cX6_unspentWorths 39 = .ok (.iload_n 1, 1) := by decide +kernel
theorem dX6_unspentWorths_40 : decode cX6_unspentWorths 40 = .ok (.ireturn, 1) := by decide +kernel
theorem dX6_raidedIn_0 : decode cX6_raidedIn 0 = .ok (.aload_n 0, 1) := by decide +kernel
theorem dX6_raidedIn_1 : decode cX6_raidedIn 1 = .ok (.iload_n 1, 1) := by decide +kernel
theorem dX6_raidedIn_2 : decode cX6_raidedIn 2 = .ok (.invokevirtual 103, 3) := by decide +kernel
theorem dX6_raidedIn_5 : decode cX6_raidedIn 5 = .ok (.istore_n 2, 1) := by decide +kernel
theorem dX6_raidedIn_6 : decode cX6_raidedIn 6 = .ok (.iconst 0, 1) := by decide +kernel
theorem dX6_raidedIn_7 : decode cX6_raidedIn 7 = .ok (.istore_n 3, 1) := by decide +kernel
theorem dX6_raidedIn_8 : decode cX6_raidedIn 8 = .ok (.iconst 0, 1) := by decide +kernel
theorem dX6_raidedIn_9 : decode cX6_raidedIn 9 = .ok (.istore 4, 2) := by decide +kernel
theorem dX6_raidedIn_11 : decode cX6_raidedIn 11 = .ok (.iload 4, 2) := by decide +kernel
theorem dX6_raidedIn_13 : decode cX6_raidedIn 13 = .ok (.aload_n 0, 1) := by decide +kernel
theorem dX6_raidedIn_14 : decode cX6_raidedIn 14 = .ok (.getfield 46, 3) := by decide +kernel
theorem dX6_raidedIn_17 : decode cX6_raidedIn 17 = .ok (.if_icmp .ge 38, 3) := by decide +kernel
theorem dX6_raidedIn_20 : decode cX6_raidedIn 20 = .ok (.aload_n 0, 1) := by decide +kernel
theorem dX6_raidedIn_21 : decode cX6_raidedIn 21 = .ok (.getfield 9, 3) := by decide +kernel
theorem dX6_raidedIn_24 : decode cX6_raidedIn 24 = .ok (.iload 4, 2) := by decide +kernel
theorem dX6_raidedIn_26 : decode cX6_raidedIn 26 = .ok (.iaload, 1) := by decide +kernel
theorem dX6_raidedIn_27 : decode cX6_raidedIn 27 = .ok (.iconst 4, 1) := by decide +kernel
theorem dX6_raidedIn_28 : decode cX6_raidedIn 28 = .ok (.if_icmp .eq 21, 3) := by decide +kernel
theorem dX6_raidedIn_31 : decode cX6_raidedIn 31 = .ok (.iload_n 2, 1) := by decide +kernel
theorem dX6_raidedIn_32 : decode cX6_raidedIn 32 = .ok (.iload 4, 2) := by decide +kernel
theorem dX6_raidedIn_34 : decode cX6_raidedIn 34 = .ok (.invokestatic 99, 3) := by decide +kernel
theorem dX6_raidedIn_37 : decode cX6_raidedIn 37 = .ok (.ifCond .ne 12, 3) := by decide +kernel
theorem dX6_raidedIn_40 : decode cX6_raidedIn 40 = .ok (.iload_n 3, 1) := by decide +kernel
theorem dX6_raidedIn_41 : decode cX6_raidedIn 41 = .ok (.aload_n 0, 1) := by decide +kernel
theorem dX6_raidedIn_42 : decode cX6_raidedIn 42 = .ok (.iload 4, 2) := by decide +kernel
theorem dX6_raidedIn_44 : decode cX6_raidedIn 44 = .ok (.invokevirtual 114, 3) := by decide +kernel
theorem dX6_raidedIn_47 : decode cX6_raidedIn 47 = .ok (.iadd, 1) := by decide +kernel
theorem dX6_raidedIn_48 : decode cX6_raidedIn 48 = .ok (.istore_n 3, 1) := by decide +kernel
theorem dX6_raidedIn_49 : decode cX6_raidedIn 49 = .ok (.iinc 4 1, 3) := by decide +kernel
theorem dX6_raidedIn_52 : decode cX6_raidedIn 52 = .ok (.goto (-41), 3) := by decide +kernel
theorem dX6_raidedIn_55 : decode cX6_raidedIn 55 = .ok (.iload_n 3, 1) := by decide +kernel
theorem dX6_raidedIn_56 : decode cX6_raidedIn 56 = .ok (.ireturn, 1) := by decide +kernel
theorem dX6_greatestUnspent_0 : decode cX6_greatestUnspent 0 = .ok (.iconst 0, 1) := by decide +kernel
theorem dX6_greatestUnspent_1 : decode cX6_greatestUnspent 1 = .ok (.istore_n 2, 1) := by decide +kernel
theorem dX6_greatestUnspent_2 : decode cX6_greatestUnspent 2 = .ok (.iconst 0, 1) := by decide +kernel
theorem dX6_greatestUnspent_3 : decode cX6_greatestUnspent 3 = .ok (.istore_n 3, 1) := by decide +kernel
theorem dX6_greatestUnspent_4 : decode cX6_greatestUnspent 4 = .ok (.iload_n 3, 1) := by decide +kernel
theorem dX6_greatestUnspent_5 : decode cX6_greatestUnspent 5 = .ok (.aload_n 0, 1) := by decide +kernel
theorem dX6_greatestUnspent_6 : decode cX6_greatestUnspent 6 = .ok (.getfield 50, 3) := by decide +kernel
theorem dX6_greatestUnspent_9 : decode cX6_greatestUnspent 9 = .ok (.if_icmp .ge 38, 3) := by decide +kernel
theorem dX6_greatestUnspent_12 : decode cX6_greatestUnspent 12 = .ok (.aload_n 0, 1) := by decide +kernel
theorem dX6_greatestUnspent_13 : decode cX6_greatestUnspent 13 = .ok (.getfield 24, 3) := by decide +kernel
theorem dX6_greatestUnspent_16 : decode cX6_greatestUnspent 16 = .ok (.iload_n 3, 1) := by decide +kernel
theorem dX6_greatestUnspent_17 : decode cX6_greatestUnspent 17 = .ok (.iaload, 1) := by decide +kernel
theorem dX6_greatestUnspent_18 : decode cX6_greatestUnspent 18 = .ok (.iload_n 1, 1) := by decide +kernel
theorem dX6_greatestUnspent_19 : decode cX6_greatestUnspent 19 = .ok (.if_icmp .ne 22, 3) := by decide +kernel
theorem dX6_greatestUnspent_22 : decode cX6_greatestUnspent 22 = .ok (.aload_n 0, 1) := by decide +kernel
theorem dX6_greatestUnspent_23 : decode cX6_greatestUnspent 23 = .ok (.iload_n 3, 1) := by decide +kernel
theorem dX6_greatestUnspent_24 : decode cX6_greatestUnspent 24 = .ok (.invokevirtual 92, 3) := by decide +kernel
theorem dX6_greatestUnspent_27 : decode cX6_greatestUnspent 27 = .ok (.ifCond .ne 14, 3) := by decide +kernel
theorem dX6_greatestUnspent_30 : decode cX6_greatestUnspent 30 = .ok (.iload_n 2, 1) := by decide +kernel
theorem dX6_greatestUnspent_31 : decode cX6_greatestUnspent 31 = .ok (.aload_n 0, 1) := by decide +kernel
theorem dX6_greatestUnspent_32 : decode cX6_greatestUnspent 32 = .ok (.getfield 21, 3) := by decide +kernel
theorem dX6_greatestUnspent_35 : decode cX6_greatestUnspent 35 = .ok (.iload_n 3, 1) := by decide +kernel
theorem dX6_greatestUnspent_36 : decode cX6_greatestUnspent 36 = .ok (.iaload, 1) := by decide +kernel
theorem dX6_greatestUnspent_37 : decode cX6_greatestUnspent 37 = .ok (.invokestatic 83, 3) := by decide +kernel
theorem dX6_greatestUnspent_40 : decode cX6_greatestUnspent 40 = .ok (.istore_n 2, 1) := by decide +kernel
theorem dX6_greatestUnspent_41 : decode cX6_greatestUnspent 41 = .ok (.iinc 3 1, 3) := by decide +kernel
theorem dX6_greatestUnspent_44 : decode cX6_greatestUnspent 44 = .ok (.goto (-40), 3) := by decide +kernel
theorem dX6_greatestUnspent_47 : decode cX6_greatestUnspent 47 = .ok (.iload_n 2, 1) := by decide +kernel
theorem dX6_greatestUnspent_48 : decode cX6_greatestUnspent 48 = .ok (.ireturn, 1) := by decide +kernel
theorem dX6_priceAfter_0 : decode cX6_priceAfter 0 = .ok (.iconst 1, 1) := by decide +kernel
theorem dX6_priceAfter_1 : decode cX6_priceAfter 1 = .ok (.iload_n 1, 1) := by decide +kernel
theorem dX6_priceAfter_2 : decode cX6_priceAfter 2 = .ok (.invokestatic 83, 3) := by decide +kernel
theorem dX6_priceAfter_5 : decode cX6_priceAfter 5 = .ok (.istore_n 2, 1) := by decide +kernel
theorem dX6_priceAfter_6 : decode cX6_priceAfter 6 = .ok (.iconst 0, 1) := by decide +kernel
theorem dX6_priceAfter_7 : decode cX6_priceAfter 7 = .ok (.istore_n 3, 1) := by decide +kernel
theorem dX6_priceAfter_8 : decode cX6_priceAfter 8 = .ok (.iconst 0, 1) := by decide +kernel
theorem dX6_priceAfter_9 : decode cX6_priceAfter 9 = .ok (.istore 4, 2) := by decide +kernel
theorem dX6_priceAfter_11 : decode cX6_priceAfter 11 = .ok (.iload 4, 2) := by decide +kernel
theorem dX6_priceAfter_13 : decode cX6_priceAfter 13 = .ok (.aload_n 0, 1) := by decide +kernel
theorem dX6_priceAfter_14 : decode cX6_priceAfter 14 = .ok (.getfield 46, 3) := by decide +kernel
theorem dX6_priceAfter_17 : decode cX6_priceAfter 17 = .ok (.if_icmp .ge 31, 3) := by decide +kernel
theorem dX6_priceAfter_20 : decode cX6_priceAfter 20 = .ok (.iload_n 3, 1) := by decide +kernel
theorem dX6_priceAfter_21 : decode cX6_priceAfter 21 = .ok (.aload_n 0, 1) := by decide +kernel
theorem dX6_priceAfter_22 : decode cX6_priceAfter 22 = .ok (.getfield 15, 3) := by decide +kernel
theorem dX6_priceAfter_25 : decode cX6_priceAfter 25 = .ok (.iload 4, 2) := by decide +kernel
theorem dX6_priceAfter_27 : decode cX6_priceAfter 27 = .ok (.iaload, 1) := by decide +kernel
theorem dX6_priceAfter_28 : decode cX6_priceAfter 28 = .ok (.aload_n 0, 1) := by decide +kernel
theorem dX6_priceAfter_29 : decode cX6_priceAfter 29 = .ok (.getfield 18, 3) := by decide +kernel
theorem dX6_priceAfter_32 : decode cX6_priceAfter 32 = .ok (.iload 4, 2) := by decide +kernel
theorem dX6_priceAfter_34 : decode cX6_priceAfter 34 = .ok (.iaload, 1) := by decide +kernel
theorem dX6_priceAfter_35 : decode cX6_priceAfter 35 = .ok (.iload_n 2, 1) := by decide +kernel
theorem dX6_priceAfter_36 : decode cX6_priceAfter 36 = .ok (.idiv, 1) := by decide +kernel
theorem dX6_priceAfter_37 : decode cX6_priceAfter 37 = .ok (.invokestatic 117, 3) := by decide +kernel
theorem dX6_priceAfter_40 : decode cX6_priceAfter 40 = .ok (.iadd, 1) := by decide +kernel
theorem dX6_priceAfter_41 : decode cX6_priceAfter 41 = .ok (.istore_n 3, 1) := by decide +kernel
theorem dX6_priceAfter_42 : decode cX6_priceAfter 42 = .ok (.iinc 4 1, 3) := by decide +kernel
theorem dX6_priceAfter_45 : decode cX6_priceAfter 45 = .ok (.goto (-34), 3) := by decide +kernel
theorem dX6_priceAfter_48 : decode cX6_priceAfter 48 = .ok (.aload_n 0, 1) := by decide +kernel
theorem dX6_priceAfter_49 : decode cX6_priceAfter 49 = .ok (.invokevirtual 120, 3) := by decide +kernel
theorem dX6_priceAfter_52 : decode cX6_priceAfter 52 = .ok (.istore 4, 2) := by decide +kernel
theorem dX6_priceAfter_54 : decode cX6_priceAfter 54 = .ok (.iload_n 3, 1) := by decide +kernel
theorem dX6_priceAfter_55 : decode cX6_priceAfter 55 = .ok (.iload 4, 2) := by decide +kernel
theorem dX6_priceAfter_57 : decode cX6_priceAfter 57 = .ok (.if_icmp .le 12, 3) := by decide +kernel
theorem dX6_priceAfter_60 : decode cX6_priceAfter 60 = .ok (.bipush 99, 2) := by decide +kernel
theorem dX6_priceAfter_62 : decode cX6_priceAfter 62 = .ok (.iload_n 1, 1) := by decide +kernel
theorem dX6_priceAfter_63 : decode cX6_priceAfter 63 = .ok (.iconst 1, 1) := by decide +kernel
theorem dX6_priceAfter_64 : decode cX6_priceAfter 64 = .ok (.iadd, 1) := by decide +kernel
theorem dX6_priceAfter_65 : decode cX6_priceAfter 65 = .ok (.invokestatic 117, 3) := by decide +kernel
theorem dX6_priceAfter_68 : decode cX6_priceAfter 68 = .ok (.ireturn, 1) := by decide +kernel
theorem dX6_priceAfter_69 : decode cX6_priceAfter 69 = .ok (.iload_n 3, 1) := by decide +kernel
theorem dX6_priceAfter_70 : decode cX6_priceAfter 70 = .ok (.iload 4, 2) := by decide +kernel
theorem dX6_priceAfter_72 : decode cX6_priceAfter 72 = .ok (.if_icmp .ge 13, 3) := by decide +kernel
theorem dX6_priceAfter_75 : decode cX6_priceAfter 75 = .ok (.iconst 1, 1) := by decide +kernel
theorem dX6_priceAfter_76 : decode cX6_priceAfter 76 = .ok (.iload_n 1, 1) := by decide +kernel
theorem dX6_priceAfter_77 : decode cX6_priceAfter 77 = .ok (.iconst 1, 1) := by decide +kernel
theorem dX6_priceAfter_78 : decode cX6_priceAfter 78 = .ok (.isub, 1) := by decide +kernel
theorem dX6_priceAfter_79 : decode cX6_priceAfter 79 = .ok (.invokestatic 83, 3) := by decide +kernel
theorem dX6_priceAfter_82 : decode cX6_priceAfter 82 = .ok (.goto 4, 3) := by decide +kernel
theorem dX6_priceAfter_85 : decode cX6_priceAfter 85 = .ok (.iload_n 1, 1) := by decide +kernel
theorem dX6_priceAfter_86 : decode cX6_priceAfter 86 = .ok (.ireturn, 1) := by decide +kernel
theorem dX7_init_0 : decode cX7_init 0 = .ok (.aload_n 0, 1) := by decide +kernel
theorem dX7_init_1 : decode cX7_init 1 = .ok (.invokespecial 1, 3) := by decide +kernel
theorem dX7_init_4 : decode cX7_init 4 = .ok (.aload_n 0, 1) := by decide +kernel
theorem dX7_init_5 : decode cX7_init 5 = .ok (.new 7, 3) := by decide +kernel
theorem dX7_init_8 : decode cX7_init 8 = .ok (.dup, 1) := by decide +kernel
theorem dX7_init_9 : decode cX7_init 9 = .ok (.invokespecial 9, 3) := by decide +kernel
theorem dX7_init_12 : decode cX7_init 12 = .ok (.putfield 10, 3) := by decide +kernel
theorem dX7_init_15 : decode cX7_init 15 = .ok (.aload_n 0, 1) := by decide +kernel
theorem dX7_init_16 : decode cX7_init 16 = .ok (.new 16, 3) := by decide +kernel
theorem dX7_init_19 : decode cX7_init 19 = .ok (.dup, 1) := by decide +kernel
theorem dX7_init_20 : decode cX7_init 20 = .ok (.aload_n 0, 1) := by decide +kernel
theorem dX7_init_21 : decode cX7_init 21 = .ok (.getfield 10, 3) := by decide +kernel
theorem dX7_init_24 : decode cX7_init 24 = .ok (.invokespecial 18, 3) := by decide +kernel
theorem dX7_init_27 : decode cX7_init 27 = .ok (.putfield 21, 3) := by decide +kernel
theorem dX7_init_30 : decode cX7_init 30 = .ok (.aload_n 0, 1) := by decide +kernel
theorem dX7_init_31 : decode cX7_init 31 = .ok (.new 25, 3) := by decide +kernel
theorem dX7_init_34 : decode cX7_init 34 = .ok (.dup, 1) := by decide +kernel
theorem dX7_init_35 : decode cX7_init 35 = .ok (.invokespecial 27, 3) := by decide +kernel
theorem dX7_init_38 : decode cX7_init 38 = .ok (.putfield 28, 3) := by decide +kernel
theorem dX7_init_41 : decode cX7_init 41 = .ok (.aload_n 0, 1) := by decide +kernel
theorem dX7_init_42 : decode cX7_init 42 = .ok (.new 32, 3) := by decide +kernel
theorem dX7_init_45 : decode cX7_init 45 = .ok (.dup, 1) := by decide +kernel
theorem dX7_init_46 : decode cX7_init 46 = .ok (.aload_n 0, 1) := by decide +kernel
theorem dX7_init_47 : decode cX7_init 47 = .ok (.getfield 28, 3) := by decide +kernel
theorem dX7_init_50 : decode cX7_init 50 = .ok (.invokespecial 34, 3) := by decide +kernel
theorem dX7_init_53 : decode cX7_init 53 = .ok (.putfield 37, 3) := by decide +kernel
theorem dX7_init_56 : decode cX7_init 56 = .ok (.aload_n 0, 1) := by decide +kernel
theorem dX7_init_57 : decode cX7_init 57 = .ok (.new 41, 3) := by decide +kernel
theorem dX7_init_60 : decode cX7_init 60 = .ok (.dup, 1) := by decide +kernel
theorem dX7_init_61 : decode cX7_init 61 = .ok (.aload_n 0, 1) := by decide +kernel
theorem dX7_init_62 : decode cX7_init 62 = .ok (.getfield 28, 3) := by decide +kernel
theorem dX7_init_65 : decode cX7_init 65 = .ok (.invokespecial 43, 3) := by decide +kernel
theorem dX7_init_68 : decode cX7_init 68 = .ok (.putfield 44, 3) := by decide +kernel
theorem dX7_init_71 : decode cX7_init 71 = .ok (.aload_n 0, 1) := by decide +kernel
theorem dX7_init_72 : decode cX7_init 72 = .ok (.new 48, 3) := by decide +kernel
theorem dX7_init_75 : decode cX7_init 75 = .ok (.dup, 1) := by decide +kernel
theorem dX7_init_76 : decode cX7_init 76 = .ok (.invokespecial 50, 3) := by decide +kernel
theorem dX7_init_79 : decode cX7_init 79 = .ok (.putfield 51, 3) := by decide +kernel
theorem dX7_init_82 : decode cX7_init 82 = .ok (.aload_n 0, 1) := by decide +kernel
theorem dX7_init_83 : decode cX7_init 83 = .ok (.iconst 2, 1) := by decide +kernel
theorem dX7_init_84 : decode cX7_init 84 = .ok (.anewarray 25, 3) := by decide +kernel
theorem dX7_init_87 : decode cX7_init 87 = .ok (.putfield 55, 3) := by decide +kernel
theorem dX7_init_90 : decode cX7_init 90 = .ok (.iconst 0, 1) := by decide +kernel
theorem dX7_init_91 : decode cX7_init 91 = .ok (.istore_n 1, 1) := by decide +kernel
theorem dX7_init_92 : decode cX7_init 92 = .ok (.iload_n 1, 1) := by decide +kernel
theorem dX7_init_93 : decode cX7_init 93 = .ok (.iconst 2, 1) := by decide +kernel
theorem dX7_init_94 : decode cX7_init 94 = .ok (.if_icmp .ge 22, 3) := by decide +kernel
theorem dX7_init_97 : decode cX7_init 97 = .ok (.aload_n 0, 1) := by decide +kernel
theorem dX7_init_98 : decode cX7_init 98 = .ok (.getfield 55, 3) := by decide +kernel
theorem dX7_init_101 : decode cX7_init 101 = .ok (.iload_n 1, 1) := by decide +kernel
theorem dX7_init_102 : decode cX7_init 102 = .ok (.new 25, 3) := by decide +kernel
theorem dX7_init_105 : decode cX7_init 105 = .ok (.dup, 1) := by decide +kernel
theorem dX7_init_106 : decode cX7_init 106 = .ok (.invokespecial 27, 3) := by decide +kernel
theorem dX7_init_109 : decode cX7_init 109 = .ok (.aastore, 1) := by decide +kernel
theorem dX7_init_110 : decode cX7_init 110 = .ok (.iinc 1 1, 3) := by decide +kernel
theorem dX7_init_113 : decode cX7_init 113 = .ok (.goto (-21), 3) := by decide +kernel
theorem dX7_init_116 : decode cX7_init 116 = .ok (.aload_n 0, 1) := by decide +kernel
theorem dX7_init_117 : decode cX7_init 117 = .ok (.iconst 2, 1) := by decide +kernel
theorem dX7_init_118 : decode cX7_init 118 = .ok (.newarray .boolean, 2) := by decide +kernel
theorem dX7_init_120 : decode cX7_init 120 = .ok (.putfield 59, 3) := by decide +kernel
theorem dX7_init_123 : decode cX7_init 123 = .ok (.aload_n 0, 1) := by decide +kernel
theorem dX7_init_124 : decode cX7_init 124 = .ok (.iconst 4, 1) := by decide +kernel
theorem dX7_init_125 : decode cX7_init 125 = .ok (.anewarray 63, 3) := by decide +kernel
theorem dX7_init_128 : decode cX7_init 128 = .ok (.putfield 65, 3) := by decide +kernel
theorem dX7_init_131 : decode cX7_init 131 = .ok (.iconst 0, 1) := by decide +kernel
theorem dX7_init_132 : decode cX7_init 132 = .ok (.istore_n 1, 1) := by decide +kernel
theorem dX7_init_133 : decode cX7_init 133 = .ok (.iload_n 1, 1) := by decide +kernel
theorem dX7_init_134 : decode cX7_init 134 = .ok (.iconst 4, 1) := by decide +kernel
theorem dX7_init_135 : decode cX7_init 135 = .ok (.if_icmp .ge 22, 3) := by decide +kernel
theorem dX7_init_138 : decode cX7_init 138 = .ok (.aload_n 0, 1) := by decide +kernel
theorem dX7_init_139 : decode cX7_init 139 = .ok (.getfield 65, 3) := by decide +kernel
theorem dX7_init_142 : decode cX7_init 142 = .ok (.iload_n 1, 1) := by decide +kernel
theorem dX7_init_143 : decode cX7_init 143 = .ok (.new 63, 3) := by decide +kernel
theorem dX7_init_146 : decode cX7_init 146 = .ok (.dup, 1) := by decide +kernel
theorem dX7_init_147 : decode cX7_init 147 = .ok (.invokespecial 69, 3) := by decide +kernel
theorem dX7_init_150 : decode cX7_init 150 = .ok (.aastore, 1) := by decide +kernel
theorem dX7_init_151 : decode cX7_init 151 = .ok (.iinc 1 1, 3) := by decide +kernel
theorem dX7_init_154 : decode cX7_init 154 = .ok (.goto (-21), 3) := by decide +kernel
theorem dX7_init_157 : decode cX7_init 157 = .ok (.return_, 1) := by decide +kernel
theorem dX7_feed_0 : decode cX7_feed 0 = .ok (.aload_n 0, 1) := by decide +kernel
theorem dX7_feed_1 : decode cX7_feed 1 = .ok (.getfield 10, 3) := by decide +kernel
theorem dX7_feed_4 : decode cX7_feed 4 = .ok (.lload_n 1, 1) := by decide +kernel
theorem dX7_feed_5 : decode cX7_feed 5 = .ok (.invokevirtual 70, 3) := by decide +kernel
theorem dX7_feed_8 : decode cX7_feed 8 = .ok (.ireturn, 1) := by decide +kernel
theorem dX7_end_0 : decode cX7_end 0 = .ok (.aload_n 0, 1) := by decide +kernel
theorem dX7_end_1 : decode cX7_end 1 = .ok (.getfield 10, 3) := by decide +kernel
theorem dX7_end_4 : decode cX7_end 4 = .ok (.iload_n 1, 1) := by decide +kernel
theorem dX7_end_5 : decode cX7_end 5 = .ok (.invokevirtual 74, 3) := by decide +kernel
theorem dX7_end_8 : decode cX7_end 8 = .ok (.ireturn, 1) := by decide +kernel
theorem dX7_text_0 : decode cX7_text 0 = .ok (.aload_n 0, 1) := by decide +kernel
theorem dX7_text_1 : decode cX7_text 1 = .ok (.getfield 21, 3) := by decide +kernel
theorem dX7_text_4 : decode cX7_text 4 = .ok (.invokevirtual 78, 3) := by decide +kernel
theorem dX7_text_7 : decode cX7_text 7 = .ok (.istore_n 1, 1) := by decide +kernel
theorem dX7_text_8 : decode cX7_text 8 = .ok (.aload_n 0, 1) := by decide +kernel
theorem dX7_text_9 : decode cX7_text 9 = .ok (.getfield 10, 3) := by decide +kernel
theorem dX7_text_12 : decode cX7_text 12 = .ok (.iconst 0, 1) := by decide +kernel
theorem dX7_text_13 : decode cX7_text 13 = .ok (.putfield 82, 3) := by decide +kernel
theorem dX7_text_16 : decode cX7_text 16 = .ok (.iload_n 1, 1) := by decide +kernel
theorem dX7_text_17 : decode cX7_text 17 = .ok (.ifCond .ne 14, 3) := by decide +kernel
theorem dX7_text_20 : decode cX7_text 20 = .ok (.bipush (-10), 2) := by decide +kernel
theorem dX7_text_22 : decode cX7_text 22 = .ok (.aload_n 0, 1) := by decide +kernel
theorem dX7_text_23 : decode cX7_text 23 = .ok (.getfield 21, 3) := by decide +kernel
theorem dX7_text_26 : decode cX7_text 26 = .ok (.getfield 86, 3) := by decide +kernel
theorem dX7_text_29 : decode cX7_text 29 = .ok (.isub, 1) := by decide +kernel
theorem dX7_text_30 : decode cX7_text 30 = .ok (.ireturn, 1) := by decide +kernel
theorem dX7_text_31 : decode cX7_text 31 = .ok (.aload_n 0, 1) := by decide +kernel
theorem dX7_text_32 : decode cX7_text 32 = .ok (.getfield 28, 3) := by decide +kernel
theorem dX7_text_35 : decode cX7_text 35 = .ok (.aload_n 0, 1) := by decide +kernel
theorem dX7_text_36 : decode cX7_text 36 = .ok (.getfield 21, 3) := by decide +kernel
theorem dX7_text_39 : decode cX7_text 39 = .ok (.getfield 89, 3) := by decide +kernel
theorem dX7_text_42 : decode cX7_text 42 = .ok (.invokevirtual 92, 3) := by decide +kernel
theorem dX7_text_45 : decode cX7_text 45 = .ok (.aload_n 0, 1) := by decide +kernel
theorem dX7_text_46 : decode cX7_text 46 = .ok (.getfield 37, 3) := by decide +kernel
theorem dX7_text_49 : decode cX7_text 49 = .ok (.iconst 0, 1) := by decide +kernel
theorem dX7_text_50 : decode cX7_text 50 = .ok (.putfield 95, 3) := by decide +kernel
theorem dX7_text_53 : decode cX7_text 53 = .ok (.aload_n 0, 1) := by decide +kernel
theorem dX7_text_54 : decode cX7_text 54 = .ok (.getfield 51, 3) := by decide +kernel
theorem dX7_text_57 : decode cX7_text 57 = .ok (.iconst 0, 1) := by decide +kernel
theorem dX7_text_58 : decode cX7_text 58 = .ok (.putfield 98, 3) := by decide +kernel
theorem dX7_text_61 : decode cX7_text 61 = .ok (.iconst 0, 1) := by decide +kernel
theorem dX7_text_62 : decode cX7_text 62 = .ok (.istore_n 2, 1) := by decide +kernel
theorem dX7_text_63 : decode cX7_text 63 = .ok (.iload_n 2, 1) := by decide +kernel
theorem dX7_text_64 : decode cX7_text 64 = .ok (.iconst 2, 1) := by decide +kernel
theorem dX7_text_65 : decode cX7_text 65 = .ok (.if_icmp .ge 16, 3) := by decide +kernel
theorem dX7_text_68 : decode cX7_text 68 = .ok (.aload_n 0, 1) := by decide +kernel
theorem dX7_text_69 : decode cX7_text 69 = .ok (.getfield 59, 3) := by decide +kernel
theorem dX7_text_72 : decode cX7_text 72 = .ok (.iload_n 2, 1) := by decide +kernel
theorem dX7_text_73 : decode cX7_text 73 = .ok (.iconst 0, 1) := by decide +kernel
theorem dX7_text_74 : decode cX7_text 74 = .ok (.bastore, 1) := by decide +kernel
theorem dX7_text_75 : decode cX7_text 75 = .ok (.iinc 2 1, 3) := by decide +kernel
theorem dX7_text_78 : decode cX7_text 78 = .ok (.goto (-15), 3) := by decide +kernel
theorem dX7_text_81 : decode cX7_text 81 = .ok (.aload_n 0, 1) := by decide +kernel
theorem dX7_text_82 : decode cX7_text 82 = .ok (.getfield 21, 3) := by decide +kernel
theorem dX7_text_85 : decode cX7_text 85 = .ok (.getfield 101, 3) := by decide +kernel
theorem dX7_text_88 : decode cX7_text 88 = .ok (.ireturn, 1) := by decide +kernel
theorem dX7_fault_0 : decode cX7_fault 0 = .ok (.aload_n 0, 1) := by decide +kernel
theorem dX7_fault_1 : decode cX7_fault 1 = .ok (.getfield 21, 3) := by decide +kernel
theorem dX7_fault_4 : decode cX7_fault 4 = .ok (.getfield 104, 3) := by decide +kernel
theorem dX7_fault_7 : decode cX7_fault 7 = .ok (.ireturn, 1) := by decide +kernel
theorem dX7_rule_0 : decode cX7_rule 0 = .ok (.iload_n 1, 1) := by decide +kernel
theorem dX7_rule_1 : decode cX7_rule 1 = .ok (.tableswitch 75 0 4 #[35, 43, 51, 59, 67], 35) := by decide +kernel
theorem dX7_rule_36 : decode cX7_rule 36 = .ok (.aload_n 0, 1) := by decide +kernel
theorem dX7_rule_37 : decode cX7_rule 37 = .ok (.getfield 28, 3) := by decide +kernel
theorem dX7_rule_40 : decode cX7_rule 40 = .ok (.getfield 107, 3) := by decide +kernel
theorem dX7_rule_43 : decode cX7_rule 43 = .ok (.ireturn, 1) := by decide +kernel
theorem dX7_rule_44 : decode cX7_rule 44 = .ok (.aload_n 0, 1) := by decide +kernel
theorem dX7_rule_45 : decode cX7_rule 45 = .ok (.getfield 28, 3) := by decide +kernel
theorem dX7_rule_48 : decode cX7_rule 48 = .ok (.getfield 110, 3) := by decide +kernel
theorem dX7_rule_51 : decode cX7_rule 51 = .ok (.ireturn, 1) := by decide +kernel
theorem dX7_rule_52 : decode cX7_rule 52 = .ok (.aload_n 0, 1) := by decide +kernel
theorem dX7_rule_53 : decode cX7_rule 53 = .ok (.getfield 28, 3) := by decide +kernel
theorem dX7_rule_56 : decode cX7_rule 56 = .ok (.getfield 113, 3) := by decide +kernel
theorem dX7_rule_59 : decode cX7_rule 59 = .ok (.ireturn, 1) := by decide +kernel
theorem dX7_rule_60 : decode cX7_rule 60 = .ok (.aload_n 0, 1) := by decide +kernel
theorem dX7_rule_61 : decode cX7_rule 61 = .ok (.getfield 28, 3) := by decide +kernel
theorem dX7_rule_64 : decode cX7_rule 64 = .ok (.getfield 116, 3) := by decide +kernel
theorem dX7_rule_67 : decode cX7_rule 67 = .ok (.ireturn, 1) := by decide +kernel
theorem dX7_rule_68 : decode cX7_rule 68 = .ok (.aload_n 0, 1) := by decide +kernel
theorem dX7_rule_69 : decode cX7_rule 69 = .ok (.getfield 28, 3) := by decide +kernel
theorem dX7_rule_72 : decode cX7_rule 72 = .ok (.getfield 119, 3) := by decide +kernel
theorem dX7_rule_75 : decode cX7_rule 75 = .ok (.ireturn, 1) := by decide +kernel
theorem dX7_rule_76 : decode cX7_rule 76 = .ok (.iconst (-1), 1) := by decide +kernel
theorem dX7_rule_77 : decode cX7_rule 77 = .ok (.ireturn, 1) := by decide +kernel
theorem dX7_one_0 : decode cX7_one 0 = .ok (.aload_n 0, 1) := by decide +kernel
theorem dX7_one_1 : decode cX7_one 1 = .ok (.getfield 28, 3) := by decide +kernel
theorem dX7_one_4 : decode cX7_one 4 = .ok (.iload_n 1, 1) := by decide +kernel
theorem dX7_one_5 : decode cX7_one 5 = .ok (.invokevirtual 122, 3) := by decide +kernel
theorem dX7_one_8 : decode cX7_one 8 = .ok (.ifCond .ne 5, 3) := by decide +kernel
theorem dX7_one_11 : decode cX7_one 11 = .ok (.iconst (-1), 1) := by decide +kernel
theorem dX7_one_12 : decode cX7_one 12 = .ok (.ireturn, 1) := by decide +kernel
theorem dX7_one_13 : decode cX7_one 13 = .ok (.iload_n 2, 1) := by decide +kernel
theorem dX7_one_14 : decode cX7_one 14 = .ok (.tableswitch 56 0 2 #[26, 36, 46], 26) := by decide +kernel
theorem dX7_one_40 : decode cX7_one 40 = .ok (.aload_n 0, 1) := by decide +kernel
theorem dX7_one_41 : decode cX7_one 41 = .ok (.getfield 28, 3) := by decide +kernel
theorem dX7_one_44 : decode cX7_one 44 = .ok (.getfield 126, 3) := by decide +kernel
theorem dX7_one_47 : decode cX7_one 47 = .ok (.iload_n 1, 1) := by decide +kernel
theorem dX7_one_48 : decode cX7_one 48 = .ok (.iaload, 1) := by decide +kernel
theorem dX7_one_49 : decode cX7_one 49 = .ok (.ireturn, 1) := by decide +kernel
theorem dX7_one_50 : decode cX7_one 50 = .ok (.aload_n 0, 1) := by decide +kernel
theorem dX7_one_51 : decode cX7_one 51 = .ok (.getfield 28, 3) := by decide +kernel
theorem dX7_one_54 : decode cX7_one 54 = .ok (.getfield 130, 3) := by decide +kernel
theorem dX7_one_57 : decode cX7_one 57 = .ok (.iload_n 1, 1) := by decide +kernel
theorem dX7_one_58 : decode cX7_one 58 = .ok (.iaload, 1) := by decide +kernel
theorem dX7_one_59 : decode cX7_one 59 = .ok (.ireturn, 1) := by decide +kernel
theorem dX7_one_60 : decode cX7_one 60 = .ok (.aload_n 0, 1) := by decide +kernel
theorem dX7_one_61 : decode cX7_one 61 = .ok (.getfield 28, 3) := by decide +kernel
theorem dX7_one_64 : decode cX7_one 64 = .ok (.getfield 133, 3) := by decide +kernel
theorem dX7_one_67 : decode cX7_one 67 = .ok (.iload_n 1, 1) := by decide +kernel
theorem dX7_one_68 : decode cX7_one 68 = .ok (.iaload, 1) := by decide +kernel
theorem dX7_one_69 : decode cX7_one 69 = .ok (.ireturn, 1) := by decide +kernel
theorem dX7_one_70 : decode cX7_one 70 = .ok (.iconst (-1), 1) := by decide +kernel
theorem dX7_one_71 : decode cX7_one 71 = .ok (.ireturn, 1) := by decide +kernel
theorem dX7_coin_0 : decode cX7_coin 0 = .ok (.aload_n 0, 1) := by decide +kernel
theorem dX7_coin_1 : decode cX7_coin 1 = .ok (.getfield 28, 3) := by decide +kernel
theorem dX7_coin_4 : decode cX7_coin 4 = .ok (.iload_n 1, 1) := by decide +kernel
theorem dX7_coin_5 : decode cX7_coin 5 = .ok (.invokevirtual 136, 3) := by decide +kernel
theorem dX7_coin_8 : decode cX7_coin 8 = .ok (.ifCond .ne 5, 3) := by decide +kernel
theorem dX7_coin_11 : decode cX7_coin 11 = .ok (.iconst (-1), 1) := by decide +kernel
theorem dX7_coin_12 : decode cX7_coin 12 = .ok (.ireturn, 1) := by decide +kernel
theorem dX7_coin_13 : decode cX7_coin 13 = .ok (.iload_n 2, 1) := by decide +kernel
theorem dX7_coin_14 : decode cX7_coin 14 = .ok (.tableswitch 95 0 4 #[34, 44, 54, 67, 77], 34) := by decide +kernel
theorem dX7_coin_48 : decode cX7_coin 48 = .ok (.aload_n 0, 1) := by decide +kernel
theorem dX7_coin_49 : decode cX7_coin 49 = .ok (.getfield 28, 3) := by decide +kernel
theorem dX7_coin_52 : decode cX7_coin 52 = .ok (.getfield 139, 3) := by decide +kernel
theorem dX7_coin_55 : decode cX7_coin 55 = .ok (.iload_n 1, 1) := by decide +kernel
theorem dX7_coin_56 : decode cX7_coin 56 = .ok (.iaload, 1) := by decide +kernel
theorem dX7_coin_57 : decode cX7_coin 57 = .ok (.ireturn, 1) := by decide +kernel
theorem dX7_coin_58 : decode cX7_coin 58 = .ok (.aload_n 0, 1) := by decide +kernel
theorem dX7_coin_59 : decode cX7_coin 59 = .ok (.getfield 28, 3) := by decide +kernel
theorem dX7_coin_62 : decode cX7_coin 62 = .ok (.getfield 142, 3) := by decide +kernel
theorem dX7_coin_65 : decode cX7_coin 65 = .ok (.iload_n 1, 1) := by decide +kernel
theorem dX7_coin_66 : decode cX7_coin 66 = .ok (.iaload, 1) := by decide +kernel
theorem dX7_coin_67 : decode cX7_coin 67 = .ok (.ireturn, 1) := by decide +kernel
theorem dX7_coin_68 : decode cX7_coin 68 = .ok (.aload_n 0, 1) := by decide +kernel
theorem dX7_coin_69 : decode cX7_coin 69 = .ok (.getfield 28, 3) := by decide +kernel
theorem dX7_coin_72 : decode cX7_coin 72 = .ok (.getfield 145, 3) := by decide +kernel
theorem dX7_coin_75 : decode cX7_coin 75 = .ok (.iload_n 1, 1) := by decide +kernel
theorem dX7_coin_76 : decode cX7_coin 76 = .ok (.baload, 1) := by decide +kernel
theorem dX7_coin_77 : decode cX7_coin 77 = .ok (.invokestatic 148, 3) := by decide +kernel
theorem dX7_coin_80 : decode cX7_coin 80 = .ok (.ireturn, 1) := by decide +kernel
theorem dX7_coin_81 : decode cX7_coin 81 = .ok (.aload_n 0, 1) := by decide +kernel
theorem dX7_coin_82 : decode cX7_coin 82 = .ok (.getfield 28, 3) := by decide +kernel
theorem dX7_coin_85 : decode cX7_coin 85 = .ok (.getfield 152, 3) := by decide +kernel
theorem dX7_coin_88 : decode cX7_coin 88 = .ok (.iload_n 1, 1) := by decide +kernel
theorem dX7_coin_89 : decode cX7_coin 89 = .ok (.iaload, 1) := by decide +kernel
theorem dX7_coin_90 : decode cX7_coin 90 = .ok (.ireturn, 1) := by decide +kernel
theorem dX7_coin_91 : decode cX7_coin 91 = .ok (.aload_n 0, 1) := by decide +kernel
theorem dX7_coin_92 : decode cX7_coin 92 = .ok (.getfield 28, 3) := by decide +kernel
theorem dX7_coin_95 : decode cX7_coin 95 = .ok (.iload_n 1, 1) := by decide +kernel
theorem dX7_coin_96 : decode cX7_coin 96 = .ok (.aload_n 0, 1) := by decide +kernel
theorem dX7_coin_97 : decode cX7_coin 97 = .ok (.getfield 28, 3) := by decide +kernel
theorem dX7_coin_100 : decode cX7_coin 100 = .ok (.getfield 142, 3) := by decide +kernel
theorem dX7_coin_103 : decode cX7_coin 103 = .ok (.iload_n 1, 1) := by decide +kernel
theorem dX7_coin_104 : decode cX7_coin 104 = .ok (.iaload, 1) := by decide +kernel
theorem dX7_coin_105 : decode cX7_coin 105 = .ok (.invokevirtual 155, 3) := by decide +kernel
theorem dX7_coin_108 : decode cX7_coin 108 = .ok (.ireturn, 1) := by decide +kernel
theorem dX7_coin_109 : decode cX7_coin 109 = .ok (.iconst (-1), 1) := by decide +kernel
theorem dX7_coin_110 : decode cX7_coin 110 = .ok (.ireturn, 1) := by decide +kernel
theorem dX7_talk_0 : decode cX7_talk 0 = .ok (.iload_n 1, 1) := by decide +kernel
theorem dX7_talk_1 : decode cX7_talk 1 = .ok (.ifCond .lt 14, 3) := by decide +kernel
theorem dX7_talk_4 : decode cX7_talk 4 = .ok (.iload_n 1, 1) := by decide +kernel
theorem dX7_talk_5 : decode cX7_talk 5 = .ok (.aload_n 0, 1) := by decide +kernel
theorem dX7_talk_6 : decode cX7_talk 6 = .ok (.getfield 28, 3) := by decide +kernel
theorem dX7_talk_9 : decode cX7_talk 9 = .ok (.getfield 113, 3) := by decide +kernel
theorem dX7_talk_12 : decode cX7_talk 12 = .ok (.if_icmp .lt 5, 3) := by decide +kernel
theorem dX7_talk_15 : decode cX7_talk 15 = .ok (.iconst (-1), 1) := by decide +kernel
theorem dX7_talk_16 : decode cX7_talk 16 = .ok (.ireturn, 1) := by decide +kernel
theorem dX7_talk_17 : decode cX7_talk 17 = .ok (.iload_n 2, 1) := by decide +kernel
theorem dX7_talk_18 : decode cX7_talk 18 = .ok (.tableswitch 72 0 3 #[30, 40, 50, 60], 30) := by decide +kernel
theorem dX7_talk_48 : decode cX7_talk 48 = .ok (.aload_n 0, 1) := by decide +kernel
theorem dX7_talk_49 : decode cX7_talk 49 = .ok (.getfield 28, 3) := by decide +kernel
theorem dX7_talk_52 : decode cX7_talk 52 = .ok (.getfield 159, 3) := by decide +kernel
theorem dX7_talk_55 : decode cX7_talk 55 = .ok (.iload_n 1, 1) := by decide +kernel
theorem dX7_talk_56 : decode cX7_talk 56 = .ok (.iaload, 1) := by decide +kernel
theorem dX7_talk_57 : decode cX7_talk 57 = .ok (.ireturn, 1) := by decide +kernel
theorem dX7_talk_58 : decode cX7_talk 58 = .ok (.aload_n 0, 1) := by decide +kernel
theorem dX7_talk_59 : decode cX7_talk 59 = .ok (.getfield 28, 3) := by decide +kernel
theorem dX7_talk_62 : decode cX7_talk 62 = .ok (.getfield 162, 3) := by decide +kernel
theorem dX7_talk_65 : decode cX7_talk 65 = .ok (.iload_n 1, 1) := by decide +kernel
theorem dX7_talk_66 : decode cX7_talk 66 = .ok (.iaload, 1) := by decide +kernel
theorem dX7_talk_67 : decode cX7_talk 67 = .ok (.ireturn, 1) := by decide +kernel
theorem dX7_talk_68 : decode cX7_talk 68 = .ok (.aload_n 0, 1) := by decide +kernel
theorem dX7_talk_69 : decode cX7_talk 69 = .ok (.getfield 28, 3) := by decide +kernel
theorem dX7_talk_72 : decode cX7_talk 72 = .ok (.getfield 165, 3) := by decide +kernel
theorem dX7_talk_75 : decode cX7_talk 75 = .ok (.iload_n 1, 1) := by decide +kernel
theorem dX7_talk_76 : decode cX7_talk 76 = .ok (.iaload, 1) := by decide +kernel
theorem dX7_talk_77 : decode cX7_talk 77 = .ok (.ireturn, 1) := by decide +kernel
theorem dX7_talk_78 : decode cX7_talk 78 = .ok (.aload_n 0, 1) := by decide +kernel
theorem dX7_talk_79 : decode cX7_talk 79 = .ok (.getfield 28, 3) := by decide +kernel
theorem dX7_talk_82 : decode cX7_talk 82 = .ok (.iload_n 1, 1) := by decide +kernel
theorem dX7_talk_83 : decode cX7_talk 83 = .ok (.invokevirtual 168, 3) := by decide +kernel
theorem dX7_talk_86 : decode cX7_talk 86 = .ok (.invokestatic 148, 3) := by decide +kernel
theorem dX7_talk_89 : decode cX7_talk 89 = .ok (.ireturn, 1) := by decide +kernel
theorem dX7_talk_90 : decode cX7_talk 90 = .ok (.iconst (-1), 1) := by decide +kernel
theorem dX7_talk_91 : decode cX7_talk 91 = .ok (.ireturn, 1) := by decide +kernel
theorem dX7_law_0 : decode cX7_law 0 = .ok (.iload_n 1, 1) := by decide +kernel
theorem dX7_law_1 : decode cX7_law 1 = .ok (.ifCond .lt 8, 3) := by decide +kernel
theorem dX7_law_4 : decode cX7_law 4 = .ok (.iload_n 1, 1) := by decide +kernel
theorem dX7_law_5 : decode cX7_law 5 = .ok (.iconst 2, 1) := by decide +kernel
theorem dX7_law_6 : decode cX7_law 6 = .ok (.if_icmp .le 5, 3) := by decide +kernel
theorem dX7_law_9 : decode cX7_law 9 = .ok (.iconst (-1), 1) := by decide +kernel
theorem dX7_law_10 : decode cX7_law 10 = .ok (.ireturn, 1) := by decide +kernel
theorem dX7_law_11 : decode cX7_law 11 = .ok (.aload_n 0, 1) := by decide +kernel
theorem dX7_law_12 : decode cX7_law 12 = .ok (.getfield 28, 3) := by decide +kernel
theorem dX7_law_15 : decode cX7_law 15 = .ok (.getfield 116, 3) := by decide +kernel
theorem dX7_law_18 : decode cX7_law 18 = .ok (.istore_n 2, 1) := by decide +kernel
theorem dX7_law_19 : decode cX7_law 19 = .ok (.aload_n 0, 1) := by decide +kernel
theorem dX7_law_20 : decode cX7_law 20 = .ok (.getfield 28, 3) := by decide +kernel
theorem dX7_law_23 : decode cX7_law 23 = .ok (.iload_n 1, 1) := by decide +kernel
theorem dX7_law_24 : decode cX7_law 24 = .ok (.putfield 116, 3) := by decide +kernel
theorem dX7_law_27 : decode cX7_law 27 = .ok (.iload_n 2, 1) := by decide +kernel
theorem dX7_law_28 : decode cX7_law 28 = .ok (.ireturn, 1) := by decide +kernel
theorem dX7_fee_0 : decode cX7_fee 0 = .ok (.iload_n 1, 1) := by decide +kernel
theorem dX7_fee_1 : decode cX7_fee 1 = .ok (.ifCond .lt 9, 3) := by decide +kernel
theorem dX7_fee_4 : decode cX7_fee 4 = .ok (.iload_n 1, 1) := by decide +kernel
theorem dX7_fee_5 : decode cX7_fee 5 = .ok (.bipush 9, 2) := by decide +kernel
theorem dX7_fee_7 : decode cX7_fee 7 = .ok (.if_icmp .le 5, 3) := by decide +kernel
theorem dX7_fee_10 : decode cX7_fee 10 = .ok (.iconst (-1), 1) := by decide +kernel
theorem dX7_fee_11 : decode cX7_fee 11 = .ok (.ireturn, 1) := by decide +kernel
theorem dX7_fee_12 : decode cX7_fee 12 = .ok (.aload_n 0, 1) := by decide +kernel
theorem dX7_fee_13 : decode cX7_fee 13 = .ok (.getfield 28, 3) := by decide +kernel
theorem dX7_fee_16 : decode cX7_fee 16 = .ok (.getfield 119, 3) := by decide +kernel
theorem dX7_fee_19 : decode cX7_fee 19 = .ok (.istore_n 2, 1) := by decide +kernel
theorem dX7_fee_20 : decode cX7_fee 20 = .ok (.aload_n 0, 1) := by decide +kernel
theorem dX7_fee_21 : decode cX7_fee 21 = .ok (.getfield 28, 3) := by decide +kernel
theorem dX7_fee_24 : decode cX7_fee 24 = .ok (.iload_n 1, 1) := by decide +kernel
theorem dX7_fee_25 : decode cX7_fee 25 = .ok (.putfield 119, 3) := by decide +kernel
theorem dX7_fee_28 : decode cX7_fee 28 = .ok (.iload_n 2, 1) := by decide +kernel
theorem dX7_fee_29 : decode cX7_fee 29 = .ok (.ireturn, 1) := by decide +kernel
theorem dX7_give_0 : decode cX7_give 0 = .ok (.aload_n 0, 1) := by decide +kernel
theorem dX7_give_1 : decode cX7_give 1 = .ok (.getfield 28, 3) := by decide +kernel
theorem dX7_give_4 : decode cX7_give 4 = .ok (.iload_n 1, 1) := by decide +kernel
theorem dX7_give_5 : decode cX7_give 5 = .ok (.invokevirtual 136, 3) := by decide +kernel
theorem dX7_give_8 : decode cX7_give 8 = .ok (.ifCond .eq 14, 3) := by decide +kernel
theorem dX7_give_11 : decode cX7_give 11 = .ok (.aload_n 0, 1) := by decide +kernel
theorem dX7_give_12 : decode cX7_give 12 = .ok (.getfield 28, 3) := by decide +kernel
theorem dX7_give_15 : decode cX7_give 15 = .ok (.iload_n 2, 1) := by decide +kernel
theorem dX7_give_16 : decode cX7_give 16 = .ok (.invokevirtual 122, 3) := by decide +kernel
theorem dX7_give_19 : decode cX7_give 19 = .ok (.ifCond .ne 5, 3) := by decide +kernel
theorem dX7_give_22 : decode cX7_give 22 = .ok (.iconst (-1), 1) := by decide +kernel
theorem dX7_give_23 : decode cX7_give 23 = .ok (.ireturn, 1) := by decide +kernel
theorem dX7_give_24 : decode cX7_give 24 = .ok (.aload_n 0, 1) := by decide +kernel
theorem dX7_give_25 : decode cX7_give 25 = .ok (.getfield 28, 3) := by decide +kernel
theorem dX7_give_28 : decode cX7_give 28 = .ok (.iload_n 1, 1) := by decide +kernel
theorem dX7_give_29 : decode cX7_give 29 = .ok (.invokevirtual 171, 3) := by decide +kernel
theorem dX7_give_32 : decode cX7_give 32 = .ok (.ifCond .eq 6, 3) := by decide +kernel
theorem dX7_give_35 : decode cX7_give 35 = .ok (.bipush (-2), 2) := by decide +kernel
theorem dX7_give_37 : decode cX7_give 37 = .ok (.ireturn, 1) := by decide +kernel
theorem dX7_give_38 : decode cX7_give 38 = .ok (.aload_n 0, 1) := by decide +kernel
theorem dX7_give_39 : decode cX7_give 39 = .ok (.getfield 28, 3) := by decide +kernel
theorem dX7_give_42 : decode cX7_give 42 = .ok (.getfield 142, 3) := by decide +kernel
theorem dX7_give_45 : decode cX7_give 45 = .ok (.iload_n 1, 1) := by decide +kernel
theorem dX7_give_46 : decode cX7_give 46 = .ok (.iaload, 1) := by decide +kernel
theorem dX7_give_47 : decode cX7_give 47 = .ok (.istore_n 3, 1) := by decide +kernel
theorem dX7_give_48 : decode cX7_give 48 = .ok (.aload_n 0, 1) := by decide +kernel
theorem dX7_give_49 : decode cX7_give 49 = .ok (.getfield 28, 3) := by decide +kernel
theorem dX7_give_52 : decode cX7_give 52 = .ok (.getfield 142, 3) := by decide +kernel
theorem dX7_give_55 : decode cX7_give 55 = .ok (.iload_n 1, 1) := by decide +kernel
theorem dX7_give_56 : decode cX7_give 56 = .ok (.iload_n 2, 1) := by decide +kernel
theorem dX7_give_57 : decode cX7_give 57 = .ok (.iastore, 1) := by decide +kernel
theorem dX7_give_58 : decode cX7_give 58 = .ok (.iload_n 3, 1) := by decide +kernel
theorem dX7_give_59 : decode cX7_give 59 = .ok (.ireturn, 1) := by decide +kernel
theorem dX7_clip_0 : decode cX7_clip 0 = .ok (.aload_n 0, 1) := by decide +kernel
theorem dX7_clip_1 : decode cX7_clip 1 = .ok (.getfield 28, 3) := by decide +kernel
theorem dX7_clip_4 : decode cX7_clip 4 = .ok (.iload_n 1, 1) := by decide +kernel
theorem dX7_clip_5 : decode cX7_clip 5 = .ok (.invokevirtual 136, 3) := by decide +kernel
theorem dX7_clip_8 : decode cX7_clip 8 = .ok (.ifCond .ne 5, 3) := by decide +kernel
theorem dX7_clip_11 : decode cX7_clip 11 = .ok (.iconst (-1), 1) := by decide +kernel
theorem dX7_clip_12 : decode cX7_clip 12 = .ok (.ireturn, 1) := by decide +kernel
theorem dX7_clip_13 : decode cX7_clip 13 = .ok (.aload_n 0, 1) := by decide +kernel
theorem dX7_clip_14 : decode cX7_clip 14 = .ok (.getfield 28, 3) := by decide +kernel
theorem dX7_clip_17 : decode cX7_clip 17 = .ok (.getfield 145, 3) := by decide +kernel
theorem dX7_clip_20 : decode cX7_clip 20 = .ok (.iload_n 1, 1) := by decide +kernel
theorem dX7_clip_21 : decode cX7_clip 21 = .ok (.baload, 1) := by decide +kernel
theorem dX7_clip_22 : decode cX7_clip 22 = .ok (.ifCond .ne 7, 3) := by decide +kernel
theorem dX7_clip_25 : decode cX7_clip 25 = .ok (.iconst 1, 1) := by decide +kernel
theorem dX7_clip_26 : decode cX7_clip 26 = .ok (.goto 4, 3) := by decide +kernel
theorem dX7_clip_29 : decode cX7_clip 29 = .ok (.iconst 0, 1) := by decide +kernel
theorem dX7_clip_30 : decode cX7_clip 30 = .ok (.invokestatic 148, 3) := by decide +kernel
theorem dX7_clip_33 : decode cX7_clip 33 = .ok (.istore_n 2, 1) := by decide +kernel
theorem dX7_clip_34 : decode cX7_clip 34 = .ok (.aload_n 0, 1) := by decide +kernel
theorem dX7_clip_35 : decode cX7_clip 35 = .ok (.getfield 28, 3) := by decide +kernel
theorem dX7_clip_38 : decode cX7_clip 38 = .ok (.getfield 145, 3) := by decide +kernel
theorem dX7_clip_41 : decode cX7_clip 41 = .ok (.iload_n 1, 1) := by decide +kernel
theorem dX7_clip_42 : decode cX7_clip 42 = .ok (.iconst 1, 1) := by decide +kernel
theorem dX7_clip_43 : decode cX7_clip 43 = .ok (.bastore, 1) := by decide +kernel
theorem dX7_clip_44 : decode cX7_clip 44 = .ok (.iload_n 2, 1) := by decide +kernel
theorem dX7_clip_45 : decode cX7_clip 45 = .ok (.ireturn, 1) := by decide +kernel
theorem dX7_spend_0 : decode cX7_spend 0 = .ok (.aload_n 0, 1) := by decide +kernel
theorem dX7_spend_1 : decode cX7_spend 1 = .ok (.getfield 28, 3) := by decide +kernel
theorem dX7_spend_4 : decode cX7_spend 4 = .ok (.iload_n 1, 1) := by decide +kernel
theorem dX7_spend_5 : decode cX7_spend 5 = .ok (.invokevirtual 136, 3) := by decide +kernel
theorem dX7_spend_8 : decode cX7_spend 8 = .ok (.ifCond .eq 10, 3) := by decide +kernel
theorem dX7_spend_11 : decode cX7_spend 11 = .ok (.iload_n 2, 1) := by decide +kernel
theorem dX7_spend_12 : decode cX7_spend 12 = .ok (.invokestatic 174, 3) := by decide +kernel
theorem dX7_spend_15 : decode cX7_spend 15 = .ok (.ifCond .ne 5, 3) := by decide +kernel
theorem dX7_spend_18 : decode cX7_spend 18 = .ok (.iconst (-1), 1) := by decide +kernel
theorem dX7_spend_19 : decode cX7_spend 19 = .ok (.ireturn, 1) := by decide +kernel
theorem dX7_spend_20 : decode cX7_spend 20 = .ok (.aload_n 0, 1) := by decide +kernel
theorem dX7_spend_21 : decode cX7_spend 21 = .ok (.getfield 28, 3) := by decide +kernel
theorem dX7_spend_24 : decode cX7_spend 24 = .ok (.iload_n 1, 1) := by decide +kernel
theorem dX7_spend_25 : decode cX7_spend 25 = .ok (.invokevirtual 171, 3) := by decide +kernel
theorem dX7_spend_28 : decode cX7_spend 28 = .ok (.ifCond .eq 6, 3) := by decide +kernel
theorem dX7_spend_31 : decode cX7_spend 31 = .ok (.bipush (-2), 2) := by decide +kernel
theorem dX7_spend_33 : decode cX7_spend 33 = .ok (.ireturn, 1) := by decide +kernel
theorem dX7_spend_34 : decode cX7_spend 34 = .ok (.aload_n 0, 1) := by decide +kernel
theorem dX7_spend_35 : decode cX7_spend 35 = .ok (.getfield 28, 3) := by decide +kernel
theorem dX7_spend_38 : decode cX7_spend 38 = .ok (.getfield 152, 3) := by decide +kernel
theorem dX7_spend_41 : decode cX7_spend 41 = .ok (.iload_n 1, 1) := by decide +kernel
theorem dX7_spend_42 : decode cX7_spend 42 = .ok (.iload_n 2, 1) := by decide +kernel
theorem dX7_spend_43 : decode cX7_spend 43 = .ok (.iastore, 1) := by decide +kernel
theorem dX7_spend_44 : decode cX7_spend 44 = .ok (.aload_n 0, 1) := by decide +kernel
theorem dX7_spend_45 : decode cX7_spend 45 = .ok (.getfield 28, 3) := by decide +kernel
theorem dX7_spend_48 : decode cX7_spend 48 = .ok (.iload_n 1, 1) := by decide +kernel
theorem dX7_spend_49 : decode cX7_spend 49 = .ok (.aload_n 0, 1) := by decide +kernel
theorem dX7_spend_50 : decode cX7_spend 50 = .ok (.getfield 28, 3) := by decide +kernel
theorem dX7_spend_53 : decode cX7_spend 53 = .ok (.getfield 142, 3) := by decide +kernel
theorem dX7_spend_56 : decode cX7_spend 56 = .ok (.iload_n 1, 1) := by decide +kernel
theorem dX7_spend_57 : decode cX7_spend 57 = .ok (.iaload, 1) := by decide +kernel
theorem dX7_spend_58 : decode cX7_spend 58 = .ok (.invokevirtual 155, 3) := by decide +kernel
theorem dX7_spend_61 : decode cX7_spend 61 = .ok (.ireturn, 1) := by decide +kernel
theorem dX7_undo_0 : decode cX7_undo 0 = .ok (.aload_n 0, 1) := by decide +kernel
theorem dX7_undo_1 : decode cX7_undo 1 = .ok (.getfield 28, 3) := by decide +kernel
theorem dX7_undo_4 : decode cX7_undo 4 = .ok (.iload_n 1, 1) := by decide +kernel
theorem dX7_undo_5 : decode cX7_undo 5 = .ok (.invokevirtual 136, 3) := by decide +kernel
theorem dX7_undo_8 : decode cX7_undo 8 = .ok (.ifCond .ne 5, 3) := by decide +kernel
theorem dX7_undo_11 : decode cX7_undo 11 = .ok (.iconst (-1), 1) := by decide +kernel
theorem dX7_undo_12 : decode cX7_undo 12 = .ok (.ireturn, 1) := by decide +kernel
theorem dX7_undo_13 : decode cX7_undo 13 = .ok (.aload_n 0, 1) := by decide +kernel
theorem dX7_undo_14 : decode cX7_undo 14 = .ok (.getfield 28, 3) := by decide +kernel
theorem dX7_undo_17 : decode cX7_undo 17 = .ok (.getfield 152, 3) := by decide +kernel
theorem dX7_undo_20 : decode cX7_undo 20 = .ok (.iload_n 1, 1) := by decide +kernel
theorem dX7_undo_21 : decode cX7_undo 21 = .ok (.iaload, 1) := by decide +kernel
theorem dX7_undo_22 : decode cX7_undo 22 = .ok (.istore_n 2, 1) := by decide +kernel
theorem dX7_undo_23 : decode cX7_undo 23 = .ok (.aload_n 0, 1) := by decide +kernel
theorem dX7_undo_24 : decode cX7_undo 24 = .ok (.getfield 28, 3) := by decide +kernel
theorem dX7_undo_27 : decode cX7_undo 27 = .ok (.getfield 152, 3) := by decide +kernel
theorem dX7_undo_30 : decode cX7_undo 30 = .ok (.iload_n 1, 1) := by decide +kernel
theorem dX7_undo_31 : decode cX7_undo 31 = .ok (.bipush (-4), 2) := by decide +kernel
theorem dX7_undo_33 : decode cX7_undo 33 = .ok (.iastore, 1) := by decide +kernel
theorem dX7_undo_34 : decode cX7_undo 34 = .ok (.iload_n 2, 1) := by decide +kernel
theorem dX7_undo_35 : decode cX7_undo 35 = .ok (.ireturn, 1) := by decide +kernel
theorem dX7_speak_0 : decode cX7_speak 0 = .ok (.aload_n 0, 1) := by decide +kernel
theorem dX7_speak_1 : decode cX7_speak 1 = .ok (.getfield 28, 3) := by decide +kernel
theorem dX7_speak_4 : decode cX7_speak 4 = .ok (.iload_n 1, 1) := by decide +kernel
theorem dX7_speak_5 : decode cX7_speak 5 = .ok (.iload_n 2, 1) := by decide +kernel
theorem dX7_speak_6 : decode cX7_speak 6 = .ok (.iload_n 3, 1) := by decide +kernel
theorem dX7_speak_7 : decode cX7_speak 7 = .ok (.invokevirtual 177, 3) := by decide +kernel
theorem dX7_speak_10 : decode cX7_speak 10 = .ok (.ireturn, 1) := by decide +kernel
theorem dX7_silent_0 : decode cX7_silent 0 = .ok (.iload_n 1, 1) := by decide +kernel
theorem dX7_silent_1 : decode cX7_silent 1 = .ok (.invokestatic 174, 3) := by decide +kernel
theorem dX7_silent_4 : decode cX7_silent 4 = .ok (.ifCond .eq 14, 3) := by decide +kernel
theorem dX7_silent_7 : decode cX7_silent 7 = .ok (.aload_n 0, 1) := by decide +kernel
theorem dX7_silent_8 : decode cX7_silent 8 = .ok (.getfield 28, 3) := by decide +kernel
theorem dX7_silent_11 : decode cX7_silent 11 = .ok (.iload_n 1, 1) := by decide +kernel
theorem dX7_silent_12 : decode cX7_silent 12 = .ok (.invokevirtual 181, 3) := by decide +kernel
theorem dX7_silent_15 : decode cX7_silent 15 = .ok (.goto 4, 3) := by decide +kernel
theorem dX7_silent_18 : decode cX7_silent 18 = .ok (.iconst (-1), 1) := by decide +kernel
theorem dX7_silent_19 : decode cX7_silent 19 = .ok (.ireturn, 1) := by decide +kernel
theorem dX7_quiet_0 : decode cX7_quiet 0 = .ok (.aload_n 0, 1) := by decide +kernel
theorem dX7_quiet_1 : decode cX7_quiet 1 = .ok (.getfield 28, 3) := by decide +kernel
theorem dX7_quiet_4 : decode cX7_quiet 4 = .ok (.iload_n 1, 1) := by decide +kernel
theorem dX7_quiet_5 : decode cX7_quiet 5 = .ok (.invokevirtual 122, 3) := by decide +kernel
theorem dX7_quiet_8 : decode cX7_quiet 8 = .ok (.ifCond .ne 5, 3) := by decide +kernel
theorem dX7_quiet_11 : decode cX7_quiet 11 = .ok (.iconst (-1), 1) := by decide +kernel
theorem dX7_quiet_12 : decode cX7_quiet 12 = .ok (.ireturn, 1) := by decide +kernel
theorem dX7_quiet_13 : decode cX7_quiet 13 = .ok (.iconst 0, 1) := by decide +kernel
theorem dX7_quiet_14 : decode cX7_quiet 14 = .ok (.istore_n 2, 1) := by decide +kernel
theorem dX7_quiet_15 : decode cX7_quiet 15 = .ok (.iconst 0, 1) := by decide +kernel
theorem dX7_quiet_16 : decode cX7_quiet 16 = .ok (.istore_n 3, 1) := by decide +kernel
theorem dX7_quiet_17 : decode cX7_quiet 17 = .ok (.iload_n 3, 1) := by decide +kernel
theorem dX7_quiet_18 : decode cX7_quiet 18 = .ok (.bipush 12, 2) := by decide +kernel
theorem dX7_quiet_20 : decode cX7_quiet 20 = .ok (.if_icmp .ge 30, 3) := by decide +kernel
theorem dX7_quiet_23 : decode cX7_quiet 23 = .ok (.aload_n 0, 1) := by decide +kernel
theorem dX7_quiet_24 : decode cX7_quiet 24 = .ok (.getfield 28, 3) := by decide +kernel
theorem dX7_quiet_27 : decode cX7_quiet 27 = .ok (.iload_n 3, 1) := by decide +kernel
theorem dX7_quiet_28 : decode cX7_quiet 28 = .ok (.invokevirtual 181, 3) := by decide +kernel
theorem dX7_quiet_31 : decode cX7_quiet 31 = .ok (.iload_n 1, 1) := by decide +kernel
theorem dX7_quiet_32 : decode cX7_quiet 32 = .ok (.invokestatic 184, 3) := by decide +kernel
theorem dX7_quiet_35 : decode cX7_quiet 35 = .ok (.ifCond .eq 9, 3) := by decide +kernel
theorem dX7_quiet_38 : decode cX7_quiet 38 = .ok (.iload_n 2, 1) := by decide +kernel
theorem dX7_quiet_39 : decode cX7_quiet 39 = .ok (.iconst 1, 1) := by decide +kernel
theorem dX7_quiet_40 : decode cX7_quiet 40 = .ok (.iload_n 3, 1) := by decide +kernel
theorem dX7_quiet_41 : decode cX7_quiet 41 = .ok (.ishl, 1) := by decide +kernel
theorem dX7_quiet_42 : decode cX7_quiet 42 = .ok (.ior, 1) := by decide +kernel
theorem dX7_quiet_43 : decode cX7_quiet 43 = .ok (.istore_n 2, 1) := by decide +kernel
theorem dX7_quiet_44 : decode cX7_quiet 44 = .ok (.iinc 3 1, 3) := by decide +kernel
theorem dX7_quiet_47 : decode cX7_quiet 47 = .ok (.goto (-30), 3) := by decide +kernel
theorem dX7_quiet_50 : decode cX7_quiet 50 = .ok (.iload_n 2, 1) := by decide +kernel
theorem dX7_quiet_51 : decode cX7_quiet 51 = .ok (.ireturn, 1) := by decide +kernel
theorem dX7_may_0 : decode cX7_may 0 = .ok (.aload_n 0, 1) := by decide +kernel
theorem dX7_may_1 : decode cX7_may 1 = .ok (.getfield 28, 3) := by decide +kernel
theorem dX7_may_4 : decode cX7_may 4 = .ok (.iload_n 1, 1) := by decide +kernel
theorem dX7_may_5 : decode cX7_may 5 = .ok (.iload_n 2, 1) := by decide +kernel
theorem dX7_may_6 : decode cX7_may 6 = .ok (.iload_n 3, 1) := by decide +kernel
theorem dX7_may_7 : decode cX7_may 7 = .ok (.invokevirtual 188, 3) := by decide +kernel
theorem dX7_may_10 : decode cX7_may 10 = .ok (.ifCond .ne 5, 3) := by decide +kernel
theorem dX7_may_13 : decode cX7_may 13 = .ok (.iconst (-1), 1) := by decide +kernel
theorem dX7_may_14 : decode cX7_may 14 = .ok (.ireturn, 1) := by decide +kernel
theorem dX7_may_15 : decode cX7_may 15 = .ok (.aload_n 0, 1) := by decide +kernel
theorem dX7_may_16 : decode cX7_may 16 = .ok (.getfield 28, 3) := by decide +kernel
theorem dX7_may_19 : decode cX7_may 19 = .ok (.aload_n 0, 1) := by decide +kernel
theorem dX7_may_20 : decode cX7_may 20 = .ok (.getfield 28, 3) := by decide +kernel
theorem dX7_may_23 : decode cX7_may 23 = .ok (.iload_n 1, 1) := by decide +kernel
theorem dX7_may_24 : decode cX7_may 24 = .ok (.invokevirtual 181, 3) := by decide +kernel
theorem dX7_may_27 : decode cX7_may 27 = .ok (.iload_n 2, 1) := by decide +kernel
theorem dX7_may_28 : decode cX7_may 28 = .ok (.iload_n 3, 1) := by decide +kernel
theorem dX7_may_29 : decode cX7_may 29 = .ok (.invokevirtual 192, 3) := by decide +kernel
theorem dX7_may_32 : decode cX7_may 32 = .ok (.invokestatic 148, 3) := by decide +kernel
theorem dX7_may_35 : decode cX7_may 35 = .ok (.ireturn, 1) := by decide +kernel
theorem dX7_said_0 : decode cX7_said 0 = .ok (.iconst 0, 1) := by decide +kernel
theorem dX7_said_1 : decode cX7_said 1 = .ok (.istore_n 1, 1) := by decide +kernel
theorem dX7_said_2 : decode cX7_said 2 = .ok (.iconst 0, 1) := by decide +kernel
theorem dX7_said_3 : decode cX7_said 3 = .ok (.istore_n 2, 1) := by decide +kernel
theorem dX7_said_4 : decode cX7_said 4 = .ok (.iload_n 2, 1) := by decide +kernel
theorem dX7_said_5 : decode cX7_said 5 = .ok (.aload_n 0, 1) := by decide +kernel
theorem dX7_said_6 : decode cX7_said 6 = .ok (.getfield 28, 3) := by decide +kernel
theorem dX7_said_9 : decode cX7_said 9 = .ok (.getfield 113, 3) := by decide +kernel
theorem dX7_said_12 : decode cX7_said 12 = .ok (.if_icmp .ge 26, 3) := by decide +kernel
theorem dX7_said_15 : decode cX7_said 15 = .ok (.aload_n 0, 1) := by decide +kernel
theorem dX7_said_16 : decode cX7_said 16 = .ok (.getfield 28, 3) := by decide +kernel
theorem dX7_said_19 : decode cX7_said 19 = .ok (.iload_n 2, 1) := by decide +kernel
theorem dX7_said_20 : decode cX7_said 20 = .ok (.invokevirtual 168, 3) := by decide +kernel
theorem dX7_said_23 : decode cX7_said 23 = .ok (.ifCond .eq 9, 3) := by decide +kernel
theorem dX7_said_26 : decode cX7_said 26 = .ok (.iload_n 1, 1) := by decide +kernel
theorem dX7_said_27 : decode cX7_said 27 = .ok (.iconst 1, 1) := by decide +kernel
theorem dX7_said_28 : decode cX7_said 28 = .ok (.iload_n 2, 1) := by decide +kernel
theorem dX7_said_29 : decode cX7_said 29 = .ok (.ishl, 1) := by decide +kernel
theorem dX7_said_30 : decode cX7_said 30 = .ok (.ior, 1) := by decide +kernel
theorem dX7_said_31 : decode cX7_said 31 = .ok (.istore_n 1, 1) := by decide +kernel
theorem dX7_said_32 : decode cX7_said 32 = .ok (.iinc 2 1, 3) := by decide +kernel
theorem dX7_said_35 : decode cX7_said 35 = .ok (.goto (-31), 3) := by decide +kernel
theorem dX7_said_38 : decode cX7_said 38 = .ok (.iload_n 1, 1) := by decide +kernel
theorem dX7_said_39 : decode cX7_said 39 = .ok (.ireturn, 1) := by decide +kernel
theorem dX7_knows_0 : decode cX7_knows 0 = .ok (.aload_n 0, 1) := by decide +kernel
theorem dX7_knows_1 : decode cX7_knows 1 = .ok (.getfield 28, 3) := by decide +kernel
theorem dX7_knows_4 : decode cX7_knows 4 = .ok (.iload_n 1, 1) := by decide +kernel
theorem dX7_knows_5 : decode cX7_knows 5 = .ok (.invokevirtual 122, 3) := by decide +kernel
theorem dX7_knows_8 : decode cX7_knows 8 = .ok (.ifCond .eq 10, 3) := by decide +kernel
theorem dX7_knows_11 : decode cX7_knows 11 = .ok (.iload_n 2, 1) := by decide +kernel
theorem dX7_knows_12 : decode cX7_knows 12 = .ok (.invokestatic 174, 3) := by decide +kernel
theorem dX7_knows_15 : decode cX7_knows 15 = .ok (.ifCond .ne 5, 3) := by decide +kernel
theorem dX7_knows_18 : decode cX7_knows 18 = .ok (.iconst (-1), 1) := by decide +kernel
theorem dX7_knows_19 : decode cX7_knows 19 = .ok (.ireturn, 1) := by decide +kernel
theorem dX7_knows_20 : decode cX7_knows 20 = .ok (.aload_n 0, 1) := by decide +kernel
theorem dX7_knows_21 : decode cX7_knows 21 = .ok (.getfield 37, 3) := by decide +kernel
theorem dX7_knows_24 : decode cX7_knows 24 = .ok (.invokevirtual 195, 3) := by decide +kernel
theorem dX7_knows_27 : decode cX7_knows 27 = .ok (.aload_n 0, 1) := by decide +kernel
theorem dX7_knows_28 : decode cX7_knows 28 = .ok (.getfield 37, 3) := by decide +kernel
theorem dX7_knows_31 : decode cX7_knows 31 = .ok (.iload_n 1, 1) := by decide +kernel
theorem dX7_knows_32 : decode cX7_knows 32 = .ok (.iload_n 2, 1) := by decide +kernel
theorem dX7_knows_33 : decode cX7_knows 33 = .ok (.invokevirtual 198, 3) := by decide +kernel
theorem dX7_knows_36 : decode cX7_knows 36 = .ok (.ireturn, 1) := by decide +kernel
theorem dX7_learns_0 : decode cX7_learns 0 = .ok (.aload_n 0, 1) := by decide +kernel
theorem dX7_learns_1 : decode cX7_learns 1 = .ok (.getfield 28, 3) := by decide +kernel
theorem dX7_learns_4 : decode cX7_learns 4 = .ok (.iload_n 1, 1) := by decide +kernel
theorem dX7_learns_5 : decode cX7_learns 5 = .ok (.invokevirtual 122, 3) := by decide +kernel
theorem dX7_learns_8 : decode cX7_learns 8 = .ok (.ifCond .eq 14, 3) := by decide +kernel
theorem dX7_learns_11 : decode cX7_learns 11 = .ok (.aload_n 0, 1) := by decide +kernel
theorem dX7_learns_12 : decode cX7_learns 12 = .ok (.getfield 28, 3) := by decide +kernel
theorem dX7_learns_15 : decode cX7_learns 15 = .ok (.iload_n 2, 1) := by decide +kernel
theorem dX7_learns_16 : decode cX7_learns 16 = .ok (.invokevirtual 122, 3) := by decide +kernel
theorem dX7_learns_19 : decode cX7_learns 19 = .ok (.ifCond .ne 5, 3) := by decide +kernel
theorem dX7_learns_22 : decode cX7_learns 22 = .ok (.iconst (-1), 1) := by decide +kernel
theorem dX7_learns_23 : decode cX7_learns 23 = .ok (.ireturn, 1) := by decide +kernel
theorem dX7_learns_24 : decode cX7_learns 24 = .ok (.aload_n 0, 1) := by decide +kernel
theorem dX7_learns_25 : decode cX7_learns 25 = .ok (.getfield 37, 3) := by decide +kernel
theorem dX7_learns_28 : decode cX7_learns 28 = .ok (.invokevirtual 195, 3) := by decide +kernel
theorem dX7_learns_31 : decode cX7_learns 31 = .ok (.aload_n 0, 1) := by decide +kernel
theorem dX7_learns_32 : decode cX7_learns 32 = .ok (.getfield 37, 3) := by decide +kernel
theorem dX7_learns_35 : decode cX7_learns 35 = .ok (.iload_n 1, 1) := by decide +kernel
theorem dX7_learns_36 : decode cX7_learns 36 = .ok (.iload_n 2, 1) := by decide +kernel
theorem dX7_learns_37 : decode cX7_learns 37 = .ok (.invokevirtual 201, 3) := by decide +kernel
theorem dX7_learns_40 : decode cX7_learns 40 = .ok (.ireturn, 1) := by decide +kernel
theorem dX7_hush_0 : decode cX7_hush 0 = .ok (.aload_n 0, 1) := by decide +kernel
theorem dX7_hush_1 : decode cX7_hush 1 = .ok (.getfield 28, 3) := by decide +kernel
theorem dX7_hush_4 : decode cX7_hush 4 = .ok (.iload_n 1, 1) := by decide +kernel
theorem dX7_hush_5 : decode cX7_hush 5 = .ok (.invokevirtual 122, 3) := by decide +kernel
theorem dX7_hush_8 : decode cX7_hush 8 = .ok (.ifCond .eq 28, 3) := by decide +kernel
theorem dX7_hush_11 : decode cX7_hush 11 = .ok (.aload_n 0, 1) := by decide +kernel
theorem dX7_hush_12 : decode cX7_hush 12 = .ok (.getfield 28, 3) := by decide +kernel
theorem dX7_hush_15 : decode cX7_hush 15 = .ok (.iload_n 2, 1) := by decide +kernel
theorem dX7_hush_16 : decode cX7_hush 16 = .ok (.invokevirtual 122, 3) := by decide +kernel
theorem dX7_hush_19 : decode cX7_hush 19 = .ok (.ifCond .eq 17, 3) := by decide +kernel
theorem dX7_hush_22 : decode cX7_hush 22 = .ok (.iload_n 1, 1) := by decide +kernel
theorem dX7_hush_23 : decode cX7_hush 23 = .ok (.iload_n 2, 1) := by decide +kernel
theorem dX7_hush_24 : decode cX7_hush 24 = .ok (.if_icmp .eq 12, 3) := by decide +kernel
theorem dX7_hush_27 : decode cX7_hush 27 = .ok (.iload_n 3, 1) := by decide +kernel
theorem dX7_hush_28 : decode cX7_hush 28 = .ok (.ifCond .lt 8, 3) := by decide +kernel
theorem dX7_hush_31 : decode cX7_hush 31 = .ok (.iload_n 3, 1) := by decide +kernel
theorem dX7_hush_32 : decode cX7_hush 32 = .ok (.iconst 1, 1) := by decide +kernel
theorem dX7_hush_33 : decode cX7_hush 33 = .ok (.if_icmp .le 5, 3) := by decide +kernel
theorem dX7_hush_36 : decode cX7_hush 36 = .ok (.iconst (-1), 1) := by decide +kernel
theorem dX7_hush_37 : decode cX7_hush 37 = .ok (.ireturn, 1) := by decide +kernel
theorem dX7_hush_38 : decode cX7_hush 38 = .ok (.aload_n 0, 1) := by decide +kernel
theorem dX7_hush_39 : decode cX7_hush 39 = .ok (.getfield 37, 3) := by decide +kernel
theorem dX7_hush_42 : decode cX7_hush 42 = .ok (.invokevirtual 195, 3) := by decide +kernel
theorem dX7_hush_45 : decode cX7_hush 45 = .ok (.aload_n 0, 1) := by decide +kernel
theorem dX7_hush_46 : decode cX7_hush 46 = .ok (.getfield 37, 3) := by decide +kernel
theorem dX7_hush_49 : decode cX7_hush 49 = .ok (.iload_n 1, 1) := by decide +kernel
theorem dX7_hush_50 : decode cX7_hush 50 = .ok (.iload_n 2, 1) := by decide +kernel
theorem dX7_hush_51 : decode cX7_hush 51 = .ok (.invokevirtual 201, 3) := by decide +kernel
theorem dX7_hush_54 : decode cX7_hush 54 = .ok (.bipush (-4), 2) := by decide +kernel
theorem dX7_hush_56 : decode cX7_hush 56 = .ok (.if_icmp .ne 6, 3) := by decide +kernel
theorem dX7_hush_59 : decode cX7_hush 59 = .ok (.bipush (-2), 2) := by decide +kernel
theorem dX7_hush_61 : decode cX7_hush 61 = .ok (.ireturn, 1) := by decide +kernel
theorem dX7_hush_62 : decode cX7_hush 62 = .ok (.iconst 0, 1) := by decide +kernel
theorem dX7_hush_63 : decode cX7_hush 63 = .ok (.istore 4, 2) := by decide +kernel
theorem dX7_hush_65 : decode cX7_hush 65 = .ok (.iload 4, 2) := by decide +kernel
theorem dX7_hush_67 : decode cX7_hush 67 = .ok (.aload_n 0, 1) := by decide +kernel
theorem dX7_hush_68 : decode cX7_hush 68 = .ok (.getfield 28, 3) := by decide +kernel
theorem dX7_hush_71 : decode cX7_hush 71 = .ok (.getfield 110, 3) := by decide +kernel
theorem dX7_hush_74 : decode cX7_hush 74 = .ok (.if_icmp .ge 58, 3) := by decide +kernel
theorem dX7_hush_77 : decode cX7_hush 77 = .ok (.aload_n 0, 1) := by decide +kernel
theorem dX7_hush_78 : decode cX7_hush 78 = .ok (.getfield 28, 3) := by decide +kernel
theorem dX7_hush_81 : decode cX7_hush 81 = .ok (.iload 4, 2) := by decide +kernel
theorem dX7_hush_83 : decode cX7_hush 83 = .ok (.invokevirtual 171, 3) := by decide +kernel
theorem dX7_hush_86 : decode cX7_hush 86 = .ok (.ifCond .eq 8, 3) := by decide +kernel
theorem dX7_hush_89 : decode cX7_hush 89 = .ok (.bipush (-4), 2) := by decide +kernel
theorem dX7_hush_91 : decode cX7_hush 91 = .ok (.goto 14, 3) := by decide +kernel
theorem dX7_hush_94 : decode cX7_hush 94 = .ok (.aload_n 0, 1) := by decide +kernel
theorem dX7_hush_95 : decode cX7_hush 95 = .ok (.getfield 37, 3) := by decide +kernel
theorem dX7_hush_98 : decode cX7_hush 98 = .ok (.iload 4, 2) := by decide +kernel
theorem dX7_hush_100 : decode cX7_hush 100 = .ok (.iload_n 1, 1) := by decide +kernel
theorem dX7_hush_101 : decode cX7_hush 101 = .ok (.iload_n 2, 1) := by decide +kernel
theorem dX7_hush_102 : decode cX7_hush 102 = .ok (.invokevirtual 204, 3) := by decide +kernel
theorem dX7_hush_105 : decode cX7_hush 105 = .ok (.istore 5, 2) := by decide +kernel
theorem dX7_hush_107 : decode cX7_hush 107 = .ok (.iload 5, 2) := by decide +kernel
theorem dX7_hush_109 : decode cX7_hush 109 = .ok (.bipush (-4), 2) := by decide +kernel
