theorem dX8_knows_5 : decode cX8_knows 5 = .ok (.ifCond .eq 10, 3) := by decide +kernel
theorem dX8_knows_8 : decode cX8_knows 8 = .ok (.iload_n 2, 1) := by decide +kernel
theorem dX8_knows_9 : decode cX8_knows 9 = .ok (.invokestatic 222, 3) := by decide +kernel
theorem dX8_knows_12 : decode cX8_knows 12 = .ok (.ifCond .ne 5, 3) := by decide +kernel
theorem dX8_knows_15 : decode cX8_knows 15 = .ok (.iconst (-1), 1) := by decide +kernel
theorem dX8_knows_16 : decode cX8_knows 16 = .ok (.ireturn, 1) := by decide +kernel
theorem dX8_knows_17 : decode cX8_knows 17 = .ok (.aload_n 0, 1) := by decide +kernel
theorem dX8_knows_18 : decode cX8_knows 18 = .ok (.iload_n 1, 1) := by decide +kernel
theorem dX8_knows_19 : decode cX8_knows 19 = .ok (.invokevirtual 233, 3) := by decide +kernel
theorem dX8_knows_22 : decode cX8_knows 22 = .ok (.aload_n 0, 1) := by decide +kernel
theorem dX8_knows_23 : decode cX8_knows 23 = .ok (.getfield 34, 3) := by decide +kernel
theorem dX8_knows_26 : decode cX8_knows 26 = .ok (.iload_n 2, 1) := by decide +kernel
theorem dX8_knows_27 : decode cX8_knows 27 = .ok (.iaload, 1) := by decide +kernel
theorem dX8_knows_28 : decode cX8_knows 28 = .ok (.ireturn, 1) := by decide +kernel
theorem dX8_learnsIn_0 : decode cX8_learnsIn 0 = .ok (.aload_n 0, 1) := by decide +kernel
theorem dX8_learnsIn_1 : decode cX8_learnsIn 1 = .ok (.iload_n 1, 1) := by decide +kernel
theorem dX8_learnsIn_2 : decode cX8_learnsIn 2 = .ok (.invokevirtual 233, 3) := by decide +kernel
theorem dX8_learnsIn_5 : decode cX8_learnsIn 5 = .ok (.iconst 0, 1) := by decide +kernel
theorem dX8_learnsIn_6 : decode cX8_learnsIn 6 = .ok (.istore_n 3, 1) := by decide +kernel
theorem dX8_learnsIn_7 : decode cX8_learnsIn 7 = .ok (.iload_n 3, 1) := by decide +kernel
theorem dX8_learnsIn_8 : decode cX8_learnsIn 8 = .ok (.bipush 12, 2) := by decide +kernel
theorem dX8_learnsIn_10 : decode cX8_learnsIn 10 = .ok (.if_icmp .ge 34, 3) := by decide +kernel
theorem dX8_learnsIn_13 : decode cX8_learnsIn 13 = .ok (.aload_n 0, 1) := by decide +kernel
theorem dX8_learnsIn_14 : decode cX8_learnsIn 14 = .ok (.getfield 34, 3) := by decide +kernel
theorem dX8_learnsIn_17 : decode cX8_learnsIn 17 = .ok (.iload_n 3, 1) := by decide +kernel
theorem dX8_learnsIn_18 : decode cX8_learnsIn 18 = .ok (.iaload, 1) := by decide +kernel
theorem dX8_learnsIn_19 : decode cX8_learnsIn 19 = .ok (.iload_n 2, 1) := by decide +kernel
theorem dX8_learnsIn_20 : decode cX8_learnsIn 20 = .ok (.ishr, 1) := by decide +kernel
theorem dX8_learnsIn_21 : decode cX8_learnsIn 21 = .ok (.iconst 1, 1) := by decide +kernel
theorem dX8_learnsIn_22 : decode cX8_learnsIn 22 = .ok (.iand, 1) := by decide +kernel
theorem dX8_learnsIn_23 : decode cX8_learnsIn 23 = .ok (.iconst 1, 1) := by decide +kernel
theorem dX8_learnsIn_24 : decode cX8_learnsIn 24 = .ok (.if_icmp .ne 14, 3) := by decide +kernel
theorem dX8_learnsIn_27 : decode cX8_learnsIn 27 = .ok (.iload_n 1, 1) := by decide +kernel
theorem dX8_learnsIn_28 : decode cX8_learnsIn 28 = .ok (.iload_n 2, 1) := by decide +kernel
theorem dX8_learnsIn_29 : decode cX8_learnsIn 29 = .ok (.if_icmp .ne 7, 3) := by decide +kernel
theorem dX8_learnsIn_32 : decode cX8_learnsIn 32 = .ok (.iconst 0, 1) := by decide +kernel
theorem dX8_learnsIn_33 : decode cX8_learnsIn 33 = .ok (.goto 4, 3) := by decide +kernel
theorem dX8_learnsIn_36 : decode cX8_learnsIn 36 = .ok (.iload_n 3, 1) := by decide +kernel
theorem dX8_learnsIn_37 : decode cX8_learnsIn 37 = .ok (.ireturn, 1) := by decide +kernel
theorem dX8_learnsIn_38 : decode cX8_learnsIn 38 = .ok (.iinc 3 1, 3) := by decide +kernel
theorem dX8_learnsIn_41 : decode cX8_learnsIn 41 = .ok (.goto (-34), 3) := by decide +kernel
theorem dX8_learnsIn_44 : decode cX8_learnsIn 44 = .ok (.bipush (-4), 2) := by decide +kernel
theorem dX8_learnsIn_46 : decode cX8_learnsIn 46 = .ok (.ireturn, 1) := by decide +kernel
theorem dX8_learns_0 : decode cX8_learns 0 = .ok (.aload_n 0, 1) := by decide +kernel
theorem dX8_learns_1 : decode cX8_learns 1 = .ok (.iload_n 1, 1) := by decide +kernel
theorem dX8_learns_2 : decode cX8_learns 2 = .ok (.invokevirtual 180, 3) := by decide +kernel
theorem dX8_learns_5 : decode cX8_learns 5 = .ok (.ifCond .eq 20, 3) := by decide +kernel
theorem dX8_learns_8 : decode cX8_learns 8 = .ok (.aload_n 0, 1) := by decide +kernel
theorem dX8_learns_9 : decode cX8_learns 9 = .ok (.iload_n 2, 1) := by decide +kernel
theorem dX8_learns_10 : decode cX8_learns 10 = .ok (.invokevirtual 180, 3) := by decide +kernel
theorem dX8_learns_13 : decode cX8_learns 13 = .ok (.ifCond .eq 12, 3) := by decide +kernel
theorem dX8_learns_16 : decode cX8_learns 16 = .ok (.aload_n 0, 1) := by decide +kernel
theorem dX8_learns_17 : decode cX8_learns 17 = .ok (.iload_n 1, 1) := by decide +kernel
theorem dX8_learns_18 : decode cX8_learns 18 = .ok (.iload_n 2, 1) := by decide +kernel
theorem dX8_learns_19 : decode cX8_learns 19 = .ok (.invokevirtual 236, 3) := by decide +kernel
theorem dX8_learns_22 : decode cX8_learns 22 = .ok (.goto 4, 3) := by decide +kernel
theorem dX8_learns_25 : decode cX8_learns 25 = .ok (.iconst (-1), 1) := by decide +kernel
theorem dX8_learns_26 : decode cX8_learns 26 = .ok (.ireturn, 1) := by decide +kernel
theorem dX8_hush_0 : decode cX8_hush 0 = .ok (.aload_n 0, 1) := by decide +kernel
theorem dX8_hush_1 : decode cX8_hush 1 = .ok (.iload_n 1, 1) := by decide +kernel
theorem dX8_hush_2 : decode cX8_hush 2 = .ok (.iload_n 2, 1) := by decide +kernel
theorem dX8_hush_3 : decode cX8_hush 3 = .ok (.invokevirtual 225, 3) := by decide +kernel
theorem dX8_hush_6 : decode cX8_hush 6 = .ok (.ifCond .eq 13, 3) := by decide +kernel
theorem dX8_hush_9 : decode cX8_hush 9 = .ok (.iload_n 3, 1) := by decide +kernel
theorem dX8_hush_10 : decode cX8_hush 10 = .ok (.i2l, 1) := by decide +kernel
theorem dX8_hush_11 : decode cX8_hush 11 = .ok (.lconst 0, 1) := by decide +kernel
theorem dX8_hush_12 : decode cX8_hush 12 = .ok (.lconst 1, 1) := by decide +kernel
theorem dX8_hush_13 : decode cX8_hush 13 = .ok (.invokestatic 69, 3) := by decide +kernel
theorem dX8_hush_16 : decode cX8_hush 16 = .ok (.ifCond .ne 5, 3) := by decide +kernel
theorem dX8_hush_19 : decode cX8_hush 19 = .ok (.iconst (-1), 1) := by decide +kernel
theorem dX8_hush_20 : decode cX8_hush 20 = .ok (.ireturn, 1) := by decide +kernel
theorem dX8_hush_21 : decode cX8_hush 21 = .ok (.aload_n 0, 1) := by decide +kernel
theorem dX8_hush_22 : decode cX8_hush 22 = .ok (.iload_n 1, 1) := by decide +kernel
theorem dX8_hush_23 : decode cX8_hush 23 = .ok (.iload_n 2, 1) := by decide +kernel
theorem dX8_hush_24 : decode cX8_hush 24 = .ok (.invokevirtual 236, 3) := by decide +kernel
theorem dX8_hush_27 : decode cX8_hush 27 = .ok (.bipush (-4), 2) := by decide +kernel
theorem dX8_hush_29 : decode cX8_hush 29 = .ok (.if_icmp .ne 6, 3) := by decide +kernel
theorem dX8_hush_32 : decode cX8_hush 32 = .ok (.bipush (-2), 2) := by decide +kernel
theorem dX8_hush_34 : decode cX8_hush 34 = .ok (.ireturn, 1) := by decide +kernel
theorem dX8_hush_35 : decode cX8_hush 35 = .ok (.iconst 0, 1) := by decide +kernel
theorem dX8_hush_36 : decode cX8_hush 36 = .ok (.istore 4, 2) := by decide +kernel
theorem dX8_hush_38 : decode cX8_hush 38 = .ok (.iload 4, 2) := by decide +kernel
theorem dX8_hush_40 : decode cX8_hush 40 = .ok (.bipush 12, 2) := by decide +kernel
theorem dX8_hush_42 : decode cX8_hush 42 = .ok (.aload_n 0, 1) := by decide +kernel
theorem dX8_hush_43 : decode cX8_hush 43 = .ok (.getfield 169, 3) := by decide +kernel
theorem dX8_hush_46 : decode cX8_hush 46 = .ok (.imul, 1) := by decide +kernel
theorem dX8_hush_47 : decode cX8_hush 47 = .ok (.if_icmp .ge 93, 3) := by decide +kernel
theorem dX8_hush_50 : decode cX8_hush 50 = .ok (.iload 4, 2) := by decide +kernel
theorem dX8_hush_52 : decode cX8_hush 52 = .ok (.bipush 12, 2) := by decide +kernel
theorem dX8_hush_54 : decode cX8_hush 54 = .ok (.idiv, 1) := by decide +kernel
theorem dX8_hush_55 : decode cX8_hush 55 = .ok (.istore 5, 2) := by decide +kernel
theorem dX8_hush_57 : decode cX8_hush 57 = .ok (.aload_n 0, 1) := by decide +kernel
theorem dX8_hush_58 : decode cX8_hush 58 = .ok (.iload 5, 2) := by decide +kernel
theorem dX8_hush_60 : decode cX8_hush 60 = .ok (.invokevirtual 203, 3) := by decide +kernel
theorem dX8_hush_63 : decode cX8_hush 63 = .ok (.ifCond .ne 71, 3) := by decide +kernel
theorem dX8_hush_66 : decode cX8_hush 66 = .ok (.aload_n 0, 1) := by decide +kernel
theorem dX8_hush_67 : decode cX8_hush 67 = .ok (.getfield 7, 3) := by decide +kernel
theorem dX8_hush_70 : decode cX8_hush 70 = .ok (.iconst 4, 1) := by decide +kernel
theorem dX8_hush_71 : decode cX8_hush 71 = .ok (.iload 5, 2) := by decide +kernel
theorem dX8_hush_73 : decode cX8_hush 73 = .ok (.imul, 1) := by decide +kernel
theorem dX8_hush_74 : decode cX8_hush 74 = .ok (.iconst 3, 1) := by decide +kernel
theorem dX8_hush_75 : decode cX8_hush 75 = .ok (.iadd, 1) := by decide +kernel
theorem dX8_hush_76 : decode cX8_hush 76 = .ok (.iconst 1, 1) := by decide +kernel
theorem dX8_hush_77 : decode cX8_hush 77 = .ok (.iload 4, 2) := by decide +kernel
theorem dX8_hush_79 : decode cX8_hush 79 = .ok (.bipush 12, 2) := by decide +kernel
theorem dX8_hush_81 : decode cX8_hush 81 = .ok (.irem, 1) := by decide +kernel
theorem dX8_hush_82 : decode cX8_hush 82 = .ok (.iadd, 1) := by decide +kernel
theorem dX8_hush_83 : decode cX8_hush 83 = .ok (.iastore, 1) := by decide +kernel
theorem dX8_hush_84 : decode cX8_hush 84 = .ok (.aload_n 0, 1) := by decide +kernel
theorem dX8_hush_85 : decode cX8_hush 85 = .ok (.iload_n 1, 1) := by decide +kernel
theorem dX8_hush_86 : decode cX8_hush 86 = .ok (.iload_n 2, 1) := by decide +kernel
theorem dX8_hush_87 : decode cX8_hush 87 = .ok (.invokevirtual 236, 3) := by decide +kernel
theorem dX8_hush_90 : decode cX8_hush 90 = .ok (.bipush (-4), 2) := by decide +kernel
theorem dX8_hush_92 : decode cX8_hush 92 = .ok (.if_icmp .ne 7, 3) := by decide +kernel
theorem dX8_hush_95 : decode cX8_hush 95 = .ok (.iconst 1, 1) := by decide +kernel
theorem dX8_hush_96 : decode cX8_hush 96 = .ok (.goto 4, 3) := by decide +kernel
theorem dX8_hush_99 : decode cX8_hush 99 = .ok (.iconst 0, 1) := by decide +kernel
theorem dX8_hush_100 : decode cX8_hush 100 = .ok (.istore 6, 2) := by decide +kernel
theorem dX8_hush_102 : decode cX8_hush 102 = .ok (.aload_n 0, 1) := by decide +kernel
theorem dX8_hush_103 : decode cX8_hush 103 = .ok (.getfield 7, 3) := by decide +kernel
theorem dX8_hush_106 : decode cX8_hush 106 = .ok (.iconst 4, 1) := by decide +kernel
theorem dX8_hush_107 : decode cX8_hush 107 = .ok (.iload 5, 2) := by decide +kernel
theorem dX8_hush_109 : decode cX8_hush 109 = .ok (.imul, 1) := by decide +kernel
theorem dX8_hush_110 : decode cX8_hush 110 = .ok (.iconst 3, 1) := by decide +kernel
theorem dX8_hush_111 : decode cX8_hush 111 = .ok (.iadd, 1) := by decide +kernel
theorem dX8_hush_112 : decode cX8_hush 112 = .ok (.iconst 0, 1) := by decide +kernel
theorem dX8_hush_113 : decode cX8_hush 113 = .ok (.iastore, 1) := by decide +kernel
theorem dX8_hush_114 : decode cX8_hush 114 = .ok (.iload 6, 2) := by decide +kernel
theorem dX8_hush_116 : decode cX8_hush 116 = .ok (.ifCond .eq 18, 3) := by decide +kernel
theorem dX8_hush_119 : decode cX8_hush 119 = .ok (.iload_n 3, 1) := by decide +kernel
theorem dX8_hush_120 : decode cX8_hush 120 = .ok (.ifCond .ne 8, 3) := by decide +kernel
theorem dX8_hush_123 : decode cX8_hush 123 = .ok (.iload 5, 2) := by decide +kernel
theorem dX8_hush_125 : decode cX8_hush 125 = .ok (.goto 8, 3) := by decide +kernel
theorem dX8_hush_128 : decode cX8_hush 128 = .ok (.iload 4, 2) := by decide +kernel
theorem dX8_hush_130 : decode cX8_hush 130 = .ok (.bipush 12, 2) := by decide +kernel
theorem dX8_hush_132 : decode cX8_hush 132 = .ok (.irem, 1) := by decide +kernel
theorem dX8_hush_133 : decode cX8_hush 133 = .ok (.ireturn, 1) := by decide +kernel
theorem dX8_hush_134 : decode cX8_hush 134 = .ok (.iinc 4 1, 3) := by decide +kernel
theorem dX8_hush_137 : decode cX8_hush 137 = .ok (.goto (-99), 3) := by decide +kernel
theorem dX8_hush_140 : decode cX8_hush 140 = .ok (.bipush (-4), 2) := by decide +kernel
theorem dX8_hush_142 : decode cX8_hush 142 = .ok (.ireturn, 1) := by decide +kernel
theorem dX8_hear_0 : decode cX8_hear 0 = .ok (.aload_n 0, 1) := by decide +kernel
theorem dX8_hear_1 : decode cX8_hear 1 = .ok (.iload_n 1, 1) := by decide +kernel
theorem dX8_hear_2 : decode cX8_hear 2 = .ok (.invokevirtual 180, 3) := by decide +kernel
theorem dX8_hear_5 : decode cX8_hear 5 = .ok (.ifCond .ne 5, 3) := by decide +kernel
theorem dX8_hear_8 : decode cX8_hear 8 = .ok (.iconst (-1), 1) := by decide +kernel
theorem dX8_hear_9 : decode cX8_hear 9 = .ok (.ireturn, 1) := by decide +kernel
theorem dX8_hear_10 : decode cX8_hear 10 = .ok (.aload_n 0, 1) := by decide +kernel
theorem dX8_hear_11 : decode cX8_hear 11 = .ok (.getfield 172, 3) := by decide +kernel
theorem dX8_hear_14 : decode cX8_hear 14 = .ok (.bipush 6, 2) := by decide +kernel
theorem dX8_hear_16 : decode cX8_hear 16 = .ok (.if_icmp .ne 6, 3) := by decide +kernel
theorem dX8_hear_19 : decode cX8_hear 19 = .ok (.bipush (-3), 2) := by decide +kernel
theorem dX8_hear_21 : decode cX8_hear 21 = .ok (.ireturn, 1) := by decide +kernel
theorem dX8_hear_22 : decode cX8_hear 22 = .ok (.aload_n 0, 1) := by decide +kernel
theorem dX8_hear_23 : decode cX8_hear 23 = .ok (.getfield 37, 3) := by decide +kernel
theorem dX8_hear_26 : decode cX8_hear 26 = .ok (.iconst 2, 1) := by decide +kernel
theorem dX8_hear_27 : decode cX8_hear 27 = .ok (.aload_n 0, 1) := by decide +kernel
theorem dX8_hear_28 : decode cX8_hear 28 = .ok (.getfield 172, 3) := by decide +kernel
theorem dX8_hear_31 : decode cX8_hear 31 = .ok (.imul, 1) := by decide +kernel
theorem dX8_hear_32 : decode cX8_hear 32 = .ok (.iload_n 1, 1) := by decide +kernel
theorem dX8_hear_33 : decode cX8_hear 33 = .ok (.iastore, 1) := by decide +kernel
theorem dX8_hear_34 : decode cX8_hear 34 = .ok (.aload_n 0, 1) := by decide +kernel
theorem dX8_hear_35 : decode cX8_hear 35 = .ok (.getfield 37, 3) := by decide +kernel
theorem dX8_hear_38 : decode cX8_hear 38 = .ok (.iconst 2, 1) := by decide +kernel
theorem dX8_hear_39 : decode cX8_hear 39 = .ok (.aload_n 0, 1) := by decide +kernel
theorem dX8_hear_40 : decode cX8_hear 40 = .ok (.getfield 172, 3) := by decide +kernel
theorem dX8_hear_43 : decode cX8_hear 43 = .ok (.imul, 1) := by decide +kernel
theorem dX8_hear_44 : decode cX8_hear 44 = .ok (.iconst 1, 1) := by decide +kernel
theorem dX8_hear_45 : decode cX8_hear 45 = .ok (.iadd, 1) := by decide +kernel
theorem dX8_hear_46 : decode cX8_hear 46 = .ok (.iload_n 2, 1) := by decide +kernel
theorem dX8_hear_47 : decode cX8_hear 47 = .ok (.ifCond .eq 7, 3) := by decide +kernel
theorem dX8_hear_50 : decode cX8_hear 50 = .ok (.iconst 1, 1) := by decide +kernel
theorem dX8_hear_51 : decode cX8_hear 51 = .ok (.goto 4, 3) := by decide +kernel
theorem dX8_hear_54 : decode cX8_hear 54 = .ok (.iconst 0, 1) := by decide +kernel
theorem dX8_hear_55 : decode cX8_hear 55 = .ok (.iastore, 1) := by decide +kernel
theorem dX8_hear_56 : decode cX8_hear 56 = .ok (.aload_n 0, 1) := by decide +kernel
theorem dX8_hear_57 : decode cX8_hear 57 = .ok (.dup, 1) := by decide +kernel
theorem dX8_hear_58 : decode cX8_hear 58 = .ok (.getfield 172, 3) := by decide +kernel
theorem dX8_hear_61 : decode cX8_hear 61 = .ok (.iconst 1, 1) := by decide +kernel
theorem dX8_hear_62 : decode cX8_hear 62 = .ok (.iadd, 1) := by decide +kernel
theorem dX8_hear_63 : decode cX8_hear 63 = .ok (.putfield 172, 3) := by decide +kernel
theorem dX8_hear_66 : decode cX8_hear 66 = .ok (.aload_n 0, 1) := by decide +kernel
theorem dX8_hear_67 : decode cX8_hear 67 = .ok (.getfield 172, 3) := by decide +kernel
theorem dX8_hear_70 : decode cX8_hear 70 = .ok (.ireturn, 1) := by decide +kernel
theorem dX8_forget_0 : decode cX8_forget 0 = .ok (.iload_n 1, 1) := by decide +kernel
theorem dX8_forget_1 : decode cX8_forget 1 = .ok (.i2l, 1) := by decide +kernel
theorem dX8_forget_2 : decode cX8_forget 2 = .ok (.lconst 0, 1) := by decide +kernel
theorem dX8_forget_3 : decode cX8_forget 3 = .ok (.aload_n 0, 1) := by decide +kernel
theorem dX8_forget_4 : decode cX8_forget 4 = .ok (.getfield 172, 3) := by decide +kernel
theorem dX8_forget_7 : decode cX8_forget 7 = .ok (.i2l, 1) := by decide +kernel
theorem dX8_forget_8 : decode cX8_forget 8 = .ok (.invokestatic 69, 3) := by decide +kernel
theorem dX8_forget_11 : decode cX8_forget 11 = .ok (.ifCond .ne 5, 3) := by decide +kernel
theorem dX8_forget_14 : decode cX8_forget 14 = .ok (.iconst (-1), 1) := by decide +kernel
theorem dX8_forget_15 : decode cX8_forget 15 = .ok (.ireturn, 1) := by decide +kernel
theorem dX8_forget_16 : decode cX8_forget 16 = .ok (.aload_n 0, 1) := by decide +kernel
theorem dX8_forget_17 : decode cX8_forget 17 = .ok (.getfield 172, 3) := by decide +kernel
theorem dX8_forget_20 : decode cX8_forget 20 = .ok (.istore_n 2, 1) := by decide +kernel
theorem dX8_forget_21 : decode cX8_forget 21 = .ok (.aload_n 0, 1) := by decide +kernel
theorem dX8_forget_22 : decode cX8_forget 22 = .ok (.iload_n 1, 1) := by decide +kernel
theorem dX8_forget_23 : decode cX8_forget 23 = .ok (.putfield 172, 3) := by decide +kernel
theorem dX8_forget_26 : decode cX8_forget 26 = .ok (.iload_n 2, 1) := by decide +kernel
theorem dX8_forget_27 : decode cX8_forget 27 = .ok (.ireturn, 1) := by decide +kernel
theorem dX8_first_0 : decode cX8_first 0 = .ok (.iconst 0, 1) := by decide +kernel
theorem dX8_first_1 : decode cX8_first 1 = .ok (.istore_n 1, 1) := by decide +kernel
theorem dX8_first_2 : decode cX8_first 2 = .ok (.iconst 0, 1) := by decide +kernel
theorem dX8_first_3 : decode cX8_first 3 = .ok (.istore_n 2, 1) := by decide +kernel
theorem dX8_first_4 : decode cX8_first 4 = .ok (.iload_n 2, 1) := by decide +kernel
theorem dX8_first_5 : decode cX8_first 5 = .ok (.aload_n 0, 1) := by decide +kernel
theorem dX8_first_6 : decode cX8_first 6 = .ok (.getfield 166, 3) := by decide +kernel
theorem dX8_first_9 : decode cX8_first 9 = .ok (.if_icmp .ge 91, 3) := by decide +kernel
theorem dX8_first_12 : decode cX8_first 12 = .ok (.aload_n 0, 1) := by decide +kernel
theorem dX8_first_13 : decode cX8_first 13 = .ok (.iload_n 2, 1) := by decide +kernel
theorem dX8_first_14 : decode cX8_first 14 = .ok (.invokevirtual 233, 3) := by decide +kernel
theorem dX8_first_17 : decode cX8_first 17 = .ok (.iconst 1, 1) := by decide +kernel
theorem dX8_first_18 : decode cX8_first 18 = .ok (.istore_n 3, 1) := by decide +kernel
theorem dX8_first_19 : decode cX8_first 19 = .ok (.iconst 0, 1) := by decide +kernel
theorem dX8_first_20 : decode cX8_first 20 = .ok (.istore 4, 2) := by decide +kernel
theorem dX8_first_22 : decode cX8_first 22 = .ok (.iload 4, 2) := by decide +kernel
theorem dX8_first_24 : decode cX8_first 24 = .ok (.aload_n 0, 1) := by decide +kernel
theorem dX8_first_25 : decode cX8_first 25 = .ok (.getfield 172, 3) := by decide +kernel
theorem dX8_first_28 : decode cX8_first 28 = .ok (.if_icmp .ge 52, 3) := by decide +kernel
theorem dX8_first_31 : decode cX8_first 31 = .ok (.iload_n 3, 1) := by decide +kernel
theorem dX8_first_32 : decode cX8_first 32 = .ok (.ifCond .eq 40, 3) := by decide +kernel
theorem dX8_first_35 : decode cX8_first 35 = .ok (.aload_n 0, 1) := by decide +kernel
theorem dX8_first_36 : decode cX8_first 36 = .ok (.getfield 34, 3) := by decide +kernel
theorem dX8_first_39 : decode cX8_first 39 = .ok (.bipush 11, 2) := by decide +kernel
theorem dX8_first_41 : decode cX8_first 41 = .ok (.iaload, 1) := by decide +kernel
theorem dX8_first_42 : decode cX8_first 42 = .ok (.aload_n 0, 1) := by decide +kernel
theorem dX8_first_43 : decode cX8_first 43 = .ok (.getfield 37, 3) := by decide +kernel
theorem dX8_first_46 : decode cX8_first 46 = .ok (.iconst 2, 1) := by decide +kernel
theorem dX8_first_47 : decode cX8_first 47 = .ok (.iload 4, 2) := by decide +kernel
theorem dX8_first_49 : decode cX8_first 49 = .ok (.imul, 1) := by decide +kernel
theorem dX8_first_50 : decode cX8_first 50 = .ok (.iaload, 1) := by decide +kernel
theorem dX8_first_51 : decode cX8_first 51 = .ok (.ishr, 1) := by decide +kernel
theorem dX8_first_52 : decode cX8_first 52 = .ok (.iconst 1, 1) := by decide +kernel
theorem dX8_first_53 : decode cX8_first 53 = .ok (.iand, 1) := by decide +kernel
theorem dX8_first_54 : decode cX8_first 54 = .ok (.aload_n 0, 1) := by decide +kernel
theorem dX8_first_55 : decode cX8_first 55 = .ok (.getfield 37, 3) := by decide +kernel
theorem dX8_first_58 : decode cX8_first 58 = .ok (.iconst 2, 1) := by decide +kernel
theorem dX8_first_59 : decode cX8_first 59 = .ok (.iload 4, 2) := by decide +kernel
theorem dX8_first_61 : decode cX8_first 61 = .ok (.imul, 1) := by decide +kernel
theorem dX8_first_62 : decode cX8_first 62 = .ok (.iconst 1, 1) := by decide +kernel
theorem dX8_first_63 : decode cX8_first 63 = .ok (.iadd, 1) := by decide +kernel
theorem dX8_first_64 : decode cX8_first 64 = .ok (.iaload, 1) := by decide +kernel
theorem dX8_first_65 : decode cX8_first 65 = .ok (.if_icmp .ne 7, 3) := by decide +kernel
theorem dX8_first_68 : decode cX8_first 68 = .ok (.iconst 1, 1) := by decide +kernel
theorem dX8_first_69 : decode cX8_first 69 = .ok (.goto 4, 3) := by decide +kernel
theorem dX8_first_72 : decode cX8_first 72 = .ok (.iconst 0, 1) := by decide +kernel
theorem dX8_first_73 : decode cX8_first 73 = .ok (.istore_n 3, 1) := by decide +kernel
theorem dX8_first_74 : decode cX8_first 74 = .ok (.iinc 4 1, 3) := by decide +kernel
theorem dX8_first_77 : decode cX8_first 77 = .ok (.goto (-55), 3) := by decide +kernel
theorem dX8_first_80 : decode cX8_first 80 = .ok (.iload_n 1, 1) := by decide +kernel
theorem dX8_first_81 : decode cX8_first 81 = .ok (.iload_n 3, 1) := by decide +kernel
theorem dX8_first_82 : decode cX8_first 82 = .ok (.ifCond .eq 9, 3) := by decide +kernel
theorem dX8_first_85 : decode cX8_first 85 = .ok (.iconst 1, 1) := by decide +kernel
theorem dX8_first_86 : decode cX8_first 86 = .ok (.iload_n 2, 1) := by decide +kernel
theorem dX8_first_87 : decode cX8_first 87 = .ok (.ishl, 1) := by decide +kernel
theorem dX8_first_88 : decode cX8_first 88 = .ok (.goto 4, 3) := by decide +kernel
theorem dX8_first_91 : decode cX8_first 91 = .ok (.iconst 0, 1) := by decide +kernel
theorem dX8_first_92 : decode cX8_first 92 = .ok (.ior, 1) := by decide +kernel
theorem dX8_first_93 : decode cX8_first 93 = .ok (.istore_n 1, 1) := by decide +kernel
theorem dX8_first_94 : decode cX8_first 94 = .ok (.iinc 2 1, 3) := by decide +kernel
theorem dX8_first_97 : decode cX8_first 97 = .ok (.goto (-93), 3) := by decide +kernel
theorem dX8_first_100 : decode cX8_first 100 = .ok (.iload_n 1, 1) := by decide +kernel
theorem dX8_first_101 : decode cX8_first 101 = .ok (.ireturn, 1) := by decide +kernel
theorem dX8_funeralCost_0 : decode cX8_funeralCost 0 = .ok (.iload_n 1, 1) := by decide +kernel
theorem dX8_funeralCost_1 : decode cX8_funeralCost 1 = .ok (.istore 4, 2) := by decide +kernel
theorem dX8_funeralCost_3 : decode cX8_funeralCost 3 = .ok (.iconst 0, 1) := by decide +kernel
theorem dX8_funeralCost_4 : decode cX8_funeralCost 4 = .ok (.istore 5, 2) := by decide +kernel
theorem dX8_funeralCost_6 : decode cX8_funeralCost 6 = .ok (.aload_n 0, 1) := by decide +kernel
theorem dX8_funeralCost_7 : decode cX8_funeralCost 7 = .ok (.getfield 169, 3) := by decide +kernel
theorem dX8_funeralCost_10 : decode cX8_funeralCost 10 = .ok (.iconst 1, 1) := by decide +kernel
theorem dX8_funeralCost_11 : decode cX8_funeralCost 11 = .ok (.isub, 1) := by decide +kernel
theorem dX8_funeralCost_12 : decode cX8_funeralCost 12 = .ok (.istore 6, 2) := by decide +kernel
theorem dX8_funeralCost_14 : decode cX8_funeralCost 14 = .ok (.iload 6, 2) := by decide +kernel
theorem dX8_funeralCost_16 : decode cX8_funeralCost 16 = .ok (.ifCond .lt 107, 3) := by decide +kernel
theorem dX8_funeralCost_19 : decode cX8_funeralCost 19 = .ok (.aload_n 0, 1) := by decide +kernel
theorem dX8_funeralCost_20 : decode cX8_funeralCost 20 = .ok (.getfield 40, 3) := by decide +kernel
theorem dX8_funeralCost_23 : decode cX8_funeralCost 23 = .ok (.iload 6, 2) := by decide +kernel
theorem dX8_funeralCost_25 : decode cX8_funeralCost 25 = .ok (.iload 4, 2) := by decide +kernel
theorem dX8_funeralCost_27 : decode cX8_funeralCost 27 = .ok (.bipush 7, 2) := by decide +kernel
theorem dX8_funeralCost_29 : decode cX8_funeralCost 29 = .ok (.irem, 1) := by decide +kernel
theorem dX8_funeralCost_30 : decode cX8_funeralCost 30 = .ok (.iastore, 1) := by decide +kernel
theorem dX8_funeralCost_31 : decode cX8_funeralCost 31 = .ok (.iload 4, 2) := by decide +kernel
theorem dX8_funeralCost_33 : decode cX8_funeralCost 33 = .ok (.bipush 7, 2) := by decide +kernel
theorem dX8_funeralCost_35 : decode cX8_funeralCost 35 = .ok (.idiv, 1) := by decide +kernel
theorem dX8_funeralCost_36 : decode cX8_funeralCost 36 = .ok (.istore 4, 2) := by decide +kernel
theorem dX8_funeralCost_38 : decode cX8_funeralCost 38 = .ok (.aload_n 0, 1) := by decide +kernel
theorem dX8_funeralCost_39 : decode cX8_funeralCost 39 = .ok (.getfield 40, 3) := by decide +kernel
theorem dX8_funeralCost_42 : decode cX8_funeralCost 42 = .ok (.iload 6, 2) := by decide +kernel
theorem dX8_funeralCost_44 : decode cX8_funeralCost 44 = .ok (.iaload, 1) := by decide +kernel
theorem dX8_funeralCost_45 : decode cX8_funeralCost 45 = .ok (.ifCond .le 72, 3) := by decide +kernel
theorem dX8_funeralCost_48 : decode cX8_funeralCost 48 = .ok (.aload_n 0, 1) := by decide +kernel
theorem dX8_funeralCost_49 : decode cX8_funeralCost 49 = .ok (.iload 6, 2) := by decide +kernel
theorem dX8_funeralCost_51 : decode cX8_funeralCost 51 = .ok (.invokevirtual 203, 3) := by decide +kernel
theorem dX8_funeralCost_54 : decode cX8_funeralCost 54 = .ok (.ifCond .ne 19, 3) := by decide +kernel
theorem dX8_funeralCost_57 : decode cX8_funeralCost 57 = .ok (.iload_n 2, 1) := by decide +kernel
theorem dX8_funeralCost_58 : decode cX8_funeralCost 58 = .ok (.aload_n 0, 1) := by decide +kernel
theorem dX8_funeralCost_59 : decode cX8_funeralCost 59 = .ok (.getfield 40, 3) := by decide +kernel
theorem dX8_funeralCost_62 : decode cX8_funeralCost 62 = .ok (.iload 6, 2) := by decide +kernel
theorem dX8_funeralCost_64 : decode cX8_funeralCost 64 = .ok (.iaload, 1) := by decide +kernel
theorem dX8_funeralCost_65 : decode cX8_funeralCost 65 = .ok (.iconst 1, 1) := by decide +kernel
theorem dX8_funeralCost_66 : decode cX8_funeralCost 66 = .ok (.isub, 1) := by decide +kernel
theorem dX8_funeralCost_67 : decode cX8_funeralCost 67 = .ok (.ishr, 1) := by decide +kernel
theorem dX8_funeralCost_68 : decode cX8_funeralCost 68 = .ok (.iconst 1, 1) := by decide +kernel
theorem dX8_funeralCost_69 : decode cX8_funeralCost 69 = .ok (.iand, 1) := by decide +kernel
theorem dX8_funeralCost_70 : decode cX8_funeralCost 70 = .ok (.ifCond .ne 6, 3) := by decide +kernel
theorem dX8_funeralCost_73 : decode cX8_funeralCost 73 = .ok (.bipush (-4), 2) := by decide +kernel
theorem dX8_funeralCost_75 : decode cX8_funeralCost 75 = .ok (.ireturn, 1) := by decide +kernel
theorem dX8_funeralCost_76 : decode cX8_funeralCost 76 = .ok (.iload 5, 2) := by decide +kernel
theorem dX8_funeralCost_78 : decode cX8_funeralCost 78 = .ok (.aload_n 0, 1) := by decide +kernel
theorem dX8_funeralCost_79 : decode cX8_funeralCost 79 = .ok (.getfield 7, 3) := by decide +kernel
theorem dX8_funeralCost_82 : decode cX8_funeralCost 82 = .ok (.iconst 4, 1) := by decide +kernel
theorem dX8_funeralCost_83 : decode cX8_funeralCost 83 = .ok (.iload 6, 2) := by decide +kernel
theorem dX8_funeralCost_85 : decode cX8_funeralCost 85 = .ok (.imul, 1) := by decide +kernel
theorem dX8_funeralCost_86 : decode cX8_funeralCost 86 = .ok (.iaload, 1) := by decide +kernel
theorem dX8_funeralCost_87 : decode cX8_funeralCost 87 = .ok (.aload_n 0, 1) := by decide +kernel
theorem dX8_funeralCost_88 : decode cX8_funeralCost 88 = .ok (.iload 6, 2) := by decide +kernel
theorem dX8_funeralCost_90 : decode cX8_funeralCost 90 = .ok (.invokevirtual 196, 3) := by decide +kernel
theorem dX8_funeralCost_93 : decode cX8_funeralCost 93 = .ok (.aload_n 0, 1) := by decide +kernel
theorem dX8_funeralCost_94 : decode cX8_funeralCost 94 = .ok (.getfield 40, 3) := by decide +kernel
theorem dX8_funeralCost_97 : decode cX8_funeralCost 97 = .ok (.iload 6, 2) := by decide +kernel
theorem dX8_funeralCost_99 : decode cX8_funeralCost 99 = .ok (.iaload, 1) := by decide +kernel
theorem dX8_funeralCost_100 : decode cX8_funeralCost 100 = .ok (.iconst 1, 1) := by decide +kernel
theorem dX8_funeralCost_101 : decode cX8_funeralCost 101 = .ok (.isub, 1) := by decide +kernel
theorem dX8_funeralCost_102 : decode cX8_funeralCost 102 = .ok (.if_icmp .ne 7, 3) := by decide +kernel
theorem dX8_funeralCost_105 : decode cX8_funeralCost 105 = .ok (.iconst 0, 1) := by decide +kernel
theorem dX8_funeralCost_106 : decode cX8_funeralCost 106 = .ok (.goto 7, 3) := by decide +kernel
theorem dX8_funeralCost_109 : decode cX8_funeralCost 109 = .ok (.aload_n 0, 1) := by decide +kernel
theorem dX8_funeralCost_110 : decode cX8_funeralCost 110 = .ok (.invokevirtual 183, 3) := by decide +kernel
theorem dX8_funeralCost_113 : decode cX8_funeralCost 113 = .ok (.iadd, 1) := by decide +kernel
theorem dX8_funeralCost_114 : decode cX8_funeralCost 114 = .ok (.iadd, 1) := by decide +kernel
theorem dX8_funeralCost_115 : decode cX8_funeralCost 115 = .ok (.istore 5, 2) := by decide +kernel
theorem dX8_funeralCost_117 : decode cX8_funeralCost 117 = .ok (.iinc 6 (-1), 3) := by decide +kernel
theorem dX8_funeralCost_120 : decode cX8_funeralCost 120 = .ok (.goto (-106), 3) := by decide +kernel
theorem dX8_funeralCost_123 : decode cX8_funeralCost 123 = .ok (.iconst 0, 1) := by decide +kernel
theorem dX8_funeralCost_124 : decode cX8_funeralCost 124 = .ok (.istore 6, 2) := by decide +kernel
theorem dX8_funeralCost_126 : decode cX8_funeralCost 126 = .ok (.iload 6, 2) := by decide +kernel
theorem dX8_funeralCost_128 : decode cX8_funeralCost 128 = .ok (.aload_n 0, 1) := by decide +kernel
theorem dX8_funeralCost_129 : decode cX8_funeralCost 129 = .ok (.getfield 166, 3) := by decide +kernel
theorem dX8_funeralCost_132 : decode cX8_funeralCost 132 = .ok (.if_icmp .ge 80, 3) := by decide +kernel
theorem dX8_funeralCost_135 : decode cX8_funeralCost 135 = .ok (.iconst 0, 1) := by decide +kernel
theorem dX8_funeralCost_136 : decode cX8_funeralCost 136 = .ok (.istore 7, 2) := by decide +kernel
theorem dX8_funeralCost_138 : decode cX8_funeralCost 138 = .ok (.iconst 0, 1) := by decide +kernel
theorem dX8_funeralCost_139 : decode cX8_funeralCost 139 = .ok (.istore 8, 2) := by decide +kernel
theorem dX8_funeralCost_141 : decode cX8_funeralCost 141 = .ok (.iload 8, 2) := by decide +kernel
theorem dX8_funeralCost_143 : decode cX8_funeralCost 143 = .ok (.aload_n 0, 1) := by decide +kernel
theorem dX8_funeralCost_144 : decode cX8_funeralCost 144 = .ok (.getfield 169, 3) := by decide +kernel
theorem dX8_funeralCost_147 : decode cX8_funeralCost 147 = .ok (.if_icmp .ge 40, 3) := by decide +kernel
theorem dX8_funeralCost_150 : decode cX8_funeralCost 150 = .ok (.iload 7, 2) := by decide +kernel
theorem dX8_funeralCost_152 : decode cX8_funeralCost 152 = .ok (.aload_n 0, 1) := by decide +kernel
theorem dX8_funeralCost_153 : decode cX8_funeralCost 153 = .ok (.getfield 40, 3) := by decide +kernel
theorem dX8_funeralCost_156 : decode cX8_funeralCost 156 = .ok (.iload 8, 2) := by decide +kernel
theorem dX8_funeralCost_158 : decode cX8_funeralCost 158 = .ok (.iaload, 1) := by decide +kernel
theorem dX8_funeralCost_159 : decode cX8_funeralCost 159 = .ok (.iload 6, 2) := by decide +kernel
theorem dX8_funeralCost_161 : decode cX8_funeralCost 161 = .ok (.iconst 1, 1) := by decide +kernel
theorem dX8_funeralCost_162 : decode cX8_funeralCost 162 = .ok (.iadd, 1) := by decide +kernel
theorem dX8_funeralCost_163 : decode cX8_funeralCost 163 = .ok (.if_icmp .ne 14, 3) := by decide +kernel
theorem dX8_funeralCost_166 : decode cX8_funeralCost 166 = .ok (.aload_n 0, 1) := by decide +kernel
theorem dX8_funeralCost_167 : decode cX8_funeralCost 167 = .ok (.iload 8, 2) := by decide +kernel
theorem dX8_funeralCost_169 : decode cX8_funeralCost 169 = .ok (.iload 6, 2) := by decide +kernel
theorem dX8_funeralCost_171 : decode cX8_funeralCost 171 = .ok (.invokevirtual 199, 3) := by decide +kernel
theorem dX8_funeralCost_174 : decode cX8_funeralCost 174 = .ok (.goto 4, 3) := by decide +kernel
theorem dX8_funeralCost_177 : decode cX8_funeralCost 177 = .ok (.iconst 0, 1) := by decide +kernel
theorem dX8_funeralCost_178 : decode cX8_funeralCost 178 = .ok (.iadd, 1) := by decide +kernel
theorem dX8_funeralCost_179 : decode cX8_funeralCost 179 = .ok (.istore 7, 2) := by decide +kernel
theorem dX8_funeralCost_181 : decode cX8_funeralCost 181 = .ok (.iinc 8 1, 3) := by decide +kernel
theorem dX8_funeralCost_184 : decode cX8_funeralCost 184 = .ok (.goto (-43), 3) := by decide +kernel
theorem dX8_funeralCost_187 : decode cX8_funeralCost 187 = .ok (.iload_n 2, 1) := by decide +kernel
theorem dX8_funeralCost_188 : decode cX8_funeralCost 188 = .ok (.iload 6, 2) := by decide +kernel
theorem dX8_funeralCost_190 : decode cX8_funeralCost 190 = .ok (.ishr, 1) := by decide +kernel
theorem dX8_funeralCost_191 : decode cX8_funeralCost 191 = .ok (.iconst 1, 1) := by decide +kernel
theorem dX8_funeralCost_192 : decode cX8_funeralCost 192 = .ok (.iand, 1) := by decide +kernel
theorem dX8_funeralCost_193 : decode cX8_funeralCost 193 = .ok (.iconst 1, 1) := by decide +kernel
theorem dX8_funeralCost_194 : decode cX8_funeralCost 194 = .ok (.if_icmp .ne 12, 3) := by decide +kernel
theorem dX8_funeralCost_197 : decode cX8_funeralCost 197 = .ok (.iload 7, 2) := by decide +kernel
theorem dX8_funeralCost_199 : decode cX8_funeralCost 199 = .ok (.iload_n 3, 1) := by decide +kernel
theorem dX8_funeralCost_200 : decode cX8_funeralCost 200 = .ok (.if_icmp .ge 6, 3) := by decide +kernel
theorem dX8_funeralCost_203 : decode cX8_funeralCost 203 = .ok (.bipush (-4), 2) := by decide +kernel
theorem dX8_funeralCost_205 : decode cX8_funeralCost 205 = .ok (.ireturn, 1) := by decide +kernel
theorem dX8_funeralCost_206 : decode cX8_funeralCost 206 = .ok (.iinc 6 1, 3) := by decide +kernel
theorem dX8_funeralCost_209 : decode cX8_funeralCost 209 = .ok (.goto (-83), 3) := by decide +kernel
theorem dX8_funeralCost_212 : decode cX8_funeralCost 212 = .ok (.iload 5, 2) := by decide +kernel
theorem dX8_funeralCost_214 : decode cX8_funeralCost 214 = .ok (.ireturn, 1) := by decide +kernel
theorem dX8_funeral_0 : decode cX8_funeral 0 = .ok (.iload_n 1, 1) := by decide +kernel
theorem dX8_funeral_1 : decode cX8_funeral 1 = .ok (.i2l, 1) := by decide +kernel
theorem dX8_funeral_2 : decode cX8_funeral 2 = .ok (.lconst 0, 1) := by decide +kernel
theorem dX8_funeral_3 : decode cX8_funeral 3 = .ok (.iconst 1, 1) := by decide +kernel
theorem dX8_funeral_4 : decode cX8_funeral 4 = .ok (.aload_n 0, 1) := by decide +kernel
theorem dX8_funeral_5 : decode cX8_funeral 5 = .ok (.getfield 166, 3) := by decide +kernel
theorem dX8_funeral_8 : decode cX8_funeral 8 = .ok (.ishl, 1) := by decide +kernel
theorem dX8_funeral_9 : decode cX8_funeral 9 = .ok (.iconst 1, 1) := by decide +kernel
theorem dX8_funeral_10 : decode cX8_funeral 10 = .ok (.isub, 1) := by decide +kernel
theorem dX8_funeral_11 : decode cX8_funeral 11 = .ok (.i2l, 1) := by decide +kernel
theorem dX8_funeral_12 : decode cX8_funeral 12 = .ok (.invokestatic 69, 3) := by decide +kernel
theorem dX8_funeral_15 : decode cX8_funeral 15 = .ok (.ifCond .eq 38, 3) := by decide +kernel
theorem dX8_funeral_18 : decode cX8_funeral 18 = .ok (.iload_n 2, 1) := by decide +kernel
theorem dX8_funeral_19 : decode cX8_funeral 19 = .ok (.i2l, 1) := by decide +kernel
theorem dX8_funeral_20 : decode cX8_funeral 20 = .ok (.lconst 1, 1) := by decide +kernel
theorem dX8_funeral_21 : decode cX8_funeral 21 = .ok (.ldc2_w 239, 3) := by decide +kernel
theorem dX8_funeral_24 : decode cX8_funeral 24 = .ok (.invokestatic 69, 3) := by decide +kernel
theorem dX8_funeral_27 : decode cX8_funeral 27 = .ok (.ifCond .eq 26, 3) := by decide +kernel
theorem dX8_funeral_30 : decode cX8_funeral 30 = .ok (.iload_n 3, 1) := by decide +kernel
theorem dX8_funeral_31 : decode cX8_funeral 31 = .ok (.ifCond .eq 24, 3) := by decide +kernel
theorem dX8_funeral_34 : decode cX8_funeral 34 = .ok (.iload_n 3, 1) := by decide +kernel
theorem dX8_funeral_35 : decode cX8_funeral 35 = .ok (.i2l, 1) := by decide +kernel
theorem dX8_funeral_36 : decode cX8_funeral 36 = .ok (.ldc2_w 241, 3) := by decide +kernel
theorem dX8_funeral_39 : decode cX8_funeral 39 = .ok (.bipush 9, 2) := by decide +kernel
theorem dX8_funeral_41 : decode cX8_funeral 41 = .ok (.aload_n 0, 1) := by decide +kernel
theorem dX8_funeral_42 : decode cX8_funeral 42 = .ok (.getfield 169, 3) := by decide +kernel
theorem dX8_funeral_45 : decode cX8_funeral 45 = .ok (.iadd, 1) := by decide +kernel
theorem dX8_funeral_46 : decode cX8_funeral 46 = .ok (.i2l, 1) := by decide +kernel
theorem dX8_funeral_47 : decode cX8_funeral 47 = .ok (.invokestatic 69, 3) := by decide +kernel
theorem dX8_funeral_50 : decode cX8_funeral 50 = .ok (.ifCond .ne 5, 3) := by decide +kernel
theorem dX8_funeral_53 : decode cX8_funeral 53 = .ok (.iconst (-1), 1) := by decide +kernel
theorem dX8_funeral_54 : decode cX8_funeral 54 = .ok (.ireturn, 1) := by decide +kernel
theorem dX8_funeral_55 : decode cX8_funeral 55 = .ok (.iconst 1, 1) := by decide +kernel
theorem dX8_funeral_56 : decode cX8_funeral 56 = .ok (.istore 4, 2) := by decide +kernel
theorem dX8_funeral_58 : decode cX8_funeral 58 = .ok (.bipush (-4), 2) := by decide +kernel
theorem dX8_funeral_60 : decode cX8_funeral 60 = .ok (.istore 5, 2) := by decide +kernel
theorem dX8_funeral_62 : decode cX8_funeral 62 = .ok (.iconst 0, 1) := by decide +kernel
theorem dX8_funeral_63 : decode cX8_funeral 63 = .ok (.istore 6, 2) := by decide +kernel
theorem dX8_funeral_65 : decode cX8_funeral 65 = .ok (.iload 6, 2) := by decide +kernel
theorem dX8_funeral_67 : decode cX8_funeral 67 = .ok (.aload_n 0, 1) := by decide +kernel
theorem dX8_funeral_68 : decode cX8_funeral 68 = .ok (.getfield 169, 3) := by decide +kernel
theorem dX8_funeral_71 : decode cX8_funeral 71 = .ok (.if_icmp .ge 16, 3) := by decide +kernel
theorem dX8_funeral_74 : decode cX8_funeral 74 = .ok (.iload 4, 2) := by decide +kernel
theorem dX8_funeral_76 : decode cX8_funeral 76 = .ok (.bipush 7, 2) := by decide +kernel
theorem dX8_funeral_78 : decode cX8_funeral 78 = .ok (.imul, 1) := by decide +kernel
theorem dX8_funeral_79 : decode cX8_funeral 79 = .ok (.istore 4, 2) := by decide +kernel
theorem dX8_funeral_81 : decode cX8_funeral 81 = .ok (.iinc 6 1, 3) := by decide +kernel
theorem dX8_funeral_84 : decode cX8_funeral 84 = .ok (.goto (-19), 3) := by decide +kernel
theorem dX8_funeral_87 : decode cX8_funeral 87 = .ok (.iconst 0, 1) := by decide +kernel
theorem dX8_funeral_88 : decode cX8_funeral 88 = .ok (.istore 6, 2) := by decide +kernel
theorem dX8_funeral_90 : decode cX8_funeral 90 = .ok (.iload 6, 2) := by decide +kernel
theorem dX8_funeral_92 : decode cX8_funeral 92 = .ok (.iload 4, 2) := by decide +kernel
theorem dX8_funeral_94 : decode cX8_funeral 94 = .ok (.if_icmp .ge 74, 3) := by decide +kernel
theorem dX8_funeral_97 : decode cX8_funeral 97 = .ok (.aload_n 0, 1) := by decide +kernel
theorem dX8_funeral_98 : decode cX8_funeral 98 = .ok (.iload 6, 2) := by decide +kernel
theorem dX8_funeral_100 : decode cX8_funeral 100 = .ok (.iload_n 1, 1) := by decide +kernel
theorem dX8_funeral_101 : decode cX8_funeral 101 = .ok (.iload_n 2, 1) := by decide +kernel
theorem dX8_funeral_102 : decode cX8_funeral 102 = .ok (.invokevirtual 243, 3) := by decide +kernel
theorem dX8_funeral_105 : decode cX8_funeral 105 = .ok (.istore 7, 2) := by decide +kernel
theorem dX8_funeral_107 : decode cX8_funeral 107 = .ok (.iload 7, 2) := by decide +kernel
theorem dX8_funeral_109 : decode cX8_funeral 109 = .ok (.bipush (-4), 2) := by decide +kernel
theorem dX8_funeral_111 : decode cX8_funeral 111 = .ok (.if_icmp .eq 51, 3) := by decide +kernel
theorem dX8_funeral_114 : decode cX8_funeral 114 = .ok (.iload 5, 2) := by decide +kernel
theorem dX8_funeral_116 : decode cX8_funeral 116 = .ok (.bipush (-4), 2) := by decide +kernel
theorem dX8_funeral_118 : decode cX8_funeral 118 = .ok (.if_icmp .eq 10, 3) := by decide +kernel
theorem dX8_funeral_121 : decode cX8_funeral 121 = .ok (.iload 7, 2) := by decide +kernel
theorem dX8_funeral_123 : decode cX8_funeral 123 = .ok (.iload 5, 2) := by decide +kernel
theorem dX8_funeral_125 : decode cX8_funeral 125 = .ok (.if_icmp .ge 37, 3) := by decide +kernel
theorem dX8_funeral_128 : decode cX8_funeral 128 = .ok (.iload 7, 2) := by decide +kernel
theorem dX8_funeral_130 : decode cX8_funeral 130 = .ok (.istore 5, 2) := by decide +kernel
theorem dX8_funeral_132 : decode cX8_funeral 132 = .ok (.iconst 0, 1) := by decide +kernel
theorem dX8_funeral_133 : decode cX8_funeral 133 = .ok (.istore 8, 2) := by decide +kernel
theorem dX8_funeral_135 : decode cX8_funeral 135 = .ok (.iload 8, 2) := by decide +kernel
theorem dX8_funeral_137 : decode cX8_funeral 137 = .ok (.bipush 6, 2) := by decide +kernel
theorem dX8_funeral_139 : decode cX8_funeral 139 = .ok (.if_icmp .ge 23, 3) := by decide +kernel
theorem dX8_funeral_142 : decode cX8_funeral 142 = .ok (.aload_n 0, 1) := by decide +kernel
theorem dX8_funeral_143 : decode cX8_funeral 143 = .ok (.getfield 43, 3) := by decide +kernel
theorem dX8_funeral_146 : decode cX8_funeral 146 = .ok (.iload 8, 2) := by decide +kernel
theorem dX8_funeral_148 : decode cX8_funeral 148 = .ok (.aload_n 0, 1) := by decide +kernel
theorem dX8_funeral_149 : decode cX8_funeral 149 = .ok (.getfield 40, 3) := by decide +kernel
theorem dX8_funeral_152 : decode cX8_funeral 152 = .ok (.iload 8, 2) := by decide +kernel
theorem dX8_funeral_154 : decode cX8_funeral 154 = .ok (.iaload, 1) := by decide +kernel
theorem dX8_funeral_155 : decode cX8_funeral 155 = .ok (.iastore, 1) := by decide +kernel
theorem dX8_funeral_156 : decode cX8_funeral 156 = .ok (.iinc 8 1, 3) := by decide +kernel
theorem dX8_funeral_159 : decode cX8_funeral 159 = .ok (.goto (-24), 3) := by decide +kernel
theorem dX8_funeral_162 : decode cX8_funeral 162 = .ok (.iinc 6 1, 3) := by decide +kernel
theorem dX8_funeral_165 : decode cX8_funeral 165 = .ok (.goto (-75), 3) := by decide +kernel
theorem dX8_funeral_168 : decode cX8_funeral 168 = .ok (.iload 5, 2) := by decide +kernel
theorem dX8_funeral_170 : decode cX8_funeral 170 = .ok (.bipush (-4), 2) := by decide +kernel
theorem dX8_funeral_172 : decode cX8_funeral 172 = .ok (.if_icmp .eq 7, 3) := by decide +kernel
theorem dX8_funeral_175 : decode cX8_funeral 175 = .ok (.iload_n 3, 1) := by decide +kernel
theorem dX8_funeral_176 : decode cX8_funeral 176 = .ok (.ifCond .ne 8, 3) := by decide +kernel
theorem dX8_funeral_179 : decode cX8_funeral 179 = .ok (.iload 5, 2) := by decide +kernel
theorem dX8_funeral_181 : decode cX8_funeral 181 = .ok (.goto 31, 3) := by decide +kernel
theorem dX8_funeral_184 : decode cX8_funeral 184 = .ok (.aload_n 0, 1) := by decide +kernel
theorem dX8_funeral_185 : decode cX8_funeral 185 = .ok (.getfield 43, 3) := by decide +kernel
theorem dX8_funeral_188 : decode cX8_funeral 188 = .ok (.iload_n 3, 1) := by decide +kernel
theorem dX8_funeral_189 : decode cX8_funeral 189 = .ok (.bipush 10, 2) := by decide +kernel
theorem dX8_funeral_191 : decode cX8_funeral 191 = .ok (.isub, 1) := by decide +kernel
theorem dX8_funeral_192 : decode cX8_funeral 192 = .ok (.iaload, 1) := by decide +kernel
theorem dX8_funeral_193 : decode cX8_funeral 193 = .ok (.ifCond .ne 8, 3) := by decide +kernel
theorem dX8_funeral_196 : decode cX8_funeral 196 = .ok (.bipush (-4), 2) := by decide +kernel
theorem dX8_funeral_198 : decode cX8_funeral 198 = .ok (.goto 14, 3) := by decide +kernel
theorem dX8_funeral_201 : decode cX8_funeral 201 = .ok (.aload_n 0, 1) := by decide +kernel
theorem dX8_funeral_202 : decode cX8_funeral 202 = .ok (.getfield 43, 3) := by decide +kernel
theorem dX8_funeral_205 : decode cX8_funeral 205 = .ok (.iload_n 3, 1) := by decide +kernel
theorem dX8_funeral_206 : decode cX8_funeral 206 = .ok (.bipush 10, 2) := by decide +kernel
theorem dX8_funeral_208 : decode cX8_funeral 208 = .ok (.isub, 1) := by decide +kernel
theorem dX8_funeral_209 : decode cX8_funeral 209 = .ok (.iaload, 1) := by decide +kernel
theorem dX8_funeral_210 : decode cX8_funeral 210 = .ok (.iconst 1, 1) := by decide +kernel
theorem dX8_funeral_211 : decode cX8_funeral 211 = .ok (.isub, 1) := by decide +kernel
theorem dX8_funeral_212 : decode cX8_funeral 212 = .ok (.ireturn, 1) := by decide +kernel
theorem dX8_raided_0 : decode cX8_raided 0 = .ok (.iconst 0, 1) := by decide +kernel
theorem dX8_raided_1 : decode cX8_raided 1 = .ok (.istore_n 2, 1) := by decide +kernel
theorem dX8_raided_2 : decode cX8_raided 2 = .ok (.iconst 0, 1) := by decide +kernel
theorem dX8_raided_3 : decode cX8_raided 3 = .ok (.istore_n 3, 1) := by decide +kernel
theorem dX8_raided_4 : decode cX8_raided 4 = .ok (.iload_n 3, 1) := by decide +kernel
theorem dX8_raided_5 : decode cX8_raided 5 = .ok (.aload_n 0, 1) := by decide +kernel
theorem dX8_raided_6 : decode cX8_raided 6 = .ok (.getfield 166, 3) := by decide +kernel
theorem dX8_raided_9 : decode cX8_raided 9 = .ok (.if_icmp .ge 106, 3) := by decide +kernel
theorem dX8_raided_12 : decode cX8_raided 12 = .ok (.iconst 0, 1) := by decide +kernel
theorem dX8_raided_13 : decode cX8_raided 13 = .ok (.istore 4, 2) := by decide +kernel
theorem dX8_raided_15 : decode cX8_raided 15 = .ok (.iconst 0, 1) := by decide +kernel
theorem dX8_raided_16 : decode cX8_raided 16 = .ok (.istore 5, 2) := by decide +kernel
theorem dX8_raided_18 : decode cX8_raided 18 = .ok (.iload 5, 2) := by decide +kernel
theorem dX8_raided_20 : decode cX8_raided 20 = .ok (.aload_n 0, 1) := by decide +kernel
theorem dX8_raided_21 : decode cX8_raided 21 = .ok (.getfield 169, 3) := by decide +kernel
theorem dX8_raided_24 : decode cX8_raided 24 = .ok (.if_icmp .ge 58, 3) := by decide +kernel
theorem dX8_raided_27 : decode cX8_raided 27 = .ok (.aload_n 0, 1) := by decide +kernel
theorem dX8_raided_28 : decode cX8_raided 28 = .ok (.iload 5, 2) := by decide +kernel
theorem dX8_raided_30 : decode cX8_raided 30 = .ok (.invokevirtual 196, 3) := by decide +kernel
theorem dX8_raided_33 : decode cX8_raided 33 = .ok (.iload_n 3, 1) := by decide +kernel
theorem dX8_raided_34 : decode cX8_raided 34 = .ok (.if_icmp .ne 38, 3) := by decide +kernel
theorem dX8_raided_37 : decode cX8_raided 37 = .ok (.aload_n 0, 1) := by decide +kernel
theorem dX8_raided_38 : decode cX8_raided 38 = .ok (.iload 5, 2) := by decide +kernel
theorem dX8_raided_40 : decode cX8_raided 40 = .ok (.invokevirtual 203, 3) := by decide +kernel
theorem dX8_raided_43 : decode cX8_raided 43 = .ok (.ifCond .ne 29, 3) := by decide +kernel
theorem dX8_raided_46 : decode cX8_raided 46 = .ok (.aload_n 0, 1) := by decide +kernel
theorem dX8_raided_47 : decode cX8_raided 47 = .ok (.getfield 7, 3) := by decide +kernel
theorem dX8_raided_50 : decode cX8_raided 50 = .ok (.iconst 4, 1) := by decide +kernel
theorem dX8_raided_51 : decode cX8_raided 51 = .ok (.iload 5, 2) := by decide +kernel
theorem dX8_raided_53 : decode cX8_raided 53 = .ok (.imul, 1) := by decide +kernel
theorem dX8_raided_54 : decode cX8_raided 54 = .ok (.iaload, 1) := by decide +kernel
theorem dX8_raided_55 : decode cX8_raided 55 = .ok (.iload 4, 2) := by decide +kernel
theorem dX8_raided_57 : decode cX8_raided 57 = .ok (.if_icmp .le 15, 3) := by decide +kernel
theorem dX8_raided_60 : decode cX8_raided 60 = .ok (.aload_n 0, 1) := by decide +kernel
theorem dX8_raided_61 : decode cX8_raided 61 = .ok (.getfield 7, 3) := by decide +kernel
theorem dX8_raided_64 : decode cX8_raided 64 = .ok (.iconst 4, 1) := by decide +kernel
theorem dX8_raided_65 : decode cX8_raided 65 = .ok (.iload 5, 2) := by decide +kernel
theorem dX8_raided_67 : decode cX8_raided 67 = .ok (.imul, 1) := by decide +kernel
theorem dX8_raided_68 : decode cX8_raided 68 = .ok (.iaload, 1) := by decide +kernel
theorem dX8_raided_69 : decode cX8_raided 69 = .ok (.goto 5, 3) := by decide +kernel
theorem dX8_raided_72 : decode cX8_raided 72 = .ok (.iload 4, 2) := by decide +kernel
theorem dX8_raided_74 : decode cX8_raided 74 = .ok (.istore 4, 2) := by decide +kernel
theorem dX8_raided_76 : decode cX8_raided 76 = .ok (.iinc 5 1, 3) := by decide +kernel
theorem dX8_raided_79 : decode cX8_raided 79 = .ok (.goto (-61), 3) := by decide +kernel
theorem dX8_raided_82 : decode cX8_raided 82 = .ok (.iload_n 2, 1) := by decide +kernel
theorem dX8_raided_83 : decode cX8_raided 83 = .ok (.aload_n 0, 1) := by decide +kernel
theorem dX8_raided_84 : decode cX8_raided 84 = .ok (.iload_n 3, 1) := by decide +kernel
theorem dX8_raided_85 : decode cX8_raided 85 = .ok (.invokevirtual 188, 3) := by decide +kernel
theorem dX8_raided_88 : decode cX8_raided 88 = .ok (.iconst 4, 1) := by decide +kernel
theorem dX8_raided_89 : decode cX8_raided 89 = .ok (.if_icmp .eq 12, 3) := by decide +kernel
theorem dX8_raided_92 : decode cX8_raided 92 = .ok (.aload_n 0, 1) := by decide +kernel
theorem dX8_raided_93 : decode cX8_raided 93 = .ok (.iload_n 3, 1) := by decide +kernel
theorem dX8_raided_94 : decode cX8_raided 94 = .ok (.iload_n 1, 1) := by decide +kernel
theorem dX8_raided_95 : decode cX8_raided 95 = .ok (.invokevirtual 209, 3) := by decide +kernel
theorem dX8_raided_98 : decode cX8_raided 98 = .ok (.ifCond .eq 7, 3) := by decide +kernel
theorem dX8_raided_101 : decode cX8_raided 101 = .ok (.iconst 0, 1) := by decide +kernel
theorem dX8_raided_102 : decode cX8_raided 102 = .ok (.goto 5, 3) := by decide +kernel
theorem dX8_raided_105 : decode cX8_raided 105 = .ok (.iload 4, 2) := by decide +kernel
theorem dX8_raided_107 : decode cX8_raided 107 = .ok (.iadd, 1) := by decide +kernel
theorem dX8_raided_108 : decode cX8_raided 108 = .ok (.istore_n 2, 1) := by decide +kernel
theorem dX8_raided_109 : decode cX8_raided 109 = .ok (.iinc 3 1, 3) := by decide +kernel
theorem dX8_raided_112 : decode cX8_raided 112 = .ok (.goto (-108), 3) := by decide +kernel
theorem dX8_raided_115 : decode cX8_raided 115 = .ok (.iload_n 2, 1) := by decide +kernel
theorem dX8_raided_116 : decode cX8_raided 116 = .ok (.ireturn, 1) := by decide +kernel
theorem dX8_raid_0 : decode cX8_raid 0 = .ok (.iload_n 1, 1) := by decide +kernel
theorem dX8_raid_1 : decode cX8_raid 1 = .ok (.i2l, 1) := by decide +kernel
theorem dX8_raid_2 : decode cX8_raid 2 = .ok (.lconst 0, 1) := by decide +kernel
theorem dX8_raid_3 : decode cX8_raid 3 = .ok (.lconst 1, 1) := by decide +kernel
theorem dX8_raid_4 : decode cX8_raid 4 = .ok (.invokestatic 69, 3) := by decide +kernel
theorem dX8_raid_7 : decode cX8_raid 7 = .ok (.ifCond .ne 19, 3) := by decide +kernel
theorem dX8_raid_10 : decode cX8_raid 10 = .ok (.iload_n 1, 1) := by decide +kernel
theorem dX8_raid_11 : decode cX8_raid 11 = .ok (.i2l, 1) := by decide +kernel
theorem dX8_raid_12 : decode cX8_raid 12 = .ok (.ldc2_w 241, 3) := by decide +kernel
theorem dX8_raid_15 : decode cX8_raid 15 = .ok (.ldc2_w 246, 3) := by decide +kernel
theorem dX8_raid_18 : decode cX8_raid 18 = .ok (.invokestatic 69, 3) := by decide +kernel
theorem dX8_raid_21 : decode cX8_raid 21 = .ok (.ifCond .ne 5, 3) := by decide +kernel
theorem dX8_raid_24 : decode cX8_raid 24 = .ok (.iconst (-1), 1) := by decide +kernel
theorem dX8_raid_25 : decode cX8_raid 25 = .ok (.ireturn, 1) := by decide +kernel
theorem dX8_raid_26 : decode cX8_raid 26 = .ok (.iload_n 1, 1) := by decide +kernel
theorem dX8_raid_27 : decode cX8_raid 27 = .ok (.iconst 1, 1) := by decide +kernel
theorem dX8_raid_28 : decode cX8_raid 28 = .ok (.if_icmp .le 12, 3) := by decide +kernel
theorem dX8_raid_31 : decode cX8_raid 31 = .ok (.aload_n 0, 1) := by decide +kernel
theorem dX8_raid_32 : decode cX8_raid 32 = .ok (.iload_n 1, 1) := by decide +kernel
theorem dX8_raid_33 : decode cX8_raid 33 = .ok (.bipush 10, 2) := by decide +kernel
theorem dX8_raid_35 : decode cX8_raid 35 = .ok (.isub, 1) := by decide +kernel
theorem dX8_raid_36 : decode cX8_raid 36 = .ok (.invokevirtual 248, 3) := by decide +kernel
theorem dX8_raid_39 : decode cX8_raid 39 = .ok (.ireturn, 1) := by decide +kernel
theorem dX8_raid_40 : decode cX8_raid 40 = .ok (.bipush (-4), 2) := by decide +kernel
theorem dX8_raid_42 : decode cX8_raid 42 = .ok (.istore_n 2, 1) := by decide +kernel
theorem dX8_raid_43 : decode cX8_raid 43 = .ok (.iconst 0, 1) := by decide +kernel
theorem dX8_raid_44 : decode cX8_raid 44 = .ok (.istore_n 3, 1) := by decide +kernel
theorem dX8_raid_45 : decode cX8_raid 45 = .ok (.iconst 0, 1) := by decide +kernel
theorem dX8_raid_46 : decode cX8_raid 46 = .ok (.istore 4, 2) := by decide +kernel
theorem dX8_raid_48 : decode cX8_raid 48 = .ok (.iload 4, 2) := by decide +kernel
theorem dX8_raid_50 : decode cX8_raid 50 = .ok (.bipush 12, 2) := by decide +kernel
theorem dX8_raid_52 : decode cX8_raid 52 = .ok (.if_icmp .ge 43, 3) := by decide +kernel
theorem dX8_raid_55 : decode cX8_raid 55 = .ok (.aload_n 0, 1) := by decide +kernel
theorem dX8_raid_56 : decode cX8_raid 56 = .ok (.iload 4, 2) := by decide +kernel
theorem dX8_raid_58 : decode cX8_raid 58 = .ok (.invokevirtual 248, 3) := by decide +kernel
theorem dX8_raid_61 : decode cX8_raid 61 = .ok (.istore 5, 2) := by decide +kernel
theorem dX8_raid_63 : decode cX8_raid 63 = .ok (.iload 5, 2) := by decide +kernel
theorem dX8_raid_65 : decode cX8_raid 65 = .ok (.iload_n 2, 1) := by decide +kernel
theorem dX8_raid_66 : decode cX8_raid 66 = .ok (.if_icmp .le 8, 3) := by decide +kernel
theorem dX8_raid_69 : decode cX8_raid 69 = .ok (.iload 4, 2) := by decide +kernel
theorem dX8_raid_71 : decode cX8_raid 71 = .ok (.goto 4, 3) := by decide +kernel
theorem dX8_raid_74 : decode cX8_raid 74 = .ok (.iload_n 3, 1) := by decide +kernel
theorem dX8_raid_75 : decode cX8_raid 75 = .ok (.istore_n 3, 1) := by decide +kernel
theorem dX8_raid_76 : decode cX8_raid 76 = .ok (.iload 5, 2) := by decide +kernel
theorem dX8_raid_78 : decode cX8_raid 78 = .ok (.iload_n 2, 1) := by decide +kernel
theorem dX8_raid_79 : decode cX8_raid 79 = .ok (.if_icmp .le 8, 3) := by decide +kernel
theorem dX8_raid_82 : decode cX8_raid 82 = .ok (.iload 5, 2) := by decide +kernel
theorem dX8_raid_84 : decode cX8_raid 84 = .ok (.goto 4, 3) := by decide +kernel
theorem dX8_raid_87 : decode cX8_raid 87 = .ok (.iload_n 2, 1) := by decide +kernel
theorem dX8_raid_88 : decode cX8_raid 88 = .ok (.istore_n 2, 1) := by decide +kernel
theorem dX8_raid_89 : decode cX8_raid 89 = .ok (.iinc 4 1, 3) := by decide +kernel
theorem dX8_raid_92 : decode cX8_raid 92 = .ok (.goto (-44), 3) := by decide +kernel
theorem dX8_raid_95 : decode cX8_raid 95 = .ok (.iload_n 1, 1) := by decide +kernel
theorem dX8_raid_96 : decode cX8_raid 96 = .ok (.ifCond .ne 7, 3) := by decide +kernel
theorem dX8_raid_99 : decode cX8_raid 99 = .ok (.iload_n 2, 1) := by decide +kernel
theorem dX8_raid_100 : decode cX8_raid 100 = .ok (.goto 4, 3) := by decide +kernel
theorem dX8_raid_103 : decode cX8_raid 103 = .ok (.iload_n 3, 1) := by decide +kernel
theorem dX8_raid_104 : decode cX8_raid 104 = .ok (.ireturn, 1) := by decide +kernel
theorem dX8_unspent_0 : decode cX8_unspent 0 = .ok (.iconst 0, 1) := by decide +kernel
theorem dX8_unspent_1 : decode cX8_unspent 1 = .ok (.istore_n 1, 1) := by decide +kernel
theorem dX8_unspent_2 : decode cX8_unspent 2 = .ok (.iconst 0, 1) := by decide +kernel
theorem dX8_unspent_3 : decode cX8_unspent 3 = .ok (.istore_n 2, 1) := by decide +kernel
theorem dX8_unspent_4 : decode cX8_unspent 4 = .ok (.iload_n 2, 1) := by decide +kernel
theorem dX8_unspent_5 : decode cX8_unspent 5 = .ok (.aload_n 0, 1) := by decide +kernel
theorem dX8_unspent_6 : decode cX8_unspent 6 = .ok (.getfield 169, 3) := by decide +kernel
theorem dX8_unspent_9 : decode cX8_unspent 9 = .ok (.if_icmp .ge 32, 3) := by decide +kernel
theorem dX8_unspent_12 : decode cX8_unspent 12 = .ok (.iload_n 1, 1) := by decide +kernel
theorem dX8_unspent_13 : decode cX8_unspent 13 = .ok (.aload_n 0, 1) := by decide +kernel
theorem dX8_unspent_14 : decode cX8_unspent 14 = .ok (.iload_n 2, 1) := by decide +kernel
theorem dX8_unspent_15 : decode cX8_unspent 15 = .ok (.invokevirtual 203, 3) := by decide +kernel
theorem dX8_unspent_18 : decode cX8_unspent 18 = .ok (.ifCond .eq 7, 3) := by decide +kernel
theorem dX8_unspent_21 : decode cX8_unspent 21 = .ok (.iconst 0, 1) := by decide +kernel
theorem dX8_unspent_22 : decode cX8_unspent 22 = .ok (.goto 11, 3) := by decide +kernel
theorem dX8_unspent_25 : decode cX8_unspent 25 = .ok (.aload_n 0, 1) := by decide +kernel
theorem dX8_unspent_26 : decode cX8_unspent 26 = .ok (.getfield 7, 3) := by decide +kernel
theorem dX8_unspent_29 : decode cX8_unspent 29 = .ok (.iconst 4, 1) := by decide +kernel
theorem dX8_unspent_30 : decode cX8_unspent 30 = .ok (.iload_n 2, 1) := by decide +kernel
theorem dX8_unspent_31 : decode cX8_unspent 31 = .ok (.imul, 1) := by decide +kernel
theorem dX8_unspent_32 : decode cX8_unspent 32 = .ok (.iaload, 1) := by decide +kernel
theorem dX8_unspent_33 : decode cX8_unspent 33 = .ok (.iadd, 1) := by decide +kernel
theorem dX8_unspent_34 : decode cX8_unspent 34 = .ok (.istore_n 1, 1) := by decide +kernel
theorem dX8_unspent_35 : decode cX8_unspent 35 = .ok (.iinc 2 1, 3) := by decide +kernel
theorem dX8_unspent_38 : decode cX8_unspent 38 = .ok (.goto (-34), 3) := by decide +kernel
theorem dX8_unspent_41 : decode cX8_unspent 41 = .ok (.iload_n 1, 1) := by decide +kernel
theorem dX8_unspent_42 : decode cX8_unspent 42 = .ok (.ireturn, 1) := by decide +kernel
theorem dX8_pricedThen_0 : decode cX8_pricedThen 0 = .ok (.iconst 0, 1) := by decide +kernel
theorem dX8_pricedThen_1 : decode cX8_pricedThen 1 = .ok (.istore_n 2, 1) := by decide +kernel
theorem dX8_pricedThen_2 : decode cX8_pricedThen 2 = .ok (.iconst 0, 1) := by decide +kernel
theorem dX8_pricedThen_3 : decode cX8_pricedThen 3 = .ok (.istore_n 3, 1) := by decide +kernel
theorem dX8_pricedThen_4 : decode cX8_pricedThen 4 = .ok (.iload_n 3, 1) := by decide +kernel
theorem dX8_pricedThen_5 : decode cX8_pricedThen 5 = .ok (.aload_n 0, 1) := by decide +kernel
theorem dX8_pricedThen_6 : decode cX8_pricedThen 6 = .ok (.getfield 166, 3) := by decide +kernel
theorem dX8_pricedThen_9 : decode cX8_pricedThen 9 = .ok (.if_icmp .ge 56, 3) := by decide +kernel
theorem dX8_pricedThen_12 : decode cX8_pricedThen 12 = .ok (.aload_n 0, 1) := by decide +kernel
theorem dX8_pricedThen_13 : decode cX8_pricedThen 13 = .ok (.getfield 13, 3) := by decide +kernel
theorem dX8_pricedThen_16 : decode cX8_pricedThen 16 = .ok (.iconst 3, 1) := by decide +kernel
theorem dX8_pricedThen_17 : decode cX8_pricedThen 17 = .ok (.iload_n 3, 1) := by decide +kernel
theorem dX8_pricedThen_18 : decode cX8_pricedThen 18 = .ok (.imul, 1) := by decide +kernel
theorem dX8_pricedThen_19 : decode cX8_pricedThen 19 = .ok (.iconst 2, 1) := by decide +kernel
theorem dX8_pricedThen_20 : decode cX8_pricedThen 20 = .ok (.iadd, 1) := by decide +kernel
theorem dX8_pricedThen_21 : decode cX8_pricedThen 21 = .ok (.iaload, 1) := by decide +kernel
theorem dX8_pricedThen_22 : decode cX8_pricedThen 22 = .ok (.iload_n 1, 1) := by decide +kernel
theorem dX8_pricedThen_23 : decode cX8_pricedThen 23 = .ok (.idiv, 1) := by decide +kernel
theorem dX8_pricedThen_24 : decode cX8_pricedThen 24 = .ok (.istore 4, 2) := by decide +kernel
theorem dX8_pricedThen_26 : decode cX8_pricedThen 26 = .ok (.iload_n 2, 1) := by decide +kernel
theorem dX8_pricedThen_27 : decode cX8_pricedThen 27 = .ok (.iload 4, 2) := by decide +kernel
theorem dX8_pricedThen_29 : decode cX8_pricedThen 29 = .ok (.aload_n 0, 1) := by decide +kernel
theorem dX8_pricedThen_30 : decode cX8_pricedThen 30 = .ok (.getfield 13, 3) := by decide +kernel
theorem dX8_pricedThen_33 : decode cX8_pricedThen 33 = .ok (.iconst 3, 1) := by decide +kernel
theorem dX8_pricedThen_34 : decode cX8_pricedThen 34 = .ok (.iload_n 3, 1) := by decide +kernel
theorem dX8_pricedThen_35 : decode cX8_pricedThen 35 = .ok (.imul, 1) := by decide +kernel
theorem dX8_pricedThen_36 : decode cX8_pricedThen 36 = .ok (.iconst 1, 1) := by decide +kernel
theorem dX8_pricedThen_37 : decode cX8_pricedThen 37 = .ok (.iadd, 1) := by decide +kernel
theorem dX8_pricedThen_38 : decode cX8_pricedThen 38 = .ok (.iaload, 1) := by decide +kernel
theorem dX8_pricedThen_39 : decode cX8_pricedThen 39 = .ok (.if_icmp .ge 8, 3) := by decide +kernel
theorem dX8_pricedThen_42 : decode cX8_pricedThen 42 = .ok (.iload 4, 2) := by decide +kernel
theorem dX8_pricedThen_44 : decode cX8_pricedThen 44 = .ok (.goto 13, 3) := by decide +kernel
theorem dX8_pricedThen_47 : decode cX8_pricedThen 47 = .ok (.aload_n 0, 1) := by decide +kernel
theorem dX8_pricedThen_48 : decode cX8_pricedThen 48 = .ok (.getfield 13, 3) := by decide +kernel
theorem dX8_pricedThen_51 : decode cX8_pricedThen 51 = .ok (.iconst 3, 1) := by decide +kernel
theorem dX8_pricedThen_52 : decode cX8_pricedThen 52 = .ok (.iload_n 3, 1) := by decide +kernel
theorem dX8_pricedThen_53 : decode cX8_pricedThen 53 = .ok (.imul, 1) := by decide +kernel
theorem dX8_pricedThen_54 : decode cX8_pricedThen 54 = .ok (.iconst 1, 1) := by decide +kernel
theorem dX8_pricedThen_55 : decode cX8_pricedThen 55 = .ok (.iadd, 1) := by decide +kernel
theorem dX8_pricedThen_56 : decode cX8_pricedThen 56 = .ok (.iaload, 1) := by decide +kernel
theorem dX8_pricedThen_57 : decode cX8_pricedThen 57 = .ok (.iadd, 1) := by decide +kernel
theorem dX8_pricedThen_58 : decode cX8_pricedThen 58 = .ok (.istore_n 2, 1) := by decide +kernel
theorem dX8_pricedThen_59 : decode cX8_pricedThen 59 = .ok (.iinc 3 1, 3) := by decide +kernel
theorem dX8_pricedThen_62 : decode cX8_pricedThen 62 = .ok (.goto (-58), 3) := by decide +kernel
theorem dX8_pricedThen_65 : decode cX8_pricedThen 65 = .ok (.aload_n 0, 1) := by decide +kernel
theorem dX8_pricedThen_66 : decode cX8_pricedThen 66 = .ok (.invokevirtual 251, 3) := by decide +kernel
theorem dX8_pricedThen_69 : decode cX8_pricedThen 69 = .ok (.istore_n 3, 1) := by decide +kernel
theorem dX8_pricedThen_70 : decode cX8_pricedThen 70 = .ok (.iload_n 2, 1) := by decide +kernel
theorem dX8_pricedThen_71 : decode cX8_pricedThen 71 = .ok (.iload_n 3, 1) := by decide +kernel
theorem dX8_pricedThen_72 : decode cX8_pricedThen 72 = .ok (.if_icmp .le 20, 3) := by decide +kernel
theorem dX8_pricedThen_75 : decode cX8_pricedThen 75 = .ok (.iload_n 1, 1) := by decide +kernel
theorem dX8_pricedThen_76 : decode cX8_pricedThen 76 = .ok (.bipush 99, 2) := by decide +kernel
theorem dX8_pricedThen_78 : decode cX8_pricedThen 78 = .ok (.if_icmp .ge 9, 3) := by decide +kernel
theorem dX8_pricedThen_81 : decode cX8_pricedThen 81 = .ok (.iload_n 1, 1) := by decide +kernel
theorem dX8_pricedThen_82 : decode cX8_pricedThen 82 = .ok (.iconst 1, 1) := by decide +kernel
theorem dX8_pricedThen_83 : decode cX8_pricedThen 83 = .ok (.iadd, 1) := by decide +kernel
theorem dX8_pricedThen_84 : decode cX8_pricedThen 84 = .ok (.goto 29, 3) := by decide +kernel
theorem dX8_pricedThen_87 : decode cX8_pricedThen 87 = .ok (.bipush 99, 2) := by decide +kernel
theorem dX8_pricedThen_89 : decode cX8_pricedThen 89 = .ok (.goto 24, 3) := by decide +kernel
theorem dX8_pricedThen_92 : decode cX8_pricedThen 92 = .ok (.iload_n 2, 1) := by decide +kernel
theorem dX8_pricedThen_93 : decode cX8_pricedThen 93 = .ok (.iload_n 3, 1) := by decide +kernel
theorem dX8_pricedThen_94 : decode cX8_pricedThen 94 = .ok (.if_icmp .ge 18, 3) := by decide +kernel
theorem dX8_pricedThen_97 : decode cX8_pricedThen 97 = .ok (.iload_n 1, 1) := by decide +kernel
theorem dX8_pricedThen_98 : decode cX8_pricedThen 98 = .ok (.iconst 1, 1) := by decide +kernel
theorem dX8_pricedThen_99 : decode cX8_pricedThen 99 = .ok (.if_icmp .le 9, 3) := by decide +kernel
theorem dX8_pricedThen_102 : decode cX8_pricedThen 102 = .ok (.iload_n 1, 1) := by decide +kernel
theorem dX8_pricedThen_103 : decode cX8_pricedThen 103 = .ok (.iconst 1, 1) := by decide +kernel
theorem dX8_pricedThen_104 : decode cX8_pricedThen 104 = .ok (.isub, 1) := by decide +kernel
theorem dX8_pricedThen_105 : decode cX8_pricedThen 105 = .ok (.goto 8, 3) := by decide +kernel
theorem dX8_pricedThen_108 : decode cX8_pricedThen 108 = .ok (.iconst 1, 1) := by decide +kernel
theorem dX8_pricedThen_109 : decode cX8_pricedThen 109 = .ok (.goto 4, 3) := by decide +kernel
theorem dX8_pricedThen_112 : decode cX8_pricedThen 112 = .ok (.iload_n 1, 1) := by decide +kernel
theorem dX8_pricedThen_113 : decode cX8_pricedThen 113 = .ok (.ireturn, 1) := by decide +kernel
theorem dX8_settle_0 : decode cX8_settle 0 = .ok (.iload_n 1, 1) := by decide +kernel
theorem dX8_settle_1 : decode cX8_settle 1 = .ok (.i2l, 1) := by decide +kernel
theorem dX8_settle_2 : decode cX8_settle 2 = .ok (.lconst 1, 1) := by decide +kernel
theorem dX8_settle_3 : decode cX8_settle 3 = .ok (.ldc2_w 254, 3) := by decide +kernel
theorem dX8_settle_6 : decode cX8_settle 6 = .ok (.invokestatic 69, 3) := by decide +kernel
theorem dX8_settle_9 : decode cX8_settle 9 = .ok (.ifCond .eq 13, 3) := by decide +kernel
theorem dX8_settle_12 : decode cX8_settle 12 = .ok (.iload_n 2, 1) := by decide +kernel
theorem dX8_settle_13 : decode cX8_settle 13 = .ok (.i2l, 1) := by decide +kernel
theorem dX8_settle_14 : decode cX8_settle 14 = .ok (.lconst 0, 1) := by decide +kernel
theorem dX8_settle_15 : decode cX8_settle 15 = .ok (.lconst 1, 1) := by decide +kernel
theorem dX8_settle_16 : decode cX8_settle 16 = .ok (.invokestatic 69, 3) := by decide +kernel
theorem dX8_settle_19 : decode cX8_settle 19 = .ok (.ifCond .ne 5, 3) := by decide +kernel
theorem dX8_settle_22 : decode cX8_settle 22 = .ok (.iconst (-1), 1) := by decide +kernel
theorem dX8_settle_23 : decode cX8_settle 23 = .ok (.ireturn, 1) := by decide +kernel
theorem dX8_settle_24 : decode cX8_settle 24 = .ok (.iconst 0, 1) := by decide +kernel
theorem dX8_settle_25 : decode cX8_settle 25 = .ok (.istore_n 3, 1) := by decide +kernel
theorem dX8_settle_26 : decode cX8_settle 26 = .ok (.iload_n 3, 1) := by decide +kernel
theorem dX8_settle_27 : decode cX8_settle 27 = .ok (.bipush 100, 2) := by decide +kernel
theorem dX8_settle_29 : decode cX8_settle 29 = .ok (.if_icmp .ge 16, 3) := by decide +kernel
theorem dX8_settle_32 : decode cX8_settle 32 = .ok (.aload_n 0, 1) := by decide +kernel
theorem dX8_settle_33 : decode cX8_settle 33 = .ok (.getfield 46, 3) := by decide +kernel
theorem dX8_settle_36 : decode cX8_settle 36 = .ok (.iload_n 3, 1) := by decide +kernel
theorem dX8_settle_37 : decode cX8_settle 37 = .ok (.iconst 0, 1) := by decide +kernel
theorem dX8_settle_38 : decode cX8_settle 38 = .ok (.iastore, 1) := by decide +kernel
theorem dX8_settle_39 : decode cX8_settle 39 = .ok (.iinc 3 1, 3) := by decide +kernel
theorem dX8_settle_42 : decode cX8_settle 42 = .ok (.goto (-16), 3) := by decide +kernel
theorem dX8_settle_45 : decode cX8_settle 45 = .ok (.iload_n 1, 1) := by decide +kernel
theorem dX8_settle_46 : decode cX8_settle 46 = .ok (.istore_n 3, 1) := by decide +kernel
theorem dX8_settle_47 : decode cX8_settle 47 = .ok (.iconst 1, 1) := by decide +kernel
theorem dX8_settle_48 : decode cX8_settle 48 = .ok (.istore 4, 2) := by decide +kernel
theorem dX8_settle_50 : decode cX8_settle 50 = .ok (.aload_n 0, 1) := by decide +kernel
theorem dX8_settle_51 : decode cX8_settle 51 = .ok (.getfield 46, 3) := by decide +kernel
theorem dX8_settle_54 : decode cX8_settle 54 = .ok (.iload_n 1, 1) := by decide +kernel
theorem dX8_settle_55 : decode cX8_settle 55 = .ok (.iconst 1, 1) := by decide +kernel
theorem dX8_settle_56 : decode cX8_settle 56 = .ok (.iastore, 1) := by decide +kernel
theorem dX8_settle_57 : decode cX8_settle 57 = .ok (.aload_n 0, 1) := by decide +kernel
theorem dX8_settle_58 : decode cX8_settle 58 = .ok (.iload_n 3, 1) := by decide +kernel
theorem dX8_settle_59 : decode cX8_settle 59 = .ok (.invokevirtual 256, 3) := by decide +kernel
theorem dX8_settle_62 : decode cX8_settle 62 = .ok (.iload_n 3, 1) := by decide +kernel
theorem dX8_settle_63 : decode cX8_settle 63 = .ok (.if_icmp .eq 35, 3) := by decide +kernel
theorem dX8_settle_66 : decode cX8_settle 66 = .ok (.aload_n 0, 1) := by decide +kernel
theorem dX8_settle_67 : decode cX8_settle 67 = .ok (.iload_n 3, 1) := by decide +kernel
theorem dX8_settle_68 : decode cX8_settle 68 = .ok (.invokevirtual 256, 3) := by decide +kernel
theorem dX8_settle_71 : decode cX8_settle 71 = .ok (.istore_n 3, 1) := by decide +kernel
theorem dX8_settle_72 : decode cX8_settle 72 = .ok (.aload_n 0, 1) := by decide +kernel
theorem dX8_settle_73 : decode cX8_settle 73 = .ok (.getfield 46, 3) := by decide +kernel
theorem dX8_settle_76 : decode cX8_settle 76 = .ok (.iload_n 3, 1) := by decide +kernel
theorem dX8_settle_77 : decode cX8_settle 77 = .ok (.iaload, 1) := by decide +kernel
theorem dX8_settle_78 : decode cX8_settle 78 = .ok (.iconst 1, 1) := by decide +kernel
theorem dX8_settle_79 : decode cX8_settle 79 = .ok (.if_icmp .ne 6, 3) := by decide +kernel
theorem dX8_settle_82 : decode cX8_settle 82 = .ok (.bipush (-4), 2) := by decide +kernel
theorem dX8_settle_84 : decode cX8_settle 84 = .ok (.ireturn, 1) := by decide +kernel
theorem dX8_settle_85 : decode cX8_settle 85 = .ok (.aload_n 0, 1) := by decide +kernel
theorem dX8_settle_86 : decode cX8_settle 86 = .ok (.getfield 46, 3) := by decide +kernel
theorem dX8_settle_89 : decode cX8_settle 89 = .ok (.iload_n 3, 1) := by decide +kernel
theorem dX8_settle_90 : decode cX8_settle 90 = .ok (.iconst 1, 1) := by decide +kernel
theorem dX8_settle_91 : decode cX8_settle 91 = .ok (.iastore, 1) := by decide +kernel
theorem dX8_settle_92 : decode cX8_settle 92 = .ok (.iinc 4 1, 3) := by decide +kernel
theorem dX8_settle_95 : decode cX8_settle 95 = .ok (.goto (-38), 3) := by decide +kernel
theorem dX8_settle_98 : decode cX8_settle 98 = .ok (.iload_n 2, 1) := by decide +kernel
theorem dX8_settle_99 : decode cX8_settle 99 = .ok (.ifCond .ne 7, 3) := by decide +kernel
theorem dX8_settle_102 : decode cX8_settle 102 = .ok (.iload_n 3, 1) := by decide +kernel
theorem dX8_settle_103 : decode cX8_settle 103 = .ok (.goto 5, 3) := by decide +kernel
theorem dX8_settle_106 : decode cX8_settle 106 = .ok (.iload 4, 2) := by decide +kernel
theorem dX8_settle_108 : decode cX8_settle 108 = .ok (.ireturn, 1) := by decide +kernel
theorem dX8_test_0 : decode cX8_test 0 = .ok (.iload_n 1, 1) := by decide +kernel
theorem dX8_test_1 : decode cX8_test 1 = .ok (.i2l, 1) := by decide +kernel
theorem dX8_test_2 : decode cX8_test 2 = .ok (.lconst 1, 1) := by decide +kernel
theorem dX8_test_3 : decode cX8_test 3 = .ok (.iconst 1, 1) := by decide +kernel
theorem dX8_test_4 : decode cX8_test 4 = .ok (.aload_n 0, 1) := by decide +kernel
theorem dX8_test_5 : decode cX8_test 5 = .ok (.getfield 169, 3) := by decide +kernel
theorem dX8_test_8 : decode cX8_test 8 = .ok (.ishl, 1) := by decide +kernel
theorem dX8_test_9 : decode cX8_test 9 = .ok (.iconst 1, 1) := by decide +kernel
theorem dX8_test_10 : decode cX8_test 10 = .ok (.isub, 1) := by decide +kernel
theorem dX8_test_11 : decode cX8_test 11 = .ok (.i2l, 1) := by decide +kernel
theorem dX8_test_12 : decode cX8_test 12 = .ok (.invokestatic 69, 3) := by decide +kernel
theorem dX8_test_15 : decode cX8_test 15 = .ok (.ifCond .ne 5, 3) := by decide +kernel
theorem dX8_test_18 : decode cX8_test 18 = .ok (.iconst (-1), 1) := by decide +kernel
theorem dX8_test_19 : decode cX8_test 19 = .ok (.ireturn, 1) := by decide +kernel
theorem dX8_test_20 : decode cX8_test 20 = .ok (.aload_n 0, 1) := by decide +kernel
theorem dX8_test_21 : decode cX8_test 21 = .ok (.getfield 175, 3) := by decide +kernel
theorem dX8_test_24 : decode cX8_test 24 = .ok (.bipush 8, 2) := by decide +kernel
theorem dX8_test_26 : decode cX8_test 26 = .ok (.if_icmp .ne 6, 3) := by decide +kernel
theorem dX8_test_29 : decode cX8_test 29 = .ok (.bipush (-3), 2) := by decide +kernel
theorem dX8_test_31 : decode cX8_test 31 = .ok (.ireturn, 1) := by decide +kernel
theorem dX8_test_32 : decode cX8_test 32 = .ok (.aload_n 0, 1) := by decide +kernel
theorem dX8_test_33 : decode cX8_test 33 = .ok (.getfield 49, 3) := by decide +kernel
theorem dX8_test_36 : decode cX8_test 36 = .ok (.iconst 2, 1) := by decide +kernel
theorem dX8_test_37 : decode cX8_test 37 = .ok (.aload_n 0, 1) := by decide +kernel
theorem dX8_test_38 : decode cX8_test 38 = .ok (.getfield 175, 3) := by decide +kernel
theorem dX8_test_41 : decode cX8_test 41 = .ok (.imul, 1) := by decide +kernel
theorem dX8_test_42 : decode cX8_test 42 = .ok (.iload_n 1, 1) := by decide +kernel
theorem dX8_test_43 : decode cX8_test 43 = .ok (.iastore, 1) := by decide +kernel
theorem dX8_test_44 : decode cX8_test 44 = .ok (.aload_n 0, 1) := by decide +kernel
theorem dX8_test_45 : decode cX8_test 45 = .ok (.getfield 49, 3) := by decide +kernel
theorem dX8_test_48 : decode cX8_test 48 = .ok (.iconst 2, 1) := by decide +kernel
theorem dX8_test_49 : decode cX8_test 49 = .ok (.aload_n 0, 1) := by decide +kernel
theorem dX8_test_50 : decode cX8_test 50 = .ok (.getfield 175, 3) := by decide +kernel
theorem dX8_test_53 : decode cX8_test 53 = .ok (.imul, 1) := by decide +kernel
theorem dX8_test_54 : decode cX8_test 54 = .ok (.iconst 1, 1) := by decide +kernel
theorem dX8_test_55 : decode cX8_test 55 = .ok (.iadd, 1) := by decide +kernel
theorem dX8_test_56 : decode cX8_test 56 = .ok (.iload_n 2, 1) := by decide +kernel
theorem dX8_test_57 : decode cX8_test 57 = .ok (.ifCond .eq 7, 3) := by decide +kernel
theorem dX8_test_60 : decode cX8_test 60 = .ok (.iconst 1, 1) := by decide +kernel
theorem dX8_test_61 : decode cX8_test 61 = .ok (.goto 4, 3) := by decide +kernel
theorem dX8_test_64 : decode cX8_test 64 = .ok (.iconst 0, 1) := by decide +kernel
theorem dX8_test_65 : decode cX8_test 65 = .ok (.iastore, 1) := by decide +kernel
theorem dX8_test_66 : decode cX8_test 66 = .ok (.aload_n 0, 1) := by decide +kernel
theorem dX8_test_67 : decode cX8_test 67 = .ok (.dup, 1) := by decide +kernel
theorem dX8_test_68 : decode cX8_test 68 = .ok (.getfield 175, 3) := by decide +kernel
theorem dX8_test_71 : decode cX8_test 71 = .ok (.iconst 1, 1) := by decide +kernel
theorem dX8_test_72 : decode cX8_test 72 = .ok (.iadd, 1) := by decide +kernel
theorem dX8_test_73 : decode cX8_test 73 = .ok (.putfield 175, 3) := by decide +kernel
theorem dX8_test_76 : decode cX8_test 76 = .ok (.aload_n 0, 1) := by decide +kernel
theorem dX8_test_77 : decode cX8_test 77 = .ok (.getfield 175, 3) := by decide +kernel
theorem dX8_test_80 : decode cX8_test 80 = .ok (.ireturn, 1) := by decide +kernel
theorem dX8_untest_0 : decode cX8_untest 0 = .ok (.iload_n 1, 1) := by decide +kernel
theorem dX8_untest_1 : decode cX8_untest 1 = .ok (.i2l, 1) := by decide +kernel
theorem dX8_untest_2 : decode cX8_untest 2 = .ok (.lconst 0, 1) := by decide +kernel
theorem dX8_untest_3 : decode cX8_untest 3 = .ok (.aload_n 0, 1) := by decide +kernel
theorem dX8_untest_4 : decode cX8_untest 4 = .ok (.getfield 175, 3) := by decide +kernel
theorem dX8_untest_7 : decode cX8_untest 7 = .ok (.i2l, 1) := by decide +kernel
theorem dX8_untest_8 : decode cX8_untest 8 = .ok (.invokestatic 69, 3) := by decide +kernel
theorem dX8_untest_11 : decode cX8_untest 11 = .ok (.ifCond .ne 5, 3) := by decide +kernel
theorem dX8_untest_14 : decode cX8_untest 14 = .ok (.iconst (-1), 1) := by decide +kernel
theorem dX8_untest_15 : decode cX8_untest 15 = .ok (.ireturn, 1) := by decide +kernel
theorem dX8_untest_16 : decode cX8_untest 16 = .ok (.aload_n 0, 1) := by decide +kernel
theorem dX8_untest_17 : decode cX8_untest 17 = .ok (.getfield 175, 3) := by decide +kernel
theorem dX8_untest_20 : decode cX8_untest 20 = .ok (.istore_n 2, 1) := by decide +kernel
theorem dX8_untest_21 : decode cX8_untest 21 = .ok (.aload_n 0, 1) := by decide +kernel
theorem dX8_untest_22 : decode cX8_untest 22 = .ok (.iload_n 1, 1) := by decide +kernel
theorem dX8_untest_23 : decode cX8_untest 23 = .ok (.putfield 175, 3) := by decide +kernel
theorem dX8_untest_26 : decode cX8_untest 26 = .ok (.iload_n 2, 1) := by decide +kernel
theorem dX8_untest_27 : decode cX8_untest 27 = .ok (.ireturn, 1) := by decide +kernel
theorem dX8_canBeFalse_0 : decode cX8_canBeFalse 0 = .ok (.iconst 0, 1) := by decide +kernel
theorem dX8_canBeFalse_1 : decode cX8_canBeFalse 1 = .ok (.istore_n 3, 1) := by decide +kernel
theorem dX8_canBeFalse_2 : decode cX8_canBeFalse 2 = .ok (.iconst 0, 1) := by decide +kernel
theorem dX8_canBeFalse_3 : decode cX8_canBeFalse 3 = .ok (.istore 4, 2) := by decide +kernel
theorem dX8_canBeFalse_5 : decode cX8_canBeFalse 5 = .ok (.iload 4, 2) := by decide +kernel
theorem dX8_canBeFalse_7 : decode cX8_canBeFalse 7 = .ok (.aload_n 0, 1) := by decide +kernel
theorem dX8_canBeFalse_8 : decode cX8_canBeFalse 8 = .ok (.getfield 169, 3) := by decide +kernel
theorem dX8_canBeFalse_11 : decode cX8_canBeFalse 11 = .ok (.if_icmp .ge 18, 3) := by decide +kernel
theorem dX8_canBeFalse_14 : decode cX8_canBeFalse 14 = .ok (.iload_n 3, 1) := by decide +kernel
theorem dX8_canBeFalse_15 : decode cX8_canBeFalse 15 = .ok (.iload_n 1, 1) := by decide +kernel
theorem dX8_canBeFalse_16 : decode cX8_canBeFalse 16 = .ok (.iload 4, 2) := by decide +kernel
theorem dX8_canBeFalse_18 : decode cX8_canBeFalse 18 = .ok (.ishr, 1) := by decide +kernel
theorem dX8_canBeFalse_19 : decode cX8_canBeFalse 19 = .ok (.iconst 1, 1) := by decide +kernel
theorem dX8_canBeFalse_20 : decode cX8_canBeFalse 20 = .ok (.iand, 1) := by decide +kernel
theorem dX8_canBeFalse_21 : decode cX8_canBeFalse 21 = .ok (.iadd, 1) := by decide +kernel
theorem dX8_canBeFalse_22 : decode cX8_canBeFalse 22 = .ok (.istore_n 3, 1) := by decide +kernel
theorem dX8_canBeFalse_23 : decode cX8_canBeFalse 23 = .ok (.iinc 4 1, 3) := by decide +kernel
theorem dX8_canBeFalse_26 : decode cX8_canBeFalse 26 = .ok (.goto (-21), 3) := by decide +kernel
theorem dX8_canBeFalse_29 : decode cX8_canBeFalse 29 = .ok (.iload_n 3, 1) := by decide +kernel
theorem dX8_canBeFalse_30 : decode cX8_canBeFalse 30 = .ok (.iload_n 2, 1) := by decide +kernel
theorem dX8_canBeFalse_31 : decode cX8_canBeFalse 31 = .ok (.if_icmp .ne 7, 3) := by decide +kernel
theorem dX8_canBeFalse_34 : decode cX8_canBeFalse 34 = .ok (.iconst 1, 1) := by decide +kernel
theorem dX8_canBeFalse_35 : decode cX8_canBeFalse 35 = .ok (.goto 4, 3) := by decide +kernel
theorem dX8_canBeFalse_38 : decode cX8_canBeFalse 38 = .ok (.iconst 0, 1) := by decide +kernel
theorem dX8_canBeFalse_39 : decode cX8_canBeFalse 39 = .ok (.istore 4, 2) := by decide +kernel
theorem dX8_canBeFalse_41 : decode cX8_canBeFalse 41 = .ok (.iconst 0, 1) := by decide +kernel
theorem dX8_canBeFalse_42 : decode cX8_canBeFalse 42 = .ok (.istore 5, 2) := by decide +kernel
theorem dX8_canBeFalse_44 : decode cX8_canBeFalse 44 = .ok (.iload 5, 2) := by decide +kernel
theorem dX8_canBeFalse_46 : decode cX8_canBeFalse 46 = .ok (.aload_n 0, 1) := by decide +kernel
theorem dX8_canBeFalse_47 : decode cX8_canBeFalse 47 = .ok (.getfield 175, 3) := by decide +kernel
theorem dX8_canBeFalse_50 : decode cX8_canBeFalse 50 = .ok (.if_icmp .ge 63, 3) := by decide +kernel
theorem dX8_canBeFalse_53 : decode cX8_canBeFalse 53 = .ok (.iload 4, 2) := by decide +kernel
theorem dX8_canBeFalse_55 : decode cX8_canBeFalse 55 = .ok (.ifCond .eq 49, 3) := by decide +kernel
theorem dX8_canBeFalse_58 : decode cX8_canBeFalse 58 = .ok (.iload_n 1, 1) := by decide +kernel
theorem dX8_canBeFalse_59 : decode cX8_canBeFalse 59 = .ok (.aload_n 0, 1) := by decide +kernel
theorem dX8_canBeFalse_60 : decode cX8_canBeFalse 60 = .ok (.getfield 49, 3) := by decide +kernel
theorem dX8_canBeFalse_63 : decode cX8_canBeFalse 63 = .ok (.iconst 2, 1) := by decide +kernel
theorem dX8_canBeFalse_64 : decode cX8_canBeFalse 64 = .ok (.iload 5, 2) := by decide +kernel
theorem dX8_canBeFalse_66 : decode cX8_canBeFalse 66 = .ok (.imul, 1) := by decide +kernel
theorem dX8_canBeFalse_67 : decode cX8_canBeFalse 67 = .ok (.iaload, 1) := by decide +kernel
theorem dX8_canBeFalse_68 : decode cX8_canBeFalse 68 = .ok (.iand, 1) := by decide +kernel
theorem dX8_canBeFalse_69 : decode cX8_canBeFalse 69 = .ok (.ifCond .eq 7, 3) := by decide +kernel
theorem dX8_canBeFalse_72 : decode cX8_canBeFalse 72 = .ok (.iconst 1, 1) := by decide +kernel
theorem dX8_canBeFalse_73 : decode cX8_canBeFalse 73 = .ok (.goto 4, 3) := by decide +kernel
theorem dX8_canBeFalse_76 : decode cX8_canBeFalse 76 = .ok (.iconst 0, 1) := by decide +kernel
theorem dX8_canBeFalse_77 : decode cX8_canBeFalse 77 = .ok (.aload_n 0, 1) := by decide +kernel
theorem dX8_canBeFalse_78 : decode cX8_canBeFalse 78 = .ok (.getfield 49, 3) := by decide +kernel
theorem dX8_canBeFalse_81 : decode cX8_canBeFalse 81 = .ok (.iconst 2, 1) := by decide +kernel
theorem dX8_canBeFalse_82 : decode cX8_canBeFalse 82 = .ok (.iload 5, 2) := by decide +kernel
theorem dX8_canBeFalse_84 : decode cX8_canBeFalse 84 = .ok (.imul, 1) := by decide +kernel
theorem dX8_canBeFalse_85 : decode cX8_canBeFalse 85 = .ok (.iconst 1, 1) := by decide +kernel
theorem dX8_canBeFalse_86 : decode cX8_canBeFalse 86 = .ok (.iadd, 1) := by decide +kernel
theorem dX8_canBeFalse_87 : decode cX8_canBeFalse 87 = .ok (.iaload, 1) := by decide +kernel
theorem dX8_canBeFalse_88 : decode cX8_canBeFalse 88 = .ok (.iconst 1, 1) := by decide +kernel
theorem dX8_canBeFalse_89 : decode cX8_canBeFalse 89 = .ok (.if_icmp .ne 7, 3) := by decide +kernel
theorem dX8_canBeFalse_92 : decode cX8_canBeFalse 92 = .ok (.iconst 1, 1) := by decide +kernel
theorem dX8_canBeFalse_93 : decode cX8_canBeFalse 93 = .ok (.goto 4, 3) := by decide +kernel
theorem dX8_canBeFalse_96 : decode cX8_canBeFalse 96 = .ok (.iconst 0, 1) := by decide +kernel
theorem dX8_canBeFalse_97 : decode cX8_canBeFalse 97 = .ok (.if_icmp .ne 7, 3) := by decide +kernel
theorem dX8_canBeFalse_100 : decode cX8_canBeFalse 100 = .ok (.iconst 1, 1) := by decide +kernel
theorem dX8_canBeFalse_101 : decode cX8_canBeFalse 101 = .ok (.goto 4, 3) := by decide +kernel
theorem dX8_canBeFalse_104 : decode cX8_canBeFalse 104 = .ok (.iconst 0, 1) := by decide +kernel
theorem dX8_canBeFalse_105 : decode cX8_canBeFalse 105 = .ok (.istore 4, 2) := by decide +kernel
theorem dX8_canBeFalse_107 : decode cX8_canBeFalse 107 = .ok (.iinc 5 1, 3) := by decide +kernel
theorem dX8_canBeFalse_110 : decode cX8_canBeFalse 110 = .ok (.goto (-66), 3) := by decide +kernel
theorem dX8_canBeFalse_113 : decode cX8_canBeFalse 113 = .ok (.iload 4, 2) := by decide +kernel
theorem dX8_canBeFalse_115 : decode cX8_canBeFalse 115 = .ok (.ireturn, 1) := by decide +kernel
theorem dX8_fakes_0 : decode cX8_fakes 0 = .ok (.iload_n 1, 1) := by decide +kernel
theorem dX8_fakes_1 : decode cX8_fakes 1 = .ok (.i2l, 1) := by decide +kernel
theorem dX8_fakes_2 : decode cX8_fakes 2 = .ok (.lconst 0, 1) := by decide +kernel
theorem dX8_fakes_3 : decode cX8_fakes 3 = .ok (.ldc2_w 217, 3) := by decide +kernel
theorem dX8_fakes_6 : decode cX8_fakes 6 = .ok (.invokestatic 69, 3) := by decide +kernel
theorem dX8_fakes_9 : decode cX8_fakes 9 = .ok (.ifCond .eq 15, 3) := by decide +kernel
theorem dX8_fakes_12 : decode cX8_fakes 12 = .ok (.iload_n 2, 1) := by decide +kernel
theorem dX8_fakes_13 : decode cX8_fakes 13 = .ok (.i2l, 1) := by decide +kernel
theorem dX8_fakes_14 : decode cX8_fakes 14 = .ok (.lconst 0, 1) := by decide +kernel
theorem dX8_fakes_15 : decode cX8_fakes 15 = .ok (.ldc2_w 217, 3) := by decide +kernel
theorem dX8_fakes_18 : decode cX8_fakes 18 = .ok (.invokestatic 69, 3) := by decide +kernel
theorem dX8_fakes_21 : decode cX8_fakes 21 = .ok (.ifCond .ne 5, 3) := by decide +kernel
theorem dX8_fakes_24 : decode cX8_fakes 24 = .ok (.iconst (-1), 1) := by decide +kernel
theorem dX8_fakes_25 : decode cX8_fakes 25 = .ok (.ireturn, 1) := by decide +kernel
theorem dX8_fakes_26 : decode cX8_fakes 26 = .ok (.iconst 0, 1) := by decide +kernel
theorem dX8_fakes_27 : decode cX8_fakes 27 = .ok (.istore_n 3, 1) := by decide +kernel
theorem dX8_fakes_28 : decode cX8_fakes 28 = .ok (.bipush (-4), 2) := by decide +kernel
theorem dX8_fakes_30 : decode cX8_fakes 30 = .ok (.istore 4, 2) := by decide +kernel
theorem dX8_fakes_32 : decode cX8_fakes 32 = .ok (.iconst 1, 1) := by decide +kernel
theorem dX8_fakes_33 : decode cX8_fakes 33 = .ok (.aload_n 0, 1) := by decide +kernel
theorem dX8_fakes_34 : decode cX8_fakes 34 = .ok (.getfield 169, 3) := by decide +kernel
theorem dX8_fakes_37 : decode cX8_fakes 37 = .ok (.ishl, 1) := by decide +kernel
theorem dX8_fakes_38 : decode cX8_fakes 38 = .ok (.iconst 1, 1) := by decide +kernel
theorem dX8_fakes_39 : decode cX8_fakes 39 = .ok (.isub, 1) := by decide +kernel
theorem dX8_fakes_40 : decode cX8_fakes 40 = .ok (.istore 5, 2) := by decide +kernel
theorem dX8_fakes_42 : decode cX8_fakes 42 = .ok (.iconst 0, 1) := by decide +kernel
theorem dX8_fakes_43 : decode cX8_fakes 43 = .ok (.istore 6, 2) := by decide +kernel
theorem dX8_fakes_45 : decode cX8_fakes 45 = .ok (.iconst 0, 1) := by decide +kernel
theorem dX8_fakes_46 : decode cX8_fakes 46 = .ok (.istore 7, 2) := by decide +kernel
theorem dX8_fakes_48 : decode cX8_fakes 48 = .ok (.iload 7, 2) := by decide +kernel
theorem dX8_fakes_50 : decode cX8_fakes 50 = .ok (.iconst 1, 1) := by decide +kernel
theorem dX8_fakes_51 : decode cX8_fakes 51 = .ok (.aload_n 0, 1) := by decide +kernel
theorem dX8_fakes_52 : decode cX8_fakes 52 = .ok (.getfield 169, 3) := by decide +kernel
theorem dX8_fakes_55 : decode cX8_fakes 55 = .ok (.ishl, 1) := by decide +kernel
theorem dX8_fakes_56 : decode cX8_fakes 56 = .ok (.if_icmp .ge 49, 3) := by decide +kernel
theorem dX8_fakes_59 : decode cX8_fakes 59 = .ok (.aload_n 0, 1) := by decide +kernel
theorem dX8_fakes_60 : decode cX8_fakes 60 = .ok (.iload 7, 2) := by decide +kernel
theorem dX8_fakes_62 : decode cX8_fakes 62 = .ok (.iload_n 1, 1) := by decide +kernel
theorem dX8_fakes_63 : decode cX8_fakes 63 = .ok (.invokevirtual 259, 3) := by decide +kernel
theorem dX8_fakes_66 : decode cX8_fakes 66 = .ok (.ifCond .eq 33, 3) := by decide +kernel
theorem dX8_fakes_69 : decode cX8_fakes 69 = .ok (.iload_n 3, 1) := by decide +kernel
theorem dX8_fakes_70 : decode cX8_fakes 70 = .ok (.ifCond .ne 8, 3) := by decide +kernel
theorem dX8_fakes_73 : decode cX8_fakes 73 = .ok (.iload 7, 2) := by decide +kernel
theorem dX8_fakes_75 : decode cX8_fakes 75 = .ok (.goto 5, 3) := by decide +kernel
theorem dX8_fakes_78 : decode cX8_fakes 78 = .ok (.iload 4, 2) := by decide +kernel
theorem dX8_fakes_80 : decode cX8_fakes 80 = .ok (.istore 4, 2) := by decide +kernel
theorem dX8_fakes_82 : decode cX8_fakes 82 = .ok (.iload 5, 2) := by decide +kernel
theorem dX8_fakes_84 : decode cX8_fakes 84 = .ok (.iload 7, 2) := by decide +kernel
theorem dX8_fakes_86 : decode cX8_fakes 86 = .ok (.iand, 1) := by decide +kernel
theorem dX8_fakes_87 : decode cX8_fakes 87 = .ok (.istore 5, 2) := by decide +kernel
theorem dX8_fakes_89 : decode cX8_fakes 89 = .ok (.iload 6, 2) := by decide +kernel
theorem dX8_fakes_91 : decode cX8_fakes 91 = .ok (.iload 7, 2) := by decide +kernel
theorem dX8_fakes_93 : decode cX8_fakes 93 = .ok (.ior, 1) := by decide +kernel
theorem dX8_fakes_94 : decode cX8_fakes 94 = .ok (.istore 6, 2) := by decide +kernel
theorem dX8_fakes_96 : decode cX8_fakes 96 = .ok (.iinc 3 1, 3) := by decide +kernel
theorem dX8_fakes_99 : decode cX8_fakes 99 = .ok (.iinc 7 1, 3) := by decide +kernel
theorem dX8_fakes_102 : decode cX8_fakes 102 = .ok (.goto (-54), 3) := by decide +kernel
theorem dX8_fakes_105 : decode cX8_fakes 105 = .ok (.iload_n 2, 1) := by decide +kernel
theorem dX8_fakes_106 : decode cX8_fakes 106 = .ok (.ifCond .ne 7, 3) := by decide +kernel
theorem dX8_fakes_109 : decode cX8_fakes 109 = .ok (.iload_n 3, 1) := by decide +kernel
theorem dX8_fakes_110 : decode cX8_fakes 110 = .ok (.goto 45, 3) := by decide +kernel
theorem dX8_fakes_113 : decode cX8_fakes 113 = .ok (.iload_n 3, 1) := by decide +kernel
theorem dX8_fakes_114 : decode cX8_fakes 114 = .ok (.ifCond .ne 8, 3) := by decide +kernel
theorem dX8_fakes_117 : decode cX8_fakes 117 = .ok (.bipush (-4), 2) := by decide +kernel
theorem dX8_fakes_119 : decode cX8_fakes 119 = .ok (.goto 36, 3) := by decide +kernel
theorem dX8_fakes_122 : decode cX8_fakes 122 = .ok (.iload_n 2, 1) := by decide +kernel
theorem dX8_fakes_123 : decode cX8_fakes 123 = .ok (.iconst 1, 1) := by decide +kernel
theorem dX8_fakes_124 : decode cX8_fakes 124 = .ok (.if_icmp .ne 8, 3) := by decide +kernel
theorem dX8_fakes_127 : decode cX8_fakes 127 = .ok (.iload 4, 2) := by decide +kernel
theorem dX8_fakes_129 : decode cX8_fakes 129 = .ok (.goto 26, 3) := by decide +kernel
theorem dX8_fakes_132 : decode cX8_fakes 132 = .ok (.iload_n 2, 1) := by decide +kernel
theorem dX8_fakes_133 : decode cX8_fakes 133 = .ok (.iconst 2, 1) := by decide +kernel
theorem dX8_fakes_134 : decode cX8_fakes 134 = .ok (.if_icmp .ne 8, 3) := by decide +kernel
theorem dX8_fakes_137 : decode cX8_fakes 137 = .ok (.iload 5, 2) := by decide +kernel
theorem dX8_fakes_139 : decode cX8_fakes 139 = .ok (.goto 16, 3) := by decide +kernel
theorem dX8_fakes_142 : decode cX8_fakes 142 = .ok (.iconst 1, 1) := by decide +kernel
theorem dX8_fakes_143 : decode cX8_fakes 143 = .ok (.aload_n 0, 1) := by decide +kernel
theorem dX8_fakes_144 : decode cX8_fakes 144 = .ok (.getfield 169, 3) := by decide +kernel
theorem dX8_fakes_147 : decode cX8_fakes 147 = .ok (.ishl, 1) := by decide +kernel
theorem dX8_fakes_148 : decode cX8_fakes 148 = .ok (.iconst 1, 1) := by decide +kernel
theorem dX8_fakes_149 : decode cX8_fakes 149 = .ok (.isub, 1) := by decide +kernel
theorem dX8_fakes_150 : decode cX8_fakes 150 = .ok (.iload 6, 2) := by decide +kernel
theorem dX8_fakes_152 : decode cX8_fakes 152 = .ok (.iconst (-1), 1) := by decide +kernel
theorem dX8_fakes_153 : decode cX8_fakes 153 = .ok (.ixor, 1) := by decide +kernel
theorem dX8_fakes_154 : decode cX8_fakes 154 = .ok (.iand, 1) := by decide +kernel
theorem dX8_fakes_155 : decode cX8_fakes 155 = .ok (.ireturn, 1) := by decide +kernel
theorem dX8_next_0 : decode cX8_next 0 = .ok (.iload_n 1, 1) := by decide +kernel
theorem dX8_next_1 : decode cX8_next 1 = .ok (.i2l, 1) := by decide +kernel
theorem dX8_next_2 : decode cX8_next 2 = .ok (.lconst 0, 1) := by decide +kernel
theorem dX8_next_3 : decode cX8_next 3 = .ok (.ldc2_w 217, 3) := by decide +kernel
theorem dX8_next_6 : decode cX8_next 6 = .ok (.invokestatic 69, 3) := by decide +kernel
theorem dX8_next_9 : decode cX8_next 9 = .ok (.ifCond .eq 13, 3) := by decide +kernel
theorem dX8_next_12 : decode cX8_next 12 = .ok (.iload_n 2, 1) := by decide +kernel
theorem dX8_next_13 : decode cX8_next 13 = .ok (.i2l, 1) := by decide +kernel
theorem dX8_next_14 : decode cX8_next 14 = .ok (.lconst 0, 1) := by decide +kernel
theorem dX8_next_15 : decode cX8_next 15 = .ok (.lconst 1, 1) := by decide +kernel
theorem dX8_next_16 : decode cX8_next 16 = .ok (.invokestatic 69, 3) := by decide +kernel
theorem dX8_next_19 : decode cX8_next 19 = .ok (.ifCond .ne 5, 3) := by decide +kernel
theorem dX8_next_22 : decode cX8_next 22 = .ok (.iconst (-1), 1) := by decide +kernel
theorem dX8_next_23 : decode cX8_next 23 = .ok (.ireturn, 1) := by decide +kernel
theorem dX8_next_24 : decode cX8_next 24 = .ok (.aload_n 0, 1) := by decide +kernel
theorem dX8_next_25 : decode cX8_next 25 = .ok (.iload_n 1, 1) := by decide +kernel
theorem dX8_next_26 : decode cX8_next 26 = .ok (.iconst 0, 1) := by decide +kernel
theorem dX8_next_27 : decode cX8_next 27 = .ok (.invokevirtual 262, 3) := by decide +kernel
theorem dX8_next_30 : decode cX8_next 30 = .ok (.istore_n 3, 1) := by decide +kernel
theorem dX8_next_31 : decode cX8_next 31 = .ok (.iload_n 3, 1) := by decide +kernel
theorem dX8_next_32 : decode cX8_next 32 = .ok (.istore 4, 2) := by decide +kernel
theorem dX8_next_34 : decode cX8_next 34 = .ok (.bipush (-4), 2) := by decide +kernel
theorem dX8_next_36 : decode cX8_next 36 = .ok (.istore 5, 2) := by decide +kernel
theorem dX8_next_38 : decode cX8_next 38 = .ok (.iconst 1, 1) := by decide +kernel
theorem dX8_next_39 : decode cX8_next 39 = .ok (.istore 6, 2) := by decide +kernel
theorem dX8_next_41 : decode cX8_next 41 = .ok (.iload 6, 2) := by decide +kernel
theorem dX8_next_43 : decode cX8_next 43 = .ok (.iconst 1, 1) := by decide +kernel
theorem dX8_next_44 : decode cX8_next 44 = .ok (.aload_n 0, 1) := by decide +kernel
theorem dX8_next_45 : decode cX8_next 45 = .ok (.getfield 169, 3) := by decide +kernel
theorem dX8_next_48 : decode cX8_next 48 = .ok (.ishl, 1) := by decide +kernel
theorem dX8_next_49 : decode cX8_next 49 = .ok (.if_icmp .ge 112, 3) := by decide +kernel
theorem dX8_next_52 : decode cX8_next 52 = .ok (.iconst 0, 1) := by decide +kernel
theorem dX8_next_53 : decode cX8_next 53 = .ok (.istore 7, 2) := by decide +kernel
theorem dX8_next_55 : decode cX8_next 55 = .ok (.iconst 0, 1) := by decide +kernel
theorem dX8_next_56 : decode cX8_next 56 = .ok (.istore 8, 2) := by decide +kernel
theorem dX8_next_58 : decode cX8_next 58 = .ok (.iload 8, 2) := by decide +kernel
theorem dX8_next_60 : decode cX8_next 60 = .ok (.iconst 1, 1) := by decide +kernel
theorem dX8_next_61 : decode cX8_next 61 = .ok (.aload_n 0, 1) := by decide +kernel
theorem dX8_next_62 : decode cX8_next 62 = .ok (.getfield 169, 3) := by decide +kernel
theorem dX8_next_65 : decode cX8_next 65 = .ok (.ishl, 1) := by decide +kernel
theorem dX8_next_66 : decode cX8_next 66 = .ok (.if_icmp .ge 37, 3) := by decide +kernel
theorem dX8_next_69 : decode cX8_next 69 = .ok (.iload 7, 2) := by decide +kernel
theorem dX8_next_71 : decode cX8_next 71 = .ok (.iload 8, 2) := by decide +kernel
theorem dX8_next_73 : decode cX8_next 73 = .ok (.iload 6, 2) := by decide +kernel
theorem dX8_next_75 : decode cX8_next 75 = .ok (.iand, 1) := by decide +kernel
theorem dX8_next_76 : decode cX8_next 76 = .ok (.ifCond .eq 17, 3) := by decide +kernel
theorem dX8_next_79 : decode cX8_next 79 = .ok (.aload_n 0, 1) := by decide +kernel
theorem dX8_next_80 : decode cX8_next 80 = .ok (.iload 8, 2) := by decide +kernel
theorem dX8_next_82 : decode cX8_next 82 = .ok (.iload_n 1, 1) := by decide +kernel
theorem dX8_next_83 : decode cX8_next 83 = .ok (.invokevirtual 259, 3) := by decide +kernel
theorem dX8_next_86 : decode cX8_next 86 = .ok (.ifCond .eq 7, 3) := by decide +kernel
theorem dX8_next_89 : decode cX8_next 89 = .ok (.iconst 1, 1) := by decide +kernel
theorem dX8_next_90 : decode cX8_next 90 = .ok (.goto 4, 3) := by decide +kernel
theorem dX8_next_93 : decode cX8_next 93 = .ok (.iconst 0, 1) := by decide +kernel
theorem dX8_next_94 : decode cX8_next 94 = .ok (.iadd, 1) := by decide +kernel
theorem dX8_next_95 : decode cX8_next 95 = .ok (.istore 7, 2) := by decide +kernel
theorem dX8_next_97 : decode cX8_next 97 = .ok (.iinc 8 1, 3) := by decide +kernel
theorem dX8_next_100 : decode cX8_next 100 = .ok (.goto (-42), 3) := by decide +kernel
theorem dX8_next_103 : decode cX8_next 103 = .ok (.iload 7, 2) := by decide +kernel
theorem dX8_next_105 : decode cX8_next 105 = .ok (.iload_n 3, 1) := by decide +kernel
theorem dX8_next_106 : decode cX8_next 106 = .ok (.iload 7, 2) := by decide +kernel
theorem dX8_next_108 : decode cX8_next 108 = .ok (.isub, 1) := by decide +kernel
theorem dX8_next_109 : decode cX8_next 109 = .ok (.if_icmp .le 8, 3) := by decide +kernel
theorem dX8_next_112 : decode cX8_next 112 = .ok (.iload 7, 2) := by decide +kernel
theorem dX8_next_114 : decode cX8_next 114 = .ok (.goto 7, 3) := by decide +kernel
theorem dX8_next_117 : decode cX8_next 117 = .ok (.iload_n 3, 1) := by decide +kernel
theorem dX8_next_118 : decode cX8_next 118 = .ok (.iload 7, 2) := by decide +kernel
theorem dX8_next_120 : decode cX8_next 120 = .ok (.isub, 1) := by decide +kernel
theorem dX8_next_121 : decode cX8_next 121 = .ok (.istore 8, 2) := by decide +kernel
theorem dX8_next_123 : decode cX8_next 123 = .ok (.iload 8, 2) := by decide +kernel
theorem dX8_next_125 : decode cX8_next 125 = .ok (.iload 4, 2) := by decide +kernel
theorem dX8_next_127 : decode cX8_next 127 = .ok (.if_icmp .ge 8, 3) := by decide +kernel
theorem dX8_next_130 : decode cX8_next 130 = .ok (.iload 6, 2) := by decide +kernel
theorem dX8_next_132 : decode cX8_next 132 = .ok (.goto 5, 3) := by decide +kernel
theorem dX8_next_135 : decode cX8_next 135 = .ok (.iload 5, 2) := by decide +kernel
theorem dX8_next_137 : decode cX8_next 137 = .ok (.istore 5, 2) := by decide +kernel
theorem dX8_next_139 : decode cX8_next 139 = .ok (.iload 8, 2) := by decide +kernel
theorem dX8_next_141 : decode cX8_next 141 = .ok (.iload 4, 2) := by decide +kernel
theorem dX8_next_143 : decode cX8_next 143 = .ok (.if_icmp .ge 8, 3) := by decide +kernel
theorem dX8_next_146 : decode cX8_next 146 = .ok (.iload 8, 2) := by decide +kernel
theorem dX8_next_148 : decode cX8_next 148 = .ok (.goto 5, 3) := by decide +kernel
theorem dX8_next_151 : decode cX8_next 151 = .ok (.iload 4, 2) := by decide +kernel
theorem dX8_next_153 : decode cX8_next 153 = .ok (.istore 4, 2) := by decide +kernel
theorem dX8_next_155 : decode cX8_next 155 = .ok (.iinc 6 1, 3) := by decide +kernel
theorem dX8_next_158 : decode cX8_next 158 = .ok (.goto (-117), 3) := by decide +kernel
theorem dX8_next_161 : decode cX8_next 161 = .ok (.iload 5, 2) := by decide +kernel
theorem dX8_next_163 : decode cX8_next 163 = .ok (.bipush (-4), 2) := by decide +kernel
theorem dX8_next_165 : decode cX8_next 165 = .ok (.if_icmp .eq 7, 3) := by decide +kernel
theorem dX8_next_168 : decode cX8_next 168 = .ok (.iload_n 2, 1) := by decide +kernel
theorem dX8_next_169 : decode cX8_next 169 = .ok (.ifCond .ne 8, 3) := by decide +kernel
theorem dX8_next_172 : decode cX8_next 172 = .ok (.iload 5, 2) := by decide +kernel
theorem dX8_next_174 : decode cX8_next 174 = .ok (.goto 5, 3) := by decide +kernel
theorem dX8_next_177 : decode cX8_next 177 = .ok (.iload 4, 2) := by decide +kernel
theorem dX8_next_179 : decode cX8_next 179 = .ok (.ireturn, 1) := by decide +kernel
theorem dX8_draws_0 : decode cX8_draws 0 = .ok (.aload_n 0, 1) := by decide +kernel
theorem dX8_draws_1 : decode cX8_draws 1 = .ok (.aload_n 0, 1) := by decide +kernel
theorem dX8_draws_2 : decode cX8_draws 2 = .ok (.getfield 265, 3) := by decide +kernel
theorem dX8_draws_5 : decode cX8_draws 5 = .ok (.ldc_w 268, 3) := by decide +kernel
theorem dX8_draws_8 : decode cX8_draws 8 = .ok (.imul, 1) := by decide +kernel
theorem dX8_draws_9 : decode cX8_draws 9 = .ok (.sipush 12345, 3) := by decide +kernel
theorem dX8_draws_12 : decode cX8_draws 12 = .ok (.iadd, 1) := by decide +kernel
theorem dX8_draws_13 : decode cX8_draws 13 = .ok (.putfield 265, 3) := by decide +kernel
theorem dX8_draws_16 : decode cX8_draws 16 = .ok (.aload_n 0, 1) := by decide +kernel
theorem dX8_draws_17 : decode cX8_draws 17 = .ok (.getfield 265, 3) := by decide +kernel
theorem dX8_draws_20 : decode cX8_draws 20 = .ok (.bipush 16, 2) := by decide +kernel
theorem dX8_draws_22 : decode cX8_draws 22 = .ok (.ishr, 1) := by decide +kernel
theorem dX8_draws_23 : decode cX8_draws 23 = .ok (.sipush 32767, 3) := by decide +kernel
theorem dX8_draws_26 : decode cX8_draws 26 = .ok (.iand, 1) := by decide +kernel
theorem dX8_draws_27 : decode cX8_draws 27 = .ok (.iload_n 1, 1) := by decide +kernel
theorem dX8_draws_28 : decode cX8_draws 28 = .ok (.irem, 1) := by decide +kernel
theorem dX8_draws_29 : decode cX8_draws 29 = .ok (.ireturn, 1) := by decide +kernel
theorem dX8_chatter_0 : decode cX8_chatter 0 = .ok (.iload_n 2, 1) := by decide +kernel
theorem dX8_chatter_1 : decode cX8_chatter 1 = .ok (.i2l, 1) := by decide +kernel
theorem dX8_chatter_2 : decode cX8_chatter 2 = .ok (.lconst 1, 1) := by decide +kernel
theorem dX8_chatter_3 : decode cX8_chatter 3 = .ok (.ldc2_w 269, 3) := by decide +kernel
theorem dX8_chatter_6 : decode cX8_chatter 6 = .ok (.invokestatic 69, 3) := by decide +kernel
theorem dX8_chatter_9 : decode cX8_chatter 9 = .ok (.ifCond .ne 5, 3) := by decide +kernel
theorem dX8_chatter_12 : decode cX8_chatter 12 = .ok (.iconst (-1), 1) := by decide +kernel
theorem dX8_chatter_13 : decode cX8_chatter 13 = .ok (.ireturn, 1) := by decide +kernel
theorem dX8_chatter_14 : decode cX8_chatter 14 = .ok (.aload_n 0, 1) := by decide +kernel
theorem dX8_chatter_15 : decode cX8_chatter 15 = .ok (.getfield 166, 3) := by decide +kernel
theorem dX8_chatter_18 : decode cX8_chatter 18 = .ok (.ifCond .ne 6, 3) := by decide +kernel
theorem dX8_chatter_21 : decode cX8_chatter 21 = .ok (.bipush (-2), 2) := by decide +kernel
theorem dX8_chatter_23 : decode cX8_chatter 23 = .ok (.ireturn, 1) := by decide +kernel
theorem dX8_chatter_24 : decode cX8_chatter 24 = .ok (.aload_n 0, 1) := by decide +kernel
theorem dX8_chatter_25 : decode cX8_chatter 25 = .ok (.iload_n 1, 1) := by decide +kernel
theorem dX8_chatter_26 : decode cX8_chatter 26 = .ok (.putfield 265, 3) := by decide +kernel
theorem dX8_chatter_29 : decode cX8_chatter 29 = .ok (.iconst 0, 1) := by decide +kernel
theorem dX8_chatter_30 : decode cX8_chatter 30 = .ok (.istore_n 3, 1) := by decide +kernel
theorem dX8_chatter_31 : decode cX8_chatter 31 = .ok (.iconst 0, 1) := by decide +kernel
theorem dX8_chatter_32 : decode cX8_chatter 32 = .ok (.istore 4, 2) := by decide +kernel
theorem dX8_chatter_34 : decode cX8_chatter 34 = .ok (.iload 4, 2) := by decide +kernel
theorem dX8_chatter_36 : decode cX8_chatter 36 = .ok (.iload_n 2, 1) := by decide +kernel
theorem dX8_chatter_37 : decode cX8_chatter 37 = .ok (.if_icmp .ge 65, 3) := by decide +kernel
theorem dX8_chatter_40 : decode cX8_chatter 40 = .ok (.aload_n 0, 1) := by decide +kernel
theorem dX8_chatter_41 : decode cX8_chatter 41 = .ok (.bipush 12, 2) := by decide +kernel
theorem dX8_chatter_43 : decode cX8_chatter 43 = .ok (.invokevirtual 271, 3) := by decide +kernel
theorem dX8_chatter_46 : decode cX8_chatter 46 = .ok (.istore 5, 2) := by decide +kernel
theorem dX8_chatter_48 : decode cX8_chatter 48 = .ok (.aload_n 0, 1) := by decide +kernel
theorem dX8_chatter_49 : decode cX8_chatter 49 = .ok (.aload_n 0, 1) := by decide +kernel
theorem dX8_chatter_50 : decode cX8_chatter 50 = .ok (.getfield 166, 3) := by decide +kernel
theorem dX8_chatter_53 : decode cX8_chatter 53 = .ok (.invokevirtual 271, 3) := by decide +kernel
theorem dX8_chatter_56 : decode cX8_chatter 56 = .ok (.istore 6, 2) := by decide +kernel
theorem dX8_chatter_58 : decode cX8_chatter 58 = .ok (.aload_n 0, 1) := by decide +kernel
theorem dX8_chatter_59 : decode cX8_chatter 59 = .ok (.aload_n 0, 1) := by decide +kernel
theorem dX8_chatter_60 : decode cX8_chatter 60 = .ok (.getfield 166, 3) := by decide +kernel
theorem dX8_chatter_63 : decode cX8_chatter 63 = .ok (.invokevirtual 271, 3) := by decide +kernel
theorem dX8_chatter_66 : decode cX8_chatter 66 = .ok (.istore 7, 2) := by decide +kernel
theorem dX8_chatter_68 : decode cX8_chatter 68 = .ok (.iload_n 3, 1) := by decide +kernel
theorem dX8_chatter_69 : decode cX8_chatter 69 = .ok (.iload 6, 2) := by decide +kernel
theorem dX8_chatter_71 : decode cX8_chatter 71 = .ok (.iload 7, 2) := by decide +kernel
theorem dX8_chatter_73 : decode cX8_chatter 73 = .ok (.if_icmp .eq 20, 3) := by decide +kernel
theorem dX8_chatter_76 : decode cX8_chatter 76 = .ok (.aload_n 0, 1) := by decide +kernel
theorem dX8_chatter_77 : decode cX8_chatter 77 = .ok (.iload 5, 2) := by decide +kernel
theorem dX8_chatter_79 : decode cX8_chatter 79 = .ok (.iload 6, 2) := by decide +kernel
theorem dX8_chatter_81 : decode cX8_chatter 81 = .ok (.iload 7, 2) := by decide +kernel
theorem dX8_chatter_83 : decode cX8_chatter 83 = .ok (.invokevirtual 213, 3) := by decide +kernel
theorem dX8_chatter_86 : decode cX8_chatter 86 = .ok (.ifCond .eq 7, 3) := by decide +kernel
theorem dX8_chatter_89 : decode cX8_chatter 89 = .ok (.iconst 1, 1) := by decide +kernel
theorem dX8_chatter_90 : decode cX8_chatter 90 = .ok (.goto 4, 3) := by decide +kernel
theorem dX8_chatter_93 : decode cX8_chatter 93 = .ok (.iconst 0, 1) := by decide +kernel
theorem dX8_chatter_94 : decode cX8_chatter 94 = .ok (.iadd, 1) := by decide +kernel
theorem dX8_chatter_95 : decode cX8_chatter 95 = .ok (.istore_n 3, 1) := by decide +kernel
theorem dX8_chatter_96 : decode cX8_chatter 96 = .ok (.iinc 4 1, 3) := by decide +kernel
theorem dX8_chatter_99 : decode cX8_chatter 99 = .ok (.goto (-65), 3) := by decide +kernel
theorem dX8_chatter_102 : decode cX8_chatter 102 = .ok (.iload_n 3, 1) := by decide +kernel
theorem dX8_chatter_103 : decode cX8_chatter 103 = .ok (.ireturn, 1) := by decide +kernel
theorem dX8_copies_0 : decode cX8_copies 0 = .ok (.iconst 0, 1) := by decide +kernel
theorem dX8_copies_1 : decode cX8_copies 1 = .ok (.istore_n 3, 1) := by decide +kernel
theorem dX8_copies_2 : decode cX8_copies 2 = .ok (.iload_n 3, 1) := by decide +kernel
theorem dX8_copies_3 : decode cX8_copies 3 = .ok (.bipush 57, 2) := by decide +kernel
theorem dX8_copies_5 : decode cX8_copies 5 = .ok (.if_icmp .ge 25, 3) := by decide +kernel
theorem dX8_copies_8 : decode cX8_copies 8 = .ok (.aload_n 0, 1) := by decide +kernel
theorem dX8_copies_9 : decode cX8_copies 9 = .ok (.getfield 7, 3) := by decide +kernel
theorem dX8_copies_12 : decode cX8_copies 12 = .ok (.iload_n 2, 1) := by decide +kernel
theorem dX8_copies_13 : decode cX8_copies 13 = .ok (.iload_n 3, 1) := by decide +kernel
theorem dX8_copies_14 : decode cX8_copies 14 = .ok (.iadd, 1) := by decide +kernel
theorem dX8_copies_15 : decode cX8_copies 15 = .ok (.aload_n 0, 1) := by decide +kernel
theorem dX8_copies_16 : decode cX8_copies 16 = .ok (.getfield 7, 3) := by decide +kernel
theorem dX8_copies_19 : decode cX8_copies 19 = .ok (.iload_n 1, 1) := by decide +kernel
theorem dX8_copies_20 : decode cX8_copies 20 = .ok (.iload_n 3, 1) := by decide +kernel
theorem dX8_copies_21 : decode cX8_copies 21 = .ok (.iadd, 1) := by decide +kernel
theorem dX8_copies_22 : decode cX8_copies 22 = .ok (.iaload, 1) := by decide +kernel
theorem dX8_copies_23 : decode cX8_copies 23 = .ok (.iastore, 1) := by decide +kernel
theorem dX8_copies_24 : decode cX8_copies 24 = .ok (.iinc 3 1, 3) := by decide +kernel
theorem dX8_copies_27 : decode cX8_copies 27 = .ok (.goto (-25), 3) := by decide +kernel
theorem dX8_copies_30 : decode cX8_copies 30 = .ok (.return_, 1) := by decide +kernel
theorem dX8_keep_0 : decode cX8_keep 0 = .ok (.iload_n 1, 1) := by decide +kernel
theorem dX8_keep_1 : decode cX8_keep 1 = .ok (.i2l, 1) := by decide +kernel
theorem dX8_keep_2 : decode cX8_keep 2 = .ok (.lconst 0, 1) := by decide +kernel
theorem dX8_keep_3 : decode cX8_keep 3 = .ok (.lconst 1, 1) := by decide +kernel
theorem dX8_keep_4 : decode cX8_keep 4 = .ok (.invokestatic 69, 3) := by decide +kernel
theorem dX8_keep_7 : decode cX8_keep 7 = .ok (.ifCond .ne 5, 3) := by decide +kernel
theorem dX8_keep_10 : decode cX8_keep 10 = .ok (.iconst (-1), 1) := by decide +kernel
theorem dX8_keep_11 : decode cX8_keep 11 = .ok (.ireturn, 1) := by decide +kernel
theorem dX8_keep_12 : decode cX8_keep 12 = .ok (.aload_n 0, 1) := by decide +kernel
theorem dX8_keep_13 : decode cX8_keep 13 = .ok (.iconst 0, 1) := by decide +kernel
theorem dX8_keep_14 : decode cX8_keep 14 = .ok (.bipush 57, 2) := by decide +kernel
theorem dX8_keep_16 : decode cX8_keep 16 = .ok (.iload_n 1, 1) := by decide +kernel
theorem dX8_keep_17 : decode cX8_keep 17 = .ok (.iconst 1, 1) := by decide +kernel
theorem dX8_keep_18 : decode cX8_keep 18 = .ok (.iadd, 1) := by decide +kernel
theorem dX8_keep_19 : decode cX8_keep 19 = .ok (.imul, 1) := by decide +kernel
theorem dX8_keep_20 : decode cX8_keep 20 = .ok (.invokevirtual 274, 3) := by decide +kernel
theorem dX8_keep_23 : decode cX8_keep 23 = .ok (.aload_n 0, 1) := by decide +kernel
theorem dX8_keep_24 : decode cX8_keep 24 = .ok (.getfield 52, 3) := by decide +kernel
theorem dX8_keep_27 : decode cX8_keep 27 = .ok (.iload_n 1, 1) := by decide +kernel
theorem dX8_keep_28 : decode cX8_keep 28 = .ok (.baload, 1) := by decide +kernel
theorem dX8_keep_29 : decode cX8_keep 29 = .ok (.ifCond .eq 7, 3) := by decide +kernel
theorem dX8_keep_32 : decode cX8_keep 32 = .ok (.iconst 1, 1) := by decide +kernel
theorem dX8_keep_33 : decode cX8_keep 33 = .ok (.goto 4, 3) := by decide +kernel
theorem dX8_keep_36 : decode cX8_keep 36 = .ok (.iconst 0, 1) := by decide +kernel
theorem dX8_keep_37 : decode cX8_keep 37 = .ok (.istore_n 2, 1) := by decide +kernel
theorem dX8_keep_38 : decode cX8_keep 38 = .ok (.aload_n 0, 1) := by decide +kernel
theorem dX8_keep_39 : decode cX8_keep 39 = .ok (.getfield 52, 3) := by decide +kernel
theorem dX8_keep_42 : decode cX8_keep 42 = .ok (.iload_n 1, 1) := by decide +kernel
theorem dX8_keep_43 : decode cX8_keep 43 = .ok (.iconst 1, 1) := by decide +kernel
theorem dX8_keep_44 : decode cX8_keep 44 = .ok (.bastore, 1) := by decide +kernel
theorem dX8_keep_45 : decode cX8_keep 45 = .ok (.iload_n 2, 1) := by decide +kernel
theorem dX8_keep_46 : decode cX8_keep 46 = .ok (.ireturn, 1) := by decide +kernel
theorem dX8_back_0 : decode cX8_back 0 = .ok (.iload_n 1, 1) := by decide +kernel
theorem dX8_back_1 : decode cX8_back 1 = .ok (.i2l, 1) := by decide +kernel
theorem dX8_back_2 : decode cX8_back 2 = .ok (.lconst 0, 1) := by decide +kernel
theorem dX8_back_3 : decode cX8_back 3 = .ok (.lconst 1, 1) := by decide +kernel
theorem dX8_back_4 : decode cX8_back 4 = .ok (.invokestatic 69, 3) := by decide +kernel
theorem dX8_back_7 : decode cX8_back 7 = .ok (.ifCond .ne 5, 3) := by decide +kernel
theorem dX8_back_10 : decode cX8_back 10 = .ok (.iconst (-1), 1) := by decide +kernel
theorem dX8_back_11 : decode cX8_back 11 = .ok (.ireturn, 1) := by decide +kernel
theorem dX8_back_12 : decode cX8_back 12 = .ok (.aload_n 0, 1) := by decide +kernel
theorem dX8_back_13 : decode cX8_back 13 = .ok (.getfield 52, 3) := by decide +kernel
theorem dX8_back_16 : decode cX8_back 16 = .ok (.iload_n 1, 1) := by decide +kernel
theorem dX8_back_17 : decode cX8_back 17 = .ok (.baload, 1) := by decide +kernel
theorem dX8_back_18 : decode cX8_back 18 = .ok (.ifCond .ne 6, 3) := by decide +kernel
theorem dX8_back_21 : decode cX8_back 21 = .ok (.bipush (-2), 2) := by decide +kernel
theorem dX8_back_23 : decode cX8_back 23 = .ok (.ireturn, 1) := by decide +kernel
theorem dX8_back_24 : decode cX8_back 24 = .ok (.aload_n 0, 1) := by decide +kernel
theorem dX8_back_25 : decode cX8_back 25 = .ok (.bipush 57, 2) := by decide +kernel
theorem dX8_back_27 : decode cX8_back 27 = .ok (.iload_n 1, 1) := by decide +kernel
theorem dX8_back_28 : decode cX8_back 28 = .ok (.iconst 1, 1) := by decide +kernel
theorem dX8_back_29 : decode cX8_back 29 = .ok (.iadd, 1) := by decide +kernel
theorem dX8_back_30 : decode cX8_back 30 = .ok (.imul, 1) := by decide +kernel
theorem dX8_back_31 : decode cX8_back 31 = .ok (.iconst 0, 1) := by decide +kernel
theorem dX8_back_32 : decode cX8_back 32 = .ok (.invokevirtual 274, 3) := by decide +kernel
theorem dX8_back_35 : decode cX8_back 35 = .ok (.aload_n 0, 1) := by decide +kernel
theorem dX8_back_36 : decode cX8_back 36 = .ok (.getfield 7, 3) := by decide +kernel
theorem dX8_back_39 : decode cX8_back 39 = .ok (.bipush 54, 2) := by decide +kernel
theorem dX8_back_41 : decode cX8_back 41 = .ok (.iaload, 1) := by decide +kernel
theorem dX8_back_42 : decode cX8_back 42 = .ok (.ireturn, 1) := by decide +kernel
theorem dX8_sheet_0 : decode cX8_sheet 0 = .ok (.iload_n 1, 1) := by decide +kernel
theorem dX8_sheet_1 : decode cX8_sheet 1 = .ok (.i2l, 1) := by decide +kernel
theorem dX8_sheet_2 : decode cX8_sheet 2 = .ok (.lconst 0, 1) := by decide +kernel
theorem dX8_sheet_3 : decode cX8_sheet 3 = .ok (.ldc2_w 217, 3) := by decide +kernel
theorem dX8_sheet_6 : decode cX8_sheet 6 = .ok (.invokestatic 69, 3) := by decide +kernel
theorem dX8_sheet_9 : decode cX8_sheet 9 = .ok (.ifCond .eq 21, 3) := by decide +kernel
theorem dX8_sheet_12 : decode cX8_sheet 12 = .ok (.iload_n 2, 1) := by decide +kernel
theorem dX8_sheet_13 : decode cX8_sheet 13 = .ok (.i2l, 1) := by decide +kernel
theorem dX8_sheet_14 : decode cX8_sheet 14 = .ok (.lconst 0, 1) := by decide +kernel
theorem dX8_sheet_15 : decode cX8_sheet 15 = .ok (.ldc2_w 186, 3) := by decide +kernel
theorem dX8_sheet_18 : decode cX8_sheet 18 = .ok (.invokestatic 69, 3) := by decide +kernel
theorem dX8_sheet_21 : decode cX8_sheet 21 = .ok (.ifCond .eq 9, 3) := by decide +kernel
theorem dX8_sheet_24 : decode cX8_sheet 24 = .ok (.iload_n 3, 1) := by decide +kernel
theorem dX8_sheet_25 : decode cX8_sheet 25 = .ok (.bipush 40, 2) := by decide +kernel
theorem dX8_sheet_27 : decode cX8_sheet 27 = .ok (.if_icmp .le 5, 3) := by decide +kernel
theorem dX8_sheet_30 : decode cX8_sheet 30 = .ok (.iconst (-1), 1) := by decide +kernel
theorem dX8_sheet_31 : decode cX8_sheet 31 = .ok (.ireturn, 1) := by decide +kernel
theorem dX8_sheet_32 : decode cX8_sheet 32 = .ok (.iload_n 3, 1) := by decide +kernel
theorem dX8_sheet_33 : decode cX8_sheet 33 = .ok (.ifCond .ge 6, 3) := by decide +kernel
theorem dX8_sheet_36 : decode cX8_sheet 36 = .ok (.bipush (-14), 2) := by decide +kernel
theorem dX8_sheet_38 : decode cX8_sheet 38 = .ok (.ireturn, 1) := by decide +kernel
theorem dX8_sheet_39 : decode cX8_sheet 39 = .ok (.aload_n 0, 1) := by decide +kernel
theorem dX8_sheet_40 : decode cX8_sheet 40 = .ok (.getfield 56, 3) := by decide +kernel
theorem dX8_sheet_43 : decode cX8_sheet 43 = .ok (.iload_n 1, 1) := by decide +kernel
theorem dX8_sheet_44 : decode cX8_sheet 44 = .ok (.iload_n 2, 1) := by decide +kernel
theorem dX8_sheet_45 : decode cX8_sheet 45 = .ok (.iastore, 1) := by decide +kernel
theorem dX8_sheet_46 : decode cX8_sheet 46 = .ok (.aload_n 0, 1) := by decide +kernel
theorem dX8_sheet_47 : decode cX8_sheet 47 = .ok (.getfield 59, 3) := by decide +kernel
theorem dX8_sheet_50 : decode cX8_sheet 50 = .ok (.iload_n 1, 1) := by decide +kernel
theorem dX8_sheet_51 : decode cX8_sheet 51 = .ok (.iload_n 3, 1) := by decide +kernel
theorem dX8_sheet_52 : decode cX8_sheet 52 = .ok (.iastore, 1) := by decide +kernel
theorem dX8_sheet_53 : decode cX8_sheet 53 = .ok (.iconst 0, 1) := by decide +kernel
theorem dX8_sheet_54 : decode cX8_sheet 54 = .ok (.istore 4, 2) := by decide +kernel
theorem dX8_sheet_56 : decode cX8_sheet 56 = .ok (.iload 4, 2) := by decide +kernel
theorem dX8_sheet_58 : decode cX8_sheet 58 = .ok (.bipush 40, 2) := by decide +kernel
theorem dX8_sheet_60 : decode cX8_sheet 60 = .ok (.if_icmp .ge 22, 3) := by decide +kernel
theorem dX8_sheet_63 : decode cX8_sheet 63 = .ok (.aload_n 0, 1) := by decide +kernel
theorem dX8_sheet_64 : decode cX8_sheet 64 = .ok (.getfield 62, 3) := by decide +kernel
theorem dX8_sheet_67 : decode cX8_sheet 67 = .ok (.bipush 40, 2) := by decide +kernel
theorem dX8_sheet_69 : decode cX8_sheet 69 = .ok (.iload_n 1, 1) := by decide +kernel
theorem dX8_sheet_70 : decode cX8_sheet 70 = .ok (.imul, 1) := by decide +kernel
theorem dX8_sheet_71 : decode cX8_sheet 71 = .ok (.iload 4, 2) := by decide +kernel
theorem dX8_sheet_73 : decode cX8_sheet 73 = .ok (.iadd, 1) := by decide +kernel
theorem dX8_sheet_74 : decode cX8_sheet 74 = .ok (.iconst 0, 1) := by decide +kernel
theorem dX8_sheet_75 : decode cX8_sheet 75 = .ok (.iastore, 1) := by decide +kernel
theorem dX8_sheet_76 : decode cX8_sheet 76 = .ok (.iinc 4 1, 3) := by decide +kernel
theorem dX8_sheet_79 : decode cX8_sheet 79 = .ok (.goto (-23), 3) := by decide +kernel
theorem dX8_sheet_82 : decode cX8_sheet 82 = .ok (.iconst 1, 1) := by decide +kernel
theorem dX8_sheet_83 : decode cX8_sheet 83 = .ok (.ireturn, 1) := by decide +kernel
theorem dX8_lay_0 : decode cX8_lay 0 = .ok (.iload_n 1, 1) := by decide +kernel
theorem dX8_lay_1 : decode cX8_lay 1 = .ok (.i2l, 1) := by decide +kernel
theorem dX8_lay_2 : decode cX8_lay 2 = .ok (.lconst 0, 1) := by decide +kernel
theorem dX8_lay_3 : decode cX8_lay 3 = .ok (.ldc2_w 217, 3) := by decide +kernel
theorem dX8_lay_6 : decode cX8_lay 6 = .ok (.invokestatic 69, 3) := by decide +kernel
theorem dX8_lay_9 : decode cX8_lay 9 = .ok (.ifCond .ne 5, 3) := by decide +kernel
theorem dX8_lay_12 : decode cX8_lay 12 = .ok (.iconst (-1), 1) := by decide +kernel
theorem dX8_lay_13 : decode cX8_lay 13 = .ok (.ireturn, 1) := by decide +kernel
theorem dX8_lay_14 : decode cX8_lay 14 = .ok (.aload_n 0, 1) := by decide +kernel
theorem dX8_lay_15 : decode cX8_lay 15 = .ok (.getfield 56, 3) := by decide +kernel
theorem dX8_lay_18 : decode cX8_lay 18 = .ok (.iload_n 1, 1) := by decide +kernel
theorem dX8_lay_19 : decode cX8_lay 19 = .ok (.iaload, 1) := by decide +kernel
theorem dX8_lay_20 : decode cX8_lay 20 = .ok (.bipush (-4), 2) := by decide +kernel
theorem dX8_lay_22 : decode cX8_lay 22 = .ok (.if_icmp .ne 6, 3) := by decide +kernel
theorem dX8_lay_25 : decode cX8_lay 25 = .ok (.bipush (-11), 2) := by decide +kernel
theorem dX8_lay_27 : decode cX8_lay 27 = .ok (.ireturn, 1) := by decide +kernel
theorem dX8_lay_28 : decode cX8_lay 28 = .ok (.iload_n 2, 1) := by decide +kernel
theorem dX8_lay_29 : decode cX8_lay 29 = .ok (.i2l, 1) := by decide +kernel
theorem dX8_lay_30 : decode cX8_lay 30 = .ok (.lconst 0, 1) := by decide +kernel
theorem dX8_lay_31 : decode cX8_lay 31 = .ok (.aload_n 0, 1) := by decide +kernel
theorem dX8_lay_32 : decode cX8_lay 32 = .ok (.getfield 59, 3) := by decide +kernel
theorem dX8_lay_35 : decode cX8_lay 35 = .ok (.iload_n 1, 1) := by decide +kernel
theorem dX8_lay_36 : decode cX8_lay 36 = .ok (.iaload, 1) := by decide +kernel
theorem dX8_lay_37 : decode cX8_lay 37 = .ok (.iconst 1, 1) := by decide +kernel
theorem dX8_lay_38 : decode cX8_lay 38 = .ok (.isub, 1) := by decide +kernel
theorem dX8_lay_39 : decode cX8_lay 39 = .ok (.i2l, 1) := by decide +kernel
theorem dX8_lay_40 : decode cX8_lay 40 = .ok (.invokestatic 69, 3) := by decide +kernel
theorem dX8_lay_43 : decode cX8_lay 43 = .ok (.ifCond .ne 6, 3) := by decide +kernel
theorem dX8_lay_46 : decode cX8_lay 46 = .ok (.bipush (-12), 2) := by decide +kernel
theorem dX8_lay_48 : decode cX8_lay 48 = .ok (.ireturn, 1) := by decide +kernel
theorem dX8_lay_49 : decode cX8_lay 49 = .ok (.aload_n 0, 1) := by decide +kernel
theorem dX8_lay_50 : decode cX8_lay 50 = .ok (.getfield 62, 3) := by decide +kernel
theorem dX8_lay_53 : decode cX8_lay 53 = .ok (.bipush 40, 2) := by decide +kernel
theorem dX8_lay_55 : decode cX8_lay 55 = .ok (.iload_n 1, 1) := by decide +kernel
theorem dX8_lay_56 : decode cX8_lay 56 = .ok (.imul, 1) := by decide +kernel
theorem dX8_lay_57 : decode cX8_lay 57 = .ok (.iload_n 2, 1) := by decide +kernel
theorem dX8_lay_58 : decode cX8_lay 58 = .ok (.iadd, 1) := by decide +kernel
theorem dX8_lay_59 : decode cX8_lay 59 = .ok (.aload_n 0, 1) := by decide +kernel
theorem dX8_lay_60 : decode cX8_lay 60 = .ok (.getfield 56, 3) := by decide +kernel
theorem dX8_lay_63 : decode cX8_lay 63 = .ok (.iload_n 1, 1) := by decide +kernel
theorem dX8_lay_64 : decode cX8_lay 64 = .ok (.iaload, 1) := by decide +kernel
theorem dX8_lay_65 : decode cX8_lay 65 = .ok (.ifCond .ne 13, 3) := by decide +kernel
theorem dX8_lay_68 : decode cX8_lay 68 = .ok (.iload_n 3, 1) := by decide +kernel
theorem dX8_lay_69 : decode cX8_lay 69 = .ok (.bipush 24, 2) := by decide +kernel
theorem dX8_lay_71 : decode cX8_lay 71 = .ok (.ishl, 1) := by decide +kernel
theorem dX8_lay_72 : decode cX8_lay 72 = .ok (.bipush 24, 2) := by decide +kernel
theorem dX8_lay_74 : decode cX8_lay 74 = .ok (.ishr, 1) := by decide +kernel
theorem dX8_lay_75 : decode cX8_lay 75 = .ok (.goto 24, 3) := by decide +kernel
theorem dX8_lay_78 : decode cX8_lay 78 = .ok (.aload_n 0, 1) := by decide +kernel
theorem dX8_lay_79 : decode cX8_lay 79 = .ok (.getfield 56, 3) := by decide +kernel
theorem dX8_lay_82 : decode cX8_lay 82 = .ok (.iload_n 1, 1) := by decide +kernel
theorem dX8_lay_83 : decode cX8_lay 83 = .ok (.iaload, 1) := by decide +kernel
theorem dX8_lay_84 : decode cX8_lay 84 = .ok (.iconst 1, 1) := by decide +kernel
theorem dX8_lay_85 : decode cX8_lay 85 = .ok (.if_icmp .ne 13, 3) := by decide +kernel
theorem dX8_lay_88 : decode cX8_lay 88 = .ok (.iload_n 3, 1) := by decide +kernel
theorem dX8_lay_89 : decode cX8_lay 89 = .ok (.bipush 16, 2) := by decide +kernel
theorem dX8_lay_91 : decode cX8_lay 91 = .ok (.ishl, 1) := by decide +kernel
theorem dX8_lay_92 : decode cX8_lay 92 = .ok (.bipush 16, 2) := by decide +kernel
theorem dX8_lay_94 : decode cX8_lay 94 = .ok (.ishr, 1) := by decide +kernel
theorem dX8_lay_95 : decode cX8_lay 95 = .ok (.goto 4, 3) := by decide +kernel
theorem dX8_lay_98 : decode cX8_lay 98 = .ok (.iload_n 3, 1) := by decide +kernel
theorem dX8_lay_99 : decode cX8_lay 99 = .ok (.iastore, 1) := by decide +kernel
theorem dX8_lay_100 : decode cX8_lay 100 = .ok (.iconst 1, 1) := by decide +kernel
theorem dX8_lay_101 : decode cX8_lay 101 = .ok (.ireturn, 1) := by decide +kernel
theorem dX8_read_0 : decode cX8_read 0 = .ok (.iload_n 1, 1) := by decide +kernel
theorem dX8_read_1 : decode cX8_read 1 = .ok (.i2l, 1) := by decide +kernel
theorem dX8_read_2 : decode cX8_read 2 = .ok (.lconst 0, 1) := by decide +kernel
theorem dX8_read_3 : decode cX8_read 3 = .ok (.ldc2_w 217, 3) := by decide +kernel
theorem dX8_read_6 : decode cX8_read 6 = .ok (.invokestatic 69, 3) := by decide +kernel
theorem dX8_read_9 : decode cX8_read 9 = .ok (.ifCond .eq 28, 3) := by decide +kernel
theorem dX8_read_12 : decode cX8_read 12 = .ok (.iload_n 2, 1) := by decide +kernel
theorem dX8_read_13 : decode cX8_read 13 = .ok (.i2l, 1) := by decide +kernel
theorem dX8_read_14 : decode cX8_read 14 = .ok (.lconst 0, 1) := by decide +kernel
theorem dX8_read_15 : decode cX8_read 15 = .ok (.ldc2_w 186, 3) := by decide +kernel
theorem dX8_read_18 : decode cX8_read 18 = .ok (.invokestatic 69, 3) := by decide +kernel
theorem dX8_read_21 : decode cX8_read 21 = .ok (.ifCond .eq 16, 3) := by decide +kernel
theorem dX8_read_24 : decode cX8_read 24 = .ok (.iload 4, 2) := by decide +kernel
theorem dX8_read_26 : decode cX8_read 26 = .ok (.i2l, 1) := by decide +kernel
theorem dX8_read_27 : decode cX8_read 27 = .ok (.lconst 0, 1) := by decide +kernel
theorem dX8_read_28 : decode cX8_read 28 = .ok (.ldc2_w 278, 3) := by decide +kernel
theorem dX8_read_31 : decode cX8_read 31 = .ok (.invokestatic 69, 3) := by decide +kernel
theorem dX8_read_34 : decode cX8_read 34 = .ok (.ifCond .ne 5, 3) := by decide +kernel
theorem dX8_read_37 : decode cX8_read 37 = .ok (.iconst (-1), 1) := by decide +kernel
theorem dX8_read_38 : decode cX8_read 38 = .ok (.ireturn, 1) := by decide +kernel
theorem dX8_read_39 : decode cX8_read 39 = .ok (.aload_n 0, 1) := by decide +kernel
theorem dX8_read_40 : decode cX8_read 40 = .ok (.iconst 0, 1) := by decide +kernel
theorem dX8_read_41 : decode cX8_read 41 = .ok (.sipush 171, 3) := by decide +kernel
theorem dX8_read_44 : decode cX8_read 44 = .ok (.invokevirtual 274, 3) := by decide +kernel
theorem dX8_read_47 : decode cX8_read 47 = .ok (.iconst 0, 1) := by decide +kernel
theorem dX8_read_48 : decode cX8_read 48 = .ok (.istore 5, 2) := by decide +kernel
theorem dX8_read_50 : decode cX8_read 50 = .ok (.iconst 0, 1) := by decide +kernel
theorem dX8_read_51 : decode cX8_read 51 = .ok (.istore 6, 2) := by decide +kernel
theorem dX8_read_53 : decode cX8_read 53 = .ok (.iconst 0, 1) := by decide +kernel
theorem dX8_read_54 : decode cX8_read 54 = .ok (.istore 7, 2) := by decide +kernel
theorem dX8_read_56 : decode cX8_read 56 = .ok (.iload 7, 2) := by decide +kernel
theorem dX8_read_58 : decode cX8_read 58 = .ok (.iconst 3, 1) := by decide +kernel
theorem dX8_read_59 : decode cX8_read 59 = .ok (.iload 4, 2) := by decide +kernel
theorem dX8_read_61 : decode cX8_read 61 = .ok (.imul, 1) := by decide +kernel
theorem dX8_read_62 : decode cX8_read 62 = .ok (.if_icmp .ge 145, 3) := by decide +kernel
