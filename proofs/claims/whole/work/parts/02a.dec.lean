theorem dX0_init_0 : decode cX0_init 0 = .ok (.aload_n 0, 1) := by decide +kernel
theorem dX0_init_1 : decode cX0_init 1 = .ok (.invokespecial 3, 3) := by decide +kernel
theorem dX0_init_4 : decode cX0_init 4 = .ok (.aload_n 0, 1) := by decide +kernel
theorem dX0_init_5 : decode cX0_init 5 = .ok (.bipush 6, 2) := by decide +kernel
theorem dX0_init_7 : decode cX0_init 7 = .ok (.newarray .int, 2) := by decide +kernel
theorem dX0_init_9 : decode cX0_init 9 = .ok (.putfield 9, 3) := by decide +kernel
theorem dX0_init_12 : decode cX0_init 12 = .ok (.aload_n 0, 1) := by decide +kernel
theorem dX0_init_13 : decode cX0_init 13 = .ok (.bipush 6, 2) := by decide +kernel
theorem dX0_init_15 : decode cX0_init 15 = .ok (.newarray .int, 2) := by decide +kernel
theorem dX0_init_17 : decode cX0_init 17 = .ok (.putfield 15, 3) := by decide +kernel
theorem dX0_init_20 : decode cX0_init 20 = .ok (.aload_n 0, 1) := by decide +kernel
theorem dX0_init_21 : decode cX0_init 21 = .ok (.bipush 6, 2) := by decide +kernel
theorem dX0_init_23 : decode cX0_init 23 = .ok (.newarray .int, 2) := by decide +kernel
theorem dX0_init_25 : decode cX0_init 25 = .ok (.putfield 18, 3) := by decide +kernel
theorem dX0_init_28 : decode cX0_init 28 = .ok (.aload_n 0, 1) := by decide +kernel
theorem dX0_init_29 : decode cX0_init 29 = .ok (.aload_n 1, 1) := by decide +kernel
theorem dX0_init_30 : decode cX0_init 30 = .ok (.putfield 21, 3) := by decide +kernel
theorem dX0_init_33 : decode cX0_init 33 = .ok (.return_, 1) := by decide +kernel
theorem dX0_plan_0 : decode cX0_plan 0 = .ok (.iconst 0, 1) := by decide +kernel
theorem dX0_plan_1 : decode cX0_plan 1 = .ok (.istore_n 3, 1) := by decide +kernel
theorem dX0_plan_2 : decode cX0_plan 2 = .ok (.iload_n 3, 1) := by decide +kernel
theorem dX0_plan_3 : decode cX0_plan 3 = .ok (.bipush 6, 2) := by decide +kernel
theorem dX0_plan_5 : decode cX0_plan 5 = .ok (.if_icmp .ge 28, 3) := by decide +kernel
theorem dX0_plan_8 : decode cX0_plan 8 = .ok (.aload_n 0, 1) := by decide +kernel
theorem dX0_plan_9 : decode cX0_plan 9 = .ok (.getfield 18, 3) := by decide +kernel
theorem dX0_plan_12 : decode cX0_plan 12 = .ok (.iload_n 3, 1) := by decide +kernel
theorem dX0_plan_13 : decode cX0_plan 13 = .ok (.iload_n 1, 1) := by decide +kernel
theorem dX0_plan_14 : decode cX0_plan 14 = .ok (.iload_n 3, 1) := by decide +kernel
theorem dX0_plan_15 : decode cX0_plan 15 = .ok (.invokestatic 25, 3) := by decide +kernel
theorem dX0_plan_18 : decode cX0_plan 18 = .ok (.ifCond .eq 7, 3) := by decide +kernel
theorem dX0_plan_21 : decode cX0_plan 21 = .ok (.iload_n 2, 1) := by decide +kernel
theorem dX0_plan_22 : decode cX0_plan 22 = .ok (.goto 4, 3) := by decide +kernel
theorem dX0_plan_25 : decode cX0_plan 25 = .ok (.iconst 0, 1) := by decide +kernel
theorem dX0_plan_26 : decode cX0_plan 26 = .ok (.iastore, 1) := by decide +kernel
theorem dX0_plan_27 : decode cX0_plan 27 = .ok (.iinc 3 1, 3) := by decide +kernel
theorem dX0_plan_30 : decode cX0_plan 30 = .ok (.goto (-28), 3) := by decide +kernel
theorem dX0_plan_33 : decode cX0_plan 33 = .ok (.aload_n 0, 1) := by decide +kernel
theorem dX0_plan_34 : decode cX0_plan 34 = .ok (.bipush 73, 2) := by decide +kernel
theorem dX0_plan_36 : decode cX0_plan 36 = .ok (.putfield 29, 3) := by decide +kernel
theorem dX0_plan_39 : decode cX0_plan 39 = .ok (.aload_n 0, 1) := by decide +kernel
theorem dX0_plan_40 : decode cX0_plan 40 = .ok (.iconst 0, 1) := by decide +kernel
theorem dX0_plan_41 : decode cX0_plan 41 = .ok (.iconst 0, 1) := by decide +kernel
theorem dX0_plan_42 : decode cX0_plan 42 = .ok (.invokevirtual 33, 3) := by decide +kernel
theorem dX0_plan_45 : decode cX0_plan 45 = .ok (.aload_n 0, 1) := by decide +kernel
theorem dX0_plan_46 : decode cX0_plan 46 = .ok (.getfield 29, 3) := by decide +kernel
theorem dX0_plan_49 : decode cX0_plan 49 = .ok (.bipush 73, 2) := by decide +kernel
theorem dX0_plan_51 : decode cX0_plan 51 = .ok (.if_icmp .eq 7, 3) := by decide +kernel
theorem dX0_plan_54 : decode cX0_plan 54 = .ok (.iconst 1, 1) := by decide +kernel
theorem dX0_plan_55 : decode cX0_plan 55 = .ok (.goto 4, 3) := by decide +kernel
theorem dX0_plan_58 : decode cX0_plan 58 = .ok (.iconst 0, 1) := by decide +kernel
theorem dX0_plan_59 : decode cX0_plan 59 = .ok (.ireturn, 1) := by decide +kernel
theorem dX0_giveFrom_0 : decode cX0_giveFrom 0 = .ok (.iload_n 2, 1) := by decide +kernel
theorem dX0_giveFrom_1 : decode cX0_giveFrom 1 = .ok (.aload_n 0, 1) := by decide +kernel
theorem dX0_giveFrom_2 : decode cX0_giveFrom 2 = .ok (.getfield 29, 3) := by decide +kernel
theorem dX0_giveFrom_5 : decode cX0_giveFrom 5 = .ok (.if_icmp .lt 4, 3) := by decide +kernel
theorem dX0_giveFrom_8 : decode cX0_giveFrom 8 = .ok (.return_, 1) := by decide +kernel
theorem dX0_giveFrom_9 : decode cX0_giveFrom 9 = .ok (.aload_n 0, 1) := by decide +kernel
theorem dX0_giveFrom_10 : decode cX0_giveFrom 10 = .ok (.invokevirtual 37, 3) := by decide +kernel
theorem dX0_giveFrom_13 : decode cX0_giveFrom 13 = .ok (.istore_n 3, 1) := by decide +kernel
theorem dX0_giveFrom_14 : decode cX0_giveFrom 14 = .ok (.iload_n 3, 1) := by decide +kernel
theorem dX0_giveFrom_15 : decode cX0_giveFrom 15 = .ok (.ifCond .ne 10, 3) := by decide +kernel
theorem dX0_giveFrom_18 : decode cX0_giveFrom 18 = .ok (.aload_n 0, 1) := by decide +kernel
theorem dX0_giveFrom_19 : decode cX0_giveFrom 19 = .ok (.iload_n 1, 1) := by decide +kernel
theorem dX0_giveFrom_20 : decode cX0_giveFrom 20 = .ok (.iload_n 2, 1) := by decide +kernel
theorem dX0_giveFrom_21 : decode cX0_giveFrom 21 = .ok (.invokevirtual 41, 3) := by decide +kernel
theorem dX0_giveFrom_24 : decode cX0_giveFrom 24 = .ok (.return_, 1) := by decide +kernel
theorem dX0_giveFrom_25 : decode cX0_giveFrom 25 = .ok (.iload_n 3, 1) := by decide +kernel
theorem dX0_giveFrom_26 : decode cX0_giveFrom 26 = .ok (.aload_n 0, 1) := by decide +kernel
theorem dX0_giveFrom_27 : decode cX0_giveFrom 27 = .ok (.getfield 21, 3) := by decide +kernel
theorem dX0_giveFrom_30 : decode cX0_giveFrom 30 = .ok (.getfield 44, 3) := by decide +kernel
theorem dX0_giveFrom_33 : decode cX0_giveFrom 33 = .ok (.iload_n 1, 1) := by decide +kernel
theorem dX0_giveFrom_34 : decode cX0_giveFrom 34 = .ok (.isub, 1) := by decide +kernel
theorem dX0_giveFrom_35 : decode cX0_giveFrom 35 = .ok (.if_icmp .gt 9, 3) := by decide +kernel
theorem dX0_giveFrom_38 : decode cX0_giveFrom 38 = .ok (.iload_n 1, 1) := by decide +kernel
theorem dX0_giveFrom_39 : decode cX0_giveFrom 39 = .ok (.bipush 6, 2) := by decide +kernel
theorem dX0_giveFrom_41 : decode cX0_giveFrom 41 = .ok (.if_icmp .lt 4, 3) := by decide +kernel
theorem dX0_giveFrom_44 : decode cX0_giveFrom 44 = .ok (.return_, 1) := by decide +kernel
theorem dX0_giveFrom_45 : decode cX0_giveFrom 45 = .ok (.aload_n 0, 1) := by decide +kernel
theorem dX0_giveFrom_46 : decode cX0_giveFrom 46 = .ok (.getfield 15, 3) := by decide +kernel
theorem dX0_giveFrom_49 : decode cX0_giveFrom 49 = .ok (.iload_n 1, 1) := by decide +kernel
theorem dX0_giveFrom_50 : decode cX0_giveFrom 50 = .ok (.bipush (-4), 2) := by decide +kernel
theorem dX0_giveFrom_52 : decode cX0_giveFrom 52 = .ok (.iastore, 1) := by decide +kernel
theorem dX0_giveFrom_53 : decode cX0_giveFrom 53 = .ok (.aload_n 0, 1) := by decide +kernel
theorem dX0_giveFrom_54 : decode cX0_giveFrom 54 = .ok (.iload_n 1, 1) := by decide +kernel
theorem dX0_giveFrom_55 : decode cX0_giveFrom 55 = .ok (.iconst 1, 1) := by decide +kernel
theorem dX0_giveFrom_56 : decode cX0_giveFrom 56 = .ok (.iadd, 1) := by decide +kernel
theorem dX0_giveFrom_57 : decode cX0_giveFrom 57 = .ok (.iload_n 2, 1) := by decide +kernel
theorem dX0_giveFrom_58 : decode cX0_giveFrom 58 = .ok (.invokevirtual 33, 3) := by decide +kernel
theorem dX0_giveFrom_61 : decode cX0_giveFrom 61 = .ok (.iconst 0, 1) := by decide +kernel
theorem dX0_giveFrom_62 : decode cX0_giveFrom 62 = .ok (.istore 4, 2) := by decide +kernel
theorem dX0_giveFrom_64 : decode cX0_giveFrom 64 = .ok (.iload 4, 2) := by decide +kernel
theorem dX0_giveFrom_66 : decode cX0_giveFrom 66 = .ok (.aload_n 0, 1) := by decide +kernel
theorem dX0_giveFrom_67 : decode cX0_giveFrom 67 = .ok (.getfield 21, 3) := by decide +kernel
theorem dX0_giveFrom_70 : decode cX0_giveFrom 70 = .ok (.getfield 49, 3) := by decide +kernel
theorem dX0_giveFrom_73 : decode cX0_giveFrom 73 = .ok (.if_icmp .ge 90, 3) := by decide +kernel
theorem dX0_giveFrom_76 : decode cX0_giveFrom 76 = .ok (.aload_n 0, 1) := by decide +kernel
theorem dX0_giveFrom_77 : decode cX0_giveFrom 77 = .ok (.getfield 21, 3) := by decide +kernel
theorem dX0_giveFrom_80 : decode cX0_giveFrom 80 = .ok (.iload_n 1, 1) := by decide +kernel
theorem dX0_giveFrom_81 : decode cX0_giveFrom 81 = .ok (.invokevirtual 52, 3) := by decide +kernel
theorem dX0_giveFrom_84 : decode cX0_giveFrom 84 = .ok (.ifCond .ne 79, 3) := by decide +kernel
theorem dX0_giveFrom_87 : decode cX0_giveFrom 87 = .ok (.aload_n 0, 1) := by decide +kernel
theorem dX0_giveFrom_88 : decode cX0_giveFrom 88 = .ok (.getfield 18, 3) := by decide +kernel
theorem dX0_giveFrom_91 : decode cX0_giveFrom 91 = .ok (.iload 4, 2) := by decide +kernel
theorem dX0_giveFrom_93 : decode cX0_giveFrom 93 = .ok (.iaload, 1) := by decide +kernel
theorem dX0_giveFrom_94 : decode cX0_giveFrom 94 = .ok (.ifCond .le 63, 3) := by decide +kernel
theorem dX0_giveFrom_97 : decode cX0_giveFrom 97 = .ok (.aload_n 0, 1) := by decide +kernel
theorem dX0_giveFrom_98 : decode cX0_giveFrom 98 = .ok (.getfield 21, 3) := by decide +kernel
theorem dX0_giveFrom_101 : decode cX0_giveFrom 101 = .ok (.iload_n 1, 1) := by decide +kernel
theorem dX0_giveFrom_102 : decode cX0_giveFrom 102 = .ok (.iload 4, 2) := by decide +kernel
theorem dX0_giveFrom_104 : decode cX0_giveFrom 104 = .ok (.invokevirtual 56, 3) := by decide +kernel
theorem dX0_giveFrom_107 : decode cX0_giveFrom 107 = .ok (.istore 5, 2) := by decide +kernel
theorem dX0_giveFrom_109 : decode cX0_giveFrom 109 = .ok (.aload_n 0, 1) := by decide +kernel
theorem dX0_giveFrom_110 : decode cX0_giveFrom 110 = .ok (.getfield 15, 3) := by decide +kernel
theorem dX0_giveFrom_113 : decode cX0_giveFrom 113 = .ok (.iload_n 1, 1) := by decide +kernel
theorem dX0_giveFrom_114 : decode cX0_giveFrom 114 = .ok (.iload 4, 2) := by decide +kernel
theorem dX0_giveFrom_116 : decode cX0_giveFrom 116 = .ok (.iastore, 1) := by decide +kernel
theorem dX0_giveFrom_117 : decode cX0_giveFrom 117 = .ok (.aload_n 0, 1) := by decide +kernel
theorem dX0_giveFrom_118 : decode cX0_giveFrom 118 = .ok (.getfield 18, 3) := by decide +kernel
theorem dX0_giveFrom_121 : decode cX0_giveFrom 121 = .ok (.iload 4, 2) := by decide +kernel
theorem dX0_giveFrom_123 : decode cX0_giveFrom 123 = .ok (.dup2, 1) := by decide +kernel
theorem dX0_giveFrom_124 : decode cX0_giveFrom 124 = .ok (.iaload, 1) := by decide +kernel
theorem dX0_giveFrom_125 : decode cX0_giveFrom 125 = .ok (.iload 5, 2) := by decide +kernel
theorem dX0_giveFrom_127 : decode cX0_giveFrom 127 = .ok (.isub, 1) := by decide +kernel
theorem dX0_giveFrom_128 : decode cX0_giveFrom 128 = .ok (.iastore, 1) := by decide +kernel
theorem dX0_giveFrom_129 : decode cX0_giveFrom 129 = .ok (.aload_n 0, 1) := by decide +kernel
theorem dX0_giveFrom_130 : decode cX0_giveFrom 130 = .ok (.iload_n 1, 1) := by decide +kernel
theorem dX0_giveFrom_131 : decode cX0_giveFrom 131 = .ok (.iconst 1, 1) := by decide +kernel
theorem dX0_giveFrom_132 : decode cX0_giveFrom 132 = .ok (.iadd, 1) := by decide +kernel
theorem dX0_giveFrom_133 : decode cX0_giveFrom 133 = .ok (.iload_n 2, 1) := by decide +kernel
theorem dX0_giveFrom_134 : decode cX0_giveFrom 134 = .ok (.aload_n 0, 1) := by decide +kernel
theorem dX0_giveFrom_135 : decode cX0_giveFrom 135 = .ok (.iload_n 1, 1) := by decide +kernel
theorem dX0_giveFrom_136 : decode cX0_giveFrom 136 = .ok (.iload 4, 2) := by decide +kernel
theorem dX0_giveFrom_138 : decode cX0_giveFrom 138 = .ok (.invokevirtual 60, 3) := by decide +kernel
theorem dX0_giveFrom_141 : decode cX0_giveFrom 141 = .ok (.iadd, 1) := by decide +kernel
theorem dX0_giveFrom_142 : decode cX0_giveFrom 142 = .ok (.invokevirtual 33, 3) := by decide +kernel
theorem dX0_giveFrom_145 : decode cX0_giveFrom 145 = .ok (.aload_n 0, 1) := by decide +kernel
theorem dX0_giveFrom_146 : decode cX0_giveFrom 146 = .ok (.getfield 18, 3) := by decide +kernel
theorem dX0_giveFrom_149 : decode cX0_giveFrom 149 = .ok (.iload 4, 2) := by decide +kernel
theorem dX0_giveFrom_151 : decode cX0_giveFrom 151 = .ok (.dup2, 1) := by decide +kernel
theorem dX0_giveFrom_152 : decode cX0_giveFrom 152 = .ok (.iaload, 1) := by decide +kernel
theorem dX0_giveFrom_153 : decode cX0_giveFrom 153 = .ok (.iload 5, 2) := by decide +kernel
theorem dX0_giveFrom_155 : decode cX0_giveFrom 155 = .ok (.iadd, 1) := by decide +kernel
theorem dX0_giveFrom_156 : decode cX0_giveFrom 156 = .ok (.iastore, 1) := by decide +kernel
theorem dX0_giveFrom_157 : decode cX0_giveFrom 157 = .ok (.iinc 4 1, 3) := by decide +kernel
theorem dX0_giveFrom_160 : decode cX0_giveFrom 160 = .ok (.goto (-96), 3) := by decide +kernel
theorem dX0_giveFrom_163 : decode cX0_giveFrom 163 = .ok (.return_, 1) := by decide +kernel
theorem dX0_costTo_0 : decode cX0_costTo 0 = .ok (.aload_n 0, 1) := by decide +kernel
theorem dX0_costTo_1 : decode cX0_costTo 1 = .ok (.getfield 21, 3) := by decide +kernel
theorem dX0_costTo_4 : decode cX0_costTo 4 = .ok (.getfield 63, 3) := by decide +kernel
theorem dX0_costTo_7 : decode cX0_costTo 7 = .ok (.iload_n 1, 1) := by decide +kernel
theorem dX0_costTo_8 : decode cX0_costTo 8 = .ok (.iaload, 1) := by decide +kernel
theorem dX0_costTo_9 : decode cX0_costTo 9 = .ok (.iload_n 2, 1) := by decide +kernel
theorem dX0_costTo_10 : decode cX0_costTo 10 = .ok (.if_icmp .ne 15, 3) := by decide +kernel
theorem dX0_costTo_13 : decode cX0_costTo 13 = .ok (.aload_n 0, 1) := by decide +kernel
theorem dX0_costTo_14 : decode cX0_costTo 14 = .ok (.getfield 21, 3) := by decide +kernel
theorem dX0_costTo_17 : decode cX0_costTo 17 = .ok (.getfield 66, 3) := by decide +kernel
theorem dX0_costTo_20 : decode cX0_costTo 20 = .ok (.iload_n 1, 1) := by decide +kernel
theorem dX0_costTo_21 : decode cX0_costTo 21 = .ok (.iaload, 1) := by decide +kernel
theorem dX0_costTo_22 : decode cX0_costTo 22 = .ok (.goto 20, 3) := by decide +kernel
theorem dX0_costTo_25 : decode cX0_costTo 25 = .ok (.aload_n 0, 1) := by decide +kernel
theorem dX0_costTo_26 : decode cX0_costTo 26 = .ok (.getfield 21, 3) := by decide +kernel
theorem dX0_costTo_29 : decode cX0_costTo 29 = .ok (.getfield 66, 3) := by decide +kernel
theorem dX0_costTo_32 : decode cX0_costTo 32 = .ok (.iload_n 1, 1) := by decide +kernel
theorem dX0_costTo_33 : decode cX0_costTo 33 = .ok (.iaload, 1) := by decide +kernel
theorem dX0_costTo_34 : decode cX0_costTo 34 = .ok (.aload_n 0, 1) := by decide +kernel
theorem dX0_costTo_35 : decode cX0_costTo 35 = .ok (.getfield 21, 3) := by decide +kernel
theorem dX0_costTo_38 : decode cX0_costTo 38 = .ok (.getfield 69, 3) := by decide +kernel
theorem dX0_costTo_41 : decode cX0_costTo 41 = .ok (.iadd, 1) := by decide +kernel
theorem dX0_costTo_42 : decode cX0_costTo 42 = .ok (.ireturn, 1) := by decide +kernel
theorem dX0_needyOnes_0 : decode cX0_needyOnes 0 = .ok (.iconst 0, 1) := by decide +kernel
theorem dX0_needyOnes_1 : decode cX0_needyOnes 1 = .ok (.istore_n 1, 1) := by decide +kernel
theorem dX0_needyOnes_2 : decode cX0_needyOnes 2 = .ok (.iconst 0, 1) := by decide +kernel
theorem dX0_needyOnes_3 : decode cX0_needyOnes 3 = .ok (.istore_n 2, 1) := by decide +kernel
theorem dX0_needyOnes_4 : decode cX0_needyOnes 4 = .ok (.iload_n 2, 1) := by decide +kernel
theorem dX0_needyOnes_5 : decode cX0_needyOnes 5 = .ok (.aload_n 0, 1) := by decide +kernel
theorem dX0_needyOnes_6 : decode cX0_needyOnes 6 = .ok (.getfield 21, 3) := by decide +kernel
theorem dX0_needyOnes_9 : decode cX0_needyOnes 9 = .ok (.getfield 49, 3) := by decide +kernel
theorem dX0_needyOnes_12 : decode cX0_needyOnes 12 = .ok (.if_icmp .ge 29, 3) := by decide +kernel
theorem dX0_needyOnes_15 : decode cX0_needyOnes 15 = .ok (.iload_n 1, 1) := by decide +kernel
theorem dX0_needyOnes_16 : decode cX0_needyOnes 16 = .ok (.aload_n 0, 1) := by decide +kernel
theorem dX0_needyOnes_17 : decode cX0_needyOnes 17 = .ok (.getfield 18, 3) := by decide +kernel
theorem dX0_needyOnes_20 : decode cX0_needyOnes 20 = .ok (.iload_n 2, 1) := by decide +kernel
theorem dX0_needyOnes_21 : decode cX0_needyOnes 21 = .ok (.iaload, 1) := by decide +kernel
theorem dX0_needyOnes_22 : decode cX0_needyOnes 22 = .ok (.ifCond .le 7, 3) := by decide +kernel
theorem dX0_needyOnes_25 : decode cX0_needyOnes 25 = .ok (.iconst 1, 1) := by decide +kernel
theorem dX0_needyOnes_26 : decode cX0_needyOnes 26 = .ok (.goto 4, 3) := by decide +kernel
theorem dX0_needyOnes_29 : decode cX0_needyOnes 29 = .ok (.iconst 0, 1) := by decide +kernel
theorem dX0_needyOnes_30 : decode cX0_needyOnes 30 = .ok (.invokestatic 72, 3) := by decide +kernel
theorem dX0_needyOnes_33 : decode cX0_needyOnes 33 = .ok (.iadd, 1) := by decide +kernel
theorem dX0_needyOnes_34 : decode cX0_needyOnes 34 = .ok (.istore_n 1, 1) := by decide +kernel
theorem dX0_needyOnes_35 : decode cX0_needyOnes 35 = .ok (.iinc 2 1, 3) := by decide +kernel
theorem dX0_needyOnes_38 : decode cX0_needyOnes 38 = .ok (.goto (-34), 3) := by decide +kernel
theorem dX0_needyOnes_41 : decode cX0_needyOnes 41 = .ok (.iload_n 1, 1) := by decide +kernel
theorem dX0_needyOnes_42 : decode cX0_needyOnes 42 = .ok (.ireturn, 1) := by decide +kernel
theorem dX0_takeAsBest_0 : decode cX0_takeAsBest 0 = .ok (.aload_n 0, 1) := by decide +kernel
theorem dX0_takeAsBest_1 : decode cX0_takeAsBest 1 = .ok (.iload_n 2, 1) := by decide +kernel
theorem dX0_takeAsBest_2 : decode cX0_takeAsBest 2 = .ok (.putfield 29, 3) := by decide +kernel
theorem dX0_takeAsBest_5 : decode cX0_takeAsBest 5 = .ok (.iconst 0, 1) := by decide +kernel
theorem dX0_takeAsBest_6 : decode cX0_takeAsBest 6 = .ok (.istore_n 3, 1) := by decide +kernel
theorem dX0_takeAsBest_7 : decode cX0_takeAsBest 7 = .ok (.iload_n 3, 1) := by decide +kernel
theorem dX0_takeAsBest_8 : decode cX0_takeAsBest 8 = .ok (.bipush 6, 2) := by decide +kernel
theorem dX0_takeAsBest_10 : decode cX0_takeAsBest 10 = .ok (.if_icmp .ge 31, 3) := by decide +kernel
theorem dX0_takeAsBest_13 : decode cX0_takeAsBest 13 = .ok (.aload_n 0, 1) := by decide +kernel
theorem dX0_takeAsBest_14 : decode cX0_takeAsBest 14 = .ok (.getfield 9, 3) := by decide +kernel
theorem dX0_takeAsBest_17 : decode cX0_takeAsBest 17 = .ok (.iload_n 3, 1) := by decide +kernel
theorem dX0_takeAsBest_18 : decode cX0_takeAsBest 18 = .ok (.iload_n 3, 1) := by decide +kernel
theorem dX0_takeAsBest_19 : decode cX0_takeAsBest 19 = .ok (.iload_n 1, 1) := by decide +kernel
theorem dX0_takeAsBest_20 : decode cX0_takeAsBest 20 = .ok (.if_icmp .ge 12, 3) := by decide +kernel
theorem dX0_takeAsBest_23 : decode cX0_takeAsBest 23 = .ok (.aload_n 0, 1) := by decide +kernel
theorem dX0_takeAsBest_24 : decode cX0_takeAsBest 24 = .ok (.getfield 15, 3) := by decide +kernel
theorem dX0_takeAsBest_27 : decode cX0_takeAsBest 27 = .ok (.iload_n 3, 1) := by decide +kernel
theorem dX0_takeAsBest_28 : decode cX0_takeAsBest 28 = .ok (.iaload, 1) := by decide +kernel
theorem dX0_takeAsBest_29 : decode cX0_takeAsBest 29 = .ok (.goto 5, 3) := by decide +kernel
theorem dX0_takeAsBest_32 : decode cX0_takeAsBest 32 = .ok (.bipush (-4), 2) := by decide +kernel
theorem dX0_takeAsBest_34 : decode cX0_takeAsBest 34 = .ok (.iastore, 1) := by decide +kernel
theorem dX0_takeAsBest_35 : decode cX0_takeAsBest 35 = .ok (.iinc 3 1, 3) := by decide +kernel
theorem dX0_takeAsBest_38 : decode cX0_takeAsBest 38 = .ok (.goto (-31), 3) := by decide +kernel
theorem dX0_takeAsBest_41 : decode cX0_takeAsBest 41 = .ok (.return_, 1) := by decide +kernel
theorem dX1_init_0 : decode cX1_init 0 = .ok (.aload_n 0, 1) := by decide +kernel
theorem dX1_init_1 : decode cX1_init 1 = .ok (.invokespecial 3, 3) := by decide +kernel
theorem dX1_init_4 : decode cX1_init 4 = .ok (.aload_n 0, 1) := by decide +kernel
theorem dX1_init_5 : decode cX1_init 5 = .ok (.bipush 64, 2) := by decide +kernel
theorem dX1_init_7 : decode cX1_init 7 = .ok (.newarray .int, 2) := by decide +kernel
theorem dX1_init_9 : decode cX1_init 9 = .ok (.putfield 11, 3) := by decide +kernel
theorem dX1_init_12 : decode cX1_init 12 = .ok (.aload_n 0, 1) := by decide +kernel
theorem dX1_init_13 : decode cX1_init 13 = .ok (.bipush 8, 2) := by decide +kernel
theorem dX1_init_15 : decode cX1_init 15 = .ok (.newarray .int, 2) := by decide +kernel
theorem dX1_init_17 : decode cX1_init 17 = .ok (.putfield 15, 3) := by decide +kernel
theorem dX1_init_20 : decode cX1_init 20 = .ok (.aload_n 0, 1) := by decide +kernel
theorem dX1_init_21 : decode cX1_init 21 = .ok (.bipush 8, 2) := by decide +kernel
theorem dX1_init_23 : decode cX1_init 23 = .ok (.newarray .boolean, 2) := by decide +kernel
theorem dX1_init_25 : decode cX1_init 25 = .ok (.putfield 18, 3) := by decide +kernel
theorem dX1_init_28 : decode cX1_init 28 = .ok (.return_, 1) := by decide +kernel
theorem dX1_note_0 : decode cX1_note 0 = .ok (.aload_n 0, 1) := by decide +kernel
theorem dX1_note_1 : decode cX1_note 1 = .ok (.getfield 22, 3) := by decide +kernel
theorem dX1_note_4 : decode cX1_note 4 = .ok (.bipush 8, 2) := by decide +kernel
theorem dX1_note_6 : decode cX1_note 6 = .ok (.if_icmp .lt 6, 3) := by decide +kernel
theorem dX1_note_9 : decode cX1_note 9 = .ok (.bipush (-3), 2) := by decide +kernel
theorem dX1_note_11 : decode cX1_note 11 = .ok (.ireturn, 1) := by decide +kernel
theorem dX1_note_12 : decode cX1_note 12 = .ok (.aload_n 0, 1) := by decide +kernel
theorem dX1_note_13 : decode cX1_note 13 = .ok (.getfield 15, 3) := by decide +kernel
theorem dX1_note_16 : decode cX1_note 16 = .ok (.aload_n 0, 1) := by decide +kernel
theorem dX1_note_17 : decode cX1_note 17 = .ok (.getfield 22, 3) := by decide +kernel
theorem dX1_note_20 : decode cX1_note 20 = .ok (.iload_n 1, 1) := by decide +kernel
theorem dX1_note_21 : decode cX1_note 21 = .ok (.iastore, 1) := by decide +kernel
theorem dX1_note_22 : decode cX1_note 22 = .ok (.aload_n 0, 1) := by decide +kernel
theorem dX1_note_23 : decode cX1_note 23 = .ok (.getfield 18, 3) := by decide +kernel
theorem dX1_note_26 : decode cX1_note 26 = .ok (.aload_n 0, 1) := by decide +kernel
theorem dX1_note_27 : decode cX1_note 27 = .ok (.getfield 22, 3) := by decide +kernel
theorem dX1_note_30 : decode cX1_note 30 = .ok (.iload_n 2, 1) := by decide +kernel
theorem dX1_note_31 : decode cX1_note 31 = .ok (.bastore, 1) := by decide +kernel
theorem dX1_note_32 : decode cX1_note 32 = .ok (.aload_n 0, 1) := by decide +kernel
theorem dX1_note_33 : decode cX1_note 33 = .ok (.dup, 1) := by decide +kernel
theorem dX1_note_34 : decode cX1_note 34 = .ok (.getfield 22, 3) := by decide +kernel
theorem dX1_note_37 : decode cX1_note 37 = .ok (.iconst 1, 1) := by decide +kernel
theorem dX1_note_38 : decode cX1_note 38 = .ok (.iadd, 1) := by decide +kernel
theorem dX1_note_39 : decode cX1_note 39 = .ok (.putfield 22, 3) := by decide +kernel
theorem dX1_note_42 : decode cX1_note 42 = .ok (.aload_n 0, 1) := by decide +kernel
theorem dX1_note_43 : decode cX1_note 43 = .ok (.getfield 22, 3) := by decide +kernel
theorem dX1_note_46 : decode cX1_note 46 = .ok (.ireturn, 1) := by decide +kernel
theorem dX1_findSets_0 : decode cX1_findSets 0 = .ok (.aload_n 0, 1) := by decide +kernel
theorem dX1_findSets_1 : decode cX1_findSets 1 = .ok (.iconst 0, 1) := by decide +kernel
theorem dX1_findSets_2 : decode cX1_findSets 2 = .ok (.putfield 26, 3) := by decide +kernel
theorem dX1_findSets_5 : decode cX1_findSets 5 = .ok (.iconst 0, 1) := by decide +kernel
theorem dX1_findSets_6 : decode cX1_findSets 6 = .ok (.istore_n 3, 1) := by decide +kernel
theorem dX1_findSets_7 : decode cX1_findSets 7 = .ok (.iload_n 3, 1) := by decide +kernel
theorem dX1_findSets_8 : decode cX1_findSets 8 = .ok (.iload_n 2, 1) := by decide +kernel
theorem dX1_findSets_9 : decode cX1_findSets 9 = .ok (.invokestatic 29, 3) := by decide +kernel
theorem dX1_findSets_12 : decode cX1_findSets 12 = .ok (.if_icmp .gt 51, 3) := by decide +kernel
theorem dX1_findSets_15 : decode cX1_findSets 15 = .ok (.iload_n 3, 1) := by decide +kernel
theorem dX1_findSets_16 : decode cX1_findSets 16 = .ok (.bipush 64, 2) := by decide +kernel
theorem dX1_findSets_18 : decode cX1_findSets 18 = .ok (.if_icmp .ge 45, 3) := by decide +kernel
theorem dX1_findSets_21 : decode cX1_findSets 21 = .ok (.iload_n 3, 1) := by decide +kernel
theorem dX1_findSets_22 : decode cX1_findSets 22 = .ok (.invokestatic 33, 3) := by decide +kernel
theorem dX1_findSets_25 : decode cX1_findSets 25 = .ok (.iload_n 1, 1) := by decide +kernel
theorem dX1_findSets_26 : decode cX1_findSets 26 = .ok (.if_icmp .ne 31, 3) := by decide +kernel
theorem dX1_findSets_29 : decode cX1_findSets 29 = .ok (.aload_n 0, 1) := by decide +kernel
theorem dX1_findSets_30 : decode cX1_findSets 30 = .ok (.iload_n 3, 1) := by decide +kernel
theorem dX1_findSets_31 : decode cX1_findSets 31 = .ok (.invokevirtual 38, 3) := by decide +kernel
theorem dX1_findSets_34 : decode cX1_findSets 34 = .ok (.ifCond .eq 23, 3) := by decide +kernel
theorem dX1_findSets_37 : decode cX1_findSets 37 = .ok (.aload_n 0, 1) := by decide +kernel
theorem dX1_findSets_38 : decode cX1_findSets 38 = .ok (.getfield 11, 3) := by decide +kernel
theorem dX1_findSets_41 : decode cX1_findSets 41 = .ok (.aload_n 0, 1) := by decide +kernel
theorem dX1_findSets_42 : decode cX1_findSets 42 = .ok (.getfield 26, 3) := by decide +kernel
theorem dX1_findSets_45 : decode cX1_findSets 45 = .ok (.iload_n 3, 1) := by decide +kernel
theorem dX1_findSets_46 : decode cX1_findSets 46 = .ok (.iastore, 1) := by decide +kernel
theorem dX1_findSets_47 : decode cX1_findSets 47 = .ok (.aload_n 0, 1) := by decide +kernel
theorem dX1_findSets_48 : decode cX1_findSets 48 = .ok (.dup, 1) := by decide +kernel
theorem dX1_findSets_49 : decode cX1_findSets 49 = .ok (.getfield 26, 3) := by decide +kernel
theorem dX1_findSets_52 : decode cX1_findSets 52 = .ok (.iconst 1, 1) := by decide +kernel
theorem dX1_findSets_53 : decode cX1_findSets 53 = .ok (.iadd, 1) := by decide +kernel
theorem dX1_findSets_54 : decode cX1_findSets 54 = .ok (.putfield 26, 3) := by decide +kernel
theorem dX1_findSets_57 : decode cX1_findSets 57 = .ok (.iinc 3 1, 3) := by decide +kernel
theorem dX1_findSets_60 : decode cX1_findSets 60 = .ok (.goto (-53), 3) := by decide +kernel
theorem dX1_findSets_63 : decode cX1_findSets 63 = .ok (.return_, 1) := by decide +kernel
theorem dX1_isAsTested_0 : decode cX1_isAsTested 0 = .ok (.iconst 0, 1) := by decide +kernel
theorem dX1_isAsTested_1 : decode cX1_isAsTested 1 = .ok (.istore_n 2, 1) := by decide +kernel
theorem dX1_isAsTested_2 : decode cX1_isAsTested 2 = .ok (.iload_n 2, 1) := by decide +kernel
theorem dX1_isAsTested_3 : decode cX1_isAsTested 3 = .ok (.aload_n 0, 1) := by decide +kernel
theorem dX1_isAsTested_4 : decode cX1_isAsTested 4 = .ok (.getfield 22, 3) := by decide +kernel
theorem dX1_isAsTested_7 : decode cX1_isAsTested 7 = .ok (.if_icmp .ge 36, 3) := by decide +kernel
theorem dX1_isAsTested_10 : decode cX1_isAsTested 10 = .ok (.iload_n 1, 1) := by decide +kernel
theorem dX1_isAsTested_11 : decode cX1_isAsTested 11 = .ok (.aload_n 0, 1) := by decide +kernel
theorem dX1_isAsTested_12 : decode cX1_isAsTested 12 = .ok (.getfield 15, 3) := by decide +kernel
theorem dX1_isAsTested_15 : decode cX1_isAsTested 15 = .ok (.iload_n 2, 1) := by decide +kernel
theorem dX1_isAsTested_16 : decode cX1_isAsTested 16 = .ok (.iaload, 1) := by decide +kernel
theorem dX1_isAsTested_17 : decode cX1_isAsTested 17 = .ok (.iand, 1) := by decide +kernel
theorem dX1_isAsTested_18 : decode cX1_isAsTested 18 = .ok (.ifCond .eq 7, 3) := by decide +kernel
theorem dX1_isAsTested_21 : decode cX1_isAsTested 21 = .ok (.iconst 1, 1) := by decide +kernel
theorem dX1_isAsTested_22 : decode cX1_isAsTested 22 = .ok (.goto 4, 3) := by decide +kernel
theorem dX1_isAsTested_25 : decode cX1_isAsTested 25 = .ok (.iconst 0, 1) := by decide +kernel
theorem dX1_isAsTested_26 : decode cX1_isAsTested 26 = .ok (.aload_n 0, 1) := by decide +kernel
theorem dX1_isAsTested_27 : decode cX1_isAsTested 27 = .ok (.getfield 18, 3) := by decide +kernel
theorem dX1_isAsTested_30 : decode cX1_isAsTested 30 = .ok (.iload_n 2, 1) := by decide +kernel
theorem dX1_isAsTested_31 : decode cX1_isAsTested 31 = .ok (.baload, 1) := by decide +kernel
theorem dX1_isAsTested_32 : decode cX1_isAsTested 32 = .ok (.if_icmp .eq 5, 3) := by decide +kernel
theorem dX1_isAsTested_35 : decode cX1_isAsTested 35 = .ok (.iconst 0, 1) := by decide +kernel
theorem dX1_isAsTested_36 : decode cX1_isAsTested 36 = .ok (.ireturn, 1) := by decide +kernel
theorem dX1_isAsTested_37 : decode cX1_isAsTested 37 = .ok (.iinc 2 1, 3) := by decide +kernel
theorem dX1_isAsTested_40 : decode cX1_isAsTested 40 = .ok (.goto (-38), 3) := by decide +kernel
theorem dX1_isAsTested_43 : decode cX1_isAsTested 43 = .ok (.iconst 1, 1) := by decide +kernel
theorem dX1_isAsTested_44 : decode cX1_isAsTested 44 = .ok (.ireturn, 1) := by decide +kernel
theorem dX1_inAll_0 : decode cX1_inAll 0 = .ok (.iconst (-1), 1) := by decide +kernel
theorem dX1_inAll_1 : decode cX1_inAll 1 = .ok (.istore_n 1, 1) := by decide +kernel
theorem dX1_inAll_2 : decode cX1_inAll 2 = .ok (.iconst 0, 1) := by decide +kernel
theorem dX1_inAll_3 : decode cX1_inAll 3 = .ok (.istore_n 2, 1) := by decide +kernel
theorem dX1_inAll_4 : decode cX1_inAll 4 = .ok (.iload_n 2, 1) := by decide +kernel
theorem dX1_inAll_5 : decode cX1_inAll 5 = .ok (.aload_n 0, 1) := by decide +kernel
theorem dX1_inAll_6 : decode cX1_inAll 6 = .ok (.getfield 26, 3) := by decide +kernel
theorem dX1_inAll_9 : decode cX1_inAll 9 = .ok (.if_icmp .ge 18, 3) := by decide +kernel
theorem dX1_inAll_12 : decode cX1_inAll 12 = .ok (.iload_n 1, 1) := by decide +kernel
theorem dX1_inAll_13 : decode cX1_inAll 13 = .ok (.aload_n 0, 1) := by decide +kernel
theorem dX1_inAll_14 : decode cX1_inAll 14 = .ok (.getfield 11, 3) := by decide +kernel
theorem dX1_inAll_17 : decode cX1_inAll 17 = .ok (.iload_n 2, 1) := by decide +kernel
theorem dX1_inAll_18 : decode cX1_inAll 18 = .ok (.iaload, 1) := by decide +kernel
theorem dX1_inAll_19 : decode cX1_inAll 19 = .ok (.iand, 1) := by decide +kernel
theorem dX1_inAll_20 : decode cX1_inAll 20 = .ok (.istore_n 1, 1) := by decide +kernel
theorem dX1_inAll_21 : decode cX1_inAll 21 = .ok (.iinc 2 1, 3) := by decide +kernel
theorem dX1_inAll_24 : decode cX1_inAll 24 = .ok (.goto (-20), 3) := by decide +kernel
theorem dX1_inAll_27 : decode cX1_inAll 27 = .ok (.iload_n 1, 1) := by decide +kernel
theorem dX1_inAll_28 : decode cX1_inAll 28 = .ok (.ireturn, 1) := by decide +kernel
theorem dX1_inAny_0 : decode cX1_inAny 0 = .ok (.iconst 0, 1) := by decide +kernel
theorem dX1_inAny_1 : decode cX1_inAny 1 = .ok (.istore_n 1, 1) := by decide +kernel
theorem dX1_inAny_2 : decode cX1_inAny 2 = .ok (.iconst 0, 1) := by decide +kernel
theorem dX1_inAny_3 : decode cX1_inAny 3 = .ok (.istore_n 2, 1) := by decide +kernel
theorem dX1_inAny_4 : decode cX1_inAny 4 = .ok (.iload_n 2, 1) := by decide +kernel
theorem dX1_inAny_5 : decode cX1_inAny 5 = .ok (.aload_n 0, 1) := by decide +kernel
theorem dX1_inAny_6 : decode cX1_inAny 6 = .ok (.getfield 26, 3) := by decide +kernel
theorem dX1_inAny_9 : decode cX1_inAny 9 = .ok (.if_icmp .ge 18, 3) := by decide +kernel
theorem dX1_inAny_12 : decode cX1_inAny 12 = .ok (.iload_n 1, 1) := by decide +kernel
theorem dX1_inAny_13 : decode cX1_inAny 13 = .ok (.aload_n 0, 1) := by decide +kernel
theorem dX1_inAny_14 : decode cX1_inAny 14 = .ok (.getfield 11, 3) := by decide +kernel
theorem dX1_inAny_17 : decode cX1_inAny 17 = .ok (.iload_n 2, 1) := by decide +kernel
theorem dX1_inAny_18 : decode cX1_inAny 18 = .ok (.iaload, 1) := by decide +kernel
theorem dX1_inAny_19 : decode cX1_inAny 19 = .ok (.ior, 1) := by decide +kernel
theorem dX1_inAny_20 : decode cX1_inAny 20 = .ok (.istore_n 1, 1) := by decide +kernel
theorem dX1_inAny_21 : decode cX1_inAny 21 = .ok (.iinc 2 1, 3) := by decide +kernel
theorem dX1_inAny_24 : decode cX1_inAny 24 = .ok (.goto (-20), 3) := by decide +kernel
theorem dX1_inAny_27 : decode cX1_inAny 27 = .ok (.iload_n 1, 1) := by decide +kernel
theorem dX1_inAny_28 : decode cX1_inAny 28 = .ok (.ireturn, 1) := by decide +kernel
theorem dX1_leftAtWorst_0 : decode cX1_leftAtWorst 0 = .ok (.iconst 0, 1) := by decide +kernel
theorem dX1_leftAtWorst_1 : decode cX1_leftAtWorst 1 = .ok (.istore_n 2, 1) := by decide +kernel
theorem dX1_leftAtWorst_2 : decode cX1_leftAtWorst 2 = .ok (.iconst 0, 1) := by decide +kernel
theorem dX1_leftAtWorst_3 : decode cX1_leftAtWorst 3 = .ok (.istore_n 3, 1) := by decide +kernel
theorem dX1_leftAtWorst_4 : decode cX1_leftAtWorst 4 = .ok (.iload_n 3, 1) := by decide +kernel
theorem dX1_leftAtWorst_5 : decode cX1_leftAtWorst 5 = .ok (.aload_n 0, 1) := by decide +kernel
theorem dX1_leftAtWorst_6 : decode cX1_leftAtWorst 6 = .ok (.getfield 26, 3) := by decide +kernel
theorem dX1_leftAtWorst_9 : decode cX1_leftAtWorst 9 = .ok (.if_icmp .ge 31, 3) := by decide +kernel
theorem dX1_leftAtWorst_12 : decode cX1_leftAtWorst 12 = .ok (.iload_n 2, 1) := by decide +kernel
theorem dX1_leftAtWorst_13 : decode cX1_leftAtWorst 13 = .ok (.aload_n 0, 1) := by decide +kernel
theorem dX1_leftAtWorst_14 : decode cX1_leftAtWorst 14 = .ok (.getfield 11, 3) := by decide +kernel
theorem dX1_leftAtWorst_17 : decode cX1_leftAtWorst 17 = .ok (.iload_n 3, 1) := by decide +kernel
theorem dX1_leftAtWorst_18 : decode cX1_leftAtWorst 18 = .ok (.iaload, 1) := by decide +kernel
theorem dX1_leftAtWorst_19 : decode cX1_leftAtWorst 19 = .ok (.iload_n 1, 1) := by decide +kernel
theorem dX1_leftAtWorst_20 : decode cX1_leftAtWorst 20 = .ok (.iand, 1) := by decide +kernel
theorem dX1_leftAtWorst_21 : decode cX1_leftAtWorst 21 = .ok (.ifCond .eq 7, 3) := by decide +kernel
theorem dX1_leftAtWorst_24 : decode cX1_leftAtWorst 24 = .ok (.iconst 1, 1) := by decide +kernel
theorem dX1_leftAtWorst_25 : decode cX1_leftAtWorst 25 = .ok (.goto 4, 3) := by decide +kernel
theorem dX1_leftAtWorst_28 : decode cX1_leftAtWorst 28 = .ok (.iconst 0, 1) := by decide +kernel
theorem dX1_leftAtWorst_29 : decode cX1_leftAtWorst 29 = .ok (.invokestatic 42, 3) := by decide +kernel
theorem dX1_leftAtWorst_32 : decode cX1_leftAtWorst 32 = .ok (.iadd, 1) := by decide +kernel
theorem dX1_leftAtWorst_33 : decode cX1_leftAtWorst 33 = .ok (.istore_n 2, 1) := by decide +kernel
theorem dX1_leftAtWorst_34 : decode cX1_leftAtWorst 34 = .ok (.iinc 3 1, 3) := by decide +kernel
theorem dX1_leftAtWorst_37 : decode cX1_leftAtWorst 37 = .ok (.goto (-33), 3) := by decide +kernel
theorem dX1_leftAtWorst_40 : decode cX1_leftAtWorst 40 = .ok (.iload_n 2, 1) := by decide +kernel
theorem dX1_leftAtWorst_41 : decode cX1_leftAtWorst 41 = .ok (.aload_n 0, 1) := by decide +kernel
theorem dX1_leftAtWorst_42 : decode cX1_leftAtWorst 42 = .ok (.getfield 26, 3) := by decide +kernel
theorem dX1_leftAtWorst_45 : decode cX1_leftAtWorst 45 = .ok (.iload_n 2, 1) := by decide +kernel
theorem dX1_leftAtWorst_46 : decode cX1_leftAtWorst 46 = .ok (.isub, 1) := by decide +kernel
theorem dX1_leftAtWorst_47 : decode cX1_leftAtWorst 47 = .ok (.invokestatic 46, 3) := by decide +kernel
theorem dX1_leftAtWorst_50 : decode cX1_leftAtWorst 50 = .ok (.ireturn, 1) := by decide +kernel
theorem dX2_init_0 : decode cX2_init 0 = .ok (.aload_n 0, 1) := by decide +kernel
theorem dX2_init_1 : decode cX2_init 1 = .ok (.invokespecial 3, 3) := by decide +kernel
theorem dX2_init_4 : decode cX2_init 4 = .ok (.aload_n 0, 1) := by decide +kernel
theorem dX2_init_5 : decode cX2_init 5 = .ok (.bipush 6, 2) := by decide +kernel
theorem dX2_init_7 : decode cX2_init 7 = .ok (.newarray .int, 2) := by decide +kernel
theorem dX2_init_9 : decode cX2_init 9 = .ok (.putfield 11, 3) := by decide +kernel
theorem dX2_init_12 : decode cX2_init 12 = .ok (.aload_n 0, 1) := by decide +kernel
theorem dX2_init_13 : decode cX2_init 13 = .ok (.bipush 6, 2) := by decide +kernel
theorem dX2_init_15 : decode cX2_init 15 = .ok (.newarray .boolean, 2) := by decide +kernel
theorem dX2_init_17 : decode cX2_init 17 = .ok (.putfield 15, 3) := by decide +kernel
theorem dX2_init_20 : decode cX2_init 20 = .ok (.aload_n 0, 1) := by decide +kernel
theorem dX2_init_21 : decode cX2_init 21 = .ok (.bipush 12, 2) := by decide +kernel
theorem dX2_init_23 : decode cX2_init 23 = .ok (.newarray .int, 2) := by decide +kernel
theorem dX2_init_25 : decode cX2_init 25 = .ok (.putfield 19, 3) := by decide +kernel
theorem dX2_init_28 : decode cX2_init 28 = .ok (.aload_n 0, 1) := by decide +kernel
theorem dX2_init_29 : decode cX2_init 29 = .ok (.aload_n 1, 1) := by decide +kernel
theorem dX2_init_30 : decode cX2_init 30 = .ok (.putfield 22, 3) := by decide +kernel
theorem dX2_init_33 : decode cX2_init 33 = .ok (.return_, 1) := by decide +kernel
theorem dX2_note_0 : decode cX2_note 0 = .ok (.aload_n 0, 1) := by decide +kernel
theorem dX2_note_1 : decode cX2_note 1 = .ok (.getfield 26, 3) := by decide +kernel
theorem dX2_note_4 : decode cX2_note 4 = .ok (.bipush 6, 2) := by decide +kernel
theorem dX2_note_6 : decode cX2_note 6 = .ok (.if_icmp .lt 6, 3) := by decide +kernel
theorem dX2_note_9 : decode cX2_note 9 = .ok (.bipush (-3), 2) := by decide +kernel
theorem dX2_note_11 : decode cX2_note 11 = .ok (.ireturn, 1) := by decide +kernel
theorem dX2_note_12 : decode cX2_note 12 = .ok (.aload_n 0, 1) := by decide +kernel
theorem dX2_note_13 : decode cX2_note 13 = .ok (.getfield 11, 3) := by decide +kernel
theorem dX2_note_16 : decode cX2_note 16 = .ok (.aload_n 0, 1) := by decide +kernel
theorem dX2_note_17 : decode cX2_note 17 = .ok (.getfield 26, 3) := by decide +kernel
theorem dX2_note_20 : decode cX2_note 20 = .ok (.iload_n 1, 1) := by decide +kernel
theorem dX2_note_21 : decode cX2_note 21 = .ok (.iastore, 1) := by decide +kernel
theorem dX2_note_22 : decode cX2_note 22 = .ok (.aload_n 0, 1) := by decide +kernel
theorem dX2_note_23 : decode cX2_note 23 = .ok (.getfield 15, 3) := by decide +kernel
theorem dX2_note_26 : decode cX2_note 26 = .ok (.aload_n 0, 1) := by decide +kernel
theorem dX2_note_27 : decode cX2_note 27 = .ok (.getfield 26, 3) := by decide +kernel
theorem dX2_note_30 : decode cX2_note 30 = .ok (.iload_n 2, 1) := by decide +kernel
theorem dX2_note_31 : decode cX2_note 31 = .ok (.bastore, 1) := by decide +kernel
theorem dX2_note_32 : decode cX2_note 32 = .ok (.aload_n 0, 1) := by decide +kernel
theorem dX2_note_33 : decode cX2_note 33 = .ok (.dup, 1) := by decide +kernel
theorem dX2_note_34 : decode cX2_note 34 = .ok (.getfield 26, 3) := by decide +kernel
theorem dX2_note_37 : decode cX2_note 37 = .ok (.iconst 1, 1) := by decide +kernel
theorem dX2_note_38 : decode cX2_note 38 = .ok (.iadd, 1) := by decide +kernel
theorem dX2_note_39 : decode cX2_note 39 = .ok (.putfield 26, 3) := by decide +kernel
theorem dX2_note_42 : decode cX2_note 42 = .ok (.aload_n 0, 1) := by decide +kernel
theorem dX2_note_43 : decode cX2_note 43 = .ok (.getfield 26, 3) := by decide +kernel
theorem dX2_note_46 : decode cX2_note 46 = .ok (.ireturn, 1) := by decide +kernel
theorem dX2_takeSilence_0 : decode cX2_takeSilence 0 = .ok (.iconst 0, 1) := by decide +kernel
theorem dX2_takeSilence_1 : decode cX2_takeSilence 1 = .ok (.istore_n 1, 1) := by decide +kernel
theorem dX2_takeSilence_2 : decode cX2_takeSilence 2 = .ok (.iload_n 1, 1) := by decide +kernel
theorem dX2_takeSilence_3 : decode cX2_takeSilence 3 = .ok (.bipush 12, 2) := by decide +kernel
theorem dX2_takeSilence_5 : decode cX2_takeSilence 5 = .ok (.if_icmp .ge 23, 3) := by decide +kernel
theorem dX2_takeSilence_8 : decode cX2_takeSilence 8 = .ok (.aload_n 0, 1) := by decide +kernel
theorem dX2_takeSilence_9 : decode cX2_takeSilence 9 = .ok (.getfield 19, 3) := by decide +kernel
theorem dX2_takeSilence_12 : decode cX2_takeSilence 12 = .ok (.iload_n 1, 1) := by decide +kernel
theorem dX2_takeSilence_13 : decode cX2_takeSilence 13 = .ok (.aload_n 0, 1) := by decide +kernel
theorem dX2_takeSilence_14 : decode cX2_takeSilence 14 = .ok (.getfield 22, 3) := by decide +kernel
theorem dX2_takeSilence_17 : decode cX2_takeSilence 17 = .ok (.iload_n 1, 1) := by decide +kernel
theorem dX2_takeSilence_18 : decode cX2_takeSilence 18 = .ok (.invokevirtual 30, 3) := by decide +kernel
theorem dX2_takeSilence_21 : decode cX2_takeSilence 21 = .ok (.iastore, 1) := by decide +kernel
theorem dX2_takeSilence_22 : decode cX2_takeSilence 22 = .ok (.iinc 1 1, 3) := by decide +kernel
theorem dX2_takeSilence_25 : decode cX2_takeSilence 25 = .ok (.goto (-23), 3) := by decide +kernel
theorem dX2_takeSilence_28 : decode cX2_takeSilence 28 = .ok (.return_, 1) := by decide +kernel
theorem dX2_addSilence_0 : decode cX2_addSilence 0 = .ok (.iconst 0, 1) := by decide +kernel
theorem dX2_addSilence_1 : decode cX2_addSilence 1 = .ok (.istore_n 3, 1) := by decide +kernel
theorem dX2_addSilence_2 : decode cX2_addSilence 2 = .ok (.iload_n 3, 1) := by decide +kernel
theorem dX2_addSilence_3 : decode cX2_addSilence 3 = .ok (.bipush 12, 2) := by decide +kernel
theorem dX2_addSilence_5 : decode cX2_addSilence 5 = .ok (.if_icmp .ge 28, 3) := by decide +kernel
theorem dX2_addSilence_8 : decode cX2_addSilence 8 = .ok (.aload_n 0, 1) := by decide +kernel
theorem dX2_addSilence_9 : decode cX2_addSilence 9 = .ok (.getfield 19, 3) := by decide +kernel
theorem dX2_addSilence_12 : decode cX2_addSilence 12 = .ok (.iload_n 3, 1) := by decide +kernel
theorem dX2_addSilence_13 : decode cX2_addSilence 13 = .ok (.dup2, 1) := by decide +kernel
theorem dX2_addSilence_14 : decode cX2_addSilence 14 = .ok (.iaload, 1) := by decide +kernel
theorem dX2_addSilence_15 : decode cX2_addSilence 15 = .ok (.aload_n 0, 1) := by decide +kernel
theorem dX2_addSilence_16 : decode cX2_addSilence 16 = .ok (.getfield 22, 3) := by decide +kernel
theorem dX2_addSilence_19 : decode cX2_addSilence 19 = .ok (.iload_n 1, 1) := by decide +kernel
theorem dX2_addSilence_20 : decode cX2_addSilence 20 = .ok (.iload_n 2, 1) := by decide +kernel
theorem dX2_addSilence_21 : decode cX2_addSilence 21 = .ok (.iload_n 3, 1) := by decide +kernel
theorem dX2_addSilence_22 : decode cX2_addSilence 22 = .ok (.invokevirtual 36, 3) := by decide +kernel
theorem dX2_addSilence_25 : decode cX2_addSilence 25 = .ok (.ior, 1) := by decide +kernel
theorem dX2_addSilence_26 : decode cX2_addSilence 26 = .ok (.iastore, 1) := by decide +kernel
theorem dX2_addSilence_27 : decode cX2_addSilence 27 = .ok (.iinc 3 1, 3) := by decide +kernel
theorem dX2_addSilence_30 : decode cX2_addSilence 30 = .ok (.goto (-28), 3) := by decide +kernel
theorem dX2_addSilence_33 : decode cX2_addSilence 33 = .ok (.return_, 1) := by decide +kernel
theorem dX2_knowersBehind_0 : decode cX2_knowersBehind 0 = .ok (.iconst 1, 1) := by decide +kernel
theorem dX2_knowersBehind_1 : decode cX2_knowersBehind 1 = .ok (.iload_n 1, 1) := by decide +kernel
theorem dX2_knowersBehind_2 : decode cX2_knowersBehind 2 = .ok (.ishl, 1) := by decide +kernel
theorem dX2_knowersBehind_3 : decode cX2_knowersBehind 3 = .ok (.istore_n 3, 1) := by decide +kernel
theorem dX2_knowersBehind_4 : decode cX2_knowersBehind 4 = .ok (.iconst 0, 1) := by decide +kernel
theorem dX2_knowersBehind_5 : decode cX2_knowersBehind 5 = .ok (.istore 4, 2) := by decide +kernel
theorem dX2_knowersBehind_7 : decode cX2_knowersBehind 7 = .ok (.iload 4, 2) := by decide +kernel
theorem dX2_knowersBehind_9 : decode cX2_knowersBehind 9 = .ok (.iload_n 2, 1) := by decide +kernel
theorem dX2_knowersBehind_10 : decode cX2_knowersBehind 10 = .ok (.if_icmp .gt 24, 3) := by decide +kernel
theorem dX2_knowersBehind_13 : decode cX2_knowersBehind 13 = .ok (.iload 4, 2) := by decide +kernel
theorem dX2_knowersBehind_15 : decode cX2_knowersBehind 15 = .ok (.bipush 12, 2) := by decide +kernel
theorem dX2_knowersBehind_17 : decode cX2_knowersBehind 17 = .ok (.if_icmp .ge 17, 3) := by decide +kernel
theorem dX2_knowersBehind_20 : decode cX2_knowersBehind 20 = .ok (.aload_n 0, 1) := by decide +kernel
theorem dX2_knowersBehind_21 : decode cX2_knowersBehind 21 = .ok (.iload_n 3, 1) := by decide +kernel
theorem dX2_knowersBehind_22 : decode cX2_knowersBehind 22 = .ok (.iload 4, 2) := by decide +kernel
theorem dX2_knowersBehind_24 : decode cX2_knowersBehind 24 = .ok (.invokevirtual 40, 3) := by decide +kernel
theorem dX2_knowersBehind_27 : decode cX2_knowersBehind 27 = .ok (.istore_n 3, 1) := by decide +kernel
theorem dX2_knowersBehind_28 : decode cX2_knowersBehind 28 = .ok (.iinc 4 1, 3) := by decide +kernel
theorem dX2_knowersBehind_31 : decode cX2_knowersBehind 31 = .ok (.goto (-24), 3) := by decide +kernel
theorem dX2_knowersBehind_34 : decode cX2_knowersBehind 34 = .ok (.iload_n 3, 1) := by decide +kernel
theorem dX2_knowersBehind_35 : decode cX2_knowersBehind 35 = .ok (.ireturn, 1) := by decide +kernel
theorem dX2_hourItComes_0 : decode cX2_hourItComes 0 = .ok (.iload_n 1, 1) := by decide +kernel
theorem dX2_hourItComes_1 : decode cX2_hourItComes 1 = .ok (.iload_n 2, 1) := by decide +kernel
theorem dX2_hourItComes_2 : decode cX2_hourItComes 2 = .ok (.if_icmp .ne 5, 3) := by decide +kernel
theorem dX2_hourItComes_5 : decode cX2_hourItComes 5 = .ok (.iconst 0, 1) := by decide +kernel
theorem dX2_hourItComes_6 : decode cX2_hourItComes 6 = .ok (.ireturn, 1) := by decide +kernel
theorem dX2_hourItComes_7 : decode cX2_hourItComes 7 = .ok (.iconst 1, 1) := by decide +kernel
theorem dX2_hourItComes_8 : decode cX2_hourItComes 8 = .ok (.iload_n 1, 1) := by decide +kernel
theorem dX2_hourItComes_9 : decode cX2_hourItComes 9 = .ok (.ishl, 1) := by decide +kernel
theorem dX2_hourItComes_10 : decode cX2_hourItComes 10 = .ok (.istore_n 3, 1) := by decide +kernel
theorem dX2_hourItComes_11 : decode cX2_hourItComes 11 = .ok (.iconst 0, 1) := by decide +kernel
theorem dX2_hourItComes_12 : decode cX2_hourItComes 12 = .ok (.istore 4, 2) := by decide +kernel
theorem dX2_hourItComes_14 : decode cX2_hourItComes 14 = .ok (.iload 4, 2) := by decide +kernel
theorem dX2_hourItComes_16 : decode cX2_hourItComes 16 = .ok (.bipush 12, 2) := by decide +kernel
theorem dX2_hourItComes_18 : decode cX2_hourItComes 18 = .ok (.if_icmp .ge 28, 3) := by decide +kernel
theorem dX2_hourItComes_21 : decode cX2_hourItComes 21 = .ok (.aload_n 0, 1) := by decide +kernel
theorem dX2_hourItComes_22 : decode cX2_hourItComes 22 = .ok (.iload_n 3, 1) := by decide +kernel
theorem dX2_hourItComes_23 : decode cX2_hourItComes 23 = .ok (.iload 4, 2) := by decide +kernel
theorem dX2_hourItComes_25 : decode cX2_hourItComes 25 = .ok (.invokevirtual 40, 3) := by decide +kernel
theorem dX2_hourItComes_28 : decode cX2_hourItComes 28 = .ok (.istore_n 3, 1) := by decide +kernel
theorem dX2_hourItComes_29 : decode cX2_hourItComes 29 = .ok (.iload_n 3, 1) := by decide +kernel
theorem dX2_hourItComes_30 : decode cX2_hourItComes 30 = .ok (.iload_n 2, 1) := by decide +kernel
theorem dX2_hourItComes_31 : decode cX2_hourItComes 31 = .ok (.invokestatic 44, 3) := by decide +kernel
theorem dX2_hourItComes_34 : decode cX2_hourItComes 34 = .ok (.ifCond .eq 6, 3) := by decide +kernel
theorem dX2_hourItComes_37 : decode cX2_hourItComes 37 = .ok (.iload 4, 2) := by decide +kernel
theorem dX2_hourItComes_39 : decode cX2_hourItComes 39 = .ok (.ireturn, 1) := by decide +kernel
theorem dX2_hourItComes_40 : decode cX2_hourItComes 40 = .ok (.iinc 4 1, 3) := by decide +kernel
theorem dX2_hourItComes_43 : decode cX2_hourItComes 43 = .ok (.goto (-29), 3) := by decide +kernel
theorem dX2_hourItComes_46 : decode cX2_hourItComes 46 = .ok (.bipush (-4), 2) := by decide +kernel
theorem dX2_hourItComes_48 : decode cX2_hourItComes 48 = .ok (.ireturn, 1) := by decide +kernel
theorem dX2_knowersAfter_0 : decode cX2_knowersAfter 0 = .ok (.iload_n 1, 1) := by decide +kernel
theorem dX2_knowersAfter_1 : decode cX2_knowersAfter 1 = .ok (.istore_n 3, 1) := by decide +kernel
theorem dX2_knowersAfter_2 : decode cX2_knowersAfter 2 = .ok (.iconst 0, 1) := by decide +kernel
theorem dX2_knowersAfter_3 : decode cX2_knowersAfter 3 = .ok (.istore 4, 2) := by decide +kernel
theorem dX2_knowersAfter_5 : decode cX2_knowersAfter 5 = .ok (.iload 4, 2) := by decide +kernel
theorem dX2_knowersAfter_7 : decode cX2_knowersAfter 7 = .ok (.aload_n 0, 1) := by decide +kernel
theorem dX2_knowersAfter_8 : decode cX2_knowersAfter 8 = .ok (.getfield 22, 3) := by decide +kernel
theorem dX2_knowersAfter_11 : decode cX2_knowersAfter 11 = .ok (.getfield 48, 3) := by decide +kernel
theorem dX2_knowersAfter_14 : decode cX2_knowersAfter 14 = .ok (.if_icmp .ge 146, 3) := by decide +kernel
theorem dX2_knowersAfter_17 : decode cX2_knowersAfter 17 = .ok (.aload_n 0, 1) := by decide +kernel
theorem dX2_knowersAfter_18 : decode cX2_knowersAfter 18 = .ok (.getfield 22, 3) := by decide +kernel
theorem dX2_knowersAfter_21 : decode cX2_knowersAfter 21 = .ok (.getfield 51, 3) := by decide +kernel
theorem dX2_knowersAfter_24 : decode cX2_knowersAfter 24 = .ok (.iload 4, 2) := by decide +kernel
theorem dX2_knowersAfter_26 : decode cX2_knowersAfter 26 = .ok (.iaload, 1) := by decide +kernel
theorem dX2_knowersAfter_27 : decode cX2_knowersAfter 27 = .ok (.istore 5, 2) := by decide +kernel
theorem dX2_knowersAfter_29 : decode cX2_knowersAfter 29 = .ok (.aload_n 0, 1) := by decide +kernel
theorem dX2_knowersAfter_30 : decode cX2_knowersAfter 30 = .ok (.getfield 22, 3) := by decide +kernel
theorem dX2_knowersAfter_33 : decode cX2_knowersAfter 33 = .ok (.getfield 54, 3) := by decide +kernel
theorem dX2_knowersAfter_36 : decode cX2_knowersAfter 36 = .ok (.iload 4, 2) := by decide +kernel
theorem dX2_knowersAfter_38 : decode cX2_knowersAfter 38 = .ok (.iaload, 1) := by decide +kernel
theorem dX2_knowersAfter_39 : decode cX2_knowersAfter 39 = .ok (.istore 6, 2) := by decide +kernel
theorem dX2_knowersAfter_41 : decode cX2_knowersAfter 41 = .ok (.aload_n 0, 1) := by decide +kernel
theorem dX2_knowersAfter_42 : decode cX2_knowersAfter 42 = .ok (.getfield 22, 3) := by decide +kernel
theorem dX2_knowersAfter_45 : decode cX2_knowersAfter 45 = .ok (.getfield 57, 3) := by decide +kernel
theorem dX2_knowersAfter_48 : decode cX2_knowersAfter 48 = .ok (.iload 4, 2) := by decide +kernel
theorem dX2_knowersAfter_50 : decode cX2_knowersAfter 50 = .ok (.iaload, 1) := by decide +kernel
theorem dX2_knowersAfter_51 : decode cX2_knowersAfter 51 = .ok (.iload_n 2, 1) := by decide +kernel
theorem dX2_knowersAfter_52 : decode cX2_knowersAfter 52 = .ok (.if_icmp .ne 102, 3) := by decide +kernel
theorem dX2_knowersAfter_55 : decode cX2_knowersAfter 55 = .ok (.aload_n 0, 1) := by decide +kernel
theorem dX2_knowersAfter_56 : decode cX2_knowersAfter 56 = .ok (.getfield 22, 3) := by decide +kernel
theorem dX2_knowersAfter_59 : decode cX2_knowersAfter 59 = .ok (.aload_n 0, 1) := by decide +kernel
theorem dX2_knowersAfter_60 : decode cX2_knowersAfter 60 = .ok (.getfield 19, 3) := by decide +kernel
theorem dX2_knowersAfter_63 : decode cX2_knowersAfter 63 = .ok (.iload_n 2, 1) := by decide +kernel
theorem dX2_knowersAfter_64 : decode cX2_knowersAfter 64 = .ok (.iaload, 1) := by decide +kernel
theorem dX2_knowersAfter_65 : decode cX2_knowersAfter 65 = .ok (.iload 5, 2) := by decide +kernel
theorem dX2_knowersAfter_67 : decode cX2_knowersAfter 67 = .ok (.iload 6, 2) := by decide +kernel
theorem dX2_knowersAfter_69 : decode cX2_knowersAfter 69 = .ok (.invokevirtual 60, 3) := by decide +kernel
theorem dX2_knowersAfter_72 : decode cX2_knowersAfter 72 = .ok (.ifCond .ne 6, 3) := by decide +kernel
theorem dX2_knowersAfter_75 : decode cX2_knowersAfter 75 = .ok (.goto 79, 3) := by decide +kernel
theorem dX2_knowersAfter_78 : decode cX2_knowersAfter 78 = .ok (.iload_n 3, 1) := by decide +kernel
theorem dX2_knowersAfter_79 : decode cX2_knowersAfter 79 = .ok (.iload 5, 2) := by decide +kernel
theorem dX2_knowersAfter_81 : decode cX2_knowersAfter 81 = .ok (.invokestatic 44, 3) := by decide +kernel
theorem dX2_knowersAfter_84 : decode cX2_knowersAfter 84 = .ok (.ifCond .eq 12, 3) := by decide +kernel
theorem dX2_knowersAfter_87 : decode cX2_knowersAfter 87 = .ok (.iload_n 3, 1) := by decide +kernel
theorem dX2_knowersAfter_88 : decode cX2_knowersAfter 88 = .ok (.aload_n 0, 1) := by decide +kernel
theorem dX2_knowersAfter_89 : decode cX2_knowersAfter 89 = .ok (.iload 6, 2) := by decide +kernel
theorem dX2_knowersAfter_91 : decode cX2_knowersAfter 91 = .ok (.invokevirtual 64, 3) := by decide +kernel
theorem dX2_knowersAfter_94 : decode cX2_knowersAfter 94 = .ok (.ior, 1) := by decide +kernel
theorem dX2_knowersAfter_95 : decode cX2_knowersAfter 95 = .ok (.istore_n 3, 1) := by decide +kernel
theorem dX2_knowersAfter_96 : decode cX2_knowersAfter 96 = .ok (.aload_n 0, 1) := by decide +kernel
theorem dX2_knowersAfter_97 : decode cX2_knowersAfter 97 = .ok (.getfield 22, 3) := by decide +kernel
theorem dX2_knowersAfter_100 : decode cX2_knowersAfter 100 = .ok (.getfield 67, 3) := by decide +kernel
theorem dX2_knowersAfter_103 : decode cX2_knowersAfter 103 = .ok (.iload 5, 2) := by decide +kernel
theorem dX2_knowersAfter_105 : decode cX2_knowersAfter 105 = .ok (.iaload, 1) := by decide +kernel
theorem dX2_knowersAfter_106 : decode cX2_knowersAfter 106 = .ok (.iconst 1, 1) := by decide +kernel
theorem dX2_knowersAfter_107 : decode cX2_knowersAfter 107 = .ok (.if_icmp .eq 17, 3) := by decide +kernel
theorem dX2_knowersAfter_110 : decode cX2_knowersAfter 110 = .ok (.aload_n 0, 1) := by decide +kernel
theorem dX2_knowersAfter_111 : decode cX2_knowersAfter 111 = .ok (.getfield 22, 3) := by decide +kernel
theorem dX2_knowersAfter_114 : decode cX2_knowersAfter 114 = .ok (.getfield 67, 3) := by decide +kernel
theorem dX2_knowersAfter_117 : decode cX2_knowersAfter 117 = .ok (.iload 6, 2) := by decide +kernel
theorem dX2_knowersAfter_119 : decode cX2_knowersAfter 119 = .ok (.iaload, 1) := by decide +kernel
theorem dX2_knowersAfter_120 : decode cX2_knowersAfter 120 = .ok (.iconst 1, 1) := by decide +kernel
theorem dX2_knowersAfter_121 : decode cX2_knowersAfter 121 = .ok (.if_icmp .ne 7, 3) := by decide +kernel
theorem dX2_knowersAfter_124 : decode cX2_knowersAfter 124 = .ok (.iconst 1, 1) := by decide +kernel
theorem dX2_knowersAfter_125 : decode cX2_knowersAfter 125 = .ok (.goto 4, 3) := by decide +kernel
theorem dX2_knowersAfter_128 : decode cX2_knowersAfter 128 = .ok (.iconst 0, 1) := by decide +kernel
theorem dX2_knowersAfter_129 : decode cX2_knowersAfter 129 = .ok (.istore 7, 2) := by decide +kernel
theorem dX2_knowersAfter_131 : decode cX2_knowersAfter 131 = .ok (.iload 7, 2) := by decide +kernel
theorem dX2_knowersAfter_133 : decode cX2_knowersAfter 133 = .ok (.ifCond .eq 21, 3) := by decide +kernel
theorem dX2_knowersAfter_136 : decode cX2_knowersAfter 136 = .ok (.iload_n 3, 1) := by decide +kernel
theorem dX2_knowersAfter_137 : decode cX2_knowersAfter 137 = .ok (.iload 6, 2) := by decide +kernel
theorem dX2_knowersAfter_139 : decode cX2_knowersAfter 139 = .ok (.invokestatic 44, 3) := by decide +kernel
theorem dX2_knowersAfter_142 : decode cX2_knowersAfter 142 = .ok (.ifCond .eq 12, 3) := by decide +kernel
theorem dX2_knowersAfter_145 : decode cX2_knowersAfter 145 = .ok (.iload_n 3, 1) := by decide +kernel
theorem dX2_knowersAfter_146 : decode cX2_knowersAfter 146 = .ok (.aload_n 0, 1) := by decide +kernel
theorem dX2_knowersAfter_147 : decode cX2_knowersAfter 147 = .ok (.iload 5, 2) := by decide +kernel
theorem dX2_knowersAfter_149 : decode cX2_knowersAfter 149 = .ok (.invokevirtual 64, 3) := by decide +kernel
theorem dX2_knowersAfter_152 : decode cX2_knowersAfter 152 = .ok (.ior, 1) := by decide +kernel
theorem dX2_knowersAfter_153 : decode cX2_knowersAfter 153 = .ok (.istore_n 3, 1) := by decide +kernel
theorem dX2_knowersAfter_154 : decode cX2_knowersAfter 154 = .ok (.iinc 4 1, 3) := by decide +kernel
theorem dX2_knowersAfter_157 : decode cX2_knowersAfter 157 = .ok (.goto (-152), 3) := by decide +kernel
theorem dX2_knowersAfter_160 : decode cX2_knowersAfter 160 = .ok (.iload_n 3, 1) := by decide +kernel
theorem dX2_knowersAfter_161 : decode cX2_knowersAfter 161 = .ok (.ireturn, 1) := by decide +kernel
theorem dX2_comingTo_0 : decode cX2_comingTo 0 = .ok (.aload_n 0, 1) := by decide +kernel
theorem dX2_comingTo_1 : decode cX2_comingTo 1 = .ok (.getfield 22, 3) := by decide +kernel
theorem dX2_comingTo_4 : decode cX2_comingTo 4 = .ok (.getfield 67, 3) := by decide +kernel
theorem dX2_comingTo_7 : decode cX2_comingTo 7 = .ok (.iload_n 1, 1) := by decide +kernel
theorem dX2_comingTo_8 : decode cX2_comingTo 8 = .ok (.iaload, 1) := by decide +kernel
theorem dX2_comingTo_9 : decode cX2_comingTo 9 = .ok (.iconst 2, 1) := by decide +kernel
theorem dX2_comingTo_10 : decode cX2_comingTo 10 = .ok (.if_icmp .ne 7, 3) := by decide +kernel
theorem dX2_comingTo_13 : decode cX2_comingTo 13 = .ok (.iconst 0, 1) := by decide +kernel
theorem dX2_comingTo_14 : decode cX2_comingTo 14 = .ok (.goto 6, 3) := by decide +kernel
theorem dX2_comingTo_17 : decode cX2_comingTo 17 = .ok (.iconst 1, 1) := by decide +kernel
theorem dX2_comingTo_18 : decode cX2_comingTo 18 = .ok (.iload_n 1, 1) := by decide +kernel
theorem dX2_comingTo_19 : decode cX2_comingTo 19 = .ok (.ishl, 1) := by decide +kernel
theorem dX2_comingTo_20 : decode cX2_comingTo 20 = .ok (.ireturn, 1) := by decide +kernel
theorem dX2_hushingHour_0 : decode cX2_hushingHour 0 = .ok (.iconst 0, 1) := by decide +kernel
theorem dX2_hushingHour_1 : decode cX2_hushingHour 1 = .ok (.istore 4, 2) := by decide +kernel
theorem dX2_hushingHour_3 : decode cX2_hushingHour 3 = .ok (.iload 4, 2) := by decide +kernel
theorem dX2_hushingHour_5 : decode cX2_hushingHour 5 = .ok (.bipush 12, 2) := by decide +kernel
theorem dX2_hushingHour_7 : decode cX2_hushingHour 7 = .ok (.if_icmp .ge 34, 3) := by decide +kernel
theorem dX2_hushingHour_10 : decode cX2_hushingHour 10 = .ok (.aload_n 0, 1) := by decide +kernel
theorem dX2_hushingHour_11 : decode cX2_hushingHour 11 = .ok (.invokevirtual 70, 3) := by decide +kernel
theorem dX2_hushingHour_14 : decode cX2_hushingHour 14 = .ok (.aload_n 0, 1) := by decide +kernel
theorem dX2_hushingHour_15 : decode cX2_hushingHour 15 = .ok (.iload_n 1, 1) := by decide +kernel
theorem dX2_hushingHour_16 : decode cX2_hushingHour 16 = .ok (.iload 4, 2) := by decide +kernel
theorem dX2_hushingHour_18 : decode cX2_hushingHour 18 = .ok (.invokevirtual 73, 3) := by decide +kernel
theorem dX2_hushingHour_21 : decode cX2_hushingHour 21 = .ok (.aload_n 0, 1) := by decide +kernel
theorem dX2_hushingHour_22 : decode cX2_hushingHour 22 = .ok (.iload_n 2, 1) := by decide +kernel
theorem dX2_hushingHour_23 : decode cX2_hushingHour 23 = .ok (.iload_n 3, 1) := by decide +kernel
theorem dX2_hushingHour_24 : decode cX2_hushingHour 24 = .ok (.invokevirtual 77, 3) := by decide +kernel
theorem dX2_hushingHour_27 : decode cX2_hushingHour 27 = .ok (.bipush (-4), 2) := by decide +kernel
theorem dX2_hushingHour_29 : decode cX2_hushingHour 29 = .ok (.if_icmp .ne 6, 3) := by decide +kernel
theorem dX2_hushingHour_32 : decode cX2_hushingHour 32 = .ok (.iload 4, 2) := by decide +kernel
theorem dX2_hushingHour_34 : decode cX2_hushingHour 34 = .ok (.ireturn, 1) := by decide +kernel
theorem dX2_hushingHour_35 : decode cX2_hushingHour 35 = .ok (.iinc 4 1, 3) := by decide +kernel
theorem dX2_hushingHour_38 : decode cX2_hushingHour 38 = .ok (.goto (-35), 3) := by decide +kernel
theorem dX2_hushingHour_41 : decode cX2_hushingHour 41 = .ok (.bipush (-4), 2) := by decide +kernel
theorem dX2_hushingHour_43 : decode cX2_hushingHour 43 = .ok (.ireturn, 1) := by decide +kernel
theorem dX2_canBeginWith_0 : decode cX2_canBeginWith 0 = .ok (.aload_n 0, 1) := by decide +kernel
theorem dX2_canBeginWith_1 : decode cX2_canBeginWith 1 = .ok (.iload_n 1, 1) := by decide +kernel
theorem dX2_canBeginWith_2 : decode cX2_canBeginWith 2 = .ok (.bipush 11, 2) := by decide +kernel
theorem dX2_canBeginWith_4 : decode cX2_canBeginWith 4 = .ok (.invokevirtual 80, 3) := by decide +kernel
theorem dX2_canBeginWith_7 : decode cX2_canBeginWith 7 = .ok (.istore_n 2, 1) := by decide +kernel
theorem dX2_canBeginWith_8 : decode cX2_canBeginWith 8 = .ok (.iconst 0, 1) := by decide +kernel
theorem dX2_canBeginWith_9 : decode cX2_canBeginWith 9 = .ok (.istore_n 3, 1) := by decide +kernel
theorem dX2_canBeginWith_10 : decode cX2_canBeginWith 10 = .ok (.iload_n 3, 1) := by decide +kernel
theorem dX2_canBeginWith_11 : decode cX2_canBeginWith 11 = .ok (.aload_n 0, 1) := by decide +kernel
theorem dX2_canBeginWith_12 : decode cX2_canBeginWith 12 = .ok (.getfield 26, 3) := by decide +kernel
theorem dX2_canBeginWith_15 : decode cX2_canBeginWith 15 = .ok (.if_icmp .ge 30, 3) := by decide +kernel
theorem dX2_canBeginWith_18 : decode cX2_canBeginWith 18 = .ok (.iload_n 2, 1) := by decide +kernel
theorem dX2_canBeginWith_19 : decode cX2_canBeginWith 19 = .ok (.aload_n 0, 1) := by decide +kernel
theorem dX2_canBeginWith_20 : decode cX2_canBeginWith 20 = .ok (.getfield 11, 3) := by decide +kernel
theorem dX2_canBeginWith_23 : decode cX2_canBeginWith 23 = .ok (.iload_n 3, 1) := by decide +kernel
theorem dX2_canBeginWith_24 : decode cX2_canBeginWith 24 = .ok (.iaload, 1) := by decide +kernel
theorem dX2_canBeginWith_25 : decode cX2_canBeginWith 25 = .ok (.invokestatic 44, 3) := by decide +kernel
theorem dX2_canBeginWith_28 : decode cX2_canBeginWith 28 = .ok (.aload_n 0, 1) := by decide +kernel
theorem dX2_canBeginWith_29 : decode cX2_canBeginWith 29 = .ok (.getfield 15, 3) := by decide +kernel
theorem dX2_canBeginWith_32 : decode cX2_canBeginWith 32 = .ok (.iload_n 3, 1) := by decide +kernel
theorem dX2_canBeginWith_33 : decode cX2_canBeginWith 33 = .ok (.baload, 1) := by decide +kernel
theorem dX2_canBeginWith_34 : decode cX2_canBeginWith 34 = .ok (.if_icmp .eq 5, 3) := by decide +kernel
theorem dX2_canBeginWith_37 : decode cX2_canBeginWith 37 = .ok (.iconst 0, 1) := by decide +kernel
theorem dX2_canBeginWith_38 : decode cX2_canBeginWith 38 = .ok (.ireturn, 1) := by decide +kernel
theorem dX2_canBeginWith_39 : decode cX2_canBeginWith 39 = .ok (.iinc 3 1, 3) := by decide +kernel
theorem dX2_canBeginWith_42 : decode cX2_canBeginWith 42 = .ok (.goto (-32), 3) := by decide +kernel
theorem dX2_canBeginWith_45 : decode cX2_canBeginWith 45 = .ok (.iconst 1, 1) := by decide +kernel
theorem dX2_canBeginWith_46 : decode cX2_canBeginWith 46 = .ok (.ireturn, 1) := by decide +kernel
theorem dX3_init_0 : decode cX3_init 0 = .ok (.aload_n 0, 1) := by decide +kernel
theorem dX3_init_1 : decode cX3_init 1 = .ok (.invokespecial 3, 3) := by decide +kernel
theorem dX3_init_4 : decode cX3_init 4 = .ok (.aload_n 0, 1) := by decide +kernel
theorem dX3_init_5 : decode cX3_init 5 = .ok (.bipush 40, 2) := by decide +kernel
theorem dX3_init_7 : decode cX3_init 7 = .ok (.newarray .int, 2) := by decide +kernel
theorem dX3_init_9 : decode cX3_init 9 = .ok (.putfield 11, 3) := by decide +kernel
theorem dX3_init_12 : decode cX3_init 12 = .ok (.aload_n 0, 1) := by decide +kernel
theorem dX3_init_13 : decode cX3_init 13 = .ok (.bipush (-4), 2) := by decide +kernel
theorem dX3_init_15 : decode cX3_init 15 = .ok (.putfield 15, 3) := by decide +kernel
theorem dX3_init_18 : decode cX3_init 18 = .ok (.return_, 1) := by decide +kernel
theorem dX3_isNothing_0 : decode cX3_isNothing 0 = .ok (.aload_n 0, 1) := by decide +kernel
theorem dX3_isNothing_1 : decode cX3_isNothing 1 = .ok (.getfield 15, 3) := by decide +kernel
theorem dX3_isNothing_4 : decode cX3_isNothing 4 = .ok (.bipush (-4), 2) := by decide +kernel
theorem dX3_isNothing_6 : decode cX3_isNothing 6 = .ok (.if_icmp .ne 7, 3) := by decide +kernel
theorem dX3_isNothing_9 : decode cX3_isNothing 9 = .ok (.iconst 1, 1) := by decide +kernel
theorem dX3_isNothing_10 : decode cX3_isNothing 10 = .ok (.goto 4, 3) := by decide +kernel
theorem dX3_isNothing_13 : decode cX3_isNothing 13 = .ok (.iconst 0, 1) := by decide +kernel
theorem dX3_isNothing_14 : decode cX3_isNothing 14 = .ok (.ireturn, 1) := by decide +kernel
theorem dX3_renew_0 : decode cX3_renew 0 = .ok (.aload_n 0, 1) := by decide +kernel
theorem dX3_renew_1 : decode cX3_renew 1 = .ok (.iload_n 1, 1) := by decide +kernel
theorem dX3_renew_2 : decode cX3_renew 2 = .ok (.putfield 15, 3) := by decide +kernel
theorem dX3_renew_5 : decode cX3_renew 5 = .ok (.aload_n 0, 1) := by decide +kernel
theorem dX3_renew_6 : decode cX3_renew 6 = .ok (.iload_n 2, 1) := by decide +kernel
theorem dX3_renew_7 : decode cX3_renew 7 = .ok (.putfield 19, 3) := by decide +kernel
theorem dX3_renew_10 : decode cX3_renew 10 = .ok (.iconst 0, 1) := by decide +kernel
theorem dX3_renew_11 : decode cX3_renew 11 = .ok (.istore_n 3, 1) := by decide +kernel
theorem dX3_renew_12 : decode cX3_renew 12 = .ok (.iload_n 3, 1) := by decide +kernel
theorem dX3_renew_13 : decode cX3_renew 13 = .ok (.bipush 40, 2) := by decide +kernel
theorem dX3_renew_15 : decode cX3_renew 15 = .ok (.if_icmp .ge 16, 3) := by decide +kernel
theorem dX3_renew_18 : decode cX3_renew 18 = .ok (.aload_n 0, 1) := by decide +kernel
theorem dX3_renew_19 : decode cX3_renew 19 = .ok (.getfield 11, 3) := by decide +kernel
theorem dX3_renew_22 : decode cX3_renew 22 = .ok (.iload_n 3, 1) := by decide +kernel
theorem dX3_renew_23 : decode cX3_renew 23 = .ok (.iconst 0, 1) := by decide +kernel
theorem dX3_renew_24 : decode cX3_renew 24 = .ok (.iastore, 1) := by decide +kernel
theorem dX3_renew_25 : decode cX3_renew 25 = .ok (.iinc 3 1, 3) := by decide +kernel
theorem dX3_renew_28 : decode cX3_renew 28 = .ok (.goto (-16), 3) := by decide +kernel
theorem dX3_renew_31 : decode cX3_renew 31 = .ok (.return_, 1) := by decide +kernel
theorem dX3_put_0 : decode cX3_put 0 = .ok (.aload_n 0, 1) := by decide +kernel
theorem dX3_put_1 : decode cX3_put 1 = .ok (.getfield 15, 3) := by decide +kernel
theorem dX3_put_4 : decode cX3_put 4 = .ok (.lookupswitch 50 #[(0, 28), (1, 39)], 28) := by decide +kernel
theorem dX3_put_32 : decode cX3_put 32 = .ok (.aload_n 0, 1) := by decide +kernel
theorem dX3_put_33 : decode cX3_put 33 = .ok (.getfield 11, 3) := by decide +kernel
theorem dX3_put_36 : decode cX3_put 36 = .ok (.iload_n 1, 1) := by decide +kernel
theorem dX3_put_37 : decode cX3_put 37 = .ok (.iload_n 2, 1) := by decide +kernel
theorem dX3_put_38 : decode cX3_put 38 = .ok (.i2b, 1) := by decide +kernel
theorem dX3_put_39 : decode cX3_put 39 = .ok (.iastore, 1) := by decide +kernel
theorem dX3_put_40 : decode cX3_put 40 = .ok (.goto 21, 3) := by decide +kernel
theorem dX3_put_43 : decode cX3_put 43 = .ok (.aload_n 0, 1) := by decide +kernel
theorem dX3_put_44 : decode cX3_put 44 = .ok (.getfield 11, 3) := by decide +kernel
theorem dX3_put_47 : decode cX3_put 47 = .ok (.iload_n 1, 1) := by decide +kernel
theorem dX3_put_48 : decode cX3_put 48 = .ok (.iload_n 2, 1) := by decide +kernel
theorem dX3_put_49 : decode cX3_put 49 = .ok (.i2s, 1) := by decide +kernel
theorem dX3_put_50 : decode cX3_put 50 = .ok (.iastore, 1) := by decide +kernel
theorem dX3_put_51 : decode cX3_put 51 = .ok (.goto 10, 3) := by decide +kernel
theorem dX3_put_54 : decode cX3_put 54 = .ok (.aload_n 0, 1) := by decide +kernel
theorem dX3_put_55 : decode cX3_put 55 = .ok (.getfield 11, 3) := by decide +kernel
theorem dX3_put_58 : decode cX3_put 58 = .ok (.iload_n 1, 1) := by decide +kernel
theorem dX3_put_59 : decode cX3_put 59 = .ok (.iload_n 2, 1) := by decide +kernel
theorem dX3_put_60 : decode cX3_put 60 = .ok (.iastore, 1) := by decide +kernel
theorem dX3_put_61 : decode cX3_put 61 = .ok (.return_, 1) := by decide +kernel
theorem dX3_faultInThree_0 : decode cX3_faultInThree 0 = .ok (.aload_n 0, 1) := by decide +kernel
theorem dX3_faultInThree_1 : decode cX3_faultInThree 1 = .ok (.invokevirtual 22, 3) := by decide +kernel
theorem dX3_faultInThree_4 : decode cX3_faultInThree 4 = .ok (.ifCond .eq 5, 3) := by decide +kernel
theorem dX3_faultInThree_7 : decode cX3_faultInThree 7 = .ok (.iconst 1, 1) := by decide +kernel
theorem dX3_faultInThree_8 : decode cX3_faultInThree 8 = .ok (.ireturn, 1) := by decide +kernel
theorem dX3_faultInThree_9 : decode cX3_faultInThree 9 = .ok (.aload_n 0, 1) := by decide +kernel
theorem dX3_faultInThree_10 : decode cX3_faultInThree 10 = .ok (.getfield 15, 3) := by decide +kernel
theorem dX3_faultInThree_13 : decode cX3_faultInThree 13 = .ok (.iload_n 1, 1) := by decide +kernel
theorem dX3_faultInThree_14 : decode cX3_faultInThree 14 = .ok (.if_icmp .eq 5, 3) := by decide +kernel
theorem dX3_faultInThree_17 : decode cX3_faultInThree 17 = .ok (.iconst 3, 1) := by decide +kernel
theorem dX3_faultInThree_18 : decode cX3_faultInThree 18 = .ok (.ireturn, 1) := by decide +kernel
theorem dX3_faultInThree_19 : decode cX3_faultInThree 19 = .ok (.iload_n 2, 1) := by decide +kernel
theorem dX3_faultInThree_20 : decode cX3_faultInThree 20 = .ok (.ifCond .lt 17, 3) := by decide +kernel
theorem dX3_faultInThree_23 : decode cX3_faultInThree 23 = .ok (.iload_n 2, 1) := by decide +kernel
theorem dX3_faultInThree_24 : decode cX3_faultInThree 24 = .ok (.aload_n 0, 1) := by decide +kernel
theorem dX3_faultInThree_25 : decode cX3_faultInThree 25 = .ok (.getfield 19, 3) := by decide +kernel
theorem dX3_faultInThree_28 : decode cX3_faultInThree 28 = .ok (.iconst 3, 1) := by decide +kernel
theorem dX3_faultInThree_29 : decode cX3_faultInThree 29 = .ok (.isub, 1) := by decide +kernel
theorem dX3_faultInThree_30 : decode cX3_faultInThree 30 = .ok (.if_icmp .gt 7, 3) := by decide +kernel
theorem dX3_faultInThree_33 : decode cX3_faultInThree 33 = .ok (.iconst 0, 1) := by decide +kernel
theorem dX3_faultInThree_34 : decode cX3_faultInThree 34 = .ok (.goto 4, 3) := by decide +kernel
theorem dX3_faultInThree_37 : decode cX3_faultInThree 37 = .ok (.iconst 2, 1) := by decide +kernel
theorem dX3_faultInThree_38 : decode cX3_faultInThree 38 = .ok (.ireturn, 1) := by decide +kernel
theorem dX4_init_0 : decode cX4_init 0 = .ok (.aload_n 0, 1) := by decide +kernel
theorem dX4_init_1 : decode cX4_init 1 = .ok (.invokespecial 3, 3) := by decide +kernel
theorem dX4_init_4 : decode cX4_init 4 = .ok (.aload_n 0, 1) := by decide +kernel
theorem dX4_init_5 : decode cX4_init 5 = .ok (.sipush 320, 3) := by decide +kernel
theorem dX4_init_8 : decode cX4_init 8 = .ok (.newarray .byte, 2) := by decide +kernel
theorem dX4_init_10 : decode cX4_init 10 = .ok (.putfield 11, 3) := by decide +kernel
theorem dX4_init_13 : decode cX4_init 13 = .ok (.return_, 1) := by decide +kernel
theorem dX4_append_0 : decode cX4_append 0 = .ok (.aload_n 0, 1) := by decide +kernel
theorem dX4_append_1 : decode cX4_append 1 = .ok (.getfield 15, 3) := by decide +kernel
theorem dX4_append_4 : decode cX4_append 4 = .ok (.bipush 8, 2) := by decide +kernel
theorem dX4_append_6 : decode cX4_append 6 = .ok (.iadd, 1) := by decide +kernel
theorem dX4_append_7 : decode cX4_append 7 = .ok (.sipush 320, 3) := by decide +kernel
theorem dX4_append_10 : decode cX4_append 10 = .ok (.if_icmp .le 6, 3) := by decide +kernel
theorem dX4_append_13 : decode cX4_append 13 = .ok (.bipush (-3), 2) := by decide +kernel
theorem dX4_append_15 : decode cX4_append 15 = .ok (.ireturn, 1) := by decide +kernel
theorem dX4_append_16 : decode cX4_append 16 = .ok (.iconst 0, 1) := by decide +kernel
theorem dX4_append_17 : decode cX4_append 17 = .ok (.istore_n 3, 1) := by decide +kernel
theorem dX4_append_18 : decode cX4_append 18 = .ok (.iload_n 3, 1) := by decide +kernel
theorem dX4_append_19 : decode cX4_append 19 = .ok (.bipush 8, 2) := by decide +kernel
theorem dX4_append_21 : decode cX4_append 21 = .ok (.if_icmp .ge 31, 3) := by decide +kernel
theorem dX4_append_24 : decode cX4_append 24 = .ok (.aload_n 0, 1) := by decide +kernel
theorem dX4_append_25 : decode cX4_append 25 = .ok (.getfield 11, 3) := by decide +kernel
theorem dX4_append_28 : decode cX4_append 28 = .ok (.aload_n 0, 1) := by decide +kernel
theorem dX4_append_29 : decode cX4_append 29 = .ok (.getfield 15, 3) := by decide +kernel
theorem dX4_append_32 : decode cX4_append 32 = .ok (.iload_n 3, 1) := by decide +kernel
theorem dX4_append_33 : decode cX4_append 33 = .ok (.iadd, 1) := by decide +kernel
theorem dX4_append_34 : decode cX4_append 34 = .ok (.lload_n 1, 1) := by decide +kernel
theorem dX4_append_35 : decode cX4_append 35 = .ok (.bipush 56, 2) := by decide +kernel
theorem dX4_append_37 : decode cX4_append 37 = .ok (.bipush 8, 2) := by decide +kernel
theorem dX4_append_39 : decode cX4_append 39 = .ok (.iload_n 3, 1) := by decide +kernel
theorem dX4_append_40 : decode cX4_append 40 = .ok (.imul, 1) := by decide +kernel
theorem dX4_append_41 : decode cX4_append 41 = .ok (.isub, 1) := by decide +kernel
theorem dX4_append_42 : decode cX4_append 42 = .ok (.lshr, 1) := by decide +kernel
theorem dX4_append_43 : decode cX4_append 43 = .ok (.l2i, 1) := by decide +kernel
theorem dX4_append_44 : decode cX4_append 44 = .ok (.i2b, 1) := by decide +kernel
theorem dX4_append_45 : decode cX4_append 45 = .ok (.bastore, 1) := by decide +kernel
theorem dX4_append_46 : decode cX4_append 46 = .ok (.iinc 3 1, 3) := by decide +kernel
theorem dX4_append_49 : decode cX4_append 49 = .ok (.goto (-31), 3) := by decide +kernel
theorem dX4_append_52 : decode cX4_append 52 = .ok (.aload_n 0, 1) := by decide +kernel
theorem dX4_append_53 : decode cX4_append 53 = .ok (.dup, 1) := by decide +kernel
theorem dX4_append_54 : decode cX4_append 54 = .ok (.getfield 15, 3) := by decide +kernel
theorem dX4_append_57 : decode cX4_append 57 = .ok (.bipush 8, 2) := by decide +kernel
theorem dX4_append_59 : decode cX4_append 59 = .ok (.iadd, 1) := by decide +kernel
theorem dX4_append_60 : decode cX4_append 60 = .ok (.putfield 15, 3) := by decide +kernel
theorem dX4_append_63 : decode cX4_append 63 = .ok (.aload_n 0, 1) := by decide +kernel
theorem dX4_append_64 : decode cX4_append 64 = .ok (.getfield 15, 3) := by decide +kernel
theorem dX4_append_67 : decode cX4_append 67 = .ok (.ireturn, 1) := by decide +kernel
theorem dX4_cutTo_0 : decode cX4_cutTo 0 = .ok (.iload_n 1, 1) := by decide +kernel
theorem dX4_cutTo_1 : decode cX4_cutTo 1 = .ok (.ifCond .lt 11, 3) := by decide +kernel
theorem dX4_cutTo_4 : decode cX4_cutTo 4 = .ok (.iload_n 1, 1) := by decide +kernel
theorem dX4_cutTo_5 : decode cX4_cutTo 5 = .ok (.aload_n 0, 1) := by decide +kernel
theorem dX4_cutTo_6 : decode cX4_cutTo 6 = .ok (.getfield 15, 3) := by decide +kernel
theorem dX4_cutTo_9 : decode cX4_cutTo 9 = .ok (.if_icmp .le 5, 3) := by decide +kernel
theorem dX4_cutTo_12 : decode cX4_cutTo 12 = .ok (.iconst (-1), 1) := by decide +kernel
theorem dX4_cutTo_13 : decode cX4_cutTo 13 = .ok (.ireturn, 1) := by decide +kernel
theorem dX4_cutTo_14 : decode cX4_cutTo 14 = .ok (.aload_n 0, 1) := by decide +kernel
theorem dX4_cutTo_15 : decode cX4_cutTo 15 = .ok (.getfield 15, 3) := by decide +kernel
theorem dX4_cutTo_18 : decode cX4_cutTo 18 = .ok (.istore_n 2, 1) := by decide +kernel
theorem dX4_cutTo_19 : decode cX4_cutTo 19 = .ok (.aload_n 0, 1) := by decide +kernel
theorem dX4_cutTo_20 : decode cX4_cutTo 20 = .ok (.iload_n 1, 1) := by decide +kernel
theorem dX4_cutTo_21 : decode cX4_cutTo 21 = .ok (.putfield 15, 3) := by decide +kernel
theorem dX4_cutTo_24 : decode cX4_cutTo 24 = .ok (.iload_n 2, 1) := by decide +kernel
theorem dX4_cutTo_25 : decode cX4_cutTo 25 = .ok (.ireturn, 1) := by decide +kernel
theorem dX5_init_0 : decode cX5_init 0 = .ok (.aload_n 0, 1) := by decide +kernel
theorem dX5_init_1 : decode cX5_init 1 = .ok (.invokespecial 3, 3) := by decide +kernel
theorem dX5_init_4 : decode cX5_init 4 = .ok (.aload_n 0, 1) := by decide +kernel
theorem dX5_init_5 : decode cX5_init 5 = .ok (.new 9, 3) := by decide +kernel
theorem dX5_init_8 : decode cX5_init 8 = .ok (.dup, 1) := by decide +kernel
theorem dX5_init_9 : decode cX5_init 9 = .ok (.invokespecial 11, 3) := by decide +kernel
theorem dX5_init_12 : decode cX5_init 12 = .ok (.putfield 12, 3) := by decide +kernel
theorem dX5_init_15 : decode cX5_init 15 = .ok (.aload_n 0, 1) := by decide +kernel
theorem dX5_init_16 : decode cX5_init 16 = .ok (.aload_n 1, 1) := by decide +kernel
theorem dX5_init_17 : decode cX5_init 17 = .ok (.putfield 18, 3) := by decide +kernel
theorem dX5_init_20 : decode cX5_init 20 = .ok (.return_, 1) := by decide +kernel
theorem dX5_readTape_0 : decode cX5_readTape 0 = .ok (.aload_n 0, 1) := by decide +kernel
theorem dX5_readTape_1 : decode cX5_readTape 1 = .ok (.getfield 12, 3) := by decide +kernel
theorem dX5_readTape_4 : decode cX5_readTape 4 = .ok (.invokevirtual 22, 3) := by decide +kernel
theorem dX5_readTape_7 : decode cX5_readTape 7 = .ok (.aload_n 0, 1) := by decide +kernel
theorem dX5_readTape_8 : decode cX5_readTape 8 = .ok (.iconst 0, 1) := by decide +kernel
theorem dX5_readTape_9 : decode cX5_readTape 9 = .ok (.putfield 25, 3) := by decide +kernel
theorem dX5_readTape_12 : decode cX5_readTape 12 = .ok (.aload_n 0, 1) := by decide +kernel
theorem dX5_readTape_13 : decode cX5_readTape 13 = .ok (.iconst 0, 1) := by decide +kernel
theorem dX5_readTape_14 : decode cX5_readTape 14 = .ok (.putfield 29, 3) := by decide +kernel
theorem dX5_readTape_17 : decode cX5_readTape 17 = .ok (.aload_n 0, 1) := by decide +kernel
theorem dX5_readTape_18 : decode cX5_readTape 18 = .ok (.iconst 0, 1) := by decide +kernel
theorem dX5_readTape_19 : decode cX5_readTape 19 = .ok (.putfield 32, 3) := by decide +kernel
theorem dX5_readTape_22 : decode cX5_readTape 22 = .ok (.aload_n 0, 1) := by decide +kernel
theorem dX5_readTape_23 : decode cX5_readTape 23 = .ok (.iconst 0, 1) := by decide +kernel
theorem dX5_readTape_24 : decode cX5_readTape 24 = .ok (.putfield 35, 3) := by decide +kernel
theorem dX5_readTape_27 : decode cX5_readTape 27 = .ok (.aload_n 0, 1) := by decide +kernel
theorem dX5_readTape_28 : decode cX5_readTape 28 = .ok (.iconst 0, 1) := by decide +kernel
theorem dX5_readTape_29 : decode cX5_readTape 29 = .ok (.putfield 39, 3) := by decide +kernel
theorem dX5_readTape_32 : decode cX5_readTape 32 = .ok (.aload_n 0, 1) := by decide +kernel
theorem dX5_readTape_33 : decode cX5_readTape 33 = .ok (.iconst 0, 1) := by decide +kernel
theorem dX5_readTape_34 : decode cX5_readTape 34 = .ok (.putfield 42, 3) := by decide +kernel
theorem dX5_readTape_37 : decode cX5_readTape 37 = .ok (.iconst 0, 1) := by decide +kernel
theorem dX5_readTape_38 : decode cX5_readTape 38 = .ok (.istore_n 1, 1) := by decide +kernel
theorem dX5_readTape_39 : decode cX5_readTape 39 = .ok (.iload_n 1, 1) := by decide +kernel
theorem dX5_readTape_40 : decode cX5_readTape 40 = .ok (.aload_n 0, 1) := by decide +kernel
theorem dX5_readTape_41 : decode cX5_readTape 41 = .ok (.getfield 18, 3) := by decide +kernel
theorem dX5_readTape_44 : decode cX5_readTape 44 = .ok (.getfield 45, 3) := by decide +kernel
theorem dX5_readTape_47 : decode cX5_readTape 47 = .ok (.if_icmp .gt 49, 3) := by decide +kernel
theorem dX5_readTape_50 : decode cX5_readTape 50 = .ok (.aload_n 0, 1) := by decide +kernel
theorem dX5_readTape_51 : decode cX5_readTape 51 = .ok (.invokevirtual 50, 3) := by decide +kernel
theorem dX5_readTape_54 : decode cX5_readTape 54 = .ok (.ifCond .ne 5, 3) := by decide +kernel
theorem dX5_readTape_57 : decode cX5_readTape 57 = .ok (.iconst 0, 1) := by decide +kernel
theorem dX5_readTape_58 : decode cX5_readTape 58 = .ok (.ireturn, 1) := by decide +kernel
theorem dX5_readTape_59 : decode cX5_readTape 59 = .ok (.aload_n 0, 1) := by decide +kernel
theorem dX5_readTape_60 : decode cX5_readTape 60 = .ok (.getfield 54, 3) := by decide +kernel
theorem dX5_readTape_63 : decode cX5_readTape 63 = .ok (.ifCond .ne 8, 3) := by decide +kernel
theorem dX5_readTape_66 : decode cX5_readTape 66 = .ok (.aload_n 0, 1) := by decide +kernel
theorem dX5_readTape_67 : decode cX5_readTape 67 = .ok (.invokevirtual 57, 3) := by decide +kernel
theorem dX5_readTape_70 : decode cX5_readTape 70 = .ok (.ireturn, 1) := by decide +kernel
theorem dX5_readTape_71 : decode cX5_readTape 71 = .ok (.aload_n 0, 1) := by decide +kernel
theorem dX5_readTape_72 : decode cX5_readTape 72 = .ok (.invokevirtual 60, 3) := by decide +kernel
theorem dX5_readTape_75 : decode cX5_readTape 75 = .ok (.ifCond .ne 5, 3) := by decide +kernel
theorem dX5_readTape_78 : decode cX5_readTape 78 = .ok (.iconst 0, 1) := by decide +kernel
theorem dX5_readTape_79 : decode cX5_readTape 79 = .ok (.ireturn, 1) := by decide +kernel
theorem dX5_readTape_80 : decode cX5_readTape 80 = .ok (.aload_n 0, 1) := by decide +kernel
theorem dX5_readTape_81 : decode cX5_readTape 81 = .ok (.dup, 1) := by decide +kernel
theorem dX5_readTape_82 : decode cX5_readTape 82 = .ok (.getfield 25, 3) := by decide +kernel
theorem dX5_readTape_85 : decode cX5_readTape 85 = .ok (.iconst 1, 1) := by decide +kernel
theorem dX5_readTape_86 : decode cX5_readTape 86 = .ok (.iadd, 1) := by decide +kernel
theorem dX5_readTape_87 : decode cX5_readTape 87 = .ok (.putfield 25, 3) := by decide +kernel
theorem dX5_readTape_90 : decode cX5_readTape 90 = .ok (.iinc 1 1, 3) := by decide +kernel
theorem dX5_readTape_93 : decode cX5_readTape 93 = .ok (.goto (-54), 3) := by decide +kernel
theorem dX5_readTape_96 : decode cX5_readTape 96 = .ok (.iconst 0, 1) := by decide +kernel
theorem dX5_readTape_97 : decode cX5_readTape 97 = .ok (.ireturn, 1) := by decide +kernel
theorem dX5_fail_0 : decode cX5_fail 0 = .ok (.aload_n 0, 1) := by decide +kernel
theorem dX5_fail_1 : decode cX5_fail 1 = .ok (.iload_n 1, 1) := by decide +kernel
theorem dX5_fail_2 : decode cX5_fail 2 = .ok (.putfield 29, 3) := by decide +kernel
theorem dX5_fail_5 : decode cX5_fail 5 = .ok (.aload_n 0, 1) := by decide +kernel
theorem dX5_fail_6 : decode cX5_fail 6 = .ok (.iload_n 2, 1) := by decide +kernel
theorem dX5_fail_7 : decode cX5_fail 7 = .ok (.putfield 32, 3) := by decide +kernel
theorem dX5_fail_10 : decode cX5_fail 10 = .ok (.iconst 0, 1) := by decide +kernel
theorem dX5_fail_11 : decode cX5_fail 11 = .ok (.ireturn, 1) := by decide +kernel
theorem dX5_tokenBegunBy_0 : decode cX5_tokenBegunBy 0 = .ok (.iload_n 0, 1) := by decide +kernel
theorem dX5_tokenBegunBy_1 : decode cX5_tokenBegunBy 1 = .ok (.bipush 97, 2) := by decide +kernel
theorem dX5_tokenBegunBy_3 : decode cX5_tokenBegunBy 3 = .ok (.if_icmp .lt 11, 3) := by decide +kernel
theorem dX5_tokenBegunBy_6 : decode cX5_tokenBegunBy 6 = .ok (.iload_n 0, 1) := by decide +kernel
theorem dX5_tokenBegunBy_7 : decode cX5_tokenBegunBy 7 = .ok (.bipush 122, 2) := by decide +kernel
theorem dX5_tokenBegunBy_9 : decode cX5_tokenBegunBy 9 = .ok (.if_icmp .gt 5, 3) := by decide +kernel
theorem dX5_tokenBegunBy_12 : decode cX5_tokenBegunBy 12 = .ok (.iconst 1, 1) := by decide +kernel
theorem dX5_tokenBegunBy_13 : decode cX5_tokenBegunBy 13 = .ok (.ireturn, 1) := by decide +kernel
theorem dX5_tokenBegunBy_14 : decode cX5_tokenBegunBy 14 = .ok (.iload_n 0, 1) := by decide +kernel
theorem dX5_tokenBegunBy_15 : decode cX5_tokenBegunBy 15 = .ok (.bipush 48, 2) := by decide +kernel
theorem dX5_tokenBegunBy_17 : decode cX5_tokenBegunBy 17 = .ok (.if_icmp .lt 11, 3) := by decide +kernel
theorem dX5_tokenBegunBy_20 : decode cX5_tokenBegunBy 20 = .ok (.iload_n 0, 1) := by decide +kernel
theorem dX5_tokenBegunBy_21 : decode cX5_tokenBegunBy 21 = .ok (.bipush 57, 2) := by decide +kernel
theorem dX5_tokenBegunBy_23 : decode cX5_tokenBegunBy 23 = .ok (.if_icmp .gt 5, 3) := by decide +kernel
theorem dX5_tokenBegunBy_26 : decode cX5_tokenBegunBy 26 = .ok (.iconst 2, 1) := by decide +kernel
theorem dX5_tokenBegunBy_27 : decode cX5_tokenBegunBy 27 = .ok (.ireturn, 1) := by decide +kernel
theorem dX5_tokenBegunBy_28 : decode cX5_tokenBegunBy 28 = .ok (.iload_n 0, 1) := by decide +kernel
theorem dX5_tokenBegunBy_29 : decode cX5_tokenBegunBy 29 = .ok (.bipush 59, 2) := by decide +kernel
theorem dX5_tokenBegunBy_31 : decode cX5_tokenBegunBy 31 = .ok (.if_icmp .ne 7, 3) := by decide +kernel
theorem dX5_tokenBegunBy_34 : decode cX5_tokenBegunBy 34 = .ok (.iconst 3, 1) := by decide +kernel
theorem dX5_tokenBegunBy_35 : decode cX5_tokenBegunBy 35 = .ok (.goto 4, 3) := by decide +kernel
theorem dX5_tokenBegunBy_38 : decode cX5_tokenBegunBy 38 = .ok (.iconst 4, 1) := by decide +kernel
theorem dX5_tokenBegunBy_39 : decode cX5_tokenBegunBy 39 = .ok (.ireturn, 1) := by decide +kernel
theorem dX5_readToken_0 : decode cX5_readToken 0 = .ok (.aload_n 0, 1) := by decide +kernel
theorem dX5_readToken_1 : decode cX5_readToken 1 = .ok (.aload_n 0, 1) := by decide +kernel
theorem dX5_readToken_2 : decode cX5_readToken 2 = .ok (.getfield 42, 3) := by decide +kernel
theorem dX5_readToken_5 : decode cX5_readToken 5 = .ok (.putfield 63, 3) := by decide +kernel
theorem dX5_readToken_8 : decode cX5_readToken 8 = .ok (.aload_n 0, 1) := by decide +kernel
theorem dX5_readToken_9 : decode cX5_readToken 9 = .ok (.getfield 63, 3) := by decide +kernel
theorem dX5_readToken_12 : decode cX5_readToken 12 = .ok (.aload_n 0, 1) := by decide +kernel
theorem dX5_readToken_13 : decode cX5_readToken 13 = .ok (.getfield 18, 3) := by decide +kernel
theorem dX5_readToken_16 : decode cX5_readToken 16 = .ok (.getfield 45, 3) := by decide +kernel
theorem dX5_readToken_19 : decode cX5_readToken 19 = .ok (.if_icmp .ge 33, 3) := by decide +kernel
theorem dX5_readToken_22 : decode cX5_readToken 22 = .ok (.aload_n 0, 1) := by decide +kernel
theorem dX5_readToken_23 : decode cX5_readToken 23 = .ok (.getfield 18, 3) := by decide +kernel
theorem dX5_readToken_26 : decode cX5_readToken 26 = .ok (.getfield 66, 3) := by decide +kernel
theorem dX5_readToken_29 : decode cX5_readToken 29 = .ok (.aload_n 0, 1) := by decide +kernel
theorem dX5_readToken_30 : decode cX5_readToken 30 = .ok (.getfield 63, 3) := by decide +kernel
theorem dX5_readToken_33 : decode cX5_readToken 33 = .ok (.baload, 1) := by decide +kernel
theorem dX5_readToken_34 : decode cX5_readToken 34 = .ok (.bipush 32, 2) := by decide +kernel
theorem dX5_readToken_36 : decode cX5_readToken 36 = .ok (.if_icmp .ne 16, 3) := by decide +kernel
theorem dX5_readToken_39 : decode cX5_readToken 39 = .ok (.aload_n 0, 1) := by decide +kernel
theorem dX5_readToken_40 : decode cX5_readToken 40 = .ok (.dup, 1) := by decide +kernel
theorem dX5_readToken_41 : decode cX5_readToken 41 = .ok (.getfield 63, 3) := by decide +kernel
theorem dX5_readToken_44 : decode cX5_readToken 44 = .ok (.iconst 1, 1) := by decide +kernel
theorem dX5_readToken_45 : decode cX5_readToken 45 = .ok (.iadd, 1) := by decide +kernel
theorem dX5_readToken_46 : decode cX5_readToken 46 = .ok (.putfield 63, 3) := by decide +kernel
theorem dX5_readToken_49 : decode cX5_readToken 49 = .ok (.goto (-41), 3) := by decide +kernel
theorem dX5_readToken_52 : decode cX5_readToken 52 = .ok (.aload_n 0, 1) := by decide +kernel
theorem dX5_readToken_53 : decode cX5_readToken 53 = .ok (.aload_n 0, 1) := by decide +kernel
theorem dX5_readToken_54 : decode cX5_readToken 54 = .ok (.getfield 63, 3) := by decide +kernel
theorem dX5_readToken_57 : decode cX5_readToken 57 = .ok (.putfield 42, 3) := by decide +kernel
theorem dX5_readToken_60 : decode cX5_readToken 60 = .ok (.aload_n 0, 1) := by decide +kernel
theorem dX5_readToken_61 : decode cX5_readToken 61 = .ok (.getfield 63, 3) := by decide +kernel
theorem dX5_readToken_64 : decode cX5_readToken 64 = .ok (.aload_n 0, 1) := by decide +kernel
theorem dX5_readToken_65 : decode cX5_readToken 65 = .ok (.getfield 18, 3) := by decide +kernel
theorem dX5_readToken_68 : decode cX5_readToken 68 = .ok (.getfield 45, 3) := by decide +kernel
theorem dX5_readToken_71 : decode cX5_readToken 71 = .ok (.if_icmp .lt 10, 3) := by decide +kernel
theorem dX5_readToken_74 : decode cX5_readToken 74 = .ok (.aload_n 0, 1) := by decide +kernel
theorem dX5_readToken_75 : decode cX5_readToken 75 = .ok (.iconst 0, 1) := by decide +kernel
theorem dX5_readToken_76 : decode cX5_readToken 76 = .ok (.putfield 54, 3) := by decide +kernel
theorem dX5_readToken_79 : decode cX5_readToken 79 = .ok (.iconst 1, 1) := by decide +kernel
theorem dX5_readToken_80 : decode cX5_readToken 80 = .ok (.ireturn, 1) := by decide +kernel
theorem dX5_readToken_81 : decode cX5_readToken 81 = .ok (.aload_n 0, 1) := by decide +kernel
theorem dX5_readToken_82 : decode cX5_readToken 82 = .ok (.aload_n 0, 1) := by decide +kernel
theorem dX5_readToken_83 : decode cX5_readToken 83 = .ok (.getfield 18, 3) := by decide +kernel
theorem dX5_readToken_86 : decode cX5_readToken 86 = .ok (.getfield 66, 3) := by decide +kernel
theorem dX5_readToken_89 : decode cX5_readToken 89 = .ok (.aload_n 0, 1) := by decide +kernel
theorem dX5_readToken_90 : decode cX5_readToken 90 = .ok (.getfield 63, 3) := by decide +kernel
theorem dX5_readToken_93 : decode cX5_readToken 93 = .ok (.baload, 1) := by decide +kernel
theorem dX5_readToken_94 : decode cX5_readToken 94 = .ok (.invokestatic 70, 3) := by decide +kernel
theorem dX5_readToken_97 : decode cX5_readToken 97 = .ok (.putfield 54, 3) := by decide +kernel
theorem dX5_readToken_100 : decode cX5_readToken 100 = .ok (.aload_n 0, 1) := by decide +kernel
theorem dX5_readToken_101 : decode cX5_readToken 101 = .ok (.dup, 1) := by decide +kernel
theorem dX5_readToken_102 : decode cX5_readToken 102 = .ok (.getfield 42, 3) := by decide +kernel
theorem dX5_readToken_105 : decode cX5_readToken 105 = .ok (.iconst 1, 1) := by decide +kernel
theorem dX5_readToken_106 : decode cX5_readToken 106 = .ok (.iadd, 1) := by decide +kernel
theorem dX5_readToken_107 : decode cX5_readToken 107 = .ok (.putfield 42, 3) := by decide +kernel
theorem dX5_readToken_110 : decode cX5_readToken 110 = .ok (.aload_n 0, 1) := by decide +kernel
theorem dX5_readToken_111 : decode cX5_readToken 111 = .ok (.getfield 54, 3) := by decide +kernel
theorem dX5_readToken_114 : decode cX5_readToken 114 = .ok (.iconst 1, 1) := by decide +kernel
theorem dX5_readToken_115 : decode cX5_readToken 115 = .ok (.if_icmp .eq 11, 3) := by decide +kernel
theorem dX5_readToken_118 : decode cX5_readToken 118 = .ok (.aload_n 0, 1) := by decide +kernel
theorem dX5_readToken_119 : decode cX5_readToken 119 = .ok (.getfield 54, 3) := by decide +kernel
theorem dX5_readToken_122 : decode cX5_readToken 122 = .ok (.iconst 2, 1) := by decide +kernel
theorem dX5_readToken_123 : decode cX5_readToken 123 = .ok (.if_icmp .ne 7, 3) := by decide +kernel
theorem dX5_readToken_126 : decode cX5_readToken 126 = .ok (.iconst 1, 1) := by decide +kernel
theorem dX5_readToken_127 : decode cX5_readToken 127 = .ok (.goto 4, 3) := by decide +kernel
theorem dX5_readToken_130 : decode cX5_readToken 130 = .ok (.iconst 0, 1) := by decide +kernel
theorem dX5_readToken_131 : decode cX5_readToken 131 = .ok (.istore_n 1, 1) := by decide +kernel
theorem dX5_readToken_132 : decode cX5_readToken 132 = .ok (.iload_n 1, 1) := by decide +kernel
theorem dX5_readToken_133 : decode cX5_readToken 133 = .ok (.ifCond .eq 52, 3) := by decide +kernel
theorem dX5_readToken_136 : decode cX5_readToken 136 = .ok (.aload_n 0, 1) := by decide +kernel
theorem dX5_readToken_137 : decode cX5_readToken 137 = .ok (.getfield 42, 3) := by decide +kernel
theorem dX5_readToken_140 : decode cX5_readToken 140 = .ok (.aload_n 0, 1) := by decide +kernel
theorem dX5_readToken_141 : decode cX5_readToken 141 = .ok (.getfield 18, 3) := by decide +kernel
theorem dX5_readToken_144 : decode cX5_readToken 144 = .ok (.getfield 45, 3) := by decide +kernel
theorem dX5_readToken_147 : decode cX5_readToken 147 = .ok (.if_icmp .ge 38, 3) := by decide +kernel
theorem dX5_readToken_150 : decode cX5_readToken 150 = .ok (.aload_n 0, 1) := by decide +kernel
theorem dX5_readToken_151 : decode cX5_readToken 151 = .ok (.getfield 18, 3) := by decide +kernel
theorem dX5_readToken_154 : decode cX5_readToken 154 = .ok (.getfield 66, 3) := by decide +kernel
theorem dX5_readToken_157 : decode cX5_readToken 157 = .ok (.aload_n 0, 1) := by decide +kernel
theorem dX5_readToken_158 : decode cX5_readToken 158 = .ok (.getfield 42, 3) := by decide +kernel
theorem dX5_readToken_161 : decode cX5_readToken 161 = .ok (.baload, 1) := by decide +kernel
theorem dX5_readToken_162 : decode cX5_readToken 162 = .ok (.invokestatic 70, 3) := by decide +kernel
theorem dX5_readToken_165 : decode cX5_readToken 165 = .ok (.aload_n 0, 1) := by decide +kernel
theorem dX5_readToken_166 : decode cX5_readToken 166 = .ok (.getfield 54, 3) := by decide +kernel
theorem dX5_readToken_169 : decode cX5_readToken 169 = .ok (.if_icmp .ne 16, 3) := by decide +kernel
theorem dX5_readToken_172 : decode cX5_readToken 172 = .ok (.aload_n 0, 1) := by decide +kernel
theorem dX5_readToken_173 : decode cX5_readToken 173 = .ok (.dup, 1) := by decide +kernel
theorem dX5_readToken_174 : decode cX5_readToken 174 = .ok (.getfield 42, 3) := by decide +kernel
theorem dX5_readToken_177 : decode cX5_readToken 177 = .ok (.iconst 1, 1) := by decide +kernel
theorem dX5_readToken_178 : decode cX5_readToken 178 = .ok (.iadd, 1) := by decide +kernel
theorem dX5_readToken_179 : decode cX5_readToken 179 = .ok (.putfield 42, 3) := by decide +kernel
theorem dX5_readToken_182 : decode cX5_readToken 182 = .ok (.goto (-50), 3) := by decide +kernel
theorem dX5_readToken_185 : decode cX5_readToken 185 = .ok (.aload_n 0, 1) := by decide +kernel
theorem dX5_readToken_186 : decode cX5_readToken 186 = .ok (.getfield 54, 3) := by decide +kernel
theorem dX5_readToken_189 : decode cX5_readToken 189 = .ok (.iconst 2, 1) := by decide +kernel
theorem dX5_readToken_190 : decode cX5_readToken 190 = .ok (.if_icmp .ne 20, 3) := by decide +kernel
theorem dX5_readToken_193 : decode cX5_readToken 193 = .ok (.aload_n 0, 1) := by decide +kernel
theorem dX5_readToken_194 : decode cX5_readToken 194 = .ok (.getfield 42, 3) := by decide +kernel
theorem dX5_readToken_197 : decode cX5_readToken 197 = .ok (.aload_n 0, 1) := by decide +kernel
theorem dX5_readToken_198 : decode cX5_readToken 198 = .ok (.getfield 63, 3) := by decide +kernel
theorem dX5_readToken_201 : decode cX5_readToken 201 = .ok (.isub, 1) := by decide +kernel
theorem dX5_readToken_202 : decode cX5_readToken 202 = .ok (.iconst 2, 1) := by decide +kernel
theorem dX5_readToken_203 : decode cX5_readToken 203 = .ok (.if_icmp .le 7, 3) := by decide +kernel
theorem dX5_readToken_206 : decode cX5_readToken 206 = .ok (.iconst 1, 1) := by decide +kernel
theorem dX5_readToken_207 : decode cX5_readToken 207 = .ok (.goto 4, 3) := by decide +kernel
theorem dX5_readToken_210 : decode cX5_readToken 210 = .ok (.iconst 0, 1) := by decide +kernel
theorem dX5_readToken_211 : decode cX5_readToken 211 = .ok (.istore_n 2, 1) := by decide +kernel
theorem dX5_readToken_212 : decode cX5_readToken 212 = .ok (.aload_n 0, 1) := by decide +kernel
theorem dX5_readToken_213 : decode cX5_readToken 213 = .ok (.getfield 54, 3) := by decide +kernel
theorem dX5_readToken_216 : decode cX5_readToken 216 = .ok (.iconst 4, 1) := by decide +kernel
theorem dX5_readToken_217 : decode cX5_readToken 217 = .ok (.if_icmp .eq 7, 3) := by decide +kernel
theorem dX5_readToken_220 : decode cX5_readToken 220 = .ok (.iload_n 2, 1) := by decide +kernel
theorem dX5_readToken_221 : decode cX5_readToken 221 = .ok (.ifCond .eq 15, 3) := by decide +kernel
theorem dX5_readToken_224 : decode cX5_readToken 224 = .ok (.aload_n 0, 1) := by decide +kernel
theorem dX5_readToken_225 : decode cX5_readToken 225 = .ok (.iconst 1, 1) := by decide +kernel
theorem dX5_readToken_226 : decode cX5_readToken 226 = .ok (.aload_n 0, 1) := by decide +kernel
theorem dX5_readToken_227 : decode cX5_readToken 227 = .ok (.getfield 63, 3) := by decide +kernel
theorem dX5_readToken_230 : decode cX5_readToken 230 = .ok (.invokevirtual 74, 3) := by decide +kernel
theorem dX5_readToken_233 : decode cX5_readToken 233 = .ok (.ifCond .eq 7, 3) := by decide +kernel
theorem dX5_readToken_236 : decode cX5_readToken 236 = .ok (.iconst 1, 1) := by decide +kernel
theorem dX5_readToken_237 : decode cX5_readToken 237 = .ok (.goto 4, 3) := by decide +kernel
theorem dX5_readToken_240 : decode cX5_readToken 240 = .ok (.iconst 0, 1) := by decide +kernel
theorem dX5_readToken_241 : decode cX5_readToken 241 = .ok (.ireturn, 1) := by decide +kernel
theorem dX5_isName_0 : decode cX5_isName 0 = .ok (.aload_n 0, 1) := by decide +kernel
theorem dX5_isName_1 : decode cX5_isName 1 = .ok (.getfield 54, 3) := by decide +kernel
theorem dX5_isName_4 : decode cX5_isName 4 = .ok (.iconst 1, 1) := by decide +kernel
theorem dX5_isName_5 : decode cX5_isName 5 = .ok (.if_icmp .ne 19, 3) := by decide +kernel
theorem dX5_isName_8 : decode cX5_isName 8 = .ok (.aload_n 0, 1) := by decide +kernel
theorem dX5_isName_9 : decode cX5_isName 9 = .ok (.getfield 42, 3) := by decide +kernel
theorem dX5_isName_12 : decode cX5_isName 12 = .ok (.aload_n 0, 1) := by decide +kernel
theorem dX5_isName_13 : decode cX5_isName 13 = .ok (.getfield 63, 3) := by decide +kernel
theorem dX5_isName_16 : decode cX5_isName 16 = .ok (.isub, 1) := by decide +kernel
theorem dX5_isName_17 : decode cX5_isName 17 = .ok (.aload_n 1, 1) := by decide +kernel
theorem dX5_isName_18 : decode cX5_isName 18 = .ok (.invokevirtual 78, 3) := by decide +kernel
theorem dX5_isName_21 : decode cX5_isName 21 = .ok (.if_icmp .eq 5, 3) := by decide +kernel
theorem dX5_isName_24 : decode cX5_isName 24 = .ok (.iconst 0, 1) := by decide +kernel
theorem dX5_isName_25 : decode cX5_isName 25 = .ok (.ireturn, 1) := by decide +kernel
theorem dX5_isName_26 : decode cX5_isName 26 = .ok (.iconst 0, 1) := by decide +kernel
theorem dX5_isName_27 : decode cX5_isName 27 = .ok (.istore_n 2, 1) := by decide +kernel
theorem dX5_isName_28 : decode cX5_isName 28 = .ok (.iload_n 2, 1) := by decide +kernel
theorem dX5_isName_29 : decode cX5_isName 29 = .ok (.aload_n 1, 1) := by decide +kernel
theorem dX5_isName_30 : decode cX5_isName 30 = .ok (.invokevirtual 78, 3) := by decide +kernel
theorem dX5_isName_33 : decode cX5_isName 33 = .ok (.if_icmp .ge 49, 3) := by decide +kernel
theorem dX5_isName_36 : decode cX5_isName 36 = .ok (.aload_n 0, 1) := by decide +kernel
theorem dX5_isName_37 : decode cX5_isName 37 = .ok (.getfield 63, 3) := by decide +kernel
theorem dX5_isName_40 : decode cX5_isName 40 = .ok (.iload_n 2, 1) := by decide +kernel
theorem dX5_isName_41 : decode cX5_isName 41 = .ok (.iadd, 1) := by decide +kernel
theorem dX5_isName_42 : decode cX5_isName 42 = .ok (.aload_n 0, 1) := by decide +kernel
theorem dX5_isName_43 : decode cX5_isName 43 = .ok (.getfield 18, 3) := by decide +kernel
theorem dX5_isName_46 : decode cX5_isName 46 = .ok (.getfield 45, 3) := by decide +kernel
theorem dX5_isName_49 : decode cX5_isName 49 = .ok (.if_icmp .ge 33, 3) := by decide +kernel
theorem dX5_isName_52 : decode cX5_isName 52 = .ok (.aload_n 0, 1) := by decide +kernel
theorem dX5_isName_53 : decode cX5_isName 53 = .ok (.getfield 18, 3) := by decide +kernel
theorem dX5_isName_56 : decode cX5_isName 56 = .ok (.getfield 66, 3) := by decide +kernel
theorem dX5_isName_59 : decode cX5_isName 59 = .ok (.aload_n 0, 1) := by decide +kernel
theorem dX5_isName_60 : decode cX5_isName 60 = .ok (.getfield 63, 3) := by decide +kernel
theorem dX5_isName_63 : decode cX5_isName 63 = .ok (.iload_n 2, 1) := by decide +kernel
theorem dX5_isName_64 : decode cX5_isName 64 = .ok (.iadd, 1) := by decide +kernel
theorem dX5_isName_65 : decode cX5_isName 65 = .ok (.baload, 1) := by decide +kernel
theorem dX5_isName_66 : decode cX5_isName 66 = .ok (.aload_n 1, 1) := by decide +kernel
theorem dX5_isName_67 : decode cX5_isName 67 = .ok (.iload_n 2, 1) := by decide +kernel
theorem dX5_isName_68 : decode cX5_isName 68 = .ok (.invokevirtual 83, 3) := by decide +kernel
theorem dX5_isName_71 : decode cX5_isName 71 = .ok (.if_icmp .eq 5, 3) := by decide +kernel
theorem dX5_isName_74 : decode cX5_isName 74 = .ok (.iconst 0, 1) := by decide +kernel
theorem dX5_isName_75 : decode cX5_isName 75 = .ok (.ireturn, 1) := by decide +kernel
theorem dX5_isName_76 : decode cX5_isName 76 = .ok (.iinc 2 1, 3) := by decide +kernel
theorem dX5_isName_79 : decode cX5_isName 79 = .ok (.goto (-51), 3) := by decide +kernel
theorem dX5_isName_82 : decode cX5_isName 82 = .ok (.iconst 1, 1) := by decide +kernel
theorem dX5_isName_83 : decode cX5_isName 83 = .ok (.ireturn, 1) := by decide +kernel
theorem dX5_readNumber_0 : decode cX5_readNumber 0 = .ok (.aload_n 0, 1) := by decide +kernel
theorem dX5_readNumber_1 : decode cX5_readNumber 1 = .ok (.invokevirtual 50, 3) := by decide +kernel
theorem dX5_readNumber_4 : decode cX5_readNumber 4 = .ok (.ifCond .ne 5, 3) := by decide +kernel
theorem dX5_readNumber_7 : decode cX5_readNumber 7 = .ok (.iconst 0, 1) := by decide +kernel
theorem dX5_readNumber_8 : decode cX5_readNumber 8 = .ok (.ireturn, 1) := by decide +kernel
theorem dX5_readNumber_9 : decode cX5_readNumber 9 = .ok (.aload_n 0, 1) := by decide +kernel
theorem dX5_readNumber_10 : decode cX5_readNumber 10 = .ok (.getfield 54, 3) := by decide +kernel
theorem dX5_readNumber_13 : decode cX5_readNumber 13 = .ok (.iconst 2, 1) := by decide +kernel
theorem dX5_readNumber_14 : decode cX5_readNumber 14 = .ok (.if_icmp .eq 13, 3) := by decide +kernel
theorem dX5_readNumber_17 : decode cX5_readNumber 17 = .ok (.aload_n 0, 1) := by decide +kernel
theorem dX5_readNumber_18 : decode cX5_readNumber 18 = .ok (.iconst 2, 1) := by decide +kernel
theorem dX5_readNumber_19 : decode cX5_readNumber 19 = .ok (.aload_n 0, 1) := by decide +kernel
theorem dX5_readNumber_20 : decode cX5_readNumber 20 = .ok (.getfield 63, 3) := by decide +kernel
theorem dX5_readNumber_23 : decode cX5_readNumber 23 = .ok (.invokevirtual 74, 3) := by decide +kernel
theorem dX5_readNumber_26 : decode cX5_readNumber 26 = .ok (.ireturn, 1) := by decide +kernel
theorem dX5_readNumber_27 : decode cX5_readNumber 27 = .ok (.aload_n 0, 1) := by decide +kernel
theorem dX5_readNumber_28 : decode cX5_readNumber 28 = .ok (.iconst 0, 1) := by decide +kernel
theorem dX5_readNumber_29 : decode cX5_readNumber 29 = .ok (.putfield 87, 3) := by decide +kernel
theorem dX5_readNumber_32 : decode cX5_readNumber 32 = .ok (.aload_n 0, 1) := by decide +kernel
theorem dX5_readNumber_33 : decode cX5_readNumber 33 = .ok (.getfield 63, 3) := by decide +kernel
theorem dX5_readNumber_36 : decode cX5_readNumber 36 = .ok (.istore_n 3, 1) := by decide +kernel
theorem dX5_readNumber_37 : decode cX5_readNumber 37 = .ok (.iload_n 3, 1) := by decide +kernel
theorem dX5_readNumber_38 : decode cX5_readNumber 38 = .ok (.aload_n 0, 1) := by decide +kernel
theorem dX5_readNumber_39 : decode cX5_readNumber 39 = .ok (.getfield 42, 3) := by decide +kernel
theorem dX5_readNumber_42 : decode cX5_readNumber 42 = .ok (.if_icmp .ge 33, 3) := by decide +kernel
theorem dX5_readNumber_45 : decode cX5_readNumber 45 = .ok (.aload_n 0, 1) := by decide +kernel
theorem dX5_readNumber_46 : decode cX5_readNumber 46 = .ok (.aload_n 0, 1) := by decide +kernel
theorem dX5_readNumber_47 : decode cX5_readNumber 47 = .ok (.getfield 87, 3) := by decide +kernel
theorem dX5_readNumber_50 : decode cX5_readNumber 50 = .ok (.bipush 10, 2) := by decide +kernel
theorem dX5_readNumber_52 : decode cX5_readNumber 52 = .ok (.imul, 1) := by decide +kernel
theorem dX5_readNumber_53 : decode cX5_readNumber 53 = .ok (.aload_n 0, 1) := by decide +kernel
theorem dX5_readNumber_54 : decode cX5_readNumber 54 = .ok (.getfield 18, 3) := by decide +kernel
theorem dX5_readNumber_57 : decode cX5_readNumber 57 = .ok (.getfield 66, 3) := by decide +kernel
theorem dX5_readNumber_60 : decode cX5_readNumber 60 = .ok (.iload_n 3, 1) := by decide +kernel
theorem dX5_readNumber_61 : decode cX5_readNumber 61 = .ok (.baload, 1) := by decide +kernel
theorem dX5_readNumber_62 : decode cX5_readNumber 62 = .ok (.iadd, 1) := by decide +kernel
theorem dX5_readNumber_63 : decode cX5_readNumber 63 = .ok (.bipush 48, 2) := by decide +kernel
theorem dX5_readNumber_65 : decode cX5_readNumber 65 = .ok (.isub, 1) := by decide +kernel
theorem dX5_readNumber_66 : decode cX5_readNumber 66 = .ok (.putfield 87, 3) := by decide +kernel
theorem dX5_readNumber_69 : decode cX5_readNumber 69 = .ok (.iinc 3 1, 3) := by decide +kernel
theorem dX5_readNumber_72 : decode cX5_readNumber 72 = .ok (.goto (-35), 3) := by decide +kernel
theorem dX5_readNumber_75 : decode cX5_readNumber 75 = .ok (.aload_n 0, 1) := by decide +kernel
theorem dX5_readNumber_76 : decode cX5_readNumber 76 = .ok (.getfield 87, 3) := by decide +kernel
theorem dX5_readNumber_79 : decode cX5_readNumber 79 = .ok (.iload_n 1, 1) := by decide +kernel
theorem dX5_readNumber_80 : decode cX5_readNumber 80 = .ok (.if_icmp .lt 11, 3) := by decide +kernel
theorem dX5_readNumber_83 : decode cX5_readNumber 83 = .ok (.aload_n 0, 1) := by decide +kernel
theorem dX5_readNumber_84 : decode cX5_readNumber 84 = .ok (.getfield 87, 3) := by decide +kernel
theorem dX5_readNumber_87 : decode cX5_readNumber 87 = .ok (.iload_n 2, 1) := by decide +kernel
theorem dX5_readNumber_88 : decode cX5_readNumber 88 = .ok (.if_icmp .le 15, 3) := by decide +kernel
theorem dX5_readNumber_91 : decode cX5_readNumber 91 = .ok (.aload_n 0, 1) := by decide +kernel
theorem dX5_readNumber_92 : decode cX5_readNumber 92 = .ok (.iconst 3, 1) := by decide +kernel
theorem dX5_readNumber_93 : decode cX5_readNumber 93 = .ok (.aload_n 0, 1) := by decide +kernel
theorem dX5_readNumber_94 : decode cX5_readNumber 94 = .ok (.getfield 63, 3) := by decide +kernel
theorem dX5_readNumber_97 : decode cX5_readNumber 97 = .ok (.invokevirtual 74, 3) := by decide +kernel
theorem dX5_readNumber_100 : decode cX5_readNumber 100 = .ok (.ifCond .eq 7, 3) := by decide +kernel
theorem dX5_readNumber_103 : decode cX5_readNumber 103 = .ok (.iconst 1, 1) := by decide +kernel
theorem dX5_readNumber_104 : decode cX5_readNumber 104 = .ok (.goto 4, 3) := by decide +kernel
theorem dX5_readNumber_107 : decode cX5_readNumber 107 = .ok (.iconst 0, 1) := by decide +kernel
theorem dX5_readNumber_108 : decode cX5_readNumber 108 = .ok (.ireturn, 1) := by decide +kernel
theorem dX5_readStop_0 : decode cX5_readStop 0 = .ok (.aload_n 0, 1) := by decide +kernel
theorem dX5_readStop_1 : decode cX5_readStop 1 = .ok (.invokevirtual 50, 3) := by decide +kernel
theorem dX5_readStop_4 : decode cX5_readStop 4 = .ok (.ifCond .eq 14, 3) := by decide +kernel
theorem dX5_readStop_7 : decode cX5_readStop 7 = .ok (.aload_n 0, 1) := by decide +kernel
theorem dX5_readStop_8 : decode cX5_readStop 8 = .ok (.invokevirtual 90, 3) := by decide +kernel
theorem dX5_readStop_11 : decode cX5_readStop 11 = .ok (.ifCond .eq 7, 3) := by decide +kernel
theorem dX5_readStop_14 : decode cX5_readStop 14 = .ok (.iconst 1, 1) := by decide +kernel
theorem dX5_readStop_15 : decode cX5_readStop 15 = .ok (.goto 4, 3) := by decide +kernel
theorem dX5_readStop_18 : decode cX5_readStop 18 = .ok (.iconst 0, 1) := by decide +kernel
theorem dX5_readStop_19 : decode cX5_readStop 19 = .ok (.ireturn, 1) := by decide +kernel
theorem dX5_checkStop_0 : decode cX5_checkStop 0 = .ok (.aload_n 0, 1) := by decide +kernel
theorem dX5_checkStop_1 : decode cX5_checkStop 1 = .ok (.getfield 54, 3) := by decide +kernel
theorem dX5_checkStop_4 : decode cX5_checkStop 4 = .ok (.iconst 3, 1) := by decide +kernel
theorem dX5_checkStop_5 : decode cX5_checkStop 5 = .ok (.if_icmp .eq 15, 3) := by decide +kernel
theorem dX5_checkStop_8 : decode cX5_checkStop 8 = .ok (.aload_n 0, 1) := by decide +kernel
theorem dX5_checkStop_9 : decode cX5_checkStop 9 = .ok (.iconst 2, 1) := by decide +kernel
theorem dX5_checkStop_10 : decode cX5_checkStop 10 = .ok (.aload_n 0, 1) := by decide +kernel
theorem dX5_checkStop_11 : decode cX5_checkStop 11 = .ok (.getfield 63, 3) := by decide +kernel
theorem dX5_checkStop_14 : decode cX5_checkStop 14 = .ok (.invokevirtual 74, 3) := by decide +kernel
theorem dX5_checkStop_17 : decode cX5_checkStop 17 = .ok (.ifCond .eq 7, 3) := by decide +kernel
theorem dX5_checkStop_20 : decode cX5_checkStop 20 = .ok (.iconst 1, 1) := by decide +kernel
theorem dX5_checkStop_21 : decode cX5_checkStop 21 = .ok (.goto 4, 3) := by decide +kernel
theorem dX5_checkStop_24 : decode cX5_checkStop 24 = .ok (.iconst 0, 1) := by decide +kernel
theorem dX5_checkStop_25 : decode cX5_checkStop 25 = .ok (.ireturn, 1) := by decide +kernel
theorem dX5_readLine_0 : decode cX5_readLine 0 = .ok (.aload_n 0, 1) := by decide +kernel
theorem dX5_readLine_1 : decode cX5_readLine 1 = .ok (.ldc 93, 2) := by decide +kernel
theorem dX5_readLine_3 : decode cX5_readLine 3 = .ok (.invokevirtual 95, 3) := by decide +kernel
theorem dX5_readLine_6 : decode cX5_readLine 6 = .ok (.ifCond .eq 8, 3) := by decide +kernel
theorem dX5_readLine_9 : decode cX5_readLine 9 = .ok (.aload_n 0, 1) := by decide +kernel
theorem dX5_readLine_10 : decode cX5_readLine 10 = .ok (.invokevirtual 99, 3) := by decide +kernel
theorem dX5_readLine_13 : decode cX5_readLine 13 = .ok (.ireturn, 1) := by decide +kernel
theorem dX5_readLine_14 : decode cX5_readLine 14 = .ok (.aload_n 0, 1) := by decide +kernel
theorem dX5_readLine_15 : decode cX5_readLine 15 = .ok (.ldc 102, 2) := by decide +kernel
theorem dX5_readLine_17 : decode cX5_readLine 17 = .ok (.invokevirtual 95, 3) := by decide +kernel
theorem dX5_readLine_20 : decode cX5_readLine 20 = .ok (.ifCond .eq 8, 3) := by decide +kernel
theorem dX5_readLine_23 : decode cX5_readLine 23 = .ok (.aload_n 0, 1) := by decide +kernel
theorem dX5_readLine_24 : decode cX5_readLine 24 = .ok (.invokevirtual 104, 3) := by decide +kernel
theorem dX5_readLine_27 : decode cX5_readLine 27 = .ok (.ireturn, 1) := by decide +kernel
theorem dX5_readLine_28 : decode cX5_readLine 28 = .ok (.aload_n 0, 1) := by decide +kernel
theorem dX5_readLine_29 : decode cX5_readLine 29 = .ok (.ldc 107, 2) := by decide +kernel
theorem dX5_readLine_31 : decode cX5_readLine 31 = .ok (.invokevirtual 95, 3) := by decide +kernel
theorem dX5_readLine_34 : decode cX5_readLine 34 = .ok (.ifCond .eq 8, 3) := by decide +kernel
theorem dX5_readLine_37 : decode cX5_readLine 37 = .ok (.aload_n 0, 1) := by decide +kernel
theorem dX5_readLine_38 : decode cX5_readLine 38 = .ok (.invokevirtual 109, 3) := by decide +kernel
theorem dX5_readLine_41 : decode cX5_readLine 41 = .ok (.ireturn, 1) := by decide +kernel
theorem dX5_readLine_42 : decode cX5_readLine 42 = .ok (.aload_n 0, 1) := by decide +kernel
theorem dX5_readLine_43 : decode cX5_readLine 43 = .ok (.ldc 112, 2) := by decide +kernel
theorem dX5_readLine_45 : decode cX5_readLine 45 = .ok (.invokevirtual 95, 3) := by decide +kernel
theorem dX5_readLine_48 : decode cX5_readLine 48 = .ok (.ifCond .eq 8, 3) := by decide +kernel
theorem dX5_readLine_51 : decode cX5_readLine 51 = .ok (.aload_n 0, 1) := by decide +kernel
theorem dX5_readLine_52 : decode cX5_readLine 52 = .ok (.invokevirtual 114, 3) := by decide +kernel
theorem dX5_readLine_55 : decode cX5_readLine 55 = .ok (.ireturn, 1) := by decide +kernel
theorem dX5_readLine_56 : decode cX5_readLine 56 = .ok (.aload_n 0, 1) := by decide +kernel
theorem dX5_readLine_57 : decode cX5_readLine 57 = .ok (.ldc 117, 2) := by decide +kernel
theorem dX5_readLine_59 : decode cX5_readLine 59 = .ok (.invokevirtual 95, 3) := by decide +kernel
theorem dX5_readLine_62 : decode cX5_readLine 62 = .ok (.ifCond .eq 8, 3) := by decide +kernel
theorem dX5_readLine_65 : decode cX5_readLine 65 = .ok (.aload_n 0, 1) := by decide +kernel
theorem dX5_readLine_66 : decode cX5_readLine 66 = .ok (.invokevirtual 119, 3) := by decide +kernel
theorem dX5_readLine_69 : decode cX5_readLine 69 = .ok (.ireturn, 1) := by decide +kernel
theorem dX5_readLine_70 : decode cX5_readLine 70 = .ok (.aload_n 0, 1) := by decide +kernel
theorem dX5_readLine_71 : decode cX5_readLine 71 = .ok (.ldc 122, 2) := by decide +kernel
theorem dX5_readLine_73 : decode cX5_readLine 73 = .ok (.invokevirtual 95, 3) := by decide +kernel
theorem dX5_readLine_76 : decode cX5_readLine 76 = .ok (.ifCond .eq 10, 3) := by decide +kernel
theorem dX5_readLine_79 : decode cX5_readLine 79 = .ok (.aload_n 0, 1) := by decide +kernel
theorem dX5_readLine_80 : decode cX5_readLine 80 = .ok (.invokevirtual 124, 3) := by decide +kernel
theorem dX5_readLine_83 : decode cX5_readLine 83 = .ok (.goto 12, 3) := by decide +kernel
theorem dX5_readLine_86 : decode cX5_readLine 86 = .ok (.aload_n 0, 1) := by decide +kernel
theorem dX5_readLine_87 : decode cX5_readLine 87 = .ok (.iconst 2, 1) := by decide +kernel
theorem dX5_readLine_88 : decode cX5_readLine 88 = .ok (.aload_n 0, 1) := by decide +kernel
theorem dX5_readLine_89 : decode cX5_readLine 89 = .ok (.getfield 63, 3) := by decide +kernel
theorem dX5_readLine_92 : decode cX5_readLine 92 = .ok (.invokevirtual 74, 3) := by decide +kernel
theorem dX5_readLine_95 : decode cX5_readLine 95 = .ok (.ireturn, 1) := by decide +kernel
theorem dX5_readLaw_0 : decode cX5_readLaw 0 = .ok (.aload_n 0, 1) := by decide +kernel
theorem dX5_readLaw_1 : decode cX5_readLaw 1 = .ok (.getfield 35, 3) := by decide +kernel
theorem dX5_readLaw_4 : decode cX5_readLaw 4 = .ok (.ifCond .eq 13, 3) := by decide +kernel
theorem dX5_readLaw_7 : decode cX5_readLaw 7 = .ok (.aload_n 0, 1) := by decide +kernel
theorem dX5_readLaw_8 : decode cX5_readLaw 8 = .ok (.iconst 4, 1) := by decide +kernel
theorem dX5_readLaw_9 : decode cX5_readLaw 9 = .ok (.aload_n 0, 1) := by decide +kernel
theorem dX5_readLaw_10 : decode cX5_readLaw 10 = .ok (.getfield 63, 3) := by decide +kernel
theorem dX5_readLaw_13 : decode cX5_readLaw 13 = .ok (.invokevirtual 74, 3) := by decide +kernel
theorem dX5_readLaw_16 : decode cX5_readLaw 16 = .ok (.ireturn, 1) := by decide +kernel
theorem dX5_readLaw_17 : decode cX5_readLaw 17 = .ok (.aload_n 0, 1) := by decide +kernel
theorem dX5_readLaw_18 : decode cX5_readLaw 18 = .ok (.iconst 1, 1) := by decide +kernel
theorem dX5_readLaw_19 : decode cX5_readLaw 19 = .ok (.putfield 35, 3) := by decide +kernel
theorem dX5_readLaw_22 : decode cX5_readLaw 22 = .ok (.aload_n 0, 1) := by decide +kernel
theorem dX5_readLaw_23 : decode cX5_readLaw 23 = .ok (.iconst 0, 1) := by decide +kernel
theorem dX5_readLaw_24 : decode cX5_readLaw 24 = .ok (.iconst 2, 1) := by decide +kernel
theorem dX5_readLaw_25 : decode cX5_readLaw 25 = .ok (.invokevirtual 127, 3) := by decide +kernel
theorem dX5_readLaw_28 : decode cX5_readLaw 28 = .ok (.ifCond .ne 5, 3) := by decide +kernel
theorem dX5_readLaw_31 : decode cX5_readLaw 31 = .ok (.iconst 0, 1) := by decide +kernel
theorem dX5_readLaw_32 : decode cX5_readLaw 32 = .ok (.ireturn, 1) := by decide +kernel
theorem dX5_readLaw_33 : decode cX5_readLaw 33 = .ok (.aload_n 0, 1) := by decide +kernel
theorem dX5_readLaw_34 : decode cX5_readLaw 34 = .ok (.getfield 12, 3) := by decide +kernel
theorem dX5_readLaw_37 : decode cX5_readLaw 37 = .ok (.aload_n 0, 1) := by decide +kernel
theorem dX5_readLaw_38 : decode cX5_readLaw 38 = .ok (.getfield 87, 3) := by decide +kernel
theorem dX5_readLaw_41 : decode cX5_readLaw 41 = .ok (.putfield 130, 3) := by decide +kernel
theorem dX5_readLaw_44 : decode cX5_readLaw 44 = .ok (.aload_n 0, 1) := by decide +kernel
theorem dX5_readLaw_45 : decode cX5_readLaw 45 = .ok (.invokevirtual 133, 3) := by decide +kernel
theorem dX5_readLaw_48 : decode cX5_readLaw 48 = .ok (.ireturn, 1) := by decide +kernel
theorem dX5_readFee_0 : decode cX5_readFee 0 = .ok (.aload_n 0, 1) := by decide +kernel
theorem dX5_readFee_1 : decode cX5_readFee 1 = .ok (.getfield 39, 3) := by decide +kernel
theorem dX5_readFee_4 : decode cX5_readFee 4 = .ok (.ifCond .eq 13, 3) := by decide +kernel
theorem dX5_readFee_7 : decode cX5_readFee 7 = .ok (.aload_n 0, 1) := by decide +kernel
theorem dX5_readFee_8 : decode cX5_readFee 8 = .ok (.iconst 4, 1) := by decide +kernel
theorem dX5_readFee_9 : decode cX5_readFee 9 = .ok (.aload_n 0, 1) := by decide +kernel
theorem dX5_readFee_10 : decode cX5_readFee 10 = .ok (.getfield 63, 3) := by decide +kernel
theorem dX5_readFee_13 : decode cX5_readFee 13 = .ok (.invokevirtual 74, 3) := by decide +kernel
theorem dX5_readFee_16 : decode cX5_readFee 16 = .ok (.ireturn, 1) := by decide +kernel
theorem dX5_readFee_17 : decode cX5_readFee 17 = .ok (.aload_n 0, 1) := by decide +kernel
theorem dX5_readFee_18 : decode cX5_readFee 18 = .ok (.iconst 1, 1) := by decide +kernel
theorem dX5_readFee_19 : decode cX5_readFee 19 = .ok (.putfield 39, 3) := by decide +kernel
theorem dX5_readFee_22 : decode cX5_readFee 22 = .ok (.aload_n 0, 1) := by decide +kernel
theorem dX5_readFee_23 : decode cX5_readFee 23 = .ok (.iconst 0, 1) := by decide +kernel
theorem dX5_readFee_24 : decode cX5_readFee 24 = .ok (.bipush 9, 2) := by decide +kernel
theorem dX5_readFee_26 : decode cX5_readFee 26 = .ok (.invokevirtual 127, 3) := by decide +kernel
theorem dX5_readFee_29 : decode cX5_readFee 29 = .ok (.ifCond .ne 5, 3) := by decide +kernel
theorem dX5_readFee_32 : decode cX5_readFee 32 = .ok (.iconst 0, 1) := by decide +kernel
theorem dX5_readFee_33 : decode cX5_readFee 33 = .ok (.ireturn, 1) := by decide +kernel
theorem dX5_readFee_34 : decode cX5_readFee 34 = .ok (.aload_n 0, 1) := by decide +kernel
theorem dX5_readFee_35 : decode cX5_readFee 35 = .ok (.getfield 12, 3) := by decide +kernel
theorem dX5_readFee_38 : decode cX5_readFee 38 = .ok (.aload_n 0, 1) := by decide +kernel
theorem dX5_readFee_39 : decode cX5_readFee 39 = .ok (.getfield 87, 3) := by decide +kernel
theorem dX5_readFee_42 : decode cX5_readFee 42 = .ok (.putfield 136, 3) := by decide +kernel
theorem dX5_readFee_45 : decode cX5_readFee 45 = .ok (.aload_n 0, 1) := by decide +kernel
theorem dX5_readFee_46 : decode cX5_readFee 46 = .ok (.invokevirtual 133, 3) := by decide +kernel
theorem dX5_readFee_49 : decode cX5_readFee 49 = .ok (.ireturn, 1) := by decide +kernel
theorem dX5_readOne_0 : decode cX5_readOne 0 = .ok (.aload_n 0, 1) := by decide +kernel
theorem dX5_readOne_1 : decode cX5_readOne 1 = .ok (.getfield 12, 3) := by decide +kernel
theorem dX5_readOne_4 : decode cX5_readOne 4 = .ok (.getfield 139, 3) := by decide +kernel
theorem dX5_readOne_7 : decode cX5_readOne 7 = .ok (.istore_n 1, 1) := by decide +kernel
theorem dX5_readOne_8 : decode cX5_readOne 8 = .ok (.iload_n 1, 1) := by decide +kernel
theorem dX5_readOne_9 : decode cX5_readOne 9 = .ok (.bipush 6, 2) := by decide +kernel
theorem dX5_readOne_11 : decode cX5_readOne 11 = .ok (.if_icmp .lt 13, 3) := by decide +kernel
theorem dX5_readOne_14 : decode cX5_readOne 14 = .ok (.aload_n 0, 1) := by decide +kernel
theorem dX5_readOne_15 : decode cX5_readOne 15 = .ok (.iconst 5, 1) := by decide +kernel
theorem dX5_readOne_16 : decode cX5_readOne 16 = .ok (.aload_n 0, 1) := by decide +kernel
theorem dX5_readOne_17 : decode cX5_readOne 17 = .ok (.getfield 63, 3) := by decide +kernel
theorem dX5_readOne_20 : decode cX5_readOne 20 = .ok (.invokevirtual 74, 3) := by decide +kernel
theorem dX5_readOne_23 : decode cX5_readOne 23 = .ok (.ireturn, 1) := by decide +kernel
theorem dX5_readOne_24 : decode cX5_readOne 24 = .ok (.aload_n 0, 1) := by decide +kernel
theorem dX5_readOne_25 : decode cX5_readOne 25 = .ok (.invokevirtual 50, 3) := by decide +kernel
theorem dX5_readOne_28 : decode cX5_readOne 28 = .ok (.ifCond .ne 5, 3) := by decide +kernel
theorem dX5_readOne_31 : decode cX5_readOne 31 = .ok (.iconst 0, 1) := by decide +kernel
theorem dX5_readOne_32 : decode cX5_readOne 32 = .ok (.ireturn, 1) := by decide +kernel
theorem dX5_readOne_33 : decode cX5_readOne 33 = .ok (.aload_n 0, 1) := by decide +kernel
theorem dX5_readOne_34 : decode cX5_readOne 34 = .ok (.getfield 12, 3) := by decide +kernel
theorem dX5_readOne_37 : decode cX5_readOne 37 = .ok (.getfield 142, 3) := by decide +kernel
theorem dX5_readOne_40 : decode cX5_readOne 40 = .ok (.iload_n 1, 1) := by decide +kernel
theorem dX5_readOne_41 : decode cX5_readOne 41 = .ok (.aload_n 0, 1) := by decide +kernel
theorem dX5_readOne_42 : decode cX5_readOne 42 = .ok (.invokevirtual 146, 3) := by decide +kernel
theorem dX5_readOne_45 : decode cX5_readOne 45 = .ok (.iastore, 1) := by decide +kernel
theorem dX5_readOne_46 : decode cX5_readOne 46 = .ok (.aload_n 0, 1) := by decide +kernel
theorem dX5_readOne_47 : decode cX5_readOne 47 = .ok (.getfield 12, 3) := by decide +kernel
theorem dX5_readOne_50 : decode cX5_readOne 50 = .ok (.getfield 142, 3) := by decide +kernel
theorem dX5_readOne_53 : decode cX5_readOne 53 = .ok (.iload_n 1, 1) := by decide +kernel
theorem dX5_readOne_54 : decode cX5_readOne 54 = .ok (.iaload, 1) := by decide +kernel
theorem dX5_readOne_55 : decode cX5_readOne 55 = .ok (.bipush (-4), 2) := by decide +kernel
theorem dX5_readOne_57 : decode cX5_readOne 57 = .ok (.if_icmp .ne 13, 3) := by decide +kernel
theorem dX5_readOne_60 : decode cX5_readOne 60 = .ok (.aload_n 0, 1) := by decide +kernel
theorem dX5_readOne_61 : decode cX5_readOne 61 = .ok (.iconst 2, 1) := by decide +kernel
theorem dX5_readOne_62 : decode cX5_readOne 62 = .ok (.aload_n 0, 1) := by decide +kernel
theorem dX5_readOne_63 : decode cX5_readOne 63 = .ok (.getfield 63, 3) := by decide +kernel
theorem dX5_readOne_66 : decode cX5_readOne 66 = .ok (.invokevirtual 74, 3) := by decide +kernel
theorem dX5_readOne_69 : decode cX5_readOne 69 = .ok (.ireturn, 1) := by decide +kernel
theorem dX5_readOne_70 : decode cX5_readOne 70 = .ok (.aload_n 0, 1) := by decide +kernel
theorem dX5_readOne_71 : decode cX5_readOne 71 = .ok (.iconst 0, 1) := by decide +kernel
theorem dX5_readOne_72 : decode cX5_readOne 72 = .ok (.bipush 9, 2) := by decide +kernel
theorem dX5_readOne_74 : decode cX5_readOne 74 = .ok (.invokevirtual 127, 3) := by decide +kernel
theorem dX5_readOne_77 : decode cX5_readOne 77 = .ok (.ifCond .ne 5, 3) := by decide +kernel
theorem dX5_readOne_80 : decode cX5_readOne 80 = .ok (.iconst 0, 1) := by decide +kernel
theorem dX5_readOne_81 : decode cX5_readOne 81 = .ok (.ireturn, 1) := by decide +kernel
theorem dX5_readOne_82 : decode cX5_readOne 82 = .ok (.aload_n 0, 1) := by decide +kernel
theorem dX5_readOne_83 : decode cX5_readOne 83 = .ok (.getfield 12, 3) := by decide +kernel
theorem dX5_readOne_86 : decode cX5_readOne 86 = .ok (.getfield 149, 3) := by decide +kernel
theorem dX5_readOne_89 : decode cX5_readOne 89 = .ok (.iload_n 1, 1) := by decide +kernel
theorem dX5_readOne_90 : decode cX5_readOne 90 = .ok (.aload_n 0, 1) := by decide +kernel
theorem dX5_readOne_91 : decode cX5_readOne 91 = .ok (.getfield 87, 3) := by decide +kernel
theorem dX5_readOne_94 : decode cX5_readOne 94 = .ok (.iastore, 1) := by decide +kernel
theorem dX5_readOne_95 : decode cX5_readOne 95 = .ok (.aload_n 0, 1) := by decide +kernel
theorem dX5_readOne_96 : decode cX5_readOne 96 = .ok (.iconst 0, 1) := by decide +kernel
theorem dX5_readOne_97 : decode cX5_readOne 97 = .ok (.bipush 50, 2) := by decide +kernel
theorem dX5_readOne_99 : decode cX5_readOne 99 = .ok (.invokevirtual 127, 3) := by decide +kernel
theorem dX5_readOne_102 : decode cX5_readOne 102 = .ok (.ifCond .ne 5, 3) := by decide +kernel
theorem dX5_readOne_105 : decode cX5_readOne 105 = .ok (.iconst 0, 1) := by decide +kernel
theorem dX5_readOne_106 : decode cX5_readOne 106 = .ok (.ireturn, 1) := by decide +kernel
theorem dX5_readOne_107 : decode cX5_readOne 107 = .ok (.aload_n 0, 1) := by decide +kernel
theorem dX5_readOne_108 : decode cX5_readOne 108 = .ok (.getfield 12, 3) := by decide +kernel
theorem dX5_readOne_111 : decode cX5_readOne 111 = .ok (.getfield 152, 3) := by decide +kernel
theorem dX5_readOne_114 : decode cX5_readOne 114 = .ok (.iload_n 1, 1) := by decide +kernel
theorem dX5_readOne_115 : decode cX5_readOne 115 = .ok (.aload_n 0, 1) := by decide +kernel
theorem dX5_readOne_116 : decode cX5_readOne 116 = .ok (.getfield 87, 3) := by decide +kernel
theorem dX5_readOne_119 : decode cX5_readOne 119 = .ok (.iastore, 1) := by decide +kernel
theorem dX5_readOne_120 : decode cX5_readOne 120 = .ok (.aload_n 0, 1) := by decide +kernel
theorem dX5_readOne_121 : decode cX5_readOne 121 = .ok (.getfield 12, 3) := by decide +kernel
theorem dX5_readOne_124 : decode cX5_readOne 124 = .ok (.dup, 1) := by decide +kernel
theorem dX5_readOne_125 : decode cX5_readOne 125 = .ok (.getfield 139, 3) := by decide +kernel
theorem dX5_readOne_128 : decode cX5_readOne 128 = .ok (.iconst 1, 1) := by decide +kernel
theorem dX5_readOne_129 : decode cX5_readOne 129 = .ok (.iadd, 1) := by decide +kernel
theorem dX5_readOne_130 : decode cX5_readOne 130 = .ok (.putfield 139, 3) := by decide +kernel
theorem dX5_readOne_133 : decode cX5_readOne 133 = .ok (.aload_n 0, 1) := by decide +kernel
theorem dX5_readOne_134 : decode cX5_readOne 134 = .ok (.invokevirtual 133, 3) := by decide +kernel
theorem dX5_readOne_137 : decode cX5_readOne 137 = .ok (.ireturn, 1) := by decide +kernel
theorem dX5_kindNamed_0 : decode cX5_kindNamed 0 = .ok (.aload_n 0, 1) := by decide +kernel
theorem dX5_kindNamed_1 : decode cX5_kindNamed 1 = .ok (.ldc 155, 2) := by decide +kernel
theorem dX5_kindNamed_3 : decode cX5_kindNamed 3 = .ok (.invokevirtual 95, 3) := by decide +kernel
theorem dX5_kindNamed_6 : decode cX5_kindNamed 6 = .ok (.ifCond .eq 5, 3) := by decide +kernel
theorem dX5_kindNamed_9 : decode cX5_kindNamed 9 = .ok (.iconst 0, 1) := by decide +kernel
theorem dX5_kindNamed_10 : decode cX5_kindNamed 10 = .ok (.ireturn, 1) := by decide +kernel
theorem dX5_kindNamed_11 : decode cX5_kindNamed 11 = .ok (.aload_n 0, 1) := by decide +kernel
theorem dX5_kindNamed_12 : decode cX5_kindNamed 12 = .ok (.ldc 157, 2) := by decide +kernel
theorem dX5_kindNamed_14 : decode cX5_kindNamed 14 = .ok (.invokevirtual 95, 3) := by decide +kernel
theorem dX5_kindNamed_17 : decode cX5_kindNamed 17 = .ok (.ifCond .eq 5, 3) := by decide +kernel
theorem dX5_kindNamed_20 : decode cX5_kindNamed 20 = .ok (.iconst 1, 1) := by decide +kernel
theorem dX5_kindNamed_21 : decode cX5_kindNamed 21 = .ok (.ireturn, 1) := by decide +kernel
theorem dX5_kindNamed_22 : decode cX5_kindNamed 22 = .ok (.aload_n 0, 1) := by decide +kernel
theorem dX5_kindNamed_23 : decode cX5_kindNamed 23 = .ok (.ldc 159, 2) := by decide +kernel
theorem dX5_kindNamed_25 : decode cX5_kindNamed 25 = .ok (.invokevirtual 95, 3) := by decide +kernel
theorem dX5_kindNamed_28 : decode cX5_kindNamed 28 = .ok (.ifCond .eq 5, 3) := by decide +kernel
theorem dX5_kindNamed_31 : decode cX5_kindNamed 31 = .ok (.iconst 2, 1) := by decide +kernel
theorem dX5_kindNamed_32 : decode cX5_kindNamed 32 = .ok (.ireturn, 1) := by decide +kernel
theorem dX5_kindNamed_33 : decode cX5_kindNamed 33 = .ok (.aload_n 0, 1) := by decide +kernel
theorem dX5_kindNamed_34 : decode cX5_kindNamed 34 = .ok (.ldc 161, 2) := by decide +kernel
theorem dX5_kindNamed_36 : decode cX5_kindNamed 36 = .ok (.invokevirtual 95, 3) := by decide +kernel
theorem dX5_kindNamed_39 : decode cX5_kindNamed 39 = .ok (.ifCond .eq 5, 3) := by decide +kernel
theorem dX5_kindNamed_42 : decode cX5_kindNamed 42 = .ok (.iconst 3, 1) := by decide +kernel
theorem dX5_kindNamed_43 : decode cX5_kindNamed 43 = .ok (.ireturn, 1) := by decide +kernel
theorem dX5_kindNamed_44 : decode cX5_kindNamed 44 = .ok (.aload_n 0, 1) := by decide +kernel
theorem dX5_kindNamed_45 : decode cX5_kindNamed 45 = .ok (.ldc 163, 2) := by decide +kernel
theorem dX5_kindNamed_47 : decode cX5_kindNamed 47 = .ok (.invokevirtual 95, 3) := by decide +kernel
theorem dX5_kindNamed_50 : decode cX5_kindNamed 50 = .ok (.ifCond .eq 7, 3) := by decide +kernel
theorem dX5_kindNamed_53 : decode cX5_kindNamed 53 = .ok (.iconst 4, 1) := by decide +kernel
theorem dX5_kindNamed_54 : decode cX5_kindNamed 54 = .ok (.goto 5, 3) := by decide +kernel
theorem dX5_kindNamed_57 : decode cX5_kindNamed 57 = .ok (.bipush (-4), 2) := by decide +kernel
theorem dX5_kindNamed_59 : decode cX5_kindNamed 59 = .ok (.ireturn, 1) := by decide +kernel
theorem dX5_readCoin_0 : decode cX5_readCoin 0 = .ok (.aload_n 0, 1) := by decide +kernel
theorem dX5_readCoin_1 : decode cX5_readCoin 1 = .ok (.getfield 12, 3) := by decide +kernel
theorem dX5_readCoin_4 : decode cX5_readCoin 4 = .ok (.getfield 165, 3) := by decide +kernel
theorem dX5_readCoin_7 : decode cX5_readCoin 7 = .ok (.istore_n 1, 1) := by decide +kernel
theorem dX5_readCoin_8 : decode cX5_readCoin 8 = .ok (.iload_n 1, 1) := by decide +kernel
theorem dX5_readCoin_9 : decode cX5_readCoin 9 = .ok (.bipush 6, 2) := by decide +kernel
theorem dX5_readCoin_11 : decode cX5_readCoin 11 = .ok (.if_icmp .lt 13, 3) := by decide +kernel
theorem dX5_readCoin_14 : decode cX5_readCoin 14 = .ok (.aload_n 0, 1) := by decide +kernel
theorem dX5_readCoin_15 : decode cX5_readCoin 15 = .ok (.iconst 5, 1) := by decide +kernel
theorem dX5_readCoin_16 : decode cX5_readCoin 16 = .ok (.aload_n 0, 1) := by decide +kernel
theorem dX5_readCoin_17 : decode cX5_readCoin 17 = .ok (.getfield 63, 3) := by decide +kernel
theorem dX5_readCoin_20 : decode cX5_readCoin 20 = .ok (.invokevirtual 74, 3) := by decide +kernel
theorem dX5_readCoin_23 : decode cX5_readCoin 23 = .ok (.ireturn, 1) := by decide +kernel
theorem dX5_readCoin_24 : decode cX5_readCoin 24 = .ok (.aload_n 0, 1) := by decide +kernel
theorem dX5_readCoin_25 : decode cX5_readCoin 25 = .ok (.iconst 1, 1) := by decide +kernel
theorem dX5_readCoin_26 : decode cX5_readCoin 26 = .ok (.iconst 3, 1) := by decide +kernel
theorem dX5_readCoin_27 : decode cX5_readCoin 27 = .ok (.invokevirtual 127, 3) := by decide +kernel
theorem dX5_readCoin_30 : decode cX5_readCoin 30 = .ok (.ifCond .ne 5, 3) := by decide +kernel
theorem dX5_readCoin_33 : decode cX5_readCoin 33 = .ok (.iconst 0, 1) := by decide +kernel
theorem dX5_readCoin_34 : decode cX5_readCoin 34 = .ok (.ireturn, 1) := by decide +kernel
theorem dX5_readCoin_35 : decode cX5_readCoin 35 = .ok (.aload_n 0, 1) := by decide +kernel
theorem dX5_readCoin_36 : decode cX5_readCoin 36 = .ok (.getfield 12, 3) := by decide +kernel
theorem dX5_readCoin_39 : decode cX5_readCoin 39 = .ok (.getfield 168, 3) := by decide +kernel
theorem dX5_readCoin_42 : decode cX5_readCoin 42 = .ok (.iload_n 1, 1) := by decide +kernel
theorem dX5_readCoin_43 : decode cX5_readCoin 43 = .ok (.aload_n 0, 1) := by decide +kernel
theorem dX5_readCoin_44 : decode cX5_readCoin 44 = .ok (.getfield 87, 3) := by decide +kernel
