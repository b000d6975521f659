theorem dX7_comesBehind_8 : decode cX7_comesBehind 8 = .ok (.aload_n 0, 1) := by decide +kernel
theorem dX7_comesBehind_9 : decode cX7_comesBehind 9 = .ok (.getfield 61, 3) := by decide +kernel
theorem dX7_comesBehind_12 : decode cX7_comesBehind 12 = .ok (.iload_n 1, 1) := by decide +kernel
theorem dX7_comesBehind_13 : decode cX7_comesBehind 13 = .ok (.iaload, 1) := by decide +kernel
theorem dX7_comesBehind_14 : decode cX7_comesBehind 14 = .ok (.iadd, 1) := by decide +kernel
theorem dX7_comesBehind_15 : decode cX7_comesBehind 15 = .ok (.iload_n 2, 1) := by decide +kernel
theorem dX7_comesBehind_16 : decode cX7_comesBehind 16 = .ok (.iastore, 1) := by decide +kernel
theorem dX7_comesBehind_17 : decode cX7_comesBehind 17 = .ok (.aload_n 0, 1) := by decide +kernel
theorem dX7_comesBehind_18 : decode cX7_comesBehind 18 = .ok (.getfield 61, 3) := by decide +kernel
theorem dX7_comesBehind_21 : decode cX7_comesBehind 21 = .ok (.iload_n 1, 1) := by decide +kernel
theorem dX7_comesBehind_22 : decode cX7_comesBehind 22 = .ok (.dup2, 1) := by decide +kernel
theorem dX7_comesBehind_23 : decode cX7_comesBehind 23 = .ok (.iaload, 1) := by decide +kernel
theorem dX7_comesBehind_24 : decode cX7_comesBehind 24 = .ok (.iconst 1, 1) := by decide +kernel
theorem dX7_comesBehind_25 : decode cX7_comesBehind 25 = .ok (.iadd, 1) := by decide +kernel
theorem dX7_comesBehind_26 : decode cX7_comesBehind 26 = .ok (.iastore, 1) := by decide +kernel
theorem dX7_comesBehind_27 : decode cX7_comesBehind 27 = .ok (.return_, 1) := by decide +kernel
theorem dX7_isAhead_0 : decode cX7_isAhead 0 = .ok (.aload_n 0, 1) := by decide +kernel
theorem dX7_isAhead_1 : decode cX7_isAhead 1 = .ok (.getfield 16, 3) := by decide +kernel
theorem dX7_isAhead_4 : decode cX7_isAhead 4 = .ok (.iload_n 1, 1) := by decide +kernel
theorem dX7_isAhead_5 : decode cX7_isAhead 5 = .ok (.iaload, 1) := by decide +kernel
theorem dX7_isAhead_6 : decode cX7_isAhead 6 = .ok (.aload_n 0, 1) := by decide +kernel
theorem dX7_isAhead_7 : decode cX7_isAhead 7 = .ok (.getfield 16, 3) := by decide +kernel
theorem dX7_isAhead_10 : decode cX7_isAhead 10 = .ok (.iload_n 2, 1) := by decide +kernel
theorem dX7_isAhead_11 : decode cX7_isAhead 11 = .ok (.iaload, 1) := by decide +kernel
theorem dX7_isAhead_12 : decode cX7_isAhead 12 = .ok (.if_icmp .eq 26, 3) := by decide +kernel
theorem dX7_isAhead_15 : decode cX7_isAhead 15 = .ok (.aload_n 0, 1) := by decide +kernel
theorem dX7_isAhead_16 : decode cX7_isAhead 16 = .ok (.getfield 16, 3) := by decide +kernel
theorem dX7_isAhead_19 : decode cX7_isAhead 19 = .ok (.iload_n 1, 1) := by decide +kernel
theorem dX7_isAhead_20 : decode cX7_isAhead 20 = .ok (.iaload, 1) := by decide +kernel
theorem dX7_isAhead_21 : decode cX7_isAhead 21 = .ok (.aload_n 0, 1) := by decide +kernel
theorem dX7_isAhead_22 : decode cX7_isAhead 22 = .ok (.getfield 16, 3) := by decide +kernel
theorem dX7_isAhead_25 : decode cX7_isAhead 25 = .ok (.iload_n 2, 1) := by decide +kernel
theorem dX7_isAhead_26 : decode cX7_isAhead 26 = .ok (.iaload, 1) := by decide +kernel
theorem dX7_isAhead_27 : decode cX7_isAhead 27 = .ok (.if_icmp .ge 7, 3) := by decide +kernel
theorem dX7_isAhead_30 : decode cX7_isAhead 30 = .ok (.iconst 1, 1) := by decide +kernel
theorem dX7_isAhead_31 : decode cX7_isAhead 31 = .ok (.goto 27, 3) := by decide +kernel
theorem dX7_isAhead_34 : decode cX7_isAhead 34 = .ok (.iconst 0, 1) := by decide +kernel
theorem dX7_isAhead_35 : decode cX7_isAhead 35 = .ok (.goto 23, 3) := by decide +kernel
theorem dX7_isAhead_38 : decode cX7_isAhead 38 = .ok (.aload_n 0, 1) := by decide +kernel
theorem dX7_isAhead_39 : decode cX7_isAhead 39 = .ok (.getfield 22, 3) := by decide +kernel
theorem dX7_isAhead_42 : decode cX7_isAhead 42 = .ok (.iload_n 1, 1) := by decide +kernel
theorem dX7_isAhead_43 : decode cX7_isAhead 43 = .ok (.iaload, 1) := by decide +kernel
theorem dX7_isAhead_44 : decode cX7_isAhead 44 = .ok (.aload_n 0, 1) := by decide +kernel
theorem dX7_isAhead_45 : decode cX7_isAhead 45 = .ok (.getfield 22, 3) := by decide +kernel
theorem dX7_isAhead_48 : decode cX7_isAhead 48 = .ok (.iload_n 2, 1) := by decide +kernel
theorem dX7_isAhead_49 : decode cX7_isAhead 49 = .ok (.iaload, 1) := by decide +kernel
theorem dX7_isAhead_50 : decode cX7_isAhead 50 = .ok (.if_icmp .ge 7, 3) := by decide +kernel
theorem dX7_isAhead_53 : decode cX7_isAhead 53 = .ok (.iconst 1, 1) := by decide +kernel
theorem dX7_isAhead_54 : decode cX7_isAhead 54 = .ok (.goto 4, 3) := by decide +kernel
theorem dX7_isAhead_57 : decode cX7_isAhead 57 = .ok (.iconst 0, 1) := by decide +kernel
theorem dX7_isAhead_58 : decode cX7_isAhead 58 = .ok (.ireturn, 1) := by decide +kernel
theorem dX7_comesUnder_0 : decode cX7_comesUnder 0 = .ok (.aload_n 0, 1) := by decide +kernel
theorem dX7_comesUnder_1 : decode cX7_comesUnder 1 = .ok (.iload_n 1, 1) := by decide +kernel
theorem dX7_comesUnder_2 : decode cX7_comesUnder 2 = .ok (.iload_n 2, 1) := by decide +kernel
theorem dX7_comesUnder_3 : decode cX7_comesUnder 3 = .ok (.invokevirtual 129, 3) := by decide +kernel
theorem dX7_comesUnder_6 : decode cX7_comesUnder 6 = .ok (.aload_n 0, 1) := by decide +kernel
theorem dX7_comesUnder_7 : decode cX7_comesUnder 7 = .ok (.getfield 61, 3) := by decide +kernel
theorem dX7_comesUnder_10 : decode cX7_comesUnder 10 = .ok (.iload_n 1, 1) := by decide +kernel
theorem dX7_comesUnder_11 : decode cX7_comesUnder 11 = .ok (.iaload, 1) := by decide +kernel
theorem dX7_comesUnder_12 : decode cX7_comesUnder 12 = .ok (.iconst 1, 1) := by decide +kernel
theorem dX7_comesUnder_13 : decode cX7_comesUnder 13 = .ok (.isub, 1) := by decide +kernel
theorem dX7_comesUnder_14 : decode cX7_comesUnder 14 = .ok (.istore_n 3, 1) := by decide +kernel
theorem dX7_comesUnder_15 : decode cX7_comesUnder 15 = .ok (.iload_n 3, 1) := by decide +kernel
theorem dX7_comesUnder_16 : decode cX7_comesUnder 16 = .ok (.ifCond .le 68, 3) := by decide +kernel
theorem dX7_comesUnder_19 : decode cX7_comesUnder 19 = .ok (.aload_n 0, 1) := by decide +kernel
theorem dX7_comesUnder_20 : decode cX7_comesUnder 20 = .ok (.iload_n 2, 1) := by decide +kernel
theorem dX7_comesUnder_21 : decode cX7_comesUnder 21 = .ok (.aload_n 0, 1) := by decide +kernel
theorem dX7_comesUnder_22 : decode cX7_comesUnder 22 = .ok (.getfield 64, 3) := by decide +kernel
theorem dX7_comesUnder_25 : decode cX7_comesUnder 25 = .ok (.bipush 24, 2) := by decide +kernel
theorem dX7_comesUnder_27 : decode cX7_comesUnder 27 = .ok (.iload_n 1, 1) := by decide +kernel
theorem dX7_comesUnder_28 : decode cX7_comesUnder 28 = .ok (.imul, 1) := by decide +kernel
theorem dX7_comesUnder_29 : decode cX7_comesUnder 29 = .ok (.iload_n 3, 1) := by decide +kernel
theorem dX7_comesUnder_30 : decode cX7_comesUnder 30 = .ok (.iadd, 1) := by decide +kernel
theorem dX7_comesUnder_31 : decode cX7_comesUnder 31 = .ok (.iconst 1, 1) := by decide +kernel
theorem dX7_comesUnder_32 : decode cX7_comesUnder 32 = .ok (.isub, 1) := by decide +kernel
theorem dX7_comesUnder_33 : decode cX7_comesUnder 33 = .ok (.iaload, 1) := by decide +kernel
theorem dX7_comesUnder_34 : decode cX7_comesUnder 34 = .ok (.invokevirtual 133, 3) := by decide +kernel
theorem dX7_comesUnder_37 : decode cX7_comesUnder 37 = .ok (.ifCond .eq 47, 3) := by decide +kernel
theorem dX7_comesUnder_40 : decode cX7_comesUnder 40 = .ok (.aload_n 0, 1) := by decide +kernel
theorem dX7_comesUnder_41 : decode cX7_comesUnder 41 = .ok (.getfield 64, 3) := by decide +kernel
theorem dX7_comesUnder_44 : decode cX7_comesUnder 44 = .ok (.bipush 24, 2) := by decide +kernel
theorem dX7_comesUnder_46 : decode cX7_comesUnder 46 = .ok (.iload_n 1, 1) := by decide +kernel
theorem dX7_comesUnder_47 : decode cX7_comesUnder 47 = .ok (.imul, 1) := by decide +kernel
theorem dX7_comesUnder_48 : decode cX7_comesUnder 48 = .ok (.iload_n 3, 1) := by decide +kernel
theorem dX7_comesUnder_49 : decode cX7_comesUnder 49 = .ok (.iadd, 1) := by decide +kernel
theorem dX7_comesUnder_50 : decode cX7_comesUnder 50 = .ok (.aload_n 0, 1) := by decide +kernel
theorem dX7_comesUnder_51 : decode cX7_comesUnder 51 = .ok (.getfield 64, 3) := by decide +kernel
theorem dX7_comesUnder_54 : decode cX7_comesUnder 54 = .ok (.bipush 24, 2) := by decide +kernel
theorem dX7_comesUnder_56 : decode cX7_comesUnder 56 = .ok (.iload_n 1, 1) := by decide +kernel
theorem dX7_comesUnder_57 : decode cX7_comesUnder 57 = .ok (.imul, 1) := by decide +kernel
theorem dX7_comesUnder_58 : decode cX7_comesUnder 58 = .ok (.iload_n 3, 1) := by decide +kernel
theorem dX7_comesUnder_59 : decode cX7_comesUnder 59 = .ok (.iadd, 1) := by decide +kernel
theorem dX7_comesUnder_60 : decode cX7_comesUnder 60 = .ok (.iconst 1, 1) := by decide +kernel
theorem dX7_comesUnder_61 : decode cX7_comesUnder 61 = .ok (.isub, 1) := by decide +kernel
theorem dX7_comesUnder_62 : decode cX7_comesUnder 62 = .ok (.iaload, 1) := by decide +kernel
theorem dX7_comesUnder_63 : decode cX7_comesUnder 63 = .ok (.iastore, 1) := by decide +kernel
theorem dX7_comesUnder_64 : decode cX7_comesUnder 64 = .ok (.aload_n 0, 1) := by decide +kernel
theorem dX7_comesUnder_65 : decode cX7_comesUnder 65 = .ok (.getfield 64, 3) := by decide +kernel
theorem dX7_comesUnder_68 : decode cX7_comesUnder 68 = .ok (.bipush 24, 2) := by decide +kernel
theorem dX7_comesUnder_70 : decode cX7_comesUnder 70 = .ok (.iload_n 1, 1) := by decide +kernel
theorem dX7_comesUnder_71 : decode cX7_comesUnder 71 = .ok (.imul, 1) := by decide +kernel
theorem dX7_comesUnder_72 : decode cX7_comesUnder 72 = .ok (.iload_n 3, 1) := by decide +kernel
theorem dX7_comesUnder_73 : decode cX7_comesUnder 73 = .ok (.iadd, 1) := by decide +kernel
theorem dX7_comesUnder_74 : decode cX7_comesUnder 74 = .ok (.iconst 1, 1) := by decide +kernel
theorem dX7_comesUnder_75 : decode cX7_comesUnder 75 = .ok (.isub, 1) := by decide +kernel
theorem dX7_comesUnder_76 : decode cX7_comesUnder 76 = .ok (.iload_n 2, 1) := by decide +kernel
theorem dX7_comesUnder_77 : decode cX7_comesUnder 77 = .ok (.iastore, 1) := by decide +kernel
theorem dX7_comesUnder_78 : decode cX7_comesUnder 78 = .ok (.iinc 3 (-1), 3) := by decide +kernel
theorem dX7_comesUnder_81 : decode cX7_comesUnder 81 = .ok (.goto (-66), 3) := by decide +kernel
theorem dX7_comesUnder_84 : decode cX7_comesUnder 84 = .ok (.return_, 1) := by decide +kernel
theorem dX7_takes_0 : decode cX7_takes 0 = .ok (.aload_n 0, 1) := by decide +kernel
theorem dX7_takes_1 : decode cX7_takes 1 = .ok (.getfield 13, 3) := by decide +kernel
theorem dX7_takes_4 : decode cX7_takes 4 = .ok (.iload_n 1, 1) := by decide +kernel
theorem dX7_takes_5 : decode cX7_takes 5 = .ok (.iaload, 1) := by decide +kernel
theorem dX7_takes_6 : decode cX7_takes 6 = .ok (.iconst 1, 1) := by decide +kernel
theorem dX7_takes_7 : decode cX7_takes 7 = .ok (.if_icmp .ne 46, 3) := by decide +kernel
theorem dX7_takes_10 : decode cX7_takes 10 = .ok (.aload_n 0, 1) := by decide +kernel
theorem dX7_takes_11 : decode cX7_takes 11 = .ok (.getfield 55, 3) := by decide +kernel
theorem dX7_takes_14 : decode cX7_takes 14 = .ok (.iload_n 1, 1) := by decide +kernel
theorem dX7_takes_15 : decode cX7_takes 15 = .ok (.iaload, 1) := by decide +kernel
theorem dX7_takes_16 : decode cX7_takes 16 = .ok (.bipush (-9), 2) := by decide +kernel
theorem dX7_takes_18 : decode cX7_takes 18 = .ok (.if_icmp .eq 35, 3) := by decide +kernel
theorem dX7_takes_21 : decode cX7_takes 21 = .ok (.aload_n 0, 1) := by decide +kernel
theorem dX7_takes_22 : decode cX7_takes 22 = .ok (.getfield 7, 3) := by decide +kernel
theorem dX7_takes_25 : decode cX7_takes 25 = .ok (.iload_n 1, 1) := by decide +kernel
theorem dX7_takes_26 : decode cX7_takes 26 = .ok (.iaload, 1) := by decide +kernel
theorem dX7_takes_27 : decode cX7_takes 27 = .ok (.aload_n 0, 1) := by decide +kernel
theorem dX7_takes_28 : decode cX7_takes 28 = .ok (.getfield 7, 3) := by decide +kernel
theorem dX7_takes_31 : decode cX7_takes 31 = .ok (.iload_n 2, 1) := by decide +kernel
theorem dX7_takes_32 : decode cX7_takes 32 = .ok (.iaload, 1) := by decide +kernel
theorem dX7_takes_33 : decode cX7_takes 33 = .ok (.if_icmp .ne 20, 3) := by decide +kernel
theorem dX7_takes_36 : decode cX7_takes 36 = .ok (.aload_n 0, 1) := by decide +kernel
theorem dX7_takes_37 : decode cX7_takes 37 = .ok (.getfield 19, 3) := by decide +kernel
theorem dX7_takes_40 : decode cX7_takes 40 = .ok (.iload_n 1, 1) := by decide +kernel
theorem dX7_takes_41 : decode cX7_takes 41 = .ok (.iaload, 1) := by decide +kernel
theorem dX7_takes_42 : decode cX7_takes 42 = .ok (.aload_n 0, 1) := by decide +kernel
theorem dX7_takes_43 : decode cX7_takes 43 = .ok (.getfield 16, 3) := by decide +kernel
theorem dX7_takes_46 : decode cX7_takes 46 = .ok (.iload_n 2, 1) := by decide +kernel
theorem dX7_takes_47 : decode cX7_takes 47 = .ok (.iaload, 1) := by decide +kernel
theorem dX7_takes_48 : decode cX7_takes 48 = .ok (.iconst 1, 1) := by decide +kernel
theorem dX7_takes_49 : decode cX7_takes 49 = .ok (.isub, 1) := by decide +kernel
theorem dX7_takes_50 : decode cX7_takes 50 = .ok (.if_icmp .eq 5, 3) := by decide +kernel
theorem dX7_takes_53 : decode cX7_takes 53 = .ok (.iconst 0, 1) := by decide +kernel
theorem dX7_takes_54 : decode cX7_takes 54 = .ok (.ireturn, 1) := by decide +kernel
theorem dX7_takes_55 : decode cX7_takes 55 = .ok (.aload_n 0, 1) := by decide +kernel
theorem dX7_takes_56 : decode cX7_takes 56 = .ok (.getfield 22, 3) := by decide +kernel
theorem dX7_takes_59 : decode cX7_takes 59 = .ok (.iload_n 2, 1) := by decide +kernel
theorem dX7_takes_60 : decode cX7_takes 60 = .ok (.iaload, 1) := by decide +kernel
theorem dX7_takes_61 : decode cX7_takes 61 = .ok (.aload_n 0, 1) := by decide +kernel
theorem dX7_takes_62 : decode cX7_takes 62 = .ok (.getfield 22, 3) := by decide +kernel
theorem dX7_takes_65 : decode cX7_takes 65 = .ok (.iload_n 1, 1) := by decide +kernel
theorem dX7_takes_66 : decode cX7_takes 66 = .ok (.iaload, 1) := by decide +kernel
theorem dX7_takes_67 : decode cX7_takes 67 = .ok (.if_icmp .le 12, 3) := by decide +kernel
theorem dX7_takes_70 : decode cX7_takes 70 = .ok (.aload_n 0, 1) := by decide +kernel
theorem dX7_takes_71 : decode cX7_takes 71 = .ok (.getfield 22, 3) := by decide +kernel
theorem dX7_takes_74 : decode cX7_takes 74 = .ok (.iload_n 2, 1) := by decide +kernel
theorem dX7_takes_75 : decode cX7_takes 75 = .ok (.iaload, 1) := by decide +kernel
theorem dX7_takes_76 : decode cX7_takes 76 = .ok (.goto 9, 3) := by decide +kernel
theorem dX7_takes_79 : decode cX7_takes 79 = .ok (.aload_n 0, 1) := by decide +kernel
theorem dX7_takes_80 : decode cX7_takes 80 = .ok (.getfield 22, 3) := by decide +kernel
theorem dX7_takes_83 : decode cX7_takes 83 = .ok (.iload_n 1, 1) := by decide +kernel
theorem dX7_takes_84 : decode cX7_takes 84 = .ok (.iaload, 1) := by decide +kernel
theorem dX7_takes_85 : decode cX7_takes 85 = .ok (.istore_n 3, 1) := by decide +kernel
theorem dX7_takes_86 : decode cX7_takes 86 = .ok (.aload_n 0, 1) := by decide +kernel
theorem dX7_takes_87 : decode cX7_takes 87 = .ok (.getfield 25, 3) := by decide +kernel
theorem dX7_takes_90 : decode cX7_takes 90 = .ok (.iload_n 2, 1) := by decide +kernel
theorem dX7_takes_91 : decode cX7_takes 91 = .ok (.iaload, 1) := by decide +kernel
theorem dX7_takes_92 : decode cX7_takes 92 = .ok (.aload_n 0, 1) := by decide +kernel
theorem dX7_takes_93 : decode cX7_takes 93 = .ok (.getfield 25, 3) := by decide +kernel
theorem dX7_takes_96 : decode cX7_takes 96 = .ok (.iload_n 1, 1) := by decide +kernel
theorem dX7_takes_97 : decode cX7_takes 97 = .ok (.iaload, 1) := by decide +kernel
theorem dX7_takes_98 : decode cX7_takes 98 = .ok (.if_icmp .ge 12, 3) := by decide +kernel
theorem dX7_takes_101 : decode cX7_takes 101 = .ok (.aload_n 0, 1) := by decide +kernel
theorem dX7_takes_102 : decode cX7_takes 102 = .ok (.getfield 25, 3) := by decide +kernel
theorem dX7_takes_105 : decode cX7_takes 105 = .ok (.iload_n 2, 1) := by decide +kernel
theorem dX7_takes_106 : decode cX7_takes 106 = .ok (.iaload, 1) := by decide +kernel
theorem dX7_takes_107 : decode cX7_takes 107 = .ok (.goto 9, 3) := by decide +kernel
theorem dX7_takes_110 : decode cX7_takes 110 = .ok (.aload_n 0, 1) := by decide +kernel
theorem dX7_takes_111 : decode cX7_takes 111 = .ok (.getfield 25, 3) := by decide +kernel
theorem dX7_takes_114 : decode cX7_takes 114 = .ok (.iload_n 1, 1) := by decide +kernel
theorem dX7_takes_115 : decode cX7_takes 115 = .ok (.iaload, 1) := by decide +kernel
theorem dX7_takes_116 : decode cX7_takes 116 = .ok (.istore 4, 2) := by decide +kernel
theorem dX7_takes_118 : decode cX7_takes 118 = .ok (.iload_n 3, 1) := by decide +kernel
theorem dX7_takes_119 : decode cX7_takes 119 = .ok (.iload 4, 2) := by decide +kernel
theorem dX7_takes_121 : decode cX7_takes 121 = .ok (.if_icmp .gt 29, 3) := by decide +kernel
theorem dX7_takes_124 : decode cX7_takes 124 = .ok (.aload_n 0, 1) := by decide +kernel
theorem dX7_takes_125 : decode cX7_takes 125 = .ok (.aload_n 0, 1) := by decide +kernel
theorem dX7_takes_126 : decode cX7_takes 126 = .ok (.getfield 7, 3) := by decide +kernel
theorem dX7_takes_129 : decode cX7_takes 129 = .ok (.iload_n 2, 1) := by decide +kernel
theorem dX7_takes_130 : decode cX7_takes 130 = .ok (.iaload, 1) := by decide +kernel
theorem dX7_takes_131 : decode cX7_takes 131 = .ok (.aload_n 0, 1) := by decide +kernel
theorem dX7_takes_132 : decode cX7_takes 132 = .ok (.getfield 16, 3) := by decide +kernel
theorem dX7_takes_135 : decode cX7_takes 135 = .ok (.iload_n 2, 1) := by decide +kernel
theorem dX7_takes_136 : decode cX7_takes 136 = .ok (.iaload, 1) := by decide +kernel
theorem dX7_takes_137 : decode cX7_takes 137 = .ok (.iload_n 3, 1) := by decide +kernel
theorem dX7_takes_138 : decode cX7_takes 138 = .ok (.iload 4, 2) := by decide +kernel
theorem dX7_takes_140 : decode cX7_takes 140 = .ok (.invokevirtual 117, 3) := by decide +kernel
theorem dX7_takes_143 : decode cX7_takes 143 = .ok (.ifCond .ne 7, 3) := by decide +kernel
theorem dX7_takes_146 : decode cX7_takes 146 = .ok (.iconst 1, 1) := by decide +kernel
theorem dX7_takes_147 : decode cX7_takes 147 = .ok (.goto 4, 3) := by decide +kernel
theorem dX7_takes_150 : decode cX7_takes 150 = .ok (.iconst 0, 1) := by decide +kernel
theorem dX7_takes_151 : decode cX7_takes 151 = .ok (.ireturn, 1) := by decide +kernel
theorem dX7_takerNow_0 : decode cX7_takerNow 0 = .ok (.bipush (-9), 2) := by decide +kernel
theorem dX7_takerNow_2 : decode cX7_takerNow 2 = .ok (.istore_n 2, 1) := by decide +kernel
theorem dX7_takerNow_3 : decode cX7_takerNow 3 = .ok (.iconst 0, 1) := by decide +kernel
theorem dX7_takerNow_4 : decode cX7_takerNow 4 = .ok (.istore_n 3, 1) := by decide +kernel
theorem dX7_takerNow_5 : decode cX7_takerNow 5 = .ok (.iload_n 3, 1) := by decide +kernel
theorem dX7_takerNow_6 : decode cX7_takerNow 6 = .ok (.aload_n 0, 1) := by decide +kernel
theorem dX7_takerNow_7 : decode cX7_takerNow 7 = .ok (.getfield 98, 3) := by decide +kernel
theorem dX7_takerNow_10 : decode cX7_takerNow 10 = .ok (.if_icmp .ge 45, 3) := by decide +kernel
theorem dX7_takerNow_13 : decode cX7_takerNow 13 = .ok (.aload_n 0, 1) := by decide +kernel
theorem dX7_takerNow_14 : decode cX7_takerNow 14 = .ok (.iload_n 3, 1) := by decide +kernel
theorem dX7_takerNow_15 : decode cX7_takerNow 15 = .ok (.iload_n 1, 1) := by decide +kernel
theorem dX7_takerNow_16 : decode cX7_takerNow 16 = .ok (.invokevirtual 136, 3) := by decide +kernel
theorem dX7_takerNow_19 : decode cX7_takerNow 19 = .ok (.ifCond .eq 28, 3) := by decide +kernel
theorem dX7_takerNow_22 : decode cX7_takerNow 22 = .ok (.iload_n 2, 1) := by decide +kernel
theorem dX7_takerNow_23 : decode cX7_takerNow 23 = .ok (.bipush (-9), 2) := by decide +kernel
theorem dX7_takerNow_25 : decode cX7_takerNow 25 = .ok (.if_icmp .eq 18, 3) := by decide +kernel
theorem dX7_takerNow_28 : decode cX7_takerNow 28 = .ok (.aload_n 0, 1) := by decide +kernel
theorem dX7_takerNow_29 : decode cX7_takerNow 29 = .ok (.getfield 22, 3) := by decide +kernel
theorem dX7_takerNow_32 : decode cX7_takerNow 32 = .ok (.iload_n 3, 1) := by decide +kernel
theorem dX7_takerNow_33 : decode cX7_takerNow 33 = .ok (.iaload, 1) := by decide +kernel
theorem dX7_takerNow_34 : decode cX7_takerNow 34 = .ok (.aload_n 0, 1) := by decide +kernel
theorem dX7_takerNow_35 : decode cX7_takerNow 35 = .ok (.getfield 22, 3) := by decide +kernel
theorem dX7_takerNow_38 : decode cX7_takerNow 38 = .ok (.iload_n 2, 1) := by decide +kernel
theorem dX7_takerNow_39 : decode cX7_takerNow 39 = .ok (.iaload, 1) := by decide +kernel
theorem dX7_takerNow_40 : decode cX7_takerNow 40 = .ok (.if_icmp .ge 7, 3) := by decide +kernel
theorem dX7_takerNow_43 : decode cX7_takerNow 43 = .ok (.iload_n 3, 1) := by decide +kernel
theorem dX7_takerNow_44 : decode cX7_takerNow 44 = .ok (.goto 4, 3) := by decide +kernel
theorem dX7_takerNow_47 : decode cX7_takerNow 47 = .ok (.iload_n 2, 1) := by decide +kernel
theorem dX7_takerNow_48 : decode cX7_takerNow 48 = .ok (.istore_n 2, 1) := by decide +kernel
theorem dX7_takerNow_49 : decode cX7_takerNow 49 = .ok (.iinc 3 1, 3) := by decide +kernel
theorem dX7_takerNow_52 : decode cX7_takerNow 52 = .ok (.goto (-47), 3) := by decide +kernel
theorem dX7_takerNow_55 : decode cX7_takerNow 55 = .ok (.iload_n 2, 1) := by decide +kernel
theorem dX7_takerNow_56 : decode cX7_takerNow 56 = .ok (.ireturn, 1) := by decide +kernel
theorem dX7_joins_0 : decode cX7_joins 0 = .ok (.iconst 0, 1) := by decide +kernel
theorem dX7_joins_1 : decode cX7_joins 1 = .ok (.istore_n 1, 1) := by decide +kernel
theorem dX7_joins_2 : decode cX7_joins 2 = .ok (.iload_n 1, 1) := by decide +kernel
theorem dX7_joins_3 : decode cX7_joins 3 = .ok (.aload_n 0, 1) := by decide +kernel
theorem dX7_joins_4 : decode cX7_joins 4 = .ok (.getfield 98, 3) := by decide +kernel
theorem dX7_joins_7 : decode cX7_joins 7 = .ok (.if_icmp .ge 74, 3) := by decide +kernel
theorem dX7_joins_10 : decode cX7_joins 10 = .ok (.aload_n 0, 1) := by decide +kernel
theorem dX7_joins_11 : decode cX7_joins 11 = .ok (.getfield 13, 3) := by decide +kernel
theorem dX7_joins_14 : decode cX7_joins 14 = .ok (.iload_n 1, 1) := by decide +kernel
theorem dX7_joins_15 : decode cX7_joins 15 = .ok (.iaload, 1) := by decide +kernel
theorem dX7_joins_16 : decode cX7_joins 16 = .ok (.iconst 1, 1) := by decide +kernel
theorem dX7_joins_17 : decode cX7_joins 17 = .ok (.if_icmp .ne 58, 3) := by decide +kernel
theorem dX7_joins_20 : decode cX7_joins 20 = .ok (.aload_n 0, 1) := by decide +kernel
theorem dX7_joins_21 : decode cX7_joins 21 = .ok (.getfield 55, 3) := by decide +kernel
theorem dX7_joins_24 : decode cX7_joins 24 = .ok (.iload_n 1, 1) := by decide +kernel
theorem dX7_joins_25 : decode cX7_joins 25 = .ok (.iaload, 1) := by decide +kernel
theorem dX7_joins_26 : decode cX7_joins 26 = .ok (.bipush (-9), 2) := by decide +kernel
theorem dX7_joins_28 : decode cX7_joins 28 = .ok (.if_icmp .ne 47, 3) := by decide +kernel
theorem dX7_joins_31 : decode cX7_joins 31 = .ok (.aload_n 0, 1) := by decide +kernel
theorem dX7_joins_32 : decode cX7_joins 32 = .ok (.iload_n 1, 1) := by decide +kernel
theorem dX7_joins_33 : decode cX7_joins 33 = .ok (.invokevirtual 139, 3) := by decide +kernel
theorem dX7_joins_36 : decode cX7_joins 36 = .ok (.istore_n 2, 1) := by decide +kernel
theorem dX7_joins_37 : decode cX7_joins 37 = .ok (.iload_n 2, 1) := by decide +kernel
theorem dX7_joins_38 : decode cX7_joins 38 = .ok (.bipush (-9), 2) := by decide +kernel
theorem dX7_joins_40 : decode cX7_joins 40 = .ok (.if_icmp .eq 35, 3) := by decide +kernel
theorem dX7_joins_43 : decode cX7_joins 43 = .ok (.aload_n 0, 1) := by decide +kernel
theorem dX7_joins_44 : decode cX7_joins 44 = .ok (.getfield 58, 3) := by decide +kernel
theorem dX7_joins_47 : decode cX7_joins 47 = .ok (.iload_n 1, 1) := by decide +kernel
theorem dX7_joins_48 : decode cX7_joins 48 = .ok (.iload_n 2, 1) := by decide +kernel
theorem dX7_joins_49 : decode cX7_joins 49 = .ok (.iastore, 1) := by decide +kernel
theorem dX7_joins_50 : decode cX7_joins 50 = .ok (.aload_n 0, 1) := by decide +kernel
theorem dX7_joins_51 : decode cX7_joins 51 = .ok (.getfield 55, 3) := by decide +kernel
theorem dX7_joins_54 : decode cX7_joins 54 = .ok (.iload_n 1, 1) := by decide +kernel
theorem dX7_joins_55 : decode cX7_joins 55 = .ok (.aload_n 0, 1) := by decide +kernel
theorem dX7_joins_56 : decode cX7_joins 56 = .ok (.getfield 55, 3) := by decide +kernel
theorem dX7_joins_59 : decode cX7_joins 59 = .ok (.iload_n 2, 1) := by decide +kernel
theorem dX7_joins_60 : decode cX7_joins 60 = .ok (.iaload, 1) := by decide +kernel
theorem dX7_joins_61 : decode cX7_joins 61 = .ok (.iastore, 1) := by decide +kernel
theorem dX7_joins_62 : decode cX7_joins 62 = .ok (.aload_n 0, 1) := by decide +kernel
theorem dX7_joins_63 : decode cX7_joins 63 = .ok (.aload_n 0, 1) := by decide +kernel
theorem dX7_joins_64 : decode cX7_joins 64 = .ok (.getfield 55, 3) := by decide +kernel
theorem dX7_joins_67 : decode cX7_joins 67 = .ok (.iload_n 2, 1) := by decide +kernel
theorem dX7_joins_68 : decode cX7_joins 68 = .ok (.iaload, 1) := by decide +kernel
theorem dX7_joins_69 : decode cX7_joins 69 = .ok (.iload_n 1, 1) := by decide +kernel
theorem dX7_joins_70 : decode cX7_joins 70 = .ok (.invokevirtual 129, 3) := by decide +kernel
theorem dX7_joins_73 : decode cX7_joins 73 = .ok (.iconst 1, 1) := by decide +kernel
theorem dX7_joins_74 : decode cX7_joins 74 = .ok (.ireturn, 1) := by decide +kernel
theorem dX7_joins_75 : decode cX7_joins 75 = .ok (.iinc 1 1, 3) := by decide +kernel
theorem dX7_joins_78 : decode cX7_joins 78 = .ok (.goto (-76), 3) := by decide +kernel
theorem dX7_joins_81 : decode cX7_joins 81 = .ok (.iconst 0, 1) := by decide +kernel
theorem dX7_joins_82 : decode cX7_joins 82 = .ok (.ireturn, 1) := by decide +kernel
theorem dX7_findStories_0 : decode cX7_findStories 0 = .ok (.iconst 0, 1) := by decide +kernel
theorem dX7_findStories_1 : decode cX7_findStories 1 = .ok (.istore_n 1, 1) := by decide +kernel
theorem dX7_findStories_2 : decode cX7_findStories 2 = .ok (.iload_n 1, 1) := by decide +kernel
theorem dX7_findStories_3 : decode cX7_findStories 3 = .ok (.aload_n 0, 1) := by decide +kernel
theorem dX7_findStories_4 : decode cX7_findStories 4 = .ok (.getfield 98, 3) := by decide +kernel
theorem dX7_findStories_7 : decode cX7_findStories 7 = .ok (.if_icmp .ge 62, 3) := by decide +kernel
theorem dX7_findStories_10 : decode cX7_findStories 10 = .ok (.aload_n 0, 1) := by decide +kernel
theorem dX7_findStories_11 : decode cX7_findStories 11 = .ok (.getfield 61, 3) := by decide +kernel
theorem dX7_findStories_14 : decode cX7_findStories 14 = .ok (.iload_n 1, 1) := by decide +kernel
theorem dX7_findStories_15 : decode cX7_findStories 15 = .ok (.iconst 0, 1) := by decide +kernel
theorem dX7_findStories_16 : decode cX7_findStories 16 = .ok (.iastore, 1) := by decide +kernel
theorem dX7_findStories_17 : decode cX7_findStories 17 = .ok (.aload_n 0, 1) := by decide +kernel
theorem dX7_findStories_18 : decode cX7_findStories 18 = .ok (.getfield 58, 3) := by decide +kernel
theorem dX7_findStories_21 : decode cX7_findStories 21 = .ok (.iload_n 1, 1) := by decide +kernel
theorem dX7_findStories_22 : decode cX7_findStories 22 = .ok (.bipush (-9), 2) := by decide +kernel
theorem dX7_findStories_24 : decode cX7_findStories 24 = .ok (.iastore, 1) := by decide +kernel
theorem dX7_findStories_25 : decode cX7_findStories 25 = .ok (.aload_n 0, 1) := by decide +kernel
theorem dX7_findStories_26 : decode cX7_findStories 26 = .ok (.getfield 52, 3) := by decide +kernel
theorem dX7_findStories_29 : decode cX7_findStories 29 = .ok (.iload_n 1, 1) := by decide +kernel
theorem dX7_findStories_30 : decode cX7_findStories 30 = .ok (.aload_n 0, 1) := by decide +kernel
theorem dX7_findStories_31 : decode cX7_findStories 31 = .ok (.iload_n 1, 1) := by decide +kernel
theorem dX7_findStories_32 : decode cX7_findStories 32 = .ok (.invokevirtual 143, 3) := by decide +kernel
theorem dX7_findStories_35 : decode cX7_findStories 35 = .ok (.iastore, 1) := by decide +kernel
theorem dX7_findStories_36 : decode cX7_findStories 36 = .ok (.aload_n 0, 1) := by decide +kernel
theorem dX7_findStories_37 : decode cX7_findStories 37 = .ok (.getfield 55, 3) := by decide +kernel
theorem dX7_findStories_40 : decode cX7_findStories 40 = .ok (.iload_n 1, 1) := by decide +kernel
theorem dX7_findStories_41 : decode cX7_findStories 41 = .ok (.aload_n 0, 1) := by decide +kernel
theorem dX7_findStories_42 : decode cX7_findStories 42 = .ok (.getfield 13, 3) := by decide +kernel
theorem dX7_findStories_45 : decode cX7_findStories 45 = .ok (.iload_n 1, 1) := by decide +kernel
theorem dX7_findStories_46 : decode cX7_findStories 46 = .ok (.iaload, 1) := by decide +kernel
theorem dX7_findStories_47 : decode cX7_findStories 47 = .ok (.iconst 1, 1) := by decide +kernel
theorem dX7_findStories_48 : decode cX7_findStories 48 = .ok (.if_icmp .ne 12, 3) := by decide +kernel
theorem dX7_findStories_51 : decode cX7_findStories 51 = .ok (.aload_n 0, 1) := by decide +kernel
theorem dX7_findStories_52 : decode cX7_findStories 52 = .ok (.getfield 52, 3) := by decide +kernel
theorem dX7_findStories_55 : decode cX7_findStories 55 = .ok (.iload_n 1, 1) := by decide +kernel
theorem dX7_findStories_56 : decode cX7_findStories 56 = .ok (.iaload, 1) := by decide +kernel
theorem dX7_findStories_57 : decode cX7_findStories 57 = .ok (.goto 5, 3) := by decide +kernel
theorem dX7_findStories_60 : decode cX7_findStories 60 = .ok (.bipush (-9), 2) := by decide +kernel
theorem dX7_findStories_62 : decode cX7_findStories 62 = .ok (.iastore, 1) := by decide +kernel
theorem dX7_findStories_63 : decode cX7_findStories 63 = .ok (.iinc 1 1, 3) := by decide +kernel
theorem dX7_findStories_66 : decode cX7_findStories 66 = .ok (.goto (-64), 3) := by decide +kernel
theorem dX7_findStories_69 : decode cX7_findStories 69 = .ok (.iconst 0, 1) := by decide +kernel
theorem dX7_findStories_70 : decode cX7_findStories 70 = .ok (.istore_n 1, 1) := by decide +kernel
theorem dX7_findStories_71 : decode cX7_findStories 71 = .ok (.iload_n 1, 1) := by decide +kernel
theorem dX7_findStories_72 : decode cX7_findStories 72 = .ok (.aload_n 0, 1) := by decide +kernel
theorem dX7_findStories_73 : decode cX7_findStories 73 = .ok (.getfield 98, 3) := by decide +kernel
theorem dX7_findStories_76 : decode cX7_findStories 76 = .ok (.if_icmp .ge 31, 3) := by decide +kernel
theorem dX7_findStories_79 : decode cX7_findStories 79 = .ok (.aload_n 0, 1) := by decide +kernel
theorem dX7_findStories_80 : decode cX7_findStories 80 = .ok (.getfield 55, 3) := by decide +kernel
theorem dX7_findStories_83 : decode cX7_findStories 83 = .ok (.iload_n 1, 1) := by decide +kernel
theorem dX7_findStories_84 : decode cX7_findStories 84 = .ok (.iaload, 1) := by decide +kernel
theorem dX7_findStories_85 : decode cX7_findStories 85 = .ok (.bipush (-9), 2) := by decide +kernel
theorem dX7_findStories_87 : decode cX7_findStories 87 = .ok (.if_icmp .eq 14, 3) := by decide +kernel
theorem dX7_findStories_90 : decode cX7_findStories 90 = .ok (.aload_n 0, 1) := by decide +kernel
theorem dX7_findStories_91 : decode cX7_findStories 91 = .ok (.aload_n 0, 1) := by decide +kernel
theorem dX7_findStories_92 : decode cX7_findStories 92 = .ok (.getfield 55, 3) := by decide +kernel
theorem dX7_findStories_95 : decode cX7_findStories 95 = .ok (.iload_n 1, 1) := by decide +kernel
theorem dX7_findStories_96 : decode cX7_findStories 96 = .ok (.iaload, 1) := by decide +kernel
theorem dX7_findStories_97 : decode cX7_findStories 97 = .ok (.iload_n 1, 1) := by decide +kernel
theorem dX7_findStories_98 : decode cX7_findStories 98 = .ok (.invokevirtual 146, 3) := by decide +kernel
theorem dX7_findStories_101 : decode cX7_findStories 101 = .ok (.iinc 1 1, 3) := by decide +kernel
theorem dX7_findStories_104 : decode cX7_findStories 104 = .ok (.goto (-33), 3) := by decide +kernel
theorem dX7_findStories_107 : decode cX7_findStories 107 = .ok (.iconst 1, 1) := by decide +kernel
theorem dX7_findStories_108 : decode cX7_findStories 108 = .ok (.istore_n 1, 1) := by decide +kernel
theorem dX7_findStories_109 : decode cX7_findStories 109 = .ok (.iload_n 1, 1) := by decide +kernel
theorem dX7_findStories_110 : decode cX7_findStories 110 = .ok (.ifCond .eq 11, 3) := by decide +kernel
theorem dX7_findStories_113 : decode cX7_findStories 113 = .ok (.aload_n 0, 1) := by decide +kernel
theorem dX7_findStories_114 : decode cX7_findStories 114 = .ok (.invokevirtual 149, 3) := by decide +kernel
theorem dX7_findStories_117 : decode cX7_findStories 117 = .ok (.istore_n 1, 1) := by decide +kernel
theorem dX7_findStories_118 : decode cX7_findStories 118 = .ok (.goto (-9), 3) := by decide +kernel
theorem dX7_findStories_121 : decode cX7_findStories 121 = .ok (.aload_n 0, 1) := by decide +kernel
theorem dX7_findStories_122 : decode cX7_findStories 122 = .ok (.iconst 0, 1) := by decide +kernel
theorem dX7_findStories_123 : decode cX7_findStories 123 = .ok (.putfield 153, 3) := by decide +kernel
theorem dX7_findStories_126 : decode cX7_findStories 126 = .ok (.iconst 0, 1) := by decide +kernel
theorem dX7_findStories_127 : decode cX7_findStories 127 = .ok (.istore_n 2, 1) := by decide +kernel
theorem dX7_findStories_128 : decode cX7_findStories 128 = .ok (.iload_n 2, 1) := by decide +kernel
theorem dX7_findStories_129 : decode cX7_findStories 129 = .ok (.aload_n 0, 1) := by decide +kernel
theorem dX7_findStories_130 : decode cX7_findStories 130 = .ok (.getfield 98, 3) := by decide +kernel
theorem dX7_findStories_133 : decode cX7_findStories 133 = .ok (.if_icmp .ge 89, 3) := by decide +kernel
theorem dX7_findStories_136 : decode cX7_findStories 136 = .ok (.aload_n 0, 1) := by decide +kernel
theorem dX7_findStories_137 : decode cX7_findStories 137 = .ok (.getfield 13, 3) := by decide +kernel
theorem dX7_findStories_140 : decode cX7_findStories 140 = .ok (.iload_n 2, 1) := by decide +kernel
theorem dX7_findStories_141 : decode cX7_findStories 141 = .ok (.iaload, 1) := by decide +kernel
theorem dX7_findStories_142 : decode cX7_findStories 142 = .ok (.iconst 1, 1) := by decide +kernel
theorem dX7_findStories_143 : decode cX7_findStories 143 = .ok (.if_icmp .ne 18, 3) := by decide +kernel
theorem dX7_findStories_146 : decode cX7_findStories 146 = .ok (.aload_n 0, 1) := by decide +kernel
theorem dX7_findStories_147 : decode cX7_findStories 147 = .ok (.getfield 55, 3) := by decide +kernel
theorem dX7_findStories_150 : decode cX7_findStories 150 = .ok (.iload_n 2, 1) := by decide +kernel
theorem dX7_findStories_151 : decode cX7_findStories 151 = .ok (.iaload, 1) := by decide +kernel
theorem dX7_findStories_152 : decode cX7_findStories 152 = .ok (.bipush (-9), 2) := by decide +kernel
theorem dX7_findStories_154 : decode cX7_findStories 154 = .ok (.if_icmp .ne 7, 3) := by decide +kernel
theorem dX7_findStories_157 : decode cX7_findStories 157 = .ok (.iconst 1, 1) := by decide +kernel
theorem dX7_findStories_158 : decode cX7_findStories 158 = .ok (.goto 4, 3) := by decide +kernel
theorem dX7_findStories_161 : decode cX7_findStories 161 = .ok (.iconst 0, 1) := by decide +kernel
theorem dX7_findStories_162 : decode cX7_findStories 162 = .ok (.istore_n 3, 1) := by decide +kernel
theorem dX7_findStories_163 : decode cX7_findStories 163 = .ok (.iload_n 3, 1) := by decide +kernel
theorem dX7_findStories_164 : decode cX7_findStories 164 = .ok (.ifCond .eq 9, 3) := by decide +kernel
theorem dX7_findStories_167 : decode cX7_findStories 167 = .ok (.aload_n 0, 1) := by decide +kernel
theorem dX7_findStories_168 : decode cX7_findStories 168 = .ok (.iload_n 2, 1) := by decide +kernel
theorem dX7_findStories_169 : decode cX7_findStories 169 = .ok (.iload_n 2, 1) := by decide +kernel
theorem dX7_findStories_170 : decode cX7_findStories 170 = .ok (.invokevirtual 129, 3) := by decide +kernel
theorem dX7_findStories_173 : decode cX7_findStories 173 = .ok (.iload_n 3, 1) := by decide +kernel
theorem dX7_findStories_174 : decode cX7_findStories 174 = .ok (.ifCond .ne 12, 3) := by decide +kernel
theorem dX7_findStories_177 : decode cX7_findStories 177 = .ok (.aload_n 0, 1) := by decide +kernel
theorem dX7_findStories_178 : decode cX7_findStories 178 = .ok (.getfield 13, 3) := by decide +kernel
theorem dX7_findStories_181 : decode cX7_findStories 181 = .ok (.iload_n 2, 1) := by decide +kernel
theorem dX7_findStories_182 : decode cX7_findStories 182 = .ok (.iaload, 1) := by decide +kernel
theorem dX7_findStories_183 : decode cX7_findStories 183 = .ok (.ifCond .ne 33, 3) := by decide +kernel
theorem dX7_findStories_186 : decode cX7_findStories 186 = .ok (.aload_n 0, 1) := by decide +kernel
theorem dX7_findStories_187 : decode cX7_findStories 187 = .ok (.getfield 67, 3) := by decide +kernel
theorem dX7_findStories_190 : decode cX7_findStories 190 = .ok (.aload_n 0, 1) := by decide +kernel
theorem dX7_findStories_191 : decode cX7_findStories 191 = .ok (.getfield 153, 3) := by decide +kernel
theorem dX7_findStories_194 : decode cX7_findStories 194 = .ok (.iload_n 2, 1) := by decide +kernel
theorem dX7_findStories_195 : decode cX7_findStories 195 = .ok (.iastore, 1) := by decide +kernel
theorem dX7_findStories_196 : decode cX7_findStories 196 = .ok (.aload_n 0, 1) := by decide +kernel
theorem dX7_findStories_197 : decode cX7_findStories 197 = .ok (.getfield 70, 3) := by decide +kernel
theorem dX7_findStories_200 : decode cX7_findStories 200 = .ok (.iload_n 2, 1) := by decide +kernel
theorem dX7_findStories_201 : decode cX7_findStories 201 = .ok (.aload_n 0, 1) := by decide +kernel
theorem dX7_findStories_202 : decode cX7_findStories 202 = .ok (.getfield 153, 3) := by decide +kernel
theorem dX7_findStories_205 : decode cX7_findStories 205 = .ok (.iastore, 1) := by decide +kernel
theorem dX7_findStories_206 : decode cX7_findStories 206 = .ok (.aload_n 0, 1) := by decide +kernel
theorem dX7_findStories_207 : decode cX7_findStories 207 = .ok (.dup, 1) := by decide +kernel
theorem dX7_findStories_208 : decode cX7_findStories 208 = .ok (.getfield 153, 3) := by decide +kernel
theorem dX7_findStories_211 : decode cX7_findStories 211 = .ok (.iconst 1, 1) := by decide +kernel
theorem dX7_findStories_212 : decode cX7_findStories 212 = .ok (.iadd, 1) := by decide +kernel
theorem dX7_findStories_213 : decode cX7_findStories 213 = .ok (.putfield 153, 3) := by decide +kernel
theorem dX7_findStories_216 : decode cX7_findStories 216 = .ok (.iinc 2 1, 3) := by decide +kernel
theorem dX7_findStories_219 : decode cX7_findStories 219 = .ok (.goto (-91), 3) := by decide +kernel
theorem dX7_findStories_222 : decode cX7_findStories 222 = .ok (.iconst 0, 1) := by decide +kernel
theorem dX7_findStories_223 : decode cX7_findStories 223 = .ok (.istore_n 2, 1) := by decide +kernel
theorem dX7_findStories_224 : decode cX7_findStories 224 = .ok (.iload_n 2, 1) := by decide +kernel
theorem dX7_findStories_225 : decode cX7_findStories 225 = .ok (.aload_n 0, 1) := by decide +kernel
theorem dX7_findStories_226 : decode cX7_findStories 226 = .ok (.getfield 98, 3) := by decide +kernel
theorem dX7_findStories_229 : decode cX7_findStories 229 = .ok (.if_icmp .ge 92, 3) := by decide +kernel
theorem dX7_findStories_232 : decode cX7_findStories 232 = .ok (.aload_n 0, 1) := by decide +kernel
theorem dX7_findStories_233 : decode cX7_findStories 233 = .ok (.getfield 13, 3) := by decide +kernel
theorem dX7_findStories_236 : decode cX7_findStories 236 = .ok (.iload_n 2, 1) := by decide +kernel
theorem dX7_findStories_237 : decode cX7_findStories 237 = .ok (.iaload, 1) := by decide +kernel
theorem dX7_findStories_238 : decode cX7_findStories 238 = .ok (.iconst 1, 1) := by decide +kernel
theorem dX7_findStories_239 : decode cX7_findStories 239 = .ok (.if_icmp .ne 12, 3) := by decide +kernel
theorem dX7_findStories_242 : decode cX7_findStories 242 = .ok (.aload_n 0, 1) := by decide +kernel
theorem dX7_findStories_243 : decode cX7_findStories 243 = .ok (.getfield 55, 3) := by decide +kernel
theorem dX7_findStories_246 : decode cX7_findStories 246 = .ok (.iload_n 2, 1) := by decide +kernel
theorem dX7_findStories_247 : decode cX7_findStories 247 = .ok (.iaload, 1) := by decide +kernel
theorem dX7_findStories_248 : decode cX7_findStories 248 = .ok (.goto 24, 3) := by decide +kernel
theorem dX7_findStories_251 : decode cX7_findStories 251 = .ok (.aload_n 0, 1) := by decide +kernel
theorem dX7_findStories_252 : decode cX7_findStories 252 = .ok (.getfield 13, 3) := by decide +kernel
theorem dX7_findStories_255 : decode cX7_findStories 255 = .ok (.iload_n 2, 1) := by decide +kernel
theorem dX7_findStories_256 : decode cX7_findStories 256 = .ok (.iaload, 1) := by decide +kernel
theorem dX7_findStories_257 : decode cX7_findStories 257 = .ok (.iconst 2, 1) := by decide +kernel
theorem dX7_findStories_258 : decode cX7_findStories 258 = .ok (.if_icmp .ne 12, 3) := by decide +kernel
theorem dX7_findStories_261 : decode cX7_findStories 261 = .ok (.aload_n 0, 1) := by decide +kernel
theorem dX7_findStories_262 : decode cX7_findStories 262 = .ok (.getfield 52, 3) := by decide +kernel
theorem dX7_findStories_265 : decode cX7_findStories 265 = .ok (.iload_n 2, 1) := by decide +kernel
theorem dX7_findStories_266 : decode cX7_findStories 266 = .ok (.iaload, 1) := by decide +kernel
theorem dX7_findStories_267 : decode cX7_findStories 267 = .ok (.goto 5, 3) := by decide +kernel
theorem dX7_findStories_270 : decode cX7_findStories 270 = .ok (.bipush (-9), 2) := by decide +kernel
theorem dX7_findStories_272 : decode cX7_findStories 272 = .ok (.istore_n 3, 1) := by decide +kernel
theorem dX7_findStories_273 : decode cX7_findStories 273 = .ok (.aload_n 0, 1) := by decide +kernel
theorem dX7_findStories_274 : decode cX7_findStories 274 = .ok (.getfield 70, 3) := by decide +kernel
theorem dX7_findStories_277 : decode cX7_findStories 277 = .ok (.iload_n 2, 1) := by decide +kernel
theorem dX7_findStories_278 : decode cX7_findStories 278 = .ok (.iload_n 3, 1) := by decide +kernel
theorem dX7_findStories_279 : decode cX7_findStories 279 = .ok (.bipush (-9), 2) := by decide +kernel
theorem dX7_findStories_281 : decode cX7_findStories 281 = .ok (.if_icmp .eq 12, 3) := by decide +kernel
theorem dX7_findStories_284 : decode cX7_findStories 284 = .ok (.aload_n 0, 1) := by decide +kernel
theorem dX7_findStories_285 : decode cX7_findStories 285 = .ok (.getfield 70, 3) := by decide +kernel
theorem dX7_findStories_288 : decode cX7_findStories 288 = .ok (.iload_n 3, 1) := by decide +kernel
theorem dX7_findStories_289 : decode cX7_findStories 289 = .ok (.iaload, 1) := by decide +kernel
theorem dX7_findStories_290 : decode cX7_findStories 290 = .ok (.goto 24, 3) := by decide +kernel
theorem dX7_findStories_293 : decode cX7_findStories 293 = .ok (.aload_n 0, 1) := by decide +kernel
theorem dX7_findStories_294 : decode cX7_findStories 294 = .ok (.getfield 13, 3) := by decide +kernel
theorem dX7_findStories_297 : decode cX7_findStories 297 = .ok (.iload_n 2, 1) := by decide +kernel
theorem dX7_findStories_298 : decode cX7_findStories 298 = .ok (.iaload, 1) := by decide +kernel
theorem dX7_findStories_299 : decode cX7_findStories 299 = .ok (.iconst 2, 1) := by decide +kernel
theorem dX7_findStories_300 : decode cX7_findStories 300 = .ok (.if_icmp .ne 8, 3) := by decide +kernel
theorem dX7_findStories_303 : decode cX7_findStories 303 = .ok (.bipush (-9), 2) := by decide +kernel
theorem dX7_findStories_305 : decode cX7_findStories 305 = .ok (.goto 9, 3) := by decide +kernel
theorem dX7_findStories_308 : decode cX7_findStories 308 = .ok (.aload_n 0, 1) := by decide +kernel
theorem dX7_findStories_309 : decode cX7_findStories 309 = .ok (.getfield 70, 3) := by decide +kernel
theorem dX7_findStories_312 : decode cX7_findStories 312 = .ok (.iload_n 2, 1) := by decide +kernel
theorem dX7_findStories_313 : decode cX7_findStories 313 = .ok (.iaload, 1) := by decide +kernel
theorem dX7_findStories_314 : decode cX7_findStories 314 = .ok (.iastore, 1) := by decide +kernel
theorem dX7_findStories_315 : decode cX7_findStories 315 = .ok (.iinc 2 1, 3) := by decide +kernel
theorem dX7_findStories_318 : decode cX7_findStories 318 = .ok (.goto (-94), 3) := by decide +kernel
theorem dX7_findStories_321 : decode cX7_findStories 321 = .ok (.return_, 1) := by decide +kernel
theorem dX7_reach_0 : decode cX7_reach 0 = .ok (.aload_n 0, 1) := by decide +kernel
theorem dX7_reach_1 : decode cX7_reach 1 = .ok (.iload_n 1, 1) := by decide +kernel
theorem dX7_reach_2 : decode cX7_reach 2 = .ok (.invokevirtual 156, 3) := by decide +kernel
theorem dX7_reach_5 : decode cX7_reach 5 = .ok (.ifCond .ne 5, 3) := by decide +kernel
theorem dX7_reach_8 : decode cX7_reach 8 = .ok (.iconst (-1), 1) := by decide +kernel
theorem dX7_reach_9 : decode cX7_reach 9 = .ok (.ireturn, 1) := by decide +kernel
theorem dX7_reach_10 : decode cX7_reach 10 = .ok (.iload_n 2, 1) := by decide +kernel
theorem dX7_reach_11 : decode cX7_reach 11 = .ok (.iconst 0, 1) := by decide +kernel
theorem dX7_reach_12 : decode cX7_reach 12 = .ok (.bipush 7, 2) := by decide +kernel
theorem dX7_reach_14 : decode cX7_reach 14 = .ok (.invokestatic 102, 3) := by decide +kernel
theorem dX7_reach_17 : decode cX7_reach 17 = .ok (.ifCond .eq 12, 3) := by decide +kernel
theorem dX7_reach_20 : decode cX7_reach 20 = .ok (.aload_n 0, 1) := by decide +kernel
theorem dX7_reach_21 : decode cX7_reach 21 = .ok (.iload_n 1, 1) := by decide +kernel
theorem dX7_reach_22 : decode cX7_reach 22 = .ok (.iload_n 2, 1) := by decide +kernel
theorem dX7_reach_23 : decode cX7_reach 23 = .ok (.invokevirtual 125, 3) := by decide +kernel
theorem dX7_reach_26 : decode cX7_reach 26 = .ok (.goto 5, 3) := by decide +kernel
theorem dX7_reach_29 : decode cX7_reach 29 = .ok (.bipush (-2), 2) := by decide +kernel
theorem dX7_reach_31 : decode cX7_reach 31 = .ok (.ireturn, 1) := by decide +kernel
theorem dX7_under_0 : decode cX7_under 0 = .ok (.aload_n 0, 1) := by decide +kernel
theorem dX7_under_1 : decode cX7_under 1 = .ok (.iload_n 1, 1) := by decide +kernel
theorem dX7_under_2 : decode cX7_under 2 = .ok (.invokevirtual 110, 3) := by decide +kernel
theorem dX7_under_5 : decode cX7_under 5 = .ok (.ifCond .ne 5, 3) := by decide +kernel
theorem dX7_under_8 : decode cX7_under 8 = .ok (.iconst (-1), 1) := by decide +kernel
theorem dX7_under_9 : decode cX7_under 9 = .ok (.ireturn, 1) := by decide +kernel
theorem dX7_under_10 : decode cX7_under 10 = .ok (.aload_n 0, 1) := by decide +kernel
theorem dX7_under_11 : decode cX7_under 11 = .ok (.getfield 13, 3) := by decide +kernel
theorem dX7_under_14 : decode cX7_under 14 = .ok (.iload_n 1, 1) := by decide +kernel
theorem dX7_under_15 : decode cX7_under 15 = .ok (.iaload, 1) := by decide +kernel
theorem dX7_under_16 : decode cX7_under 16 = .ok (.ifCond .ne 8, 3) := by decide +kernel
theorem dX7_under_19 : decode cX7_under 19 = .ok (.bipush (-3), 2) := by decide +kernel
theorem dX7_under_21 : decode cX7_under 21 = .ok (.goto 8, 3) := by decide +kernel
theorem dX7_under_24 : decode cX7_under 24 = .ok (.aload_n 0, 1) := by decide +kernel
theorem dX7_under_25 : decode cX7_under 25 = .ok (.iload_n 1, 1) := by decide +kernel
theorem dX7_under_26 : decode cX7_under 26 = .ok (.invokevirtual 143, 3) := by decide +kernel
theorem dX7_under_29 : decode cX7_under 29 = .ok (.ireturn, 1) := by decide +kernel
theorem dX7_story_0 : decode cX7_story 0 = .ok (.aload_n 0, 1) := by decide +kernel
theorem dX7_story_1 : decode cX7_story 1 = .ok (.iload_n 1, 1) := by decide +kernel
theorem dX7_story_2 : decode cX7_story 2 = .ok (.invokevirtual 110, 3) := by decide +kernel
theorem dX7_story_5 : decode cX7_story 5 = .ok (.ifCond .ne 5, 3) := by decide +kernel
theorem dX7_story_8 : decode cX7_story 8 = .ok (.iconst (-1), 1) := by decide +kernel
theorem dX7_story_9 : decode cX7_story 9 = .ok (.ireturn, 1) := by decide +kernel
theorem dX7_story_10 : decode cX7_story 10 = .ok (.aload_n 0, 1) := by decide +kernel
theorem dX7_story_11 : decode cX7_story 11 = .ok (.invokevirtual 159, 3) := by decide +kernel
theorem dX7_story_14 : decode cX7_story 14 = .ok (.aload_n 0, 1) := by decide +kernel
theorem dX7_story_15 : decode cX7_story 15 = .ok (.getfield 70, 3) := by decide +kernel
theorem dX7_story_18 : decode cX7_story 18 = .ok (.iload_n 1, 1) := by decide +kernel
theorem dX7_story_19 : decode cX7_story 19 = .ok (.iaload, 1) := by decide +kernel
theorem dX7_story_20 : decode cX7_story 20 = .ok (.ireturn, 1) := by decide +kernel
theorem dX7_takenBy_0 : decode cX7_takenBy 0 = .ok (.aload_n 0, 1) := by decide +kernel
theorem dX7_takenBy_1 : decode cX7_takenBy 1 = .ok (.iload_n 1, 1) := by decide +kernel
theorem dX7_takenBy_2 : decode cX7_takenBy 2 = .ok (.invokevirtual 110, 3) := by decide +kernel
theorem dX7_takenBy_5 : decode cX7_takenBy 5 = .ok (.ifCond .ne 5, 3) := by decide +kernel
theorem dX7_takenBy_8 : decode cX7_takenBy 8 = .ok (.iconst (-1), 1) := by decide +kernel
theorem dX7_takenBy_9 : decode cX7_takenBy 9 = .ok (.ireturn, 1) := by decide +kernel
theorem dX7_takenBy_10 : decode cX7_takenBy 10 = .ok (.aload_n 0, 1) := by decide +kernel
theorem dX7_takenBy_11 : decode cX7_takenBy 11 = .ok (.getfield 13, 3) := by decide +kernel
theorem dX7_takenBy_14 : decode cX7_takenBy 14 = .ok (.iload_n 1, 1) := by decide +kernel
theorem dX7_takenBy_15 : decode cX7_takenBy 15 = .ok (.iaload, 1) := by decide +kernel
theorem dX7_takenBy_16 : decode cX7_takenBy 16 = .ok (.iconst 1, 1) := by decide +kernel
theorem dX7_takenBy_17 : decode cX7_takenBy 17 = .ok (.if_icmp .eq 6, 3) := by decide +kernel
theorem dX7_takenBy_20 : decode cX7_takenBy 20 = .ok (.bipush (-3), 2) := by decide +kernel
theorem dX7_takenBy_22 : decode cX7_takenBy 22 = .ok (.ireturn, 1) := by decide +kernel
theorem dX7_takenBy_23 : decode cX7_takenBy 23 = .ok (.aload_n 0, 1) := by decide +kernel
theorem dX7_takenBy_24 : decode cX7_takenBy 24 = .ok (.invokevirtual 159, 3) := by decide +kernel
theorem dX7_takenBy_27 : decode cX7_takenBy 27 = .ok (.aload_n 0, 1) := by decide +kernel
theorem dX7_takenBy_28 : decode cX7_takenBy 28 = .ok (.getfield 58, 3) := by decide +kernel
theorem dX7_takenBy_31 : decode cX7_takenBy 31 = .ok (.iload_n 1, 1) := by decide +kernel
theorem dX7_takenBy_32 : decode cX7_takenBy 32 = .ok (.iaload, 1) := by decide +kernel
theorem dX7_takenBy_33 : decode cX7_takenBy 33 = .ok (.ireturn, 1) := by decide +kernel
theorem dX7_mark_0 : decode cX7_mark 0 = .ok (.aload_n 0, 1) := by decide +kernel
theorem dX7_mark_1 : decode cX7_mark 1 = .ok (.iload_n 1, 1) := by decide +kernel
theorem dX7_mark_2 : decode cX7_mark 2 = .ok (.invokevirtual 110, 3) := by decide +kernel
theorem dX7_mark_5 : decode cX7_mark 5 = .ok (.ifCond .ne 5, 3) := by decide +kernel
theorem dX7_mark_8 : decode cX7_mark 8 = .ok (.iconst (-1), 1) := by decide +kernel
theorem dX7_mark_9 : decode cX7_mark 9 = .ok (.ireturn, 1) := by decide +kernel
theorem dX7_mark_10 : decode cX7_mark 10 = .ok (.iload_n 2, 1) := by decide +kernel
theorem dX7_mark_11 : decode cX7_mark 11 = .ok (.iconst 0, 1) := by decide +kernel
theorem dX7_mark_12 : decode cX7_mark 12 = .ok (.iconst 1, 1) := by decide +kernel
theorem dX7_mark_13 : decode cX7_mark 13 = .ok (.invokestatic 102, 3) := by decide +kernel
theorem dX7_mark_16 : decode cX7_mark 16 = .ok (.ifCond .eq 23, 3) := by decide +kernel
theorem dX7_mark_19 : decode cX7_mark 19 = .ok (.iload_n 3, 1) := by decide +kernel
theorem dX7_mark_20 : decode cX7_mark 20 = .ok (.iconst 0, 1) := by decide +kernel
theorem dX7_mark_21 : decode cX7_mark 21 = .ok (.iconst 3, 1) := by decide +kernel
theorem dX7_mark_22 : decode cX7_mark 22 = .ok (.invokestatic 102, 3) := by decide +kernel
theorem dX7_mark_25 : decode cX7_mark 25 = .ok (.ifCond .eq 14, 3) := by decide +kernel
theorem dX7_mark_28 : decode cX7_mark 28 = .ok (.iload 4, 2) := by decide +kernel
theorem dX7_mark_30 : decode cX7_mark 30 = .ok (.iconst 0, 1) := by decide +kernel
theorem dX7_mark_31 : decode cX7_mark 31 = .ok (.bipush 99, 2) := by decide +kernel
theorem dX7_mark_33 : decode cX7_mark 33 = .ok (.invokestatic 102, 3) := by decide +kernel
theorem dX7_mark_36 : decode cX7_mark 36 = .ok (.ifCond .ne 6, 3) := by decide +kernel
theorem dX7_mark_39 : decode cX7_mark 39 = .ok (.bipush (-2), 2) := by decide +kernel
theorem dX7_mark_41 : decode cX7_mark 41 = .ok (.ireturn, 1) := by decide +kernel
theorem dX7_mark_42 : decode cX7_mark 42 = .ok (.aload_n 0, 1) := by decide +kernel
theorem dX7_mark_43 : decode cX7_mark 43 = .ok (.getfield 13, 3) := by decide +kernel
theorem dX7_mark_46 : decode cX7_mark 46 = .ok (.iload_n 1, 1) := by decide +kernel
theorem dX7_mark_47 : decode cX7_mark 47 = .ok (.iaload, 1) := by decide +kernel
theorem dX7_mark_48 : decode cX7_mark 48 = .ok (.iconst 2, 1) := by decide +kernel
theorem dX7_mark_49 : decode cX7_mark 49 = .ok (.if_icmp .eq 16, 3) := by decide +kernel
theorem dX7_mark_52 : decode cX7_mark 52 = .ok (.iload_n 2, 1) := by decide +kernel
theorem dX7_mark_53 : decode cX7_mark 53 = .ok (.ifCond .ne 15, 3) := by decide +kernel
theorem dX7_mark_56 : decode cX7_mark 56 = .ok (.aload_n 0, 1) := by decide +kernel
theorem dX7_mark_57 : decode cX7_mark 57 = .ok (.getfield 13, 3) := by decide +kernel
theorem dX7_mark_60 : decode cX7_mark 60 = .ok (.iload_n 1, 1) := by decide +kernel
theorem dX7_mark_61 : decode cX7_mark 61 = .ok (.iaload, 1) := by decide +kernel
theorem dX7_mark_62 : decode cX7_mark 62 = .ok (.ifCond .ne 6, 3) := by decide +kernel
theorem dX7_mark_65 : decode cX7_mark 65 = .ok (.bipush (-3), 2) := by decide +kernel
theorem dX7_mark_67 : decode cX7_mark 67 = .ok (.ireturn, 1) := by decide +kernel
theorem dX7_mark_68 : decode cX7_mark 68 = .ok (.aload_n 0, 1) := by decide +kernel
theorem dX7_mark_69 : decode cX7_mark 69 = .ok (.getfield 31, 3) := by decide +kernel
theorem dX7_mark_72 : decode cX7_mark 72 = .ok (.iconst 2, 1) := by decide +kernel
theorem dX7_mark_73 : decode cX7_mark 73 = .ok (.iload_n 1, 1) := by decide +kernel
theorem dX7_mark_74 : decode cX7_mark 74 = .ok (.imul, 1) := by decide +kernel
theorem dX7_mark_75 : decode cX7_mark 75 = .ok (.iload_n 2, 1) := by decide +kernel
theorem dX7_mark_76 : decode cX7_mark 76 = .ok (.iadd, 1) := by decide +kernel
theorem dX7_mark_77 : decode cX7_mark 77 = .ok (.iaload, 1) := by decide +kernel
theorem dX7_mark_78 : decode cX7_mark 78 = .ok (.bipush (-9), 2) := by decide +kernel
theorem dX7_mark_80 : decode cX7_mark 80 = .ok (.if_icmp .ne 7, 3) := by decide +kernel
theorem dX7_mark_83 : decode cX7_mark 83 = .ok (.iconst 0, 1) := by decide +kernel
theorem dX7_mark_84 : decode cX7_mark 84 = .ok (.goto 4, 3) := by decide +kernel
theorem dX7_mark_87 : decode cX7_mark 87 = .ok (.iconst 1, 1) := by decide +kernel
theorem dX7_mark_88 : decode cX7_mark 88 = .ok (.istore 5, 2) := by decide +kernel
theorem dX7_mark_90 : decode cX7_mark 90 = .ok (.aload_n 0, 1) := by decide +kernel
theorem dX7_mark_91 : decode cX7_mark 91 = .ok (.getfield 31, 3) := by decide +kernel
theorem dX7_mark_94 : decode cX7_mark 94 = .ok (.iconst 2, 1) := by decide +kernel
theorem dX7_mark_95 : decode cX7_mark 95 = .ok (.iload_n 1, 1) := by decide +kernel
theorem dX7_mark_96 : decode cX7_mark 96 = .ok (.imul, 1) := by decide +kernel
theorem dX7_mark_97 : decode cX7_mark 97 = .ok (.iload_n 2, 1) := by decide +kernel
theorem dX7_mark_98 : decode cX7_mark 98 = .ok (.iadd, 1) := by decide +kernel
theorem dX7_mark_99 : decode cX7_mark 99 = .ok (.iload_n 3, 1) := by decide +kernel
theorem dX7_mark_100 : decode cX7_mark 100 = .ok (.iastore, 1) := by decide +kernel
theorem dX7_mark_101 : decode cX7_mark 101 = .ok (.aload_n 0, 1) := by decide +kernel
theorem dX7_mark_102 : decode cX7_mark 102 = .ok (.getfield 34, 3) := by decide +kernel
theorem dX7_mark_105 : decode cX7_mark 105 = .ok (.iconst 2, 1) := by decide +kernel
theorem dX7_mark_106 : decode cX7_mark 106 = .ok (.iload_n 1, 1) := by decide +kernel
theorem dX7_mark_107 : decode cX7_mark 107 = .ok (.imul, 1) := by decide +kernel
theorem dX7_mark_108 : decode cX7_mark 108 = .ok (.iload_n 2, 1) := by decide +kernel
theorem dX7_mark_109 : decode cX7_mark 109 = .ok (.iadd, 1) := by decide +kernel
theorem dX7_mark_110 : decode cX7_mark 110 = .ok (.iload 4, 2) := by decide +kernel
theorem dX7_mark_112 : decode cX7_mark 112 = .ok (.iastore, 1) := by decide +kernel
theorem dX7_mark_113 : decode cX7_mark 113 = .ok (.iload 5, 2) := by decide +kernel
theorem dX7_mark_115 : decode cX7_mark 115 = .ok (.ireturn, 1) := by decide +kernel
theorem dX7_unmark_0 : decode cX7_unmark 0 = .ok (.aload_n 0, 1) := by decide +kernel
theorem dX7_unmark_1 : decode cX7_unmark 1 = .ok (.iload_n 1, 1) := by decide +kernel
theorem dX7_unmark_2 : decode cX7_unmark 2 = .ok (.invokevirtual 110, 3) := by decide +kernel
theorem dX7_unmark_5 : decode cX7_unmark 5 = .ok (.ifCond .ne 5, 3) := by decide +kernel
theorem dX7_unmark_8 : decode cX7_unmark 8 = .ok (.iconst (-1), 1) := by decide +kernel
theorem dX7_unmark_9 : decode cX7_unmark 9 = .ok (.ireturn, 1) := by decide +kernel
theorem dX7_unmark_10 : decode cX7_unmark 10 = .ok (.iload_n 2, 1) := by decide +kernel
theorem dX7_unmark_11 : decode cX7_unmark 11 = .ok (.iconst 0, 1) := by decide +kernel
theorem dX7_unmark_12 : decode cX7_unmark 12 = .ok (.iconst 1, 1) := by decide +kernel
theorem dX7_unmark_13 : decode cX7_unmark 13 = .ok (.invokestatic 102, 3) := by decide +kernel
theorem dX7_unmark_16 : decode cX7_unmark 16 = .ok (.ifCond .ne 6, 3) := by decide +kernel
theorem dX7_unmark_19 : decode cX7_unmark 19 = .ok (.bipush (-2), 2) := by decide +kernel
theorem dX7_unmark_21 : decode cX7_unmark 21 = .ok (.ireturn, 1) := by decide +kernel
theorem dX7_unmark_22 : decode cX7_unmark 22 = .ok (.aload_n 0, 1) := by decide +kernel
theorem dX7_unmark_23 : decode cX7_unmark 23 = .ok (.getfield 31, 3) := by decide +kernel
theorem dX7_unmark_26 : decode cX7_unmark 26 = .ok (.iconst 2, 1) := by decide +kernel
theorem dX7_unmark_27 : decode cX7_unmark 27 = .ok (.iload_n 1, 1) := by decide +kernel
theorem dX7_unmark_28 : decode cX7_unmark 28 = .ok (.imul, 1) := by decide +kernel
theorem dX7_unmark_29 : decode cX7_unmark 29 = .ok (.iload_n 2, 1) := by decide +kernel
theorem dX7_unmark_30 : decode cX7_unmark 30 = .ok (.iadd, 1) := by decide +kernel
theorem dX7_unmark_31 : decode cX7_unmark 31 = .ok (.iaload, 1) := by decide +kernel
theorem dX7_unmark_32 : decode cX7_unmark 32 = .ok (.bipush (-9), 2) := by decide +kernel
theorem dX7_unmark_34 : decode cX7_unmark 34 = .ok (.if_icmp .ne 7, 3) := by decide +kernel
theorem dX7_unmark_37 : decode cX7_unmark 37 = .ok (.iconst 0, 1) := by decide +kernel
theorem dX7_unmark_38 : decode cX7_unmark 38 = .ok (.goto 4, 3) := by decide +kernel
theorem dX7_unmark_41 : decode cX7_unmark 41 = .ok (.iconst 1, 1) := by decide +kernel
theorem dX7_unmark_42 : decode cX7_unmark 42 = .ok (.istore_n 3, 1) := by decide +kernel
theorem dX7_unmark_43 : decode cX7_unmark 43 = .ok (.aload_n 0, 1) := by decide +kernel
theorem dX7_unmark_44 : decode cX7_unmark 44 = .ok (.getfield 31, 3) := by decide +kernel
theorem dX7_unmark_47 : decode cX7_unmark 47 = .ok (.iconst 2, 1) := by decide +kernel
theorem dX7_unmark_48 : decode cX7_unmark 48 = .ok (.iload_n 1, 1) := by decide +kernel
theorem dX7_unmark_49 : decode cX7_unmark 49 = .ok (.imul, 1) := by decide +kernel
theorem dX7_unmark_50 : decode cX7_unmark 50 = .ok (.iload_n 2, 1) := by decide +kernel
theorem dX7_unmark_51 : decode cX7_unmark 51 = .ok (.iadd, 1) := by decide +kernel
theorem dX7_unmark_52 : decode cX7_unmark 52 = .ok (.bipush (-9), 2) := by decide +kernel
theorem dX7_unmark_54 : decode cX7_unmark 54 = .ok (.iastore, 1) := by decide +kernel
theorem dX7_unmark_55 : decode cX7_unmark 55 = .ok (.iload_n 3, 1) := by decide +kernel
theorem dX7_unmark_56 : decode cX7_unmark 56 = .ok (.ireturn, 1) := by decide +kernel
theorem dX7_ofMark_0 : decode cX7_ofMark 0 = .ok (.aload_n 0, 1) := by decide +kernel
theorem dX7_ofMark_1 : decode cX7_ofMark 1 = .ok (.iload_n 1, 1) := by decide +kernel
theorem dX7_ofMark_2 : decode cX7_ofMark 2 = .ok (.invokevirtual 110, 3) := by decide +kernel
theorem dX7_ofMark_5 : decode cX7_ofMark 5 = .ok (.ifCond .ne 5, 3) := by decide +kernel
theorem dX7_ofMark_8 : decode cX7_ofMark 8 = .ok (.iconst (-1), 1) := by decide +kernel
theorem dX7_ofMark_9 : decode cX7_ofMark 9 = .ok (.ireturn, 1) := by decide +kernel
theorem dX7_ofMark_10 : decode cX7_ofMark 10 = .ok (.iload_n 2, 1) := by decide +kernel
theorem dX7_ofMark_11 : decode cX7_ofMark 11 = .ok (.iconst 0, 1) := by decide +kernel
theorem dX7_ofMark_12 : decode cX7_ofMark 12 = .ok (.iconst 1, 1) := by decide +kernel
theorem dX7_ofMark_13 : decode cX7_ofMark 13 = .ok (.invokestatic 102, 3) := by decide +kernel
theorem dX7_ofMark_16 : decode cX7_ofMark 16 = .ok (.ifCond .eq 12, 3) := by decide +kernel
theorem dX7_ofMark_19 : decode cX7_ofMark 19 = .ok (.iload_n 3, 1) := by decide +kernel
theorem dX7_ofMark_20 : decode cX7_ofMark 20 = .ok (.iconst 0, 1) := by decide +kernel
theorem dX7_ofMark_21 : decode cX7_ofMark 21 = .ok (.iconst 1, 1) := by decide +kernel
theorem dX7_ofMark_22 : decode cX7_ofMark 22 = .ok (.invokestatic 102, 3) := by decide +kernel
theorem dX7_ofMark_25 : decode cX7_ofMark 25 = .ok (.ifCond .ne 6, 3) := by decide +kernel
theorem dX7_ofMark_28 : decode cX7_ofMark 28 = .ok (.bipush (-2), 2) := by decide +kernel
theorem dX7_ofMark_30 : decode cX7_ofMark 30 = .ok (.ireturn, 1) := by decide +kernel
theorem dX7_ofMark_31 : decode cX7_ofMark 31 = .ok (.aload_n 0, 1) := by decide +kernel
theorem dX7_ofMark_32 : decode cX7_ofMark 32 = .ok (.getfield 31, 3) := by decide +kernel
theorem dX7_ofMark_35 : decode cX7_ofMark 35 = .ok (.iconst 2, 1) := by decide +kernel
theorem dX7_ofMark_36 : decode cX7_ofMark 36 = .ok (.iload_n 1, 1) := by decide +kernel
theorem dX7_ofMark_37 : decode cX7_ofMark 37 = .ok (.imul, 1) := by decide +kernel
theorem dX7_ofMark_38 : decode cX7_ofMark 38 = .ok (.iload_n 2, 1) := by decide +kernel
theorem dX7_ofMark_39 : decode cX7_ofMark 39 = .ok (.iadd, 1) := by decide +kernel
theorem dX7_ofMark_40 : decode cX7_ofMark 40 = .ok (.iaload, 1) := by decide +kernel
theorem dX7_ofMark_41 : decode cX7_ofMark 41 = .ok (.istore 4, 2) := by decide +kernel
theorem dX7_ofMark_43 : decode cX7_ofMark 43 = .ok (.iload 4, 2) := by decide +kernel
theorem dX7_ofMark_45 : decode cX7_ofMark 45 = .ok (.bipush (-9), 2) := by decide +kernel
theorem dX7_ofMark_47 : decode cX7_ofMark 47 = .ok (.if_icmp .eq 7, 3) := by decide +kernel
theorem dX7_ofMark_50 : decode cX7_ofMark 50 = .ok (.iload_n 3, 1) := by decide +kernel
theorem dX7_ofMark_51 : decode cX7_ofMark 51 = .ok (.ifCond .ne 8, 3) := by decide +kernel
theorem dX7_ofMark_54 : decode cX7_ofMark 54 = .ok (.iload 4, 2) := by decide +kernel
theorem dX7_ofMark_56 : decode cX7_ofMark 56 = .ok (.goto 13, 3) := by decide +kernel
theorem dX7_ofMark_59 : decode cX7_ofMark 59 = .ok (.aload_n 0, 1) := by decide +kernel
theorem dX7_ofMark_60 : decode cX7_ofMark 60 = .ok (.getfield 34, 3) := by decide +kernel
theorem dX7_ofMark_63 : decode cX7_ofMark 63 = .ok (.iconst 2, 1) := by decide +kernel
theorem dX7_ofMark_64 : decode cX7_ofMark 64 = .ok (.iload_n 1, 1) := by decide +kernel
theorem dX7_ofMark_65 : decode cX7_ofMark 65 = .ok (.imul, 1) := by decide +kernel
theorem dX7_ofMark_66 : decode cX7_ofMark 66 = .ok (.iload_n 2, 1) := by decide +kernel
theorem dX7_ofMark_67 : decode cX7_ofMark 67 = .ok (.iadd, 1) := by decide +kernel
theorem dX7_ofMark_68 : decode cX7_ofMark 68 = .ok (.iaload, 1) := by decide +kernel
theorem dX7_ofMark_69 : decode cX7_ofMark 69 = .ok (.ireturn, 1) := by decide +kernel
theorem dX7_onwardOf_0 : decode cX7_onwardOf 0 = .ok (.bipush (-9), 2) := by decide +kernel
theorem dX7_onwardOf_2 : decode cX7_onwardOf 2 = .ok (.istore_n 2, 1) := by decide +kernel
theorem dX7_onwardOf_3 : decode cX7_onwardOf 3 = .ok (.aload_n 0, 1) := by decide +kernel
theorem dX7_onwardOf_4 : decode cX7_onwardOf 4 = .ok (.getfield 67, 3) := by decide +kernel
theorem dX7_onwardOf_7 : decode cX7_onwardOf 7 = .ok (.iload_n 1, 1) := by decide +kernel
theorem dX7_onwardOf_8 : decode cX7_onwardOf 8 = .ok (.iaload, 1) := by decide +kernel
theorem dX7_onwardOf_9 : decode cX7_onwardOf 9 = .ok (.istore_n 3, 1) := by decide +kernel
theorem dX7_onwardOf_10 : decode cX7_onwardOf 10 = .ok (.iconst 0, 1) := by decide +kernel
theorem dX7_onwardOf_11 : decode cX7_onwardOf 11 = .ok (.istore 4, 2) := by decide +kernel
theorem dX7_onwardOf_13 : decode cX7_onwardOf 13 = .ok (.iload 4, 2) := by decide +kernel
theorem dX7_onwardOf_15 : decode cX7_onwardOf 15 = .ok (.aload_n 0, 1) := by decide +kernel
theorem dX7_onwardOf_16 : decode cX7_onwardOf 16 = .ok (.getfield 61, 3) := by decide +kernel
theorem dX7_onwardOf_19 : decode cX7_onwardOf 19 = .ok (.iload_n 3, 1) := by decide +kernel
theorem dX7_onwardOf_20 : decode cX7_onwardOf 20 = .ok (.iaload, 1) := by decide +kernel
theorem dX7_onwardOf_21 : decode cX7_onwardOf 21 = .ok (.if_icmp .ge 44, 3) := by decide +kernel
theorem dX7_onwardOf_24 : decode cX7_onwardOf 24 = .ok (.aload_n 0, 1) := by decide +kernel
theorem dX7_onwardOf_25 : decode cX7_onwardOf 25 = .ok (.getfield 64, 3) := by decide +kernel
theorem dX7_onwardOf_28 : decode cX7_onwardOf 28 = .ok (.bipush 24, 2) := by decide +kernel
theorem dX7_onwardOf_30 : decode cX7_onwardOf 30 = .ok (.iload_n 3, 1) := by decide +kernel
theorem dX7_onwardOf_31 : decode cX7_onwardOf 31 = .ok (.imul, 1) := by decide +kernel
theorem dX7_onwardOf_32 : decode cX7_onwardOf 32 = .ok (.iload 4, 2) := by decide +kernel
theorem dX7_onwardOf_34 : decode cX7_onwardOf 34 = .ok (.iadd, 1) := by decide +kernel
theorem dX7_onwardOf_35 : decode cX7_onwardOf 35 = .ok (.iaload, 1) := by decide +kernel
theorem dX7_onwardOf_36 : decode cX7_onwardOf 36 = .ok (.istore 5, 2) := by decide +kernel
theorem dX7_onwardOf_38 : decode cX7_onwardOf 38 = .ok (.aload_n 0, 1) := by decide +kernel
theorem dX7_onwardOf_39 : decode cX7_onwardOf 39 = .ok (.getfield 31, 3) := by decide +kernel
theorem dX7_onwardOf_42 : decode cX7_onwardOf 42 = .ok (.iconst 2, 1) := by decide +kernel
theorem dX7_onwardOf_43 : decode cX7_onwardOf 43 = .ok (.iload 5, 2) := by decide +kernel
theorem dX7_onwardOf_45 : decode cX7_onwardOf 45 = .ok (.imul, 1) := by decide +kernel
theorem dX7_onwardOf_46 : decode cX7_onwardOf 46 = .ok (.iaload, 1) := by decide +kernel
theorem dX7_onwardOf_47 : decode cX7_onwardOf 47 = .ok (.bipush (-9), 2) := by decide +kernel
theorem dX7_onwardOf_49 : decode cX7_onwardOf 49 = .ok (.if_icmp .ne 7, 3) := by decide +kernel
theorem dX7_onwardOf_52 : decode cX7_onwardOf 52 = .ok (.iload_n 2, 1) := by decide +kernel
theorem dX7_onwardOf_53 : decode cX7_onwardOf 53 = .ok (.goto 5, 3) := by decide +kernel
theorem dX7_onwardOf_56 : decode cX7_onwardOf 56 = .ok (.iload 5, 2) := by decide +kernel
theorem dX7_onwardOf_58 : decode cX7_onwardOf 58 = .ok (.istore_n 2, 1) := by decide +kernel
theorem dX7_onwardOf_59 : decode cX7_onwardOf 59 = .ok (.iinc 4 1, 3) := by decide +kernel
theorem dX7_onwardOf_62 : decode cX7_onwardOf 62 = .ok (.goto (-49), 3) := by decide +kernel
theorem dX7_onwardOf_65 : decode cX7_onwardOf 65 = .ok (.iload_n 2, 1) := by decide +kernel
theorem dX7_onwardOf_66 : decode cX7_onwardOf 66 = .ok (.ireturn, 1) := by decide +kernel
theorem dX7_aimBy_0 : decode cX7_aimBy 0 = .ok (.iconst 0, 1) := by decide +kernel
theorem dX7_aimBy_1 : decode cX7_aimBy 1 = .ok (.istore_n 2, 1) := by decide +kernel
theorem dX7_aimBy_2 : decode cX7_aimBy 2 = .ok (.iload_n 2, 1) := by decide +kernel
theorem dX7_aimBy_3 : decode cX7_aimBy 3 = .ok (.aload_n 0, 1) := by decide +kernel
theorem dX7_aimBy_4 : decode cX7_aimBy 4 = .ok (.getfield 98, 3) := by decide +kernel
theorem dX7_aimBy_7 : decode cX7_aimBy 7 = .ok (.if_icmp .ge 93, 3) := by decide +kernel
theorem dX7_aimBy_10 : decode cX7_aimBy 10 = .ok (.aload_n 0, 1) := by decide +kernel
theorem dX7_aimBy_11 : decode cX7_aimBy 11 = .ok (.getfield 13, 3) := by decide +kernel
theorem dX7_aimBy_14 : decode cX7_aimBy 14 = .ok (.iload_n 2, 1) := by decide +kernel
theorem dX7_aimBy_15 : decode cX7_aimBy 15 = .ok (.iaload, 1) := by decide +kernel
theorem dX7_aimBy_16 : decode cX7_aimBy 16 = .ok (.iconst 2, 1) := by decide +kernel
theorem dX7_aimBy_17 : decode cX7_aimBy 17 = .ok (.if_icmp .eq 43, 3) := by decide +kernel
theorem dX7_aimBy_20 : decode cX7_aimBy 20 = .ok (.aload_n 0, 1) := by decide +kernel
theorem dX7_aimBy_21 : decode cX7_aimBy 21 = .ok (.getfield 7, 3) := by decide +kernel
theorem dX7_aimBy_24 : decode cX7_aimBy 24 = .ok (.iload_n 2, 1) := by decide +kernel
theorem dX7_aimBy_25 : decode cX7_aimBy 25 = .ok (.iaload, 1) := by decide +kernel
theorem dX7_aimBy_26 : decode cX7_aimBy 26 = .ok (.aload_n 0, 1) := by decide +kernel
theorem dX7_aimBy_27 : decode cX7_aimBy 27 = .ok (.getfield 31, 3) := by decide +kernel
theorem dX7_aimBy_30 : decode cX7_aimBy 30 = .ok (.iconst 2, 1) := by decide +kernel
theorem dX7_aimBy_31 : decode cX7_aimBy 31 = .ok (.iload_n 1, 1) := by decide +kernel
theorem dX7_aimBy_32 : decode cX7_aimBy 32 = .ok (.imul, 1) := by decide +kernel
theorem dX7_aimBy_33 : decode cX7_aimBy 33 = .ok (.iaload, 1) := by decide +kernel
theorem dX7_aimBy_34 : decode cX7_aimBy 34 = .ok (.if_icmp .ne 26, 3) := by decide +kernel
theorem dX7_aimBy_37 : decode cX7_aimBy 37 = .ok (.aload_n 0, 1) := by decide +kernel
theorem dX7_aimBy_38 : decode cX7_aimBy 38 = .ok (.getfield 31, 3) := by decide +kernel
theorem dX7_aimBy_41 : decode cX7_aimBy 41 = .ok (.iconst 2, 1) := by decide +kernel
theorem dX7_aimBy_42 : decode cX7_aimBy 42 = .ok (.iload_n 2, 1) := by decide +kernel
theorem dX7_aimBy_43 : decode cX7_aimBy 43 = .ok (.imul, 1) := by decide +kernel
theorem dX7_aimBy_44 : decode cX7_aimBy 44 = .ok (.iconst 1, 1) := by decide +kernel
theorem dX7_aimBy_45 : decode cX7_aimBy 45 = .ok (.iadd, 1) := by decide +kernel
theorem dX7_aimBy_46 : decode cX7_aimBy 46 = .ok (.iaload, 1) := by decide +kernel
theorem dX7_aimBy_47 : decode cX7_aimBy 47 = .ok (.aload_n 0, 1) := by decide +kernel
theorem dX7_aimBy_48 : decode cX7_aimBy 48 = .ok (.getfield 7, 3) := by decide +kernel
theorem dX7_aimBy_51 : decode cX7_aimBy 51 = .ok (.iload_n 1, 1) := by decide +kernel
theorem dX7_aimBy_52 : decode cX7_aimBy 52 = .ok (.iaload, 1) := by decide +kernel
theorem dX7_aimBy_53 : decode cX7_aimBy 53 = .ok (.if_icmp .ne 7, 3) := by decide +kernel
theorem dX7_aimBy_56 : decode cX7_aimBy 56 = .ok (.iconst 1, 1) := by decide +kernel
theorem dX7_aimBy_57 : decode cX7_aimBy 57 = .ok (.goto 4, 3) := by decide +kernel
theorem dX7_aimBy_60 : decode cX7_aimBy 60 = .ok (.iconst 0, 1) := by decide +kernel
theorem dX7_aimBy_61 : decode cX7_aimBy 61 = .ok (.istore_n 3, 1) := by decide +kernel
theorem dX7_aimBy_62 : decode cX7_aimBy 62 = .ok (.iload_n 3, 1) := by decide +kernel
theorem dX7_aimBy_63 : decode cX7_aimBy 63 = .ok (.ifCond .eq 31, 3) := by decide +kernel
theorem dX7_aimBy_66 : decode cX7_aimBy 66 = .ok (.aload_n 0, 1) := by decide +kernel
theorem dX7_aimBy_67 : decode cX7_aimBy 67 = .ok (.getfield 34, 3) := by decide +kernel
theorem dX7_aimBy_70 : decode cX7_aimBy 70 = .ok (.iconst 2, 1) := by decide +kernel
theorem dX7_aimBy_71 : decode cX7_aimBy 71 = .ok (.iload_n 2, 1) := by decide +kernel
theorem dX7_aimBy_72 : decode cX7_aimBy 72 = .ok (.imul, 1) := by decide +kernel
theorem dX7_aimBy_73 : decode cX7_aimBy 73 = .ok (.iconst 1, 1) := by decide +kernel
theorem dX7_aimBy_74 : decode cX7_aimBy 74 = .ok (.iadd, 1) := by decide +kernel
theorem dX7_aimBy_75 : decode cX7_aimBy 75 = .ok (.iaload, 1) := by decide +kernel
theorem dX7_aimBy_76 : decode cX7_aimBy 76 = .ok (.aload_n 0, 1) := by decide +kernel
theorem dX7_aimBy_77 : decode cX7_aimBy 77 = .ok (.getfield 34, 3) := by decide +kernel
theorem dX7_aimBy_80 : decode cX7_aimBy 80 = .ok (.iconst 2, 1) := by decide +kernel
theorem dX7_aimBy_81 : decode cX7_aimBy 81 = .ok (.iload_n 1, 1) := by decide +kernel
theorem dX7_aimBy_82 : decode cX7_aimBy 82 = .ok (.imul, 1) := by decide +kernel
theorem dX7_aimBy_83 : decode cX7_aimBy 83 = .ok (.iaload, 1) := by decide +kernel
theorem dX7_aimBy_84 : decode cX7_aimBy 84 = .ok (.if_icmp .ne 10, 3) := by decide +kernel
theorem dX7_aimBy_87 : decode cX7_aimBy 87 = .ok (.aload_n 0, 1) := by decide +kernel
theorem dX7_aimBy_88 : decode cX7_aimBy 88 = .ok (.getfield 70, 3) := by decide +kernel
theorem dX7_aimBy_91 : decode cX7_aimBy 91 = .ok (.iload_n 2, 1) := by decide +kernel
theorem dX7_aimBy_92 : decode cX7_aimBy 92 = .ok (.iaload, 1) := by decide +kernel
theorem dX7_aimBy_93 : decode cX7_aimBy 93 = .ok (.ireturn, 1) := by decide +kernel
theorem dX7_aimBy_94 : decode cX7_aimBy 94 = .ok (.iinc 2 1, 3) := by decide +kernel
theorem dX7_aimBy_97 : decode cX7_aimBy 97 = .ok (.goto (-95), 3) := by decide +kernel
theorem dX7_aimBy_100 : decode cX7_aimBy 100 = .ok (.bipush (-9), 2) := by decide +kernel
theorem dX7_aimBy_102 : decode cX7_aimBy 102 = .ok (.ireturn, 1) := by decide +kernel
theorem dX7_lays_0 : decode cX7_lays 0 = .ok (.aload_n 0, 1) := by decide +kernel
theorem dX7_lays_1 : decode cX7_lays 1 = .ok (.getfield 86, 3) := by decide +kernel
theorem dX7_lays_4 : decode cX7_lays 4 = .ok (.aload_n 0, 1) := by decide +kernel
theorem dX7_lays_5 : decode cX7_lays 5 = .ok (.getfield 162, 3) := by decide +kernel
theorem dX7_lays_8 : decode cX7_lays 8 = .ok (.aload_n 0, 1) := by decide +kernel
theorem dX7_lays_9 : decode cX7_lays 9 = .ok (.getfield 165, 3) := by decide +kernel
theorem dX7_lays_12 : decode cX7_lays 12 = .ok (.iastore, 1) := by decide +kernel
theorem dX7_lays_13 : decode cX7_lays 13 = .ok (.aload_n 0, 1) := by decide +kernel
theorem dX7_lays_14 : decode cX7_lays 14 = .ok (.getfield 89, 3) := by decide +kernel
theorem dX7_lays_17 : decode cX7_lays 17 = .ok (.aload_n 0, 1) := by decide +kernel
theorem dX7_lays_18 : decode cX7_lays 18 = .ok (.getfield 162, 3) := by decide +kernel
theorem dX7_lays_21 : decode cX7_lays 21 = .ok (.iload_n 2, 1) := by decide +kernel
theorem dX7_lays_22 : decode cX7_lays 22 = .ok (.bastore, 1) := by decide +kernel
theorem dX7_lays_23 : decode cX7_lays 23 = .ok (.iload_n 1, 1) := by decide +kernel
theorem dX7_lays_24 : decode cX7_lays 24 = .ok (.istore_n 3, 1) := by decide +kernel
theorem dX7_lays_25 : decode cX7_lays 25 = .ok (.iload_n 3, 1) := by decide +kernel
theorem dX7_lays_26 : decode cX7_lays 26 = .ok (.bipush (-9), 2) := by decide +kernel
theorem dX7_lays_28 : decode cX7_lays 28 = .ok (.if_icmp .eq 54, 3) := by decide +kernel
theorem dX7_lays_31 : decode cX7_lays 31 = .ok (.aload_n 0, 1) := by decide +kernel
theorem dX7_lays_32 : decode cX7_lays 32 = .ok (.getfield 95, 3) := by decide +kernel
theorem dX7_lays_35 : decode cX7_lays 35 = .ok (.iload_n 3, 1) := by decide +kernel
theorem dX7_lays_36 : decode cX7_lays 36 = .ok (.iaload, 1) := by decide +kernel
theorem dX7_lays_37 : decode cX7_lays 37 = .ok (.bipush (-9), 2) := by decide +kernel
theorem dX7_lays_39 : decode cX7_lays 39 = .ok (.if_icmp .ne 43, 3) := by decide +kernel
theorem dX7_lays_42 : decode cX7_lays 42 = .ok (.aload_n 0, 1) := by decide +kernel
theorem dX7_lays_43 : decode cX7_lays 43 = .ok (.getfield 95, 3) := by decide +kernel
theorem dX7_lays_46 : decode cX7_lays 46 = .ok (.iload_n 3, 1) := by decide +kernel
theorem dX7_lays_47 : decode cX7_lays 47 = .ok (.aload_n 0, 1) := by decide +kernel
theorem dX7_lays_48 : decode cX7_lays 48 = .ok (.getfield 162, 3) := by decide +kernel
theorem dX7_lays_51 : decode cX7_lays 51 = .ok (.iastore, 1) := by decide +kernel
theorem dX7_lays_52 : decode cX7_lays 52 = .ok (.aload_n 0, 1) := by decide +kernel
theorem dX7_lays_53 : decode cX7_lays 53 = .ok (.getfield 92, 3) := by decide +kernel
theorem dX7_lays_56 : decode cX7_lays 56 = .ok (.aload_n 0, 1) := by decide +kernel
theorem dX7_lays_57 : decode cX7_lays 57 = .ok (.getfield 165, 3) := by decide +kernel
theorem dX7_lays_60 : decode cX7_lays 60 = .ok (.iload_n 3, 1) := by decide +kernel
theorem dX7_lays_61 : decode cX7_lays 61 = .ok (.iastore, 1) := by decide +kernel
theorem dX7_lays_62 : decode cX7_lays 62 = .ok (.aload_n 0, 1) := by decide +kernel
theorem dX7_lays_63 : decode cX7_lays 63 = .ok (.dup, 1) := by decide +kernel
theorem dX7_lays_64 : decode cX7_lays 64 = .ok (.getfield 165, 3) := by decide +kernel
theorem dX7_lays_67 : decode cX7_lays 67 = .ok (.iconst 1, 1) := by decide +kernel
theorem dX7_lays_68 : decode cX7_lays 68 = .ok (.iadd, 1) := by decide +kernel
theorem dX7_lays_69 : decode cX7_lays 69 = .ok (.putfield 165, 3) := by decide +kernel
theorem dX7_lays_72 : decode cX7_lays 72 = .ok (.aload_n 0, 1) := by decide +kernel
theorem dX7_lays_73 : decode cX7_lays 73 = .ok (.getfield 80, 3) := by decide +kernel
theorem dX7_lays_76 : decode cX7_lays 76 = .ok (.iload_n 3, 1) := by decide +kernel
theorem dX7_lays_77 : decode cX7_lays 77 = .ok (.iaload, 1) := by decide +kernel
theorem dX7_lays_78 : decode cX7_lays 78 = .ok (.istore_n 3, 1) := by decide +kernel
theorem dX7_lays_79 : decode cX7_lays 79 = .ok (.goto (-54), 3) := by decide +kernel
theorem dX7_lays_82 : decode cX7_lays 82 = .ok (.aload_n 0, 1) := by decide +kernel
theorem dX7_lays_83 : decode cX7_lays 83 = .ok (.dup, 1) := by decide +kernel
theorem dX7_lays_84 : decode cX7_lays 84 = .ok (.getfield 162, 3) := by decide +kernel
theorem dX7_lays_87 : decode cX7_lays 87 = .ok (.iconst 1, 1) := by decide +kernel
theorem dX7_lays_88 : decode cX7_lays 88 = .ok (.iadd, 1) := by decide +kernel
theorem dX7_lays_89 : decode cX7_lays 89 = .ok (.putfield 162, 3) := by decide +kernel
theorem dX7_lays_92 : decode cX7_lays 92 = .ok (.aload_n 0, 1) := by decide +kernel
theorem dX7_lays_93 : decode cX7_lays 93 = .ok (.getfield 86, 3) := by decide +kernel
theorem dX7_lays_96 : decode cX7_lays 96 = .ok (.aload_n 0, 1) := by decide +kernel
theorem dX7_lays_97 : decode cX7_lays 97 = .ok (.getfield 162, 3) := by decide +kernel
theorem dX7_lays_100 : decode cX7_lays 100 = .ok (.aload_n 0, 1) := by decide +kernel
theorem dX7_lays_101 : decode cX7_lays 101 = .ok (.getfield 165, 3) := by decide +kernel
theorem dX7_lays_104 : decode cX7_lays 104 = .ok (.iastore, 1) := by decide +kernel
theorem dX7_lays_105 : decode cX7_lays 105 = .ok (.return_, 1) := by decide +kernel
theorem dX7_findArticles_0 : decode cX7_findArticles 0 = .ok (.aload_n 0, 1) := by decide +kernel
theorem dX7_findArticles_1 : decode cX7_findArticles 1 = .ok (.invokevirtual 159, 3) := by decide +kernel
theorem dX7_findArticles_4 : decode cX7_findArticles 4 = .ok (.iconst 0, 1) := by decide +kernel
theorem dX7_findArticles_5 : decode cX7_findArticles 5 = .ok (.istore_n 1, 1) := by decide +kernel
theorem dX7_findArticles_6 : decode cX7_findArticles 6 = .ok (.iload_n 1, 1) := by decide +kernel
theorem dX7_findArticles_7 : decode cX7_findArticles 7 = .ok (.aload_n 0, 1) := by decide +kernel
theorem dX7_findArticles_8 : decode cX7_findArticles 8 = .ok (.getfield 153, 3) := by decide +kernel
theorem dX7_findArticles_11 : decode cX7_findArticles 11 = .ok (.if_icmp .ge 78, 3) := by decide +kernel
theorem dX7_findArticles_14 : decode cX7_findArticles 14 = .ok (.aload_n 0, 1) := by decide +kernel
theorem dX7_findArticles_15 : decode cX7_findArticles 15 = .ok (.iload_n 1, 1) := by decide +kernel
theorem dX7_findArticles_16 : decode cX7_findArticles 16 = .ok (.invokevirtual 168, 3) := by decide +kernel
theorem dX7_findArticles_19 : decode cX7_findArticles 19 = .ok (.istore_n 2, 1) := by decide +kernel
theorem dX7_findArticles_20 : decode cX7_findArticles 20 = .ok (.aload_n 0, 1) := by decide +kernel
theorem dX7_findArticles_21 : decode cX7_findArticles 21 = .ok (.getfield 73, 3) := by decide +kernel
theorem dX7_findArticles_24 : decode cX7_findArticles 24 = .ok (.iload_n 1, 1) := by decide +kernel
theorem dX7_findArticles_25 : decode cX7_findArticles 25 = .ok (.iload_n 2, 1) := by decide +kernel
theorem dX7_findArticles_26 : decode cX7_findArticles 26 = .ok (.bipush (-9), 2) := by decide +kernel
theorem dX7_findArticles_28 : decode cX7_findArticles 28 = .ok (.if_icmp .eq 7, 3) := by decide +kernel
theorem dX7_findArticles_31 : decode cX7_findArticles 31 = .ok (.iconst 1, 1) := by decide +kernel
theorem dX7_findArticles_32 : decode cX7_findArticles 32 = .ok (.goto 4, 3) := by decide +kernel
theorem dX7_findArticles_35 : decode cX7_findArticles 35 = .ok (.iconst 0, 1) := by decide +kernel
theorem dX7_findArticles_36 : decode cX7_findArticles 36 = .ok (.bastore, 1) := by decide +kernel
theorem dX7_findArticles_37 : decode cX7_findArticles 37 = .ok (.aload_n 0, 1) := by decide +kernel
theorem dX7_findArticles_38 : decode cX7_findArticles 38 = .ok (.getfield 77, 3) := by decide +kernel
theorem dX7_findArticles_41 : decode cX7_findArticles 41 = .ok (.iload_n 1, 1) := by decide +kernel
theorem dX7_findArticles_42 : decode cX7_findArticles 42 = .ok (.iload_n 2, 1) := by decide +kernel
theorem dX7_findArticles_43 : decode cX7_findArticles 43 = .ok (.bipush (-9), 2) := by decide +kernel
theorem dX7_findArticles_45 : decode cX7_findArticles 45 = .ok (.if_icmp .ne 8, 3) := by decide +kernel
theorem dX7_findArticles_48 : decode cX7_findArticles 48 = .ok (.bipush (-9), 2) := by decide +kernel
theorem dX7_findArticles_50 : decode cX7_findArticles 50 = .ok (.goto 8, 3) := by decide +kernel
theorem dX7_findArticles_53 : decode cX7_findArticles 53 = .ok (.aload_n 0, 1) := by decide +kernel
theorem dX7_findArticles_54 : decode cX7_findArticles 54 = .ok (.iload_n 2, 1) := by decide +kernel
theorem dX7_findArticles_55 : decode cX7_findArticles 55 = .ok (.invokevirtual 171, 3) := by decide +kernel
theorem dX7_findArticles_58 : decode cX7_findArticles 58 = .ok (.iastore, 1) := by decide +kernel
theorem dX7_findArticles_59 : decode cX7_findArticles 59 = .ok (.aload_n 0, 1) := by decide +kernel
theorem dX7_findArticles_60 : decode cX7_findArticles 60 = .ok (.getfield 80, 3) := by decide +kernel
theorem dX7_findArticles_63 : decode cX7_findArticles 63 = .ok (.iload_n 1, 1) := by decide +kernel
theorem dX7_findArticles_64 : decode cX7_findArticles 64 = .ok (.bipush (-9), 2) := by decide +kernel
theorem dX7_findArticles_66 : decode cX7_findArticles 66 = .ok (.iastore, 1) := by decide +kernel
theorem dX7_findArticles_67 : decode cX7_findArticles 67 = .ok (.aload_n 0, 1) := by decide +kernel
theorem dX7_findArticles_68 : decode cX7_findArticles 68 = .ok (.getfield 83, 3) := by decide +kernel
theorem dX7_findArticles_71 : decode cX7_findArticles 71 = .ok (.iload_n 1, 1) := by decide +kernel
theorem dX7_findArticles_72 : decode cX7_findArticles 72 = .ok (.bipush (-9), 2) := by decide +kernel
theorem dX7_findArticles_74 : decode cX7_findArticles 74 = .ok (.iastore, 1) := by decide +kernel
theorem dX7_findArticles_75 : decode cX7_findArticles 75 = .ok (.aload_n 0, 1) := by decide +kernel
theorem dX7_findArticles_76 : decode cX7_findArticles 76 = .ok (.getfield 95, 3) := by decide +kernel
theorem dX7_findArticles_79 : decode cX7_findArticles 79 = .ok (.iload_n 1, 1) := by decide +kernel
theorem dX7_findArticles_80 : decode cX7_findArticles 80 = .ok (.bipush (-9), 2) := by decide +kernel
theorem dX7_findArticles_82 : decode cX7_findArticles 82 = .ok (.iastore, 1) := by decide +kernel
theorem dX7_findArticles_83 : decode cX7_findArticles 83 = .ok (.iinc 1 1, 3) := by decide +kernel
theorem dX7_findArticles_86 : decode cX7_findArticles 86 = .ok (.goto (-80), 3) := by decide +kernel
theorem dX7_findArticles_89 : decode cX7_findArticles 89 = .ok (.iconst 0, 1) := by decide +kernel
theorem dX7_findArticles_90 : decode cX7_findArticles 90 = .ok (.istore_n 1, 1) := by decide +kernel
theorem dX7_findArticles_91 : decode cX7_findArticles 91 = .ok (.iload_n 1, 1) := by decide +kernel
theorem dX7_findArticles_92 : decode cX7_findArticles 92 = .ok (.aload_n 0, 1) := by decide +kernel
theorem dX7_findArticles_93 : decode cX7_findArticles 93 = .ok (.getfield 153, 3) := by decide +kernel
theorem dX7_findArticles_96 : decode cX7_findArticles 96 = .ok (.if_icmp .ge 52, 3) := by decide +kernel
theorem dX7_findArticles_99 : decode cX7_findArticles 99 = .ok (.aload_n 0, 1) := by decide +kernel
theorem dX7_findArticles_100 : decode cX7_findArticles 100 = .ok (.getfield 77, 3) := by decide +kernel
theorem dX7_findArticles_103 : decode cX7_findArticles 103 = .ok (.iload_n 1, 1) := by decide +kernel
theorem dX7_findArticles_104 : decode cX7_findArticles 104 = .ok (.iaload, 1) := by decide +kernel
theorem dX7_findArticles_105 : decode cX7_findArticles 105 = .ok (.istore_n 2, 1) := by decide +kernel
theorem dX7_findArticles_106 : decode cX7_findArticles 106 = .ok (.iload_n 2, 1) := by decide +kernel
theorem dX7_findArticles_107 : decode cX7_findArticles 107 = .ok (.bipush (-9), 2) := by decide +kernel
theorem dX7_findArticles_109 : decode cX7_findArticles 109 = .ok (.if_icmp .eq 33, 3) := by decide +kernel
theorem dX7_findArticles_112 : decode cX7_findArticles 112 = .ok (.iload_n 2, 1) := by decide +kernel
theorem dX7_findArticles_113 : decode cX7_findArticles 113 = .ok (.iload_n 1, 1) := by decide +kernel
theorem dX7_findArticles_114 : decode cX7_findArticles 114 = .ok (.if_icmp .eq 28, 3) := by decide +kernel
theorem dX7_findArticles_117 : decode cX7_findArticles 117 = .ok (.aload_n 0, 1) := by decide +kernel
theorem dX7_findArticles_118 : decode cX7_findArticles 118 = .ok (.getfield 83, 3) := by decide +kernel
theorem dX7_findArticles_121 : decode cX7_findArticles 121 = .ok (.iload_n 2, 1) := by decide +kernel
theorem dX7_findArticles_122 : decode cX7_findArticles 122 = .ok (.iaload, 1) := by decide +kernel
theorem dX7_findArticles_123 : decode cX7_findArticles 123 = .ok (.bipush (-9), 2) := by decide +kernel
theorem dX7_findArticles_125 : decode cX7_findArticles 125 = .ok (.if_icmp .ne 17, 3) := by decide +kernel
theorem dX7_findArticles_128 : decode cX7_findArticles 128 = .ok (.aload_n 0, 1) := by decide +kernel
theorem dX7_findArticles_129 : decode cX7_findArticles 129 = .ok (.getfield 83, 3) := by decide +kernel
theorem dX7_findArticles_132 : decode cX7_findArticles 132 = .ok (.iload_n 2, 1) := by decide +kernel
theorem dX7_findArticles_133 : decode cX7_findArticles 133 = .ok (.iload_n 1, 1) := by decide +kernel
theorem dX7_findArticles_134 : decode cX7_findArticles 134 = .ok (.iastore, 1) := by decide +kernel
theorem dX7_findArticles_135 : decode cX7_findArticles 135 = .ok (.aload_n 0, 1) := by decide +kernel
theorem dX7_findArticles_136 : decode cX7_findArticles 136 = .ok (.getfield 80, 3) := by decide +kernel
theorem dX7_findArticles_139 : decode cX7_findArticles 139 = .ok (.iload_n 1, 1) := by decide +kernel
theorem dX7_findArticles_140 : decode cX7_findArticles 140 = .ok (.iload_n 2, 1) := by decide +kernel
theorem dX7_findArticles_141 : decode cX7_findArticles 141 = .ok (.iastore, 1) := by decide +kernel
theorem dX7_findArticles_142 : decode cX7_findArticles 142 = .ok (.iinc 1 1, 3) := by decide +kernel
theorem dX7_findArticles_145 : decode cX7_findArticles 145 = .ok (.goto (-54), 3) := by decide +kernel
theorem dX7_findArticles_148 : decode cX7_findArticles 148 = .ok (.aload_n 0, 1) := by decide +kernel
theorem dX7_findArticles_149 : decode cX7_findArticles 149 = .ok (.iconst 0, 1) := by decide +kernel
theorem dX7_findArticles_150 : decode cX7_findArticles 150 = .ok (.putfield 162, 3) := by decide +kernel
theorem dX7_findArticles_153 : decode cX7_findArticles 153 = .ok (.aload_n 0, 1) := by decide +kernel
theorem dX7_findArticles_154 : decode cX7_findArticles 154 = .ok (.iconst 0, 1) := by decide +kernel
theorem dX7_findArticles_155 : decode cX7_findArticles 155 = .ok (.putfield 165, 3) := by decide +kernel
theorem dX7_findArticles_158 : decode cX7_findArticles 158 = .ok (.iconst 0, 1) := by decide +kernel
theorem dX7_findArticles_159 : decode cX7_findArticles 159 = .ok (.istore_n 1, 1) := by decide +kernel
theorem dX7_findArticles_160 : decode cX7_findArticles 160 = .ok (.iload_n 1, 1) := by decide +kernel
theorem dX7_findArticles_161 : decode cX7_findArticles 161 = .ok (.aload_n 0, 1) := by decide +kernel
theorem dX7_findArticles_162 : decode cX7_findArticles 162 = .ok (.getfield 153, 3) := by decide +kernel
theorem dX7_findArticles_165 : decode cX7_findArticles 165 = .ok (.if_icmp .ge 26, 3) := by decide +kernel
theorem dX7_findArticles_168 : decode cX7_findArticles 168 = .ok (.aload_n 0, 1) := by decide +kernel
theorem dX7_findArticles_169 : decode cX7_findArticles 169 = .ok (.getfield 83, 3) := by decide +kernel
theorem dX7_findArticles_172 : decode cX7_findArticles 172 = .ok (.iload_n 1, 1) := by decide +kernel
theorem dX7_findArticles_173 : decode cX7_findArticles 173 = .ok (.iaload, 1) := by decide +kernel
theorem dX7_findArticles_174 : decode cX7_findArticles 174 = .ok (.bipush (-9), 2) := by decide +kernel
theorem dX7_findArticles_176 : decode cX7_findArticles 176 = .ok (.if_icmp .ne 9, 3) := by decide +kernel
theorem dX7_findArticles_179 : decode cX7_findArticles 179 = .ok (.aload_n 0, 1) := by decide +kernel
theorem dX7_findArticles_180 : decode cX7_findArticles 180 = .ok (.iload_n 1, 1) := by decide +kernel
theorem dX7_findArticles_181 : decode cX7_findArticles 181 = .ok (.iconst 0, 1) := by decide +kernel
theorem dX7_findArticles_182 : decode cX7_findArticles 182 = .ok (.invokevirtual 174, 3) := by decide +kernel
theorem dX7_findArticles_185 : decode cX7_findArticles 185 = .ok (.iinc 1 1, 3) := by decide +kernel
theorem dX7_findArticles_188 : decode cX7_findArticles 188 = .ok (.goto (-28), 3) := by decide +kernel
theorem dX7_findArticles_191 : decode cX7_findArticles 191 = .ok (.iconst 0, 1) := by decide +kernel
theorem dX7_findArticles_192 : decode cX7_findArticles 192 = .ok (.istore_n 1, 1) := by decide +kernel
theorem dX7_findArticles_193 : decode cX7_findArticles 193 = .ok (.iload_n 1, 1) := by decide +kernel
theorem dX7_findArticles_194 : decode cX7_findArticles 194 = .ok (.aload_n 0, 1) := by decide +kernel
theorem dX7_findArticles_195 : decode cX7_findArticles 195 = .ok (.getfield 153, 3) := by decide +kernel
theorem dX7_findArticles_198 : decode cX7_findArticles 198 = .ok (.if_icmp .ge 26, 3) := by decide +kernel
theorem dX7_findArticles_201 : decode cX7_findArticles 201 = .ok (.aload_n 0, 1) := by decide +kernel
theorem dX7_findArticles_202 : decode cX7_findArticles 202 = .ok (.getfield 95, 3) := by decide +kernel
theorem dX7_findArticles_205 : decode cX7_findArticles 205 = .ok (.iload_n 1, 1) := by decide +kernel
theorem dX7_findArticles_206 : decode cX7_findArticles 206 = .ok (.iaload, 1) := by decide +kernel
theorem dX7_findArticles_207 : decode cX7_findArticles 207 = .ok (.bipush (-9), 2) := by decide +kernel
theorem dX7_findArticles_209 : decode cX7_findArticles 209 = .ok (.if_icmp .ne 9, 3) := by decide +kernel
theorem dX7_findArticles_212 : decode cX7_findArticles 212 = .ok (.aload_n 0, 1) := by decide +kernel
theorem dX7_findArticles_213 : decode cX7_findArticles 213 = .ok (.iload_n 1, 1) := by decide +kernel
theorem dX7_findArticles_214 : decode cX7_findArticles 214 = .ok (.iconst 1, 1) := by decide +kernel
theorem dX7_findArticles_215 : decode cX7_findArticles 215 = .ok (.invokevirtual 174, 3) := by decide +kernel
theorem dX7_findArticles_218 : decode cX7_findArticles 218 = .ok (.iinc 1 1, 3) := by decide +kernel
theorem dX7_findArticles_221 : decode cX7_findArticles 221 = .ok (.goto (-28), 3) := by decide +kernel
theorem dX7_findArticles_224 : decode cX7_findArticles 224 = .ok (.return_, 1) := by decide +kernel
theorem dX7_isBroken_0 : decode cX7_isBroken 0 = .ok (.aload_n 0, 1) := by decide +kernel
theorem dX7_isBroken_1 : decode cX7_isBroken 1 = .ok (.getfield 73, 3) := by decide +kernel
theorem dX7_isBroken_4 : decode cX7_isBroken 4 = .ok (.iload_n 1, 1) := by decide +kernel
theorem dX7_isBroken_5 : decode cX7_isBroken 5 = .ok (.baload, 1) := by decide +kernel
theorem dX7_isBroken_6 : decode cX7_isBroken 6 = .ok (.ifCond .eq 18, 3) := by decide +kernel
theorem dX7_isBroken_9 : decode cX7_isBroken 9 = .ok (.aload_n 0, 1) := by decide +kernel
theorem dX7_isBroken_10 : decode cX7_isBroken 10 = .ok (.getfield 80, 3) := by decide +kernel
theorem dX7_isBroken_13 : decode cX7_isBroken 13 = .ok (.iload_n 1, 1) := by decide +kernel
theorem dX7_isBroken_14 : decode cX7_isBroken 14 = .ok (.iaload, 1) := by decide +kernel
theorem dX7_isBroken_15 : decode cX7_isBroken 15 = .ok (.bipush (-9), 2) := by decide +kernel
theorem dX7_isBroken_17 : decode cX7_isBroken 17 = .ok (.if_icmp .ne 7, 3) := by decide +kernel
theorem dX7_isBroken_20 : decode cX7_isBroken 20 = .ok (.iconst 1, 1) := by decide +kernel
theorem dX7_isBroken_21 : decode cX7_isBroken 21 = .ok (.goto 4, 3) := by decide +kernel
theorem dX7_isBroken_24 : decode cX7_isBroken 24 = .ok (.iconst 0, 1) := by decide +kernel
theorem dX7_isBroken_25 : decode cX7_isBroken 25 = .ok (.ireturn, 1) := by decide +kernel
theorem dX7_wordsIn_0 : decode cX7_wordsIn 0 = .ok (.aload_n 0, 1) := by decide +kernel
theorem dX7_wordsIn_1 : decode cX7_wordsIn 1 = .ok (.getfield 67, 3) := by decide +kernel
theorem dX7_wordsIn_4 : decode cX7_wordsIn 4 = .ok (.iload_n 1, 1) := by decide +kernel
theorem dX7_wordsIn_5 : decode cX7_wordsIn 5 = .ok (.iaload, 1) := by decide +kernel
theorem dX7_wordsIn_6 : decode cX7_wordsIn 6 = .ok (.istore_n 2, 1) := by decide +kernel
theorem dX7_wordsIn_7 : decode cX7_wordsIn 7 = .ok (.iconst 0, 1) := by decide +kernel
theorem dX7_wordsIn_8 : decode cX7_wordsIn 8 = .ok (.istore_n 3, 1) := by decide +kernel
theorem dX7_wordsIn_9 : decode cX7_wordsIn 9 = .ok (.iconst 0, 1) := by decide +kernel
theorem dX7_wordsIn_10 : decode cX7_wordsIn 10 = .ok (.istore 4, 2) := by decide +kernel
theorem dX7_wordsIn_12 : decode cX7_wordsIn 12 = .ok (.iload 4, 2) := by decide +kernel
theorem dX7_wordsIn_14 : decode cX7_wordsIn 14 = .ok (.aload_n 0, 1) := by decide +kernel
theorem dX7_wordsIn_15 : decode cX7_wordsIn 15 = .ok (.getfield 61, 3) := by decide +kernel
theorem dX7_wordsIn_18 : decode cX7_wordsIn 18 = .ok (.iload_n 2, 1) := by decide +kernel
theorem dX7_wordsIn_19 : decode cX7_wordsIn 19 = .ok (.iaload, 1) := by decide +kernel
theorem dX7_wordsIn_20 : decode cX7_wordsIn 20 = .ok (.if_icmp .ge 29, 3) := by decide +kernel
theorem dX7_wordsIn_23 : decode cX7_wordsIn 23 = .ok (.iload_n 3, 1) := by decide +kernel
theorem dX7_wordsIn_24 : decode cX7_wordsIn 24 = .ok (.aload_n 0, 1) := by decide +kernel
theorem dX7_wordsIn_25 : decode cX7_wordsIn 25 = .ok (.getfield 28, 3) := by decide +kernel
theorem dX7_wordsIn_28 : decode cX7_wordsIn 28 = .ok (.aload_n 0, 1) := by decide +kernel
theorem dX7_wordsIn_29 : decode cX7_wordsIn 29 = .ok (.getfield 64, 3) := by decide +kernel
theorem dX7_wordsIn_32 : decode cX7_wordsIn 32 = .ok (.bipush 24, 2) := by decide +kernel
theorem dX7_wordsIn_34 : decode cX7_wordsIn 34 = .ok (.iload_n 2, 1) := by decide +kernel
theorem dX7_wordsIn_35 : decode cX7_wordsIn 35 = .ok (.imul, 1) := by decide +kernel
theorem dX7_wordsIn_36 : decode cX7_wordsIn 36 = .ok (.iload 4, 2) := by decide +kernel
theorem dX7_wordsIn_38 : decode cX7_wordsIn 38 = .ok (.iadd, 1) := by decide +kernel
theorem dX7_wordsIn_39 : decode cX7_wordsIn 39 = .ok (.iaload, 1) := by decide +kernel
theorem dX7_wordsIn_40 : decode cX7_wordsIn 40 = .ok (.iaload, 1) := by decide +kernel
theorem dX7_wordsIn_41 : decode cX7_wordsIn 41 = .ok (.iadd, 1) := by decide +kernel
theorem dX7_wordsIn_42 : decode cX7_wordsIn 42 = .ok (.istore_n 3, 1) := by decide +kernel
theorem dX7_wordsIn_43 : decode cX7_wordsIn 43 = .ok (.iinc 4 1, 3) := by decide +kernel
theorem dX7_wordsIn_46 : decode cX7_wordsIn 46 = .ok (.goto (-34), 3) := by decide +kernel
theorem dX7_wordsIn_49 : decode cX7_wordsIn 49 = .ok (.iload_n 3, 1) := by decide +kernel
theorem dX7_wordsIn_50 : decode cX7_wordsIn 50 = .ok (.ireturn, 1) := by decide +kernel
theorem dX7_manyIn_0 : decode cX7_manyIn 0 = .ok (.iconst 0, 1) := by decide +kernel
theorem dX7_manyIn_1 : decode cX7_manyIn 1 = .ok (.istore_n 3, 1) := by decide +kernel
theorem dX7_manyIn_2 : decode cX7_manyIn 2 = .ok (.iconst 0, 1) := by decide +kernel
theorem dX7_manyIn_3 : decode cX7_manyIn 3 = .ok (.istore 4, 2) := by decide +kernel
theorem dX7_manyIn_5 : decode cX7_manyIn 5 = .ok (.iload 4, 2) := by decide +kernel
theorem dX7_manyIn_7 : decode cX7_manyIn 7 = .ok (.aload_n 0, 1) := by decide +kernel
theorem dX7_manyIn_8 : decode cX7_manyIn 8 = .ok (.getfield 98, 3) := by decide +kernel
theorem dX7_manyIn_11 : decode cX7_manyIn 11 = .ok (.if_icmp .ge 75, 3) := by decide +kernel
theorem dX7_manyIn_14 : decode cX7_manyIn 14 = .ok (.iload_n 2, 1) := by decide +kernel
theorem dX7_manyIn_15 : decode cX7_manyIn 15 = .ok (.ifCond .eq 22, 3) := by decide +kernel
theorem dX7_manyIn_18 : decode cX7_manyIn 18 = .ok (.aload_n 0, 1) := by decide +kernel
theorem dX7_manyIn_19 : decode cX7_manyIn 19 = .ok (.getfield 13, 3) := by decide +kernel
theorem dX7_manyIn_22 : decode cX7_manyIn 22 = .ok (.iload 4, 2) := by decide +kernel
theorem dX7_manyIn_24 : decode cX7_manyIn 24 = .ok (.iaload, 1) := by decide +kernel
theorem dX7_manyIn_25 : decode cX7_manyIn 25 = .ok (.iconst 2, 1) := by decide +kernel
theorem dX7_manyIn_26 : decode cX7_manyIn 26 = .ok (.if_icmp .ne 7, 3) := by decide +kernel
theorem dX7_manyIn_29 : decode cX7_manyIn 29 = .ok (.iconst 1, 1) := by decide +kernel
theorem dX7_manyIn_30 : decode cX7_manyIn 30 = .ok (.goto 24, 3) := by decide +kernel
theorem dX7_manyIn_33 : decode cX7_manyIn 33 = .ok (.iconst 0, 1) := by decide +kernel
theorem dX7_manyIn_34 : decode cX7_manyIn 34 = .ok (.goto 20, 3) := by decide +kernel
theorem dX7_manyIn_37 : decode cX7_manyIn 37 = .ok (.aload_n 0, 1) := by decide +kernel
theorem dX7_manyIn_38 : decode cX7_manyIn 38 = .ok (.getfield 58, 3) := by decide +kernel
theorem dX7_manyIn_41 : decode cX7_manyIn 41 = .ok (.iload 4, 2) := by decide +kernel
theorem dX7_manyIn_43 : decode cX7_manyIn 43 = .ok (.iaload, 1) := by decide +kernel
theorem dX7_manyIn_44 : decode cX7_manyIn 44 = .ok (.bipush (-9), 2) := by decide +kernel
theorem dX7_manyIn_46 : decode cX7_manyIn 46 = .ok (.if_icmp .eq 7, 3) := by decide +kernel
theorem dX7_manyIn_49 : decode cX7_manyIn 49 = .ok (.iconst 1, 1) := by decide +kernel
theorem dX7_manyIn_50 : decode cX7_manyIn 50 = .ok (.goto 4, 3) := by decide +kernel
theorem dX7_manyIn_53 : decode cX7_manyIn 53 = .ok (.iconst 0, 1) := by decide +kernel
theorem dX7_manyIn_54 : decode cX7_manyIn 54 = .ok (.istore 5, 2) := by decide +kernel
theorem dX7_manyIn_56 : decode cX7_manyIn 56 = .ok (.iload_n 3, 1) := by decide +kernel
theorem dX7_manyIn_57 : decode cX7_manyIn 57 = .ok (.iload 5, 2) := by decide +kernel
theorem dX7_manyIn_59 : decode cX7_manyIn 59 = .ok (.ifCond .eq 18, 3) := by decide +kernel
theorem dX7_manyIn_62 : decode cX7_manyIn 62 = .ok (.aload_n 0, 1) := by decide +kernel
theorem dX7_manyIn_63 : decode cX7_manyIn 63 = .ok (.getfield 70, 3) := by decide +kernel
theorem dX7_manyIn_66 : decode cX7_manyIn 66 = .ok (.iload 4, 2) := by decide +kernel
theorem dX7_manyIn_68 : decode cX7_manyIn 68 = .ok (.iaload, 1) := by decide +kernel
theorem dX7_manyIn_69 : decode cX7_manyIn 69 = .ok (.iload_n 1, 1) := by decide +kernel
theorem dX7_manyIn_70 : decode cX7_manyIn 70 = .ok (.if_icmp .ne 7, 3) := by decide +kernel
theorem dX7_manyIn_73 : decode cX7_manyIn 73 = .ok (.iconst 1, 1) := by decide +kernel
theorem dX7_manyIn_74 : decode cX7_manyIn 74 = .ok (.goto 4, 3) := by decide +kernel
theorem dX7_manyIn_77 : decode cX7_manyIn 77 = .ok (.iconst 0, 1) := by decide +kernel
theorem dX7_manyIn_78 : decode cX7_manyIn 78 = .ok (.iadd, 1) := by decide +kernel
theorem dX7_manyIn_79 : decode cX7_manyIn 79 = .ok (.istore_n 3, 1) := by decide +kernel
theorem dX7_manyIn_80 : decode cX7_manyIn 80 = .ok (.iinc 4 1, 3) := by decide +kernel
theorem dX7_manyIn_83 : decode cX7_manyIn 83 = .ok (.goto (-78), 3) := by decide +kernel
theorem dX7_manyIn_86 : decode cX7_manyIn 86 = .ok (.iload_n 3, 1) := by decide +kernel
theorem dX7_manyIn_87 : decode cX7_manyIn 87 = .ok (.ireturn, 1) := by decide +kernel
theorem dX7_isStory_0 : decode cX7_isStory 0 = .ok (.aload_n 0, 1) := by decide +kernel
theorem dX7_isStory_1 : decode cX7_isStory 1 = .ok (.invokevirtual 178, 3) := by decide +kernel
theorem dX7_isStory_4 : decode cX7_isStory 4 = .ok (.iload_n 1, 1) := by decide +kernel
theorem dX7_isStory_5 : decode cX7_isStory 5 = .ok (.iconst 0, 1) := by decide +kernel
theorem dX7_isStory_6 : decode cX7_isStory 6 = .ok (.aload_n 0, 1) := by decide +kernel
theorem dX7_isStory_7 : decode cX7_isStory 7 = .ok (.getfield 153, 3) := by decide +kernel
theorem dX7_isStory_10 : decode cX7_isStory 10 = .ok (.iconst 1, 1) := by decide +kernel
theorem dX7_isStory_11 : decode cX7_isStory 11 = .ok (.isub, 1) := by decide +kernel
theorem dX7_isStory_12 : decode cX7_isStory 12 = .ok (.invokestatic 102, 3) := by decide +kernel
theorem dX7_isStory_15 : decode cX7_isStory 15 = .ok (.ireturn, 1) := by decide +kernel
theorem dX7_ofStory_0 : decode cX7_ofStory 0 = .ok (.aload_n 0, 1) := by decide +kernel
theorem dX7_ofStory_1 : decode cX7_ofStory 1 = .ok (.iload_n 1, 1) := by decide +kernel
theorem dX7_ofStory_2 : decode cX7_ofStory 2 = .ok (.invokevirtual 181, 3) := by decide +kernel
theorem dX7_ofStory_5 : decode cX7_ofStory 5 = .ok (.ifCond .ne 5, 3) := by decide +kernel
theorem dX7_ofStory_8 : decode cX7_ofStory 8 = .ok (.iconst (-1), 1) := by decide +kernel
theorem dX7_ofStory_9 : decode cX7_ofStory 9 = .ok (.ireturn, 1) := by decide +kernel
theorem dX7_ofStory_10 : decode cX7_ofStory 10 = .ok (.aload_n 0, 1) := by decide +kernel
theorem dX7_ofStory_11 : decode cX7_ofStory 11 = .ok (.getfield 67, 3) := by decide +kernel
theorem dX7_ofStory_14 : decode cX7_ofStory 14 = .ok (.iload_n 1, 1) := by decide +kernel
theorem dX7_ofStory_15 : decode cX7_ofStory 15 = .ok (.iaload, 1) := by decide +kernel
theorem dX7_ofStory_16 : decode cX7_ofStory 16 = .ok (.istore_n 3, 1) := by decide +kernel
theorem dX7_ofStory_17 : decode cX7_ofStory 17 = .ok (.iload_n 2, 1) := by decide +kernel
theorem dX7_ofStory_18 : decode cX7_ofStory 18 = .ok (.tableswitch 128 0 8 #[50, 66, 73, 79, 86, 93, 100, 107, 114], 50) := by decide +kernel
theorem dX7_ofStory_68 : decode cX7_ofStory 68 = .ok (.aload_n 0, 1) := by decide +kernel
theorem dX7_ofStory_69 : decode cX7_ofStory 69 = .ok (.getfield 13, 3) := by decide +kernel
theorem dX7_ofStory_72 : decode cX7_ofStory 72 = .ok (.iload_n 3, 1) := by decide +kernel
theorem dX7_ofStory_73 : decode cX7_ofStory 73 = .ok (.iaload, 1) := by decide +kernel
theorem dX7_ofStory_74 : decode cX7_ofStory 74 = .ok (.ifCond .ne 7, 3) := by decide +kernel
theorem dX7_ofStory_77 : decode cX7_ofStory 77 = .ok (.iload_n 3, 1) := by decide +kernel
theorem dX7_ofStory_78 : decode cX7_ofStory 78 = .ok (.goto 5, 3) := by decide +kernel
theorem dX7_ofStory_81 : decode cX7_ofStory 81 = .ok (.bipush (-9), 2) := by decide +kernel
theorem dX7_ofStory_83 : decode cX7_ofStory 83 = .ok (.ireturn, 1) := by decide +kernel
theorem dX7_ofStory_84 : decode cX7_ofStory 84 = .ok (.aload_n 0, 1) := by decide +kernel
theorem dX7_ofStory_85 : decode cX7_ofStory 85 = .ok (.getfield 61, 3) := by decide +kernel
theorem dX7_ofStory_88 : decode cX7_ofStory 88 = .ok (.iload_n 3, 1) := by decide +kernel
theorem dX7_ofStory_89 : decode cX7_ofStory 89 = .ok (.iaload, 1) := by decide +kernel
theorem dX7_ofStory_90 : decode cX7_ofStory 90 = .ok (.ireturn, 1) := by decide +kernel
theorem dX7_ofStory_91 : decode cX7_ofStory 91 = .ok (.aload_n 0, 1) := by decide +kernel
theorem dX7_ofStory_92 : decode cX7_ofStory 92 = .ok (.iload_n 1, 1) := by decide +kernel
theorem dX7_ofStory_93 : decode cX7_ofStory 93 = .ok (.invokevirtual 184, 3) := by decide +kernel
theorem dX7_ofStory_96 : decode cX7_ofStory 96 = .ok (.ireturn, 1) := by decide +kernel
theorem dX7_ofStory_97 : decode cX7_ofStory 97 = .ok (.aload_n 0, 1) := by decide +kernel
theorem dX7_ofStory_98 : decode cX7_ofStory 98 = .ok (.iload_n 1, 1) := by decide +kernel
theorem dX7_ofStory_99 : decode cX7_ofStory 99 = .ok (.iconst 1, 1) := by decide +kernel
theorem dX7_ofStory_100 : decode cX7_ofStory 100 = .ok (.invokevirtual 187, 3) := by decide +kernel
theorem dX7_ofStory_103 : decode cX7_ofStory 103 = .ok (.ireturn, 1) := by decide +kernel
theorem dX7_ofStory_104 : decode cX7_ofStory 104 = .ok (.aload_n 0, 1) := by decide +kernel
theorem dX7_ofStory_105 : decode cX7_ofStory 105 = .ok (.iload_n 1, 1) := by decide +kernel
theorem dX7_ofStory_106 : decode cX7_ofStory 106 = .ok (.iconst 0, 1) := by decide +kernel
theorem dX7_ofStory_107 : decode cX7_ofStory 107 = .ok (.invokevirtual 187, 3) := by decide +kernel
theorem dX7_ofStory_110 : decode cX7_ofStory 110 = .ok (.ireturn, 1) := by decide +kernel
theorem dX7_ofStory_111 : decode cX7_ofStory 111 = .ok (.aload_n 0, 1) := by decide +kernel
theorem dX7_ofStory_112 : decode cX7_ofStory 112 = .ok (.getfield 80, 3) := by decide +kernel
theorem dX7_ofStory_115 : decode cX7_ofStory 115 = .ok (.iload_n 1, 1) := by decide +kernel
theorem dX7_ofStory_116 : decode cX7_ofStory 116 = .ok (.iaload, 1) := by decide +kernel
theorem dX7_ofStory_117 : decode cX7_ofStory 117 = .ok (.ireturn, 1) := by decide +kernel
theorem dX7_ofStory_118 : decode cX7_ofStory 118 = .ok (.aload_n 0, 1) := by decide +kernel
theorem dX7_ofStory_119 : decode cX7_ofStory 119 = .ok (.getfield 83, 3) := by decide +kernel
theorem dX7_ofStory_122 : decode cX7_ofStory 122 = .ok (.iload_n 1, 1) := by decide +kernel
theorem dX7_ofStory_123 : decode cX7_ofStory 123 = .ok (.iaload, 1) := by decide +kernel
theorem dX7_ofStory_124 : decode cX7_ofStory 124 = .ok (.ireturn, 1) := by decide +kernel
theorem dX7_ofStory_125 : decode cX7_ofStory 125 = .ok (.aload_n 0, 1) := by decide +kernel
theorem dX7_ofStory_126 : decode cX7_ofStory 126 = .ok (.getfield 95, 3) := by decide +kernel
theorem dX7_ofStory_129 : decode cX7_ofStory 129 = .ok (.iload_n 1, 1) := by decide +kernel
theorem dX7_ofStory_130 : decode cX7_ofStory 130 = .ok (.iaload, 1) := by decide +kernel
theorem dX7_ofStory_131 : decode cX7_ofStory 131 = .ok (.ireturn, 1) := by decide +kernel
theorem dX7_ofStory_132 : decode cX7_ofStory 132 = .ok (.aload_n 0, 1) := by decide +kernel
theorem dX7_ofStory_133 : decode cX7_ofStory 133 = .ok (.iload_n 1, 1) := by decide +kernel
theorem dX7_ofStory_134 : decode cX7_ofStory 134 = .ok (.invokevirtual 191, 3) := by decide +kernel
theorem dX7_ofStory_137 : decode cX7_ofStory 137 = .ok (.ifCond .eq 7, 3) := by decide +kernel
theorem dX7_ofStory_140 : decode cX7_ofStory 140 = .ok (.iconst 1, 1) := by decide +kernel
theorem dX7_ofStory_141 : decode cX7_ofStory 141 = .ok (.goto 4, 3) := by decide +kernel
theorem dX7_ofStory_144 : decode cX7_ofStory 144 = .ok (.iconst 0, 1) := by decide +kernel
theorem dX7_ofStory_145 : decode cX7_ofStory 145 = .ok (.ireturn, 1) := by decide +kernel
theorem dX7_ofStory_146 : decode cX7_ofStory 146 = .ok (.bipush (-2), 2) := by decide +kernel
theorem dX7_ofStory_148 : decode cX7_ofStory 148 = .ok (.ireturn, 1) := by decide +kernel
theorem dX7_text_0 : decode cX7_text 0 = .ok (.aload_n 0, 1) := by decide +kernel
theorem dX7_text_1 : decode cX7_text 1 = .ok (.iload_n 1, 1) := by decide +kernel
theorem dX7_text_2 : decode cX7_text 2 = .ok (.invokevirtual 181, 3) := by decide +kernel
theorem dX7_text_5 : decode cX7_text 5 = .ok (.ifCond .ne 5, 3) := by decide +kernel
theorem dX7_text_8 : decode cX7_text 8 = .ok (.iconst (-1), 1) := by decide +kernel
theorem dX7_text_9 : decode cX7_text 9 = .ok (.ireturn, 1) := by decide +kernel
theorem dX7_text_10 : decode cX7_text 10 = .ok (.iload_n 2, 1) := by decide +kernel
theorem dX7_text_11 : decode cX7_text 11 = .ok (.iconst 0, 1) := by decide +kernel
theorem dX7_text_12 : decode cX7_text 12 = .ok (.bipush 23, 2) := by decide +kernel
theorem dX7_text_14 : decode cX7_text 14 = .ok (.invokestatic 102, 3) := by decide +kernel
theorem dX7_text_17 : decode cX7_text 17 = .ok (.ifCond .ne 6, 3) := by decide +kernel
theorem dX7_text_20 : decode cX7_text 20 = .ok (.bipush (-2), 2) := by decide +kernel
theorem dX7_text_22 : decode cX7_text 22 = .ok (.ireturn, 1) := by decide +kernel
theorem dX7_text_23 : decode cX7_text 23 = .ok (.aload_n 0, 1) := by decide +kernel
theorem dX7_text_24 : decode cX7_text 24 = .ok (.getfield 67, 3) := by decide +kernel
theorem dX7_text_27 : decode cX7_text 27 = .ok (.iload_n 1, 1) := by decide +kernel
theorem dX7_text_28 : decode cX7_text 28 = .ok (.iaload, 1) := by decide +kernel
theorem dX7_text_29 : decode cX7_text 29 = .ok (.istore_n 3, 1) := by decide +kernel
theorem dX7_text_30 : decode cX7_text 30 = .ok (.iload_n 2, 1) := by decide +kernel
theorem dX7_text_31 : decode cX7_text 31 = .ok (.aload_n 0, 1) := by decide +kernel
theorem dX7_text_32 : decode cX7_text 32 = .ok (.getfield 61, 3) := by decide +kernel
theorem dX7_text_35 : decode cX7_text 35 = .ok (.iload_n 3, 1) := by decide +kernel
theorem dX7_text_36 : decode cX7_text 36 = .ok (.iaload, 1) := by decide +kernel
theorem dX7_text_37 : decode cX7_text 37 = .ok (.if_icmp .ge 17, 3) := by decide +kernel
theorem dX7_text_40 : decode cX7_text 40 = .ok (.aload_n 0, 1) := by decide +kernel
theorem dX7_text_41 : decode cX7_text 41 = .ok (.getfield 64, 3) := by decide +kernel
theorem dX7_text_44 : decode cX7_text 44 = .ok (.bipush 24, 2) := by decide +kernel
theorem dX7_text_46 : decode cX7_text 46 = .ok (.iload_n 3, 1) := by decide +kernel
theorem dX7_text_47 : decode cX7_text 47 = .ok (.imul, 1) := by decide +kernel
theorem dX7_text_48 : decode cX7_text 48 = .ok (.iload_n 2, 1) := by decide +kernel
theorem dX7_text_49 : decode cX7_text 49 = .ok (.iadd, 1) := by decide +kernel
theorem dX7_text_50 : decode cX7_text 50 = .ok (.iaload, 1) := by decide +kernel
theorem dX7_text_51 : decode cX7_text 51 = .ok (.goto 5, 3) := by decide +kernel
theorem dX7_text_54 : decode cX7_text 54 = .ok (.bipush (-9), 2) := by decide +kernel
theorem dX7_text_56 : decode cX7_text 56 = .ok (.ireturn, 1) := by decide +kernel
theorem dX7_isArticle_0 : decode cX7_isArticle 0 = .ok (.aload_n 0, 1) := by decide +kernel
theorem dX7_isArticle_1 : decode cX7_isArticle 1 = .ok (.invokevirtual 178, 3) := by decide +kernel
theorem dX7_isArticle_4 : decode cX7_isArticle 4 = .ok (.iload_n 1, 1) := by decide +kernel
theorem dX7_isArticle_5 : decode cX7_isArticle 5 = .ok (.iconst 0, 1) := by decide +kernel
theorem dX7_isArticle_6 : decode cX7_isArticle 6 = .ok (.aload_n 0, 1) := by decide +kernel
theorem dX7_isArticle_7 : decode cX7_isArticle 7 = .ok (.getfield 162, 3) := by decide +kernel
theorem dX7_isArticle_10 : decode cX7_isArticle 10 = .ok (.iconst 1, 1) := by decide +kernel
theorem dX7_isArticle_11 : decode cX7_isArticle 11 = .ok (.isub, 1) := by decide +kernel
theorem dX7_isArticle_12 : decode cX7_isArticle 12 = .ok (.invokestatic 102, 3) := by decide +kernel
theorem dX7_isArticle_15 : decode cX7_isArticle 15 = .ok (.ireturn, 1) := by decide +kernel
theorem dX7_sumOf_0 : decode cX7_sumOf 0 = .ok (.iconst 0, 1) := by decide +kernel
theorem dX7_sumOf_1 : decode cX7_sumOf 1 = .ok (.istore_n 3, 1) := by decide +kernel
theorem dX7_sumOf_2 : decode cX7_sumOf 2 = .ok (.aload_n 0, 1) := by decide +kernel
theorem dX7_sumOf_3 : decode cX7_sumOf 3 = .ok (.getfield 86, 3) := by decide +kernel
theorem dX7_sumOf_6 : decode cX7_sumOf 6 = .ok (.iload_n 1, 1) := by decide +kernel
theorem dX7_sumOf_7 : decode cX7_sumOf 7 = .ok (.iaload, 1) := by decide +kernel
theorem dX7_sumOf_8 : decode cX7_sumOf 8 = .ok (.istore 4, 2) := by decide +kernel
theorem dX7_sumOf_10 : decode cX7_sumOf 10 = .ok (.iload 4, 2) := by decide +kernel
theorem dX7_sumOf_12 : decode cX7_sumOf 12 = .ok (.aload_n 0, 1) := by decide +kernel
theorem dX7_sumOf_13 : decode cX7_sumOf 13 = .ok (.getfield 86, 3) := by decide +kernel
theorem dX7_sumOf_16 : decode cX7_sumOf 16 = .ok (.iload_n 1, 1) := by decide +kernel
theorem dX7_sumOf_17 : decode cX7_sumOf 17 = .ok (.iconst 1, 1) := by decide +kernel
theorem dX7_sumOf_18 : decode cX7_sumOf 18 = .ok (.iadd, 1) := by decide +kernel
theorem dX7_sumOf_19 : decode cX7_sumOf 19 = .ok (.iaload, 1) := by decide +kernel
theorem dX7_sumOf_20 : decode cX7_sumOf 20 = .ok (.if_icmp .ge 47, 3) := by decide +kernel
theorem dX7_sumOf_23 : decode cX7_sumOf 23 = .ok (.iload_n 3, 1) := by decide +kernel
theorem dX7_sumOf_24 : decode cX7_sumOf 24 = .ok (.iload_n 2, 1) := by decide +kernel
theorem dX7_sumOf_25 : decode cX7_sumOf 25 = .ok (.ifCond .eq 17, 3) := by decide +kernel
theorem dX7_sumOf_28 : decode cX7_sumOf 28 = .ok (.aload_n 0, 1) := by decide +kernel
theorem dX7_sumOf_29 : decode cX7_sumOf 29 = .ok (.aload_n 0, 1) := by decide +kernel
theorem dX7_sumOf_30 : decode cX7_sumOf 30 = .ok (.getfield 92, 3) := by decide +kernel
theorem dX7_sumOf_33 : decode cX7_sumOf 33 = .ok (.iload 4, 2) := by decide +kernel
theorem dX7_sumOf_35 : decode cX7_sumOf 35 = .ok (.iaload, 1) := by decide +kernel
theorem dX7_sumOf_36 : decode cX7_sumOf 36 = .ok (.invokevirtual 184, 3) := by decide +kernel
theorem dX7_sumOf_39 : decode cX7_sumOf 39 = .ok (.goto 20, 3) := by decide +kernel
theorem dX7_sumOf_42 : decode cX7_sumOf 42 = .ok (.aload_n 0, 1) := by decide +kernel
theorem dX7_sumOf_43 : decode cX7_sumOf 43 = .ok (.getfield 61, 3) := by decide +kernel
theorem dX7_sumOf_46 : decode cX7_sumOf 46 = .ok (.aload_n 0, 1) := by decide +kernel
theorem dX7_sumOf_47 : decode cX7_sumOf 47 = .ok (.getfield 67, 3) := by decide +kernel
theorem dX7_sumOf_50 : decode cX7_sumOf 50 = .ok (.aload_n 0, 1) := by decide +kernel
theorem dX7_sumOf_51 : decode cX7_sumOf 51 = .ok (.getfield 92, 3) := by decide +kernel
theorem dX7_sumOf_54 : decode cX7_sumOf 54 = .ok (.iload 4, 2) := by decide +kernel
theorem dX7_sumOf_56 : decode cX7_sumOf 56 = .ok (.iaload, 1) := by decide +kernel
theorem dX7_sumOf_57 : decode cX7_sumOf 57 = .ok (.iaload, 1) := by decide +kernel
theorem dX7_sumOf_58 : decode cX7_sumOf 58 = .ok (.iaload, 1) := by decide +kernel
theorem dX7_sumOf_59 : decode cX7_sumOf 59 = .ok (.iadd, 1) := by decide +kernel
theorem dX7_sumOf_60 : decode cX7_sumOf 60 = .ok (.istore_n 3, 1) := by decide +kernel
theorem dX7_sumOf_61 : decode cX7_sumOf 61 = .ok (.iinc 4 1, 3) := by decide +kernel
theorem dX7_sumOf_64 : decode cX7_sumOf 64 = .ok (.goto (-54), 3) := by decide +kernel
theorem dX7_sumOf_67 : decode cX7_sumOf 67 = .ok (.iload_n 3, 1) := by decide +kernel
theorem dX7_sumOf_68 : decode cX7_sumOf 68 = .ok (.ireturn, 1) := by decide +kernel
theorem dX7_pagesOf_0 : decode cX7_pagesOf 0 = .ok (.iconst 0, 1) := by decide +kernel
theorem dX7_pagesOf_1 : decode cX7_pagesOf 1 = .ok (.istore_n 2, 1) := by decide +kernel
theorem dX7_pagesOf_2 : decode cX7_pagesOf 2 = .ok (.iconst 0, 1) := by decide +kernel
theorem dX7_pagesOf_3 : decode cX7_pagesOf 3 = .ok (.istore_n 3, 1) := by decide +kernel
theorem dX7_pagesOf_4 : decode cX7_pagesOf 4 = .ok (.iload_n 3, 1) := by decide +kernel
theorem dX7_pagesOf_5 : decode cX7_pagesOf 5 = .ok (.aload_n 0, 1) := by decide +kernel
theorem dX7_pagesOf_6 : decode cX7_pagesOf 6 = .ok (.getfield 98, 3) := by decide +kernel
theorem dX7_pagesOf_9 : decode cX7_pagesOf 9 = .ok (.if_icmp .ge 61, 3) := by decide +kernel
theorem dX7_pagesOf_12 : decode cX7_pagesOf 12 = .ok (.aload_n 0, 1) := by decide +kernel
theorem dX7_pagesOf_13 : decode cX7_pagesOf 13 = .ok (.getfield 13, 3) := by decide +kernel
theorem dX7_pagesOf_16 : decode cX7_pagesOf 16 = .ok (.iload_n 3, 1) := by decide +kernel
theorem dX7_pagesOf_17 : decode cX7_pagesOf 17 = .ok (.iaload, 1) := by decide +kernel
theorem dX7_pagesOf_18 : decode cX7_pagesOf 18 = .ok (.iconst 2, 1) := by decide +kernel
theorem dX7_pagesOf_19 : decode cX7_pagesOf 19 = .ok (.if_icmp .eq 22, 3) := by decide +kernel
theorem dX7_pagesOf_22 : decode cX7_pagesOf 22 = .ok (.aload_n 0, 1) := by decide +kernel
theorem dX7_pagesOf_23 : decode cX7_pagesOf 23 = .ok (.getfield 95, 3) := by decide +kernel
theorem dX7_pagesOf_26 : decode cX7_pagesOf 26 = .ok (.aload_n 0, 1) := by decide +kernel
theorem dX7_pagesOf_27 : decode cX7_pagesOf 27 = .ok (.getfield 70, 3) := by decide +kernel
theorem dX7_pagesOf_30 : decode cX7_pagesOf 30 = .ok (.iload_n 3, 1) := by decide +kernel
theorem dX7_pagesOf_31 : decode cX7_pagesOf 31 = .ok (.iaload, 1) := by decide +kernel
theorem dX7_pagesOf_32 : decode cX7_pagesOf 32 = .ok (.iaload, 1) := by decide +kernel
theorem dX7_pagesOf_33 : decode cX7_pagesOf 33 = .ok (.iload_n 1, 1) := by decide +kernel
theorem dX7_pagesOf_34 : decode cX7_pagesOf 34 = .ok (.if_icmp .ne 7, 3) := by decide +kernel
theorem dX7_pagesOf_37 : decode cX7_pagesOf 37 = .ok (.iconst 1, 1) := by decide +kernel
theorem dX7_pagesOf_38 : decode cX7_pagesOf 38 = .ok (.goto 4, 3) := by decide +kernel
theorem dX7_pagesOf_41 : decode cX7_pagesOf 41 = .ok (.iconst 0, 1) := by decide +kernel
theorem dX7_pagesOf_42 : decode cX7_pagesOf 42 = .ok (.istore 4, 2) := by decide +kernel
theorem dX7_pagesOf_44 : decode cX7_pagesOf 44 = .ok (.iload_n 2, 1) := by decide +kernel
theorem dX7_pagesOf_45 : decode cX7_pagesOf 45 = .ok (.iload 4, 2) := by decide +kernel
theorem dX7_pagesOf_47 : decode cX7_pagesOf 47 = .ok (.ifCond .eq 14, 3) := by decide +kernel
theorem dX7_pagesOf_50 : decode cX7_pagesOf 50 = .ok (.iconst 1, 1) := by decide +kernel
theorem dX7_pagesOf_51 : decode cX7_pagesOf 51 = .ok (.aload_n 0, 1) := by decide +kernel
theorem dX7_pagesOf_52 : decode cX7_pagesOf 52 = .ok (.getfield 7, 3) := by decide +kernel
theorem dX7_pagesOf_55 : decode cX7_pagesOf 55 = .ok (.iload_n 3, 1) := by decide +kernel
theorem dX7_pagesOf_56 : decode cX7_pagesOf 56 = .ok (.iaload, 1) := by decide +kernel
theorem dX7_pagesOf_57 : decode cX7_pagesOf 57 = .ok (.ishl, 1) := by decide +kernel
theorem dX7_pagesOf_58 : decode cX7_pagesOf 58 = .ok (.goto 4, 3) := by decide +kernel
theorem dX7_pagesOf_61 : decode cX7_pagesOf 61 = .ok (.iconst 0, 1) := by decide +kernel
theorem dX7_pagesOf_62 : decode cX7_pagesOf 62 = .ok (.ior, 1) := by decide +kernel
theorem dX7_pagesOf_63 : decode cX7_pagesOf 63 = .ok (.istore_n 2, 1) := by decide +kernel
theorem dX7_pagesOf_64 : decode cX7_pagesOf 64 = .ok (.iinc 3 1, 3) := by decide +kernel
theorem dX7_pagesOf_67 : decode cX7_pagesOf 67 = .ok (.goto (-63), 3) := by decide +kernel
theorem dX7_pagesOf_70 : decode cX7_pagesOf 70 = .ok (.iload_n 2, 1) := by decide +kernel
theorem dX7_pagesOf_71 : decode cX7_pagesOf 71 = .ok (.ireturn, 1) := by decide +kernel
theorem dX7_ofArticle_0 : decode cX7_ofArticle 0 = .ok (.aload_n 0, 1) := by decide +kernel
theorem dX7_ofArticle_1 : decode cX7_ofArticle 1 = .ok (.iload_n 1, 1) := by decide +kernel
theorem dX7_ofArticle_2 : decode cX7_ofArticle 2 = .ok (.invokevirtual 194, 3) := by decide +kernel
theorem dX7_ofArticle_5 : decode cX7_ofArticle 5 = .ok (.ifCond .ne 5, 3) := by decide +kernel
theorem dX7_ofArticle_8 : decode cX7_ofArticle 8 = .ok (.iconst (-1), 1) := by decide +kernel
theorem dX7_ofArticle_9 : decode cX7_ofArticle 9 = .ok (.ireturn, 1) := by decide +kernel
theorem dX7_ofArticle_10 : decode cX7_ofArticle 10 = .ok (.iload_n 2, 1) := by decide +kernel
theorem dX7_ofArticle_11 : decode cX7_ofArticle 11 = .ok (.tableswitch 132 0 6 #[41, 53, 69, 76, 83, 89, 104], 41) := by decide +kernel
