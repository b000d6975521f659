theorem dX7_ofArticle_52 : decode cX7_ofArticle 52 = .ok (.aload_n 0, 1) := by decide +kernel
theorem dX7_ofArticle_53 : decode cX7_ofArticle 53 = .ok (.getfield 92, 3) := by decide +kernel
theorem dX7_ofArticle_56 : decode cX7_ofArticle 56 = .ok (.aload_n 0, 1) := by decide +kernel
theorem dX7_ofArticle_57 : decode cX7_ofArticle 57 = .ok (.getfield 86, 3) := by decide +kernel
theorem dX7_ofArticle_60 : decode cX7_ofArticle 60 = .ok (.iload_n 1, 1) := by decide +kernel
theorem dX7_ofArticle_61 : decode cX7_ofArticle 61 = .ok (.iaload, 1) := by decide +kernel
theorem dX7_ofArticle_62 : decode cX7_ofArticle 62 = .ok (.iaload, 1) := by decide +kernel
theorem dX7_ofArticle_63 : decode cX7_ofArticle 63 = .ok (.ireturn, 1) := by decide +kernel
theorem dX7_ofArticle_64 : decode cX7_ofArticle 64 = .ok (.aload_n 0, 1) := by decide +kernel
theorem dX7_ofArticle_65 : decode cX7_ofArticle 65 = .ok (.getfield 86, 3) := by decide +kernel
theorem dX7_ofArticle_68 : decode cX7_ofArticle 68 = .ok (.iload_n 1, 1) := by decide +kernel
theorem dX7_ofArticle_69 : decode cX7_ofArticle 69 = .ok (.iconst 1, 1) := by decide +kernel
theorem dX7_ofArticle_70 : decode cX7_ofArticle 70 = .ok (.iadd, 1) := by decide +kernel
theorem dX7_ofArticle_71 : decode cX7_ofArticle 71 = .ok (.iaload, 1) := by decide +kernel
theorem dX7_ofArticle_72 : decode cX7_ofArticle 72 = .ok (.aload_n 0, 1) := by decide +kernel
theorem dX7_ofArticle_73 : decode cX7_ofArticle 73 = .ok (.getfield 86, 3) := by decide +kernel
theorem dX7_ofArticle_76 : decode cX7_ofArticle 76 = .ok (.iload_n 1, 1) := by decide +kernel
theorem dX7_ofArticle_77 : decode cX7_ofArticle 77 = .ok (.iaload, 1) := by decide +kernel
theorem dX7_ofArticle_78 : decode cX7_ofArticle 78 = .ok (.isub, 1) := by decide +kernel
theorem dX7_ofArticle_79 : decode cX7_ofArticle 79 = .ok (.ireturn, 1) := by decide +kernel
theorem dX7_ofArticle_80 : decode cX7_ofArticle 80 = .ok (.aload_n 0, 1) := by decide +kernel
theorem dX7_ofArticle_81 : decode cX7_ofArticle 81 = .ok (.iload_n 1, 1) := by decide +kernel
theorem dX7_ofArticle_82 : decode cX7_ofArticle 82 = .ok (.iconst 0, 1) := by decide +kernel
theorem dX7_ofArticle_83 : decode cX7_ofArticle 83 = .ok (.invokevirtual 197, 3) := by decide +kernel
theorem dX7_ofArticle_86 : decode cX7_ofArticle 86 = .ok (.ireturn, 1) := by decide +kernel
theorem dX7_ofArticle_87 : decode cX7_ofArticle 87 = .ok (.aload_n 0, 1) := by decide +kernel
theorem dX7_ofArticle_88 : decode cX7_ofArticle 88 = .ok (.iload_n 1, 1) := by decide +kernel
theorem dX7_ofArticle_89 : decode cX7_ofArticle 89 = .ok (.iconst 1, 1) := by decide +kernel
theorem dX7_ofArticle_90 : decode cX7_ofArticle 90 = .ok (.invokevirtual 197, 3) := by decide +kernel
theorem dX7_ofArticle_93 : decode cX7_ofArticle 93 = .ok (.ireturn, 1) := by decide +kernel
theorem dX7_ofArticle_94 : decode cX7_ofArticle 94 = .ok (.aload_n 0, 1) := by decide +kernel
theorem dX7_ofArticle_95 : decode cX7_ofArticle 95 = .ok (.iload_n 1, 1) := by decide +kernel
theorem dX7_ofArticle_96 : decode cX7_ofArticle 96 = .ok (.invokevirtual 200, 3) := by decide +kernel
theorem dX7_ofArticle_99 : decode cX7_ofArticle 99 = .ok (.ireturn, 1) := by decide +kernel
theorem dX7_ofArticle_100 : decode cX7_ofArticle 100 = .ok (.aload_n 0, 1) := by decide +kernel
theorem dX7_ofArticle_101 : decode cX7_ofArticle 101 = .ok (.getfield 89, 3) := by decide +kernel
theorem dX7_ofArticle_104 : decode cX7_ofArticle 104 = .ok (.iload_n 1, 1) := by decide +kernel
theorem dX7_ofArticle_105 : decode cX7_ofArticle 105 = .ok (.baload, 1) := by decide +kernel
theorem dX7_ofArticle_106 : decode cX7_ofArticle 106 = .ok (.ifCond .eq 7, 3) := by decide +kernel
theorem dX7_ofArticle_109 : decode cX7_ofArticle 109 = .ok (.iconst 1, 1) := by decide +kernel
theorem dX7_ofArticle_110 : decode cX7_ofArticle 110 = .ok (.goto 4, 3) := by decide +kernel
theorem dX7_ofArticle_113 : decode cX7_ofArticle 113 = .ok (.iconst 0, 1) := by decide +kernel
theorem dX7_ofArticle_114 : decode cX7_ofArticle 114 = .ok (.ireturn, 1) := by decide +kernel
theorem dX7_ofArticle_115 : decode cX7_ofArticle 115 = .ok (.aload_n 0, 1) := by decide +kernel
theorem dX7_ofArticle_116 : decode cX7_ofArticle 116 = .ok (.aload_n 0, 1) := by decide +kernel
theorem dX7_ofArticle_117 : decode cX7_ofArticle 117 = .ok (.getfield 92, 3) := by decide +kernel
theorem dX7_ofArticle_120 : decode cX7_ofArticle 120 = .ok (.aload_n 0, 1) := by decide +kernel
theorem dX7_ofArticle_121 : decode cX7_ofArticle 121 = .ok (.getfield 86, 3) := by decide +kernel
theorem dX7_ofArticle_124 : decode cX7_ofArticle 124 = .ok (.iload_n 1, 1) := by decide +kernel
theorem dX7_ofArticle_125 : decode cX7_ofArticle 125 = .ok (.iconst 1, 1) := by decide +kernel
theorem dX7_ofArticle_126 : decode cX7_ofArticle 126 = .ok (.iadd, 1) := by decide +kernel
theorem dX7_ofArticle_127 : decode cX7_ofArticle 127 = .ok (.iaload, 1) := by decide +kernel
theorem dX7_ofArticle_128 : decode cX7_ofArticle 128 = .ok (.iconst 1, 1) := by decide +kernel
theorem dX7_ofArticle_129 : decode cX7_ofArticle 129 = .ok (.isub, 1) := by decide +kernel
theorem dX7_ofArticle_130 : decode cX7_ofArticle 130 = .ok (.iaload, 1) := by decide +kernel
theorem dX7_ofArticle_131 : decode cX7_ofArticle 131 = .ok (.invokevirtual 191, 3) := by decide +kernel
theorem dX7_ofArticle_134 : decode cX7_ofArticle 134 = .ok (.ifCond .eq 7, 3) := by decide +kernel
theorem dX7_ofArticle_137 : decode cX7_ofArticle 137 = .ok (.iconst 1, 1) := by decide +kernel
theorem dX7_ofArticle_138 : decode cX7_ofArticle 138 = .ok (.goto 4, 3) := by decide +kernel
theorem dX7_ofArticle_141 : decode cX7_ofArticle 141 = .ok (.iconst 0, 1) := by decide +kernel
theorem dX7_ofArticle_142 : decode cX7_ofArticle 142 = .ok (.ireturn, 1) := by decide +kernel
theorem dX7_ofArticle_143 : decode cX7_ofArticle 143 = .ok (.bipush (-2), 2) := by decide +kernel
theorem dX7_ofArticle_145 : decode cX7_ofArticle 145 = .ok (.ireturn, 1) := by decide +kernel
theorem dX7_read_0 : decode cX7_read 0 = .ok (.aload_n 0, 1) := by decide +kernel
theorem dX7_read_1 : decode cX7_read 1 = .ok (.iload_n 1, 1) := by decide +kernel
theorem dX7_read_2 : decode cX7_read 2 = .ok (.invokevirtual 194, 3) := by decide +kernel
theorem dX7_read_5 : decode cX7_read 5 = .ok (.ifCond .ne 5, 3) := by decide +kernel
theorem dX7_read_8 : decode cX7_read 8 = .ok (.iconst (-1), 1) := by decide +kernel
theorem dX7_read_9 : decode cX7_read 9 = .ok (.ireturn, 1) := by decide +kernel
theorem dX7_read_10 : decode cX7_read 10 = .ok (.iload_n 2, 1) := by decide +kernel
theorem dX7_read_11 : decode cX7_read 11 = .ok (.iconst 0, 1) := by decide +kernel
theorem dX7_read_12 : decode cX7_read 12 = .ok (.bipush 23, 2) := by decide +kernel
theorem dX7_read_14 : decode cX7_read 14 = .ok (.invokestatic 102, 3) := by decide +kernel
theorem dX7_read_17 : decode cX7_read 17 = .ok (.ifCond .ne 6, 3) := by decide +kernel
theorem dX7_read_20 : decode cX7_read 20 = .ok (.bipush (-2), 2) := by decide +kernel
theorem dX7_read_22 : decode cX7_read 22 = .ok (.ireturn, 1) := by decide +kernel
theorem dX7_read_23 : decode cX7_read 23 = .ok (.iload_n 2, 1) := by decide +kernel
theorem dX7_read_24 : decode cX7_read 24 = .ok (.istore_n 3, 1) := by decide +kernel
theorem dX7_read_25 : decode cX7_read 25 = .ok (.aload_n 0, 1) := by decide +kernel
theorem dX7_read_26 : decode cX7_read 26 = .ok (.getfield 86, 3) := by decide +kernel
theorem dX7_read_29 : decode cX7_read 29 = .ok (.iload_n 1, 1) := by decide +kernel
theorem dX7_read_30 : decode cX7_read 30 = .ok (.iaload, 1) := by decide +kernel
theorem dX7_read_31 : decode cX7_read 31 = .ok (.istore 4, 2) := by decide +kernel
theorem dX7_read_33 : decode cX7_read 33 = .ok (.iload 4, 2) := by decide +kernel
theorem dX7_read_35 : decode cX7_read 35 = .ok (.aload_n 0, 1) := by decide +kernel
theorem dX7_read_36 : decode cX7_read 36 = .ok (.getfield 86, 3) := by decide +kernel
theorem dX7_read_39 : decode cX7_read 39 = .ok (.iload_n 1, 1) := by decide +kernel
theorem dX7_read_40 : decode cX7_read 40 = .ok (.iconst 1, 1) := by decide +kernel
theorem dX7_read_41 : decode cX7_read 41 = .ok (.iadd, 1) := by decide +kernel
theorem dX7_read_42 : decode cX7_read 42 = .ok (.iaload, 1) := by decide +kernel
theorem dX7_read_43 : decode cX7_read 43 = .ok (.if_icmp .ge 88, 3) := by decide +kernel
theorem dX7_read_46 : decode cX7_read 46 = .ok (.aload_n 0, 1) := by decide +kernel
theorem dX7_read_47 : decode cX7_read 47 = .ok (.getfield 67, 3) := by decide +kernel
theorem dX7_read_50 : decode cX7_read 50 = .ok (.aload_n 0, 1) := by decide +kernel
theorem dX7_read_51 : decode cX7_read 51 = .ok (.getfield 92, 3) := by decide +kernel
theorem dX7_read_54 : decode cX7_read 54 = .ok (.iload 4, 2) := by decide +kernel
theorem dX7_read_56 : decode cX7_read 56 = .ok (.iaload, 1) := by decide +kernel
theorem dX7_read_57 : decode cX7_read 57 = .ok (.iaload, 1) := by decide +kernel
theorem dX7_read_58 : decode cX7_read 58 = .ok (.istore 5, 2) := by decide +kernel
theorem dX7_read_60 : decode cX7_read 60 = .ok (.aload_n 0, 1) := by decide +kernel
theorem dX7_read_61 : decode cX7_read 61 = .ok (.getfield 13, 3) := by decide +kernel
theorem dX7_read_64 : decode cX7_read 64 = .ok (.iload 5, 2) := by decide +kernel
theorem dX7_read_66 : decode cX7_read 66 = .ok (.iaload, 1) := by decide +kernel
theorem dX7_read_67 : decode cX7_read 67 = .ok (.ifCond .ne 7, 3) := by decide +kernel
theorem dX7_read_70 : decode cX7_read 70 = .ok (.iconst 1, 1) := by decide +kernel
theorem dX7_read_71 : decode cX7_read 71 = .ok (.goto 4, 3) := by decide +kernel
theorem dX7_read_74 : decode cX7_read 74 = .ok (.iconst 0, 1) := by decide +kernel
theorem dX7_read_75 : decode cX7_read 75 = .ok (.istore 6, 2) := by decide +kernel
theorem dX7_read_77 : decode cX7_read 77 = .ok (.iload_n 3, 1) := by decide +kernel
theorem dX7_read_78 : decode cX7_read 78 = .ok (.iload 6, 2) := by decide +kernel
theorem dX7_read_80 : decode cX7_read 80 = .ok (.if_icmp .ge 6, 3) := by decide +kernel
theorem dX7_read_83 : decode cX7_read 83 = .ok (.iload 5, 2) := by decide +kernel
theorem dX7_read_85 : decode cX7_read 85 = .ok (.ireturn, 1) := by decide +kernel
theorem dX7_read_86 : decode cX7_read 86 = .ok (.iload_n 3, 1) := by decide +kernel
theorem dX7_read_87 : decode cX7_read 87 = .ok (.iload 6, 2) := by decide +kernel
theorem dX7_read_89 : decode cX7_read 89 = .ok (.isub, 1) := by decide +kernel
theorem dX7_read_90 : decode cX7_read 90 = .ok (.istore_n 3, 1) := by decide +kernel
theorem dX7_read_91 : decode cX7_read 91 = .ok (.iload_n 3, 1) := by decide +kernel
theorem dX7_read_92 : decode cX7_read 92 = .ok (.aload_n 0, 1) := by decide +kernel
theorem dX7_read_93 : decode cX7_read 93 = .ok (.getfield 61, 3) := by decide +kernel
theorem dX7_read_96 : decode cX7_read 96 = .ok (.iload 5, 2) := by decide +kernel
theorem dX7_read_98 : decode cX7_read 98 = .ok (.iaload, 1) := by decide +kernel
theorem dX7_read_99 : decode cX7_read 99 = .ok (.if_icmp .ge 16, 3) := by decide +kernel
theorem dX7_read_102 : decode cX7_read 102 = .ok (.aload_n 0, 1) := by decide +kernel
theorem dX7_read_103 : decode cX7_read 103 = .ok (.getfield 64, 3) := by decide +kernel
theorem dX7_read_106 : decode cX7_read 106 = .ok (.bipush 24, 2) := by decide +kernel
theorem dX7_read_108 : decode cX7_read 108 = .ok (.iload 5, 2) := by decide +kernel
theorem dX7_read_110 : decode cX7_read 110 = .ok (.imul, 1) := by decide +kernel
theorem dX7_read_111 : decode cX7_read 111 = .ok (.iload_n 3, 1) := by decide +kernel
theorem dX7_read_112 : decode cX7_read 112 = .ok (.iadd, 1) := by decide +kernel
theorem dX7_read_113 : decode cX7_read 113 = .ok (.iaload, 1) := by decide +kernel
theorem dX7_read_114 : decode cX7_read 114 = .ok (.ireturn, 1) := by decide +kernel
theorem dX7_read_115 : decode cX7_read 115 = .ok (.iload_n 3, 1) := by decide +kernel
theorem dX7_read_116 : decode cX7_read 116 = .ok (.aload_n 0, 1) := by decide +kernel
theorem dX7_read_117 : decode cX7_read 117 = .ok (.getfield 61, 3) := by decide +kernel
theorem dX7_read_120 : decode cX7_read 120 = .ok (.iload 5, 2) := by decide +kernel
theorem dX7_read_122 : decode cX7_read 122 = .ok (.iaload, 1) := by decide +kernel
theorem dX7_read_123 : decode cX7_read 123 = .ok (.isub, 1) := by decide +kernel
theorem dX7_read_124 : decode cX7_read 124 = .ok (.istore_n 3, 1) := by decide +kernel
theorem dX7_read_125 : decode cX7_read 125 = .ok (.iinc 4 1, 3) := by decide +kernel
theorem dX7_read_128 : decode cX7_read 128 = .ok (.goto (-95), 3) := by decide +kernel
theorem dX7_read_131 : decode cX7_read 131 = .ok (.bipush (-9), 2) := by decide +kernel
theorem dX7_read_133 : decode cX7_read 133 = .ok (.ireturn, 1) := by decide +kernel
theorem dX7_manyOfKind_0 : decode cX7_manyOfKind 0 = .ok (.iconst 0, 1) := by decide +kernel
theorem dX7_manyOfKind_1 : decode cX7_manyOfKind 1 = .ok (.istore_n 2, 1) := by decide +kernel
theorem dX7_manyOfKind_2 : decode cX7_manyOfKind 2 = .ok (.iconst 0, 1) := by decide +kernel
theorem dX7_manyOfKind_3 : decode cX7_manyOfKind 3 = .ok (.istore_n 3, 1) := by decide +kernel
theorem dX7_manyOfKind_4 : decode cX7_manyOfKind 4 = .ok (.iload_n 3, 1) := by decide +kernel
theorem dX7_manyOfKind_5 : decode cX7_manyOfKind 5 = .ok (.aload_n 0, 1) := by decide +kernel
theorem dX7_manyOfKind_6 : decode cX7_manyOfKind 6 = .ok (.getfield 98, 3) := by decide +kernel
theorem dX7_manyOfKind_9 : decode cX7_manyOfKind 9 = .ok (.if_icmp .ge 27, 3) := by decide +kernel
theorem dX7_manyOfKind_12 : decode cX7_manyOfKind 12 = .ok (.iload_n 2, 1) := by decide +kernel
theorem dX7_manyOfKind_13 : decode cX7_manyOfKind 13 = .ok (.aload_n 0, 1) := by decide +kernel
theorem dX7_manyOfKind_14 : decode cX7_manyOfKind 14 = .ok (.getfield 13, 3) := by decide +kernel
theorem dX7_manyOfKind_17 : decode cX7_manyOfKind 17 = .ok (.iload_n 3, 1) := by decide +kernel
theorem dX7_manyOfKind_18 : decode cX7_manyOfKind 18 = .ok (.iaload, 1) := by decide +kernel
theorem dX7_manyOfKind_19 : decode cX7_manyOfKind 19 = .ok (.iload_n 1, 1) := by decide +kernel
theorem dX7_manyOfKind_20 : decode cX7_manyOfKind 20 = .ok (.if_icmp .ne 7, 3) := by decide +kernel
theorem dX7_manyOfKind_23 : decode cX7_manyOfKind 23 = .ok (.iconst 1, 1) := by decide +kernel
theorem dX7_manyOfKind_24 : decode cX7_manyOfKind 24 = .ok (.goto 4, 3) := by decide +kernel
theorem dX7_manyOfKind_27 : decode cX7_manyOfKind 27 = .ok (.iconst 0, 1) := by decide +kernel
theorem dX7_manyOfKind_28 : decode cX7_manyOfKind 28 = .ok (.iadd, 1) := by decide +kernel
theorem dX7_manyOfKind_29 : decode cX7_manyOfKind 29 = .ok (.istore_n 2, 1) := by decide +kernel
theorem dX7_manyOfKind_30 : decode cX7_manyOfKind 30 = .ok (.iinc 3 1, 3) := by decide +kernel
theorem dX7_manyOfKind_33 : decode cX7_manyOfKind 33 = .ok (.goto (-29), 3) := by decide +kernel
theorem dX7_manyOfKind_36 : decode cX7_manyOfKind 36 = .ok (.iload_n 2, 1) := by decide +kernel
theorem dX7_manyOfKind_37 : decode cX7_manyOfKind 37 = .ok (.ireturn, 1) := by decide +kernel
theorem dX7_manyTexts_0 : decode cX7_manyTexts 0 = .ok (.iconst 0, 1) := by decide +kernel
theorem dX7_manyTexts_1 : decode cX7_manyTexts 1 = .ok (.istore_n 2, 1) := by decide +kernel
theorem dX7_manyTexts_2 : decode cX7_manyTexts 2 = .ok (.iconst 0, 1) := by decide +kernel
theorem dX7_manyTexts_3 : decode cX7_manyTexts 3 = .ok (.istore_n 3, 1) := by decide +kernel
theorem dX7_manyTexts_4 : decode cX7_manyTexts 4 = .ok (.iload_n 3, 1) := by decide +kernel
theorem dX7_manyTexts_5 : decode cX7_manyTexts 5 = .ok (.aload_n 0, 1) := by decide +kernel
theorem dX7_manyTexts_6 : decode cX7_manyTexts 6 = .ok (.getfield 98, 3) := by decide +kernel
theorem dX7_manyTexts_9 : decode cX7_manyTexts 9 = .ok (.if_icmp .ge 68, 3) := by decide +kernel
theorem dX7_manyTexts_12 : decode cX7_manyTexts 12 = .ok (.aload_n 0, 1) := by decide +kernel
theorem dX7_manyTexts_13 : decode cX7_manyTexts 13 = .ok (.getfield 13, 3) := by decide +kernel
theorem dX7_manyTexts_16 : decode cX7_manyTexts 16 = .ok (.iload_n 3, 1) := by decide +kernel
theorem dX7_manyTexts_17 : decode cX7_manyTexts 17 = .ok (.iaload, 1) := by decide +kernel
theorem dX7_manyTexts_18 : decode cX7_manyTexts 18 = .ok (.iconst 1, 1) := by decide +kernel
theorem dX7_manyTexts_19 : decode cX7_manyTexts 19 = .ok (.if_icmp .ne 36, 3) := by decide +kernel
theorem dX7_manyTexts_22 : decode cX7_manyTexts 22 = .ok (.iload_n 1, 1) := by decide +kernel
theorem dX7_manyTexts_23 : decode cX7_manyTexts 23 = .ok (.ifCond .eq 17, 3) := by decide +kernel
theorem dX7_manyTexts_26 : decode cX7_manyTexts 26 = .ok (.aload_n 0, 1) := by decide +kernel
theorem dX7_manyTexts_27 : decode cX7_manyTexts 27 = .ok (.getfield 58, 3) := by decide +kernel
theorem dX7_manyTexts_30 : decode cX7_manyTexts 30 = .ok (.iload_n 3, 1) := by decide +kernel
theorem dX7_manyTexts_31 : decode cX7_manyTexts 31 = .ok (.iaload, 1) := by decide +kernel
theorem dX7_manyTexts_32 : decode cX7_manyTexts 32 = .ok (.bipush (-9), 2) := by decide +kernel
theorem dX7_manyTexts_34 : decode cX7_manyTexts 34 = .ok (.if_icmp .eq 21, 3) := by decide +kernel
theorem dX7_manyTexts_37 : decode cX7_manyTexts 37 = .ok (.goto 14, 3) := by decide +kernel
theorem dX7_manyTexts_40 : decode cX7_manyTexts 40 = .ok (.aload_n 0, 1) := by decide +kernel
theorem dX7_manyTexts_41 : decode cX7_manyTexts 41 = .ok (.getfield 55, 3) := by decide +kernel
theorem dX7_manyTexts_44 : decode cX7_manyTexts 44 = .ok (.iload_n 3, 1) := by decide +kernel
theorem dX7_manyTexts_45 : decode cX7_manyTexts 45 = .ok (.iaload, 1) := by decide +kernel
theorem dX7_manyTexts_46 : decode cX7_manyTexts 46 = .ok (.bipush (-9), 2) := by decide +kernel
theorem dX7_manyTexts_48 : decode cX7_manyTexts 48 = .ok (.if_icmp .ne 7, 3) := by decide +kernel
theorem dX7_manyTexts_51 : decode cX7_manyTexts 51 = .ok (.iconst 1, 1) := by decide +kernel
theorem dX7_manyTexts_52 : decode cX7_manyTexts 52 = .ok (.goto 4, 3) := by decide +kernel
theorem dX7_manyTexts_55 : decode cX7_manyTexts 55 = .ok (.iconst 0, 1) := by decide +kernel
theorem dX7_manyTexts_56 : decode cX7_manyTexts 56 = .ok (.istore 4, 2) := by decide +kernel
theorem dX7_manyTexts_58 : decode cX7_manyTexts 58 = .ok (.iload_n 2, 1) := by decide +kernel
theorem dX7_manyTexts_59 : decode cX7_manyTexts 59 = .ok (.iload 4, 2) := by decide +kernel
theorem dX7_manyTexts_61 : decode cX7_manyTexts 61 = .ok (.ifCond .eq 7, 3) := by decide +kernel
theorem dX7_manyTexts_64 : decode cX7_manyTexts 64 = .ok (.iconst 1, 1) := by decide +kernel
theorem dX7_manyTexts_65 : decode cX7_manyTexts 65 = .ok (.goto 4, 3) := by decide +kernel
theorem dX7_manyTexts_68 : decode cX7_manyTexts 68 = .ok (.iconst 0, 1) := by decide +kernel
theorem dX7_manyTexts_69 : decode cX7_manyTexts 69 = .ok (.iadd, 1) := by decide +kernel
theorem dX7_manyTexts_70 : decode cX7_manyTexts 70 = .ok (.istore_n 2, 1) := by decide +kernel
theorem dX7_manyTexts_71 : decode cX7_manyTexts 71 = .ok (.iinc 3 1, 3) := by decide +kernel
theorem dX7_manyTexts_74 : decode cX7_manyTexts 74 = .ok (.goto (-70), 3) := by decide +kernel
theorem dX7_manyTexts_77 : decode cX7_manyTexts 77 = .ok (.iload_n 2, 1) := by decide +kernel
theorem dX7_manyTexts_78 : decode cX7_manyTexts 78 = .ok (.ireturn, 1) := by decide +kernel
theorem dX7_manyRings_0 : decode cX7_manyRings 0 = .ok (.iconst 0, 1) := by decide +kernel
theorem dX7_manyRings_1 : decode cX7_manyRings 1 = .ok (.istore_n 1, 1) := by decide +kernel
theorem dX7_manyRings_2 : decode cX7_manyRings 2 = .ok (.iconst 0, 1) := by decide +kernel
theorem dX7_manyRings_3 : decode cX7_manyRings 3 = .ok (.istore_n 2, 1) := by decide +kernel
theorem dX7_manyRings_4 : decode cX7_manyRings 4 = .ok (.iload_n 2, 1) := by decide +kernel
theorem dX7_manyRings_5 : decode cX7_manyRings 5 = .ok (.aload_n 0, 1) := by decide +kernel
theorem dX7_manyRings_6 : decode cX7_manyRings 6 = .ok (.getfield 162, 3) := by decide +kernel
theorem dX7_manyRings_9 : decode cX7_manyRings 9 = .ok (.if_icmp .ge 26, 3) := by decide +kernel
theorem dX7_manyRings_12 : decode cX7_manyRings 12 = .ok (.iload_n 1, 1) := by decide +kernel
theorem dX7_manyRings_13 : decode cX7_manyRings 13 = .ok (.aload_n 0, 1) := by decide +kernel
theorem dX7_manyRings_14 : decode cX7_manyRings 14 = .ok (.getfield 89, 3) := by decide +kernel
theorem dX7_manyRings_17 : decode cX7_manyRings 17 = .ok (.iload_n 2, 1) := by decide +kernel
theorem dX7_manyRings_18 : decode cX7_manyRings 18 = .ok (.baload, 1) := by decide +kernel
theorem dX7_manyRings_19 : decode cX7_manyRings 19 = .ok (.ifCond .eq 7, 3) := by decide +kernel
theorem dX7_manyRings_22 : decode cX7_manyRings 22 = .ok (.iconst 1, 1) := by decide +kernel
theorem dX7_manyRings_23 : decode cX7_manyRings 23 = .ok (.goto 4, 3) := by decide +kernel
theorem dX7_manyRings_26 : decode cX7_manyRings 26 = .ok (.iconst 0, 1) := by decide +kernel
theorem dX7_manyRings_27 : decode cX7_manyRings 27 = .ok (.iadd, 1) := by decide +kernel
theorem dX7_manyRings_28 : decode cX7_manyRings 28 = .ok (.istore_n 1, 1) := by decide +kernel
theorem dX7_manyRings_29 : decode cX7_manyRings 29 = .ok (.iinc 2 1, 3) := by decide +kernel
theorem dX7_manyRings_32 : decode cX7_manyRings 32 = .ok (.goto (-28), 3) := by decide +kernel
theorem dX7_manyRings_35 : decode cX7_manyRings 35 = .ok (.iload_n 1, 1) := by decide +kernel
theorem dX7_manyRings_36 : decode cX7_manyRings 36 = .ok (.ireturn, 1) := by decide +kernel
theorem dX7_manyBroken_0 : decode cX7_manyBroken 0 = .ok (.iconst 0, 1) := by decide +kernel
theorem dX7_manyBroken_1 : decode cX7_manyBroken 1 = .ok (.istore_n 1, 1) := by decide +kernel
theorem dX7_manyBroken_2 : decode cX7_manyBroken 2 = .ok (.iconst 0, 1) := by decide +kernel
theorem dX7_manyBroken_3 : decode cX7_manyBroken 3 = .ok (.istore_n 2, 1) := by decide +kernel
theorem dX7_manyBroken_4 : decode cX7_manyBroken 4 = .ok (.iload_n 2, 1) := by decide +kernel
theorem dX7_manyBroken_5 : decode cX7_manyBroken 5 = .ok (.aload_n 0, 1) := by decide +kernel
theorem dX7_manyBroken_6 : decode cX7_manyBroken 6 = .ok (.getfield 153, 3) := by decide +kernel
theorem dX7_manyBroken_9 : decode cX7_manyBroken 9 = .ok (.if_icmp .ge 25, 3) := by decide +kernel
theorem dX7_manyBroken_12 : decode cX7_manyBroken 12 = .ok (.iload_n 1, 1) := by decide +kernel
theorem dX7_manyBroken_13 : decode cX7_manyBroken 13 = .ok (.aload_n 0, 1) := by decide +kernel
theorem dX7_manyBroken_14 : decode cX7_manyBroken 14 = .ok (.iload_n 2, 1) := by decide +kernel
theorem dX7_manyBroken_15 : decode cX7_manyBroken 15 = .ok (.invokevirtual 191, 3) := by decide +kernel
theorem dX7_manyBroken_18 : decode cX7_manyBroken 18 = .ok (.ifCond .eq 7, 3) := by decide +kernel
theorem dX7_manyBroken_21 : decode cX7_manyBroken 21 = .ok (.iconst 1, 1) := by decide +kernel
theorem dX7_manyBroken_22 : decode cX7_manyBroken 22 = .ok (.goto 4, 3) := by decide +kernel
theorem dX7_manyBroken_25 : decode cX7_manyBroken 25 = .ok (.iconst 0, 1) := by decide +kernel
theorem dX7_manyBroken_26 : decode cX7_manyBroken 26 = .ok (.iadd, 1) := by decide +kernel
theorem dX7_manyBroken_27 : decode cX7_manyBroken 27 = .ok (.istore_n 1, 1) := by decide +kernel
theorem dX7_manyBroken_28 : decode cX7_manyBroken 28 = .ok (.iinc 2 1, 3) := by decide +kernel
theorem dX7_manyBroken_31 : decode cX7_manyBroken 31 = .ok (.goto (-27), 3) := by decide +kernel
theorem dX7_manyBroken_34 : decode cX7_manyBroken 34 = .ok (.iload_n 1, 1) := by decide +kernel
theorem dX7_manyBroken_35 : decode cX7_manyBroken 35 = .ok (.ireturn, 1) := by decide +kernel
theorem dX7_manyIdle_0 : decode cX7_manyIdle 0 = .ok (.iconst 0, 1) := by decide +kernel
theorem dX7_manyIdle_1 : decode cX7_manyIdle 1 = .ok (.istore_n 1, 1) := by decide +kernel
theorem dX7_manyIdle_2 : decode cX7_manyIdle 2 = .ok (.iconst 0, 1) := by decide +kernel
theorem dX7_manyIdle_3 : decode cX7_manyIdle 3 = .ok (.istore_n 2, 1) := by decide +kernel
theorem dX7_manyIdle_4 : decode cX7_manyIdle 4 = .ok (.iload_n 2, 1) := by decide +kernel
theorem dX7_manyIdle_5 : decode cX7_manyIdle 5 = .ok (.aload_n 0, 1) := by decide +kernel
theorem dX7_manyIdle_6 : decode cX7_manyIdle 6 = .ok (.getfield 98, 3) := by decide +kernel
theorem dX7_manyIdle_9 : decode cX7_manyIdle 9 = .ok (.if_icmp .ge 68, 3) := by decide +kernel
theorem dX7_manyIdle_12 : decode cX7_manyIdle 12 = .ok (.aload_n 0, 1) := by decide +kernel
theorem dX7_manyIdle_13 : decode cX7_manyIdle 13 = .ok (.getfield 13, 3) := by decide +kernel
theorem dX7_manyIdle_16 : decode cX7_manyIdle 16 = .ok (.iload_n 2, 1) := by decide +kernel
theorem dX7_manyIdle_17 : decode cX7_manyIdle 17 = .ok (.iaload, 1) := by decide +kernel
theorem dX7_manyIdle_18 : decode cX7_manyIdle 18 = .ok (.iconst 2, 1) := by decide +kernel
theorem dX7_manyIdle_19 : decode cX7_manyIdle 19 = .ok (.if_icmp .eq 38, 3) := by decide +kernel
theorem dX7_manyIdle_22 : decode cX7_manyIdle 22 = .ok (.aload_n 0, 1) := by decide +kernel
theorem dX7_manyIdle_23 : decode cX7_manyIdle 23 = .ok (.getfield 31, 3) := by decide +kernel
theorem dX7_manyIdle_26 : decode cX7_manyIdle 26 = .ok (.iconst 2, 1) := by decide +kernel
theorem dX7_manyIdle_27 : decode cX7_manyIdle 27 = .ok (.iload_n 2, 1) := by decide +kernel
theorem dX7_manyIdle_28 : decode cX7_manyIdle 28 = .ok (.imul, 1) := by decide +kernel
theorem dX7_manyIdle_29 : decode cX7_manyIdle 29 = .ok (.iconst 1, 1) := by decide +kernel
theorem dX7_manyIdle_30 : decode cX7_manyIdle 30 = .ok (.iadd, 1) := by decide +kernel
theorem dX7_manyIdle_31 : decode cX7_manyIdle 31 = .ok (.iaload, 1) := by decide +kernel
theorem dX7_manyIdle_32 : decode cX7_manyIdle 32 = .ok (.bipush (-9), 2) := by decide +kernel
theorem dX7_manyIdle_34 : decode cX7_manyIdle 34 = .ok (.if_icmp .eq 23, 3) := by decide +kernel
theorem dX7_manyIdle_37 : decode cX7_manyIdle 37 = .ok (.aload_n 0, 1) := by decide +kernel
theorem dX7_manyIdle_38 : decode cX7_manyIdle 38 = .ok (.getfield 83, 3) := by decide +kernel
theorem dX7_manyIdle_41 : decode cX7_manyIdle 41 = .ok (.aload_n 0, 1) := by decide +kernel
theorem dX7_manyIdle_42 : decode cX7_manyIdle 42 = .ok (.getfield 70, 3) := by decide +kernel
theorem dX7_manyIdle_45 : decode cX7_manyIdle 45 = .ok (.iload_n 2, 1) := by decide +kernel
theorem dX7_manyIdle_46 : decode cX7_manyIdle 46 = .ok (.iaload, 1) := by decide +kernel
theorem dX7_manyIdle_47 : decode cX7_manyIdle 47 = .ok (.iaload, 1) := by decide +kernel
theorem dX7_manyIdle_48 : decode cX7_manyIdle 48 = .ok (.bipush (-9), 2) := by decide +kernel
theorem dX7_manyIdle_50 : decode cX7_manyIdle 50 = .ok (.if_icmp .ne 7, 3) := by decide +kernel
theorem dX7_manyIdle_53 : decode cX7_manyIdle 53 = .ok (.iconst 1, 1) := by decide +kernel
theorem dX7_manyIdle_54 : decode cX7_manyIdle 54 = .ok (.goto 4, 3) := by decide +kernel
theorem dX7_manyIdle_57 : decode cX7_manyIdle 57 = .ok (.iconst 0, 1) := by decide +kernel
theorem dX7_manyIdle_58 : decode cX7_manyIdle 58 = .ok (.istore_n 3, 1) := by decide +kernel
theorem dX7_manyIdle_59 : decode cX7_manyIdle 59 = .ok (.iload_n 1, 1) := by decide +kernel
theorem dX7_manyIdle_60 : decode cX7_manyIdle 60 = .ok (.iload_n 3, 1) := by decide +kernel
theorem dX7_manyIdle_61 : decode cX7_manyIdle 61 = .ok (.ifCond .eq 7, 3) := by decide +kernel
theorem dX7_manyIdle_64 : decode cX7_manyIdle 64 = .ok (.iconst 1, 1) := by decide +kernel
theorem dX7_manyIdle_65 : decode cX7_manyIdle 65 = .ok (.goto 4, 3) := by decide +kernel
theorem dX7_manyIdle_68 : decode cX7_manyIdle 68 = .ok (.iconst 0, 1) := by decide +kernel
theorem dX7_manyIdle_69 : decode cX7_manyIdle 69 = .ok (.iadd, 1) := by decide +kernel
theorem dX7_manyIdle_70 : decode cX7_manyIdle 70 = .ok (.istore_n 1, 1) := by decide +kernel
theorem dX7_manyIdle_71 : decode cX7_manyIdle 71 = .ok (.iinc 2 1, 3) := by decide +kernel
theorem dX7_manyIdle_74 : decode cX7_manyIdle 74 = .ok (.goto (-70), 3) := by decide +kernel
theorem dX7_manyIdle_77 : decode cX7_manyIdle 77 = .ok (.iload_n 1, 1) := by decide +kernel
theorem dX7_manyIdle_78 : decode cX7_manyIdle 78 = .ok (.ireturn, 1) := by decide +kernel
theorem dX7_manyLost_0 : decode cX7_manyLost 0 = .ok (.iconst 0, 1) := by decide +kernel
theorem dX7_manyLost_1 : decode cX7_manyLost 1 = .ok (.istore_n 1, 1) := by decide +kernel
theorem dX7_manyLost_2 : decode cX7_manyLost 2 = .ok (.iconst 0, 1) := by decide +kernel
theorem dX7_manyLost_3 : decode cX7_manyLost 3 = .ok (.istore_n 2, 1) := by decide +kernel
theorem dX7_manyLost_4 : decode cX7_manyLost 4 = .ok (.iload_n 2, 1) := by decide +kernel
theorem dX7_manyLost_5 : decode cX7_manyLost 5 = .ok (.aload_n 0, 1) := by decide +kernel
theorem dX7_manyLost_6 : decode cX7_manyLost 6 = .ok (.getfield 98, 3) := by decide +kernel
theorem dX7_manyLost_9 : decode cX7_manyLost 9 = .ok (.if_icmp .ge 38, 3) := by decide +kernel
theorem dX7_manyLost_12 : decode cX7_manyLost 12 = .ok (.iload_n 1, 1) := by decide +kernel
theorem dX7_manyLost_13 : decode cX7_manyLost 13 = .ok (.aload_n 0, 1) := by decide +kernel
theorem dX7_manyLost_14 : decode cX7_manyLost 14 = .ok (.getfield 13, 3) := by decide +kernel
theorem dX7_manyLost_17 : decode cX7_manyLost 17 = .ok (.iload_n 2, 1) := by decide +kernel
theorem dX7_manyLost_18 : decode cX7_manyLost 18 = .ok (.iaload, 1) := by decide +kernel
theorem dX7_manyLost_19 : decode cX7_manyLost 19 = .ok (.iconst 2, 1) := by decide +kernel
theorem dX7_manyLost_20 : decode cX7_manyLost 20 = .ok (.if_icmp .ne 18, 3) := by decide +kernel
theorem dX7_manyLost_23 : decode cX7_manyLost 23 = .ok (.aload_n 0, 1) := by decide +kernel
theorem dX7_manyLost_24 : decode cX7_manyLost 24 = .ok (.getfield 52, 3) := by decide +kernel
theorem dX7_manyLost_27 : decode cX7_manyLost 27 = .ok (.iload_n 2, 1) := by decide +kernel
theorem dX7_manyLost_28 : decode cX7_manyLost 28 = .ok (.iaload, 1) := by decide +kernel
theorem dX7_manyLost_29 : decode cX7_manyLost 29 = .ok (.bipush (-9), 2) := by decide +kernel
theorem dX7_manyLost_31 : decode cX7_manyLost 31 = .ok (.if_icmp .ne 7, 3) := by decide +kernel
theorem dX7_manyLost_34 : decode cX7_manyLost 34 = .ok (.iconst 1, 1) := by decide +kernel
theorem dX7_manyLost_35 : decode cX7_manyLost 35 = .ok (.goto 4, 3) := by decide +kernel
theorem dX7_manyLost_38 : decode cX7_manyLost 38 = .ok (.iconst 0, 1) := by decide +kernel
theorem dX7_manyLost_39 : decode cX7_manyLost 39 = .ok (.iadd, 1) := by decide +kernel
theorem dX7_manyLost_40 : decode cX7_manyLost 40 = .ok (.istore_n 1, 1) := by decide +kernel
theorem dX7_manyLost_41 : decode cX7_manyLost 41 = .ok (.iinc 2 1, 3) := by decide +kernel
theorem dX7_manyLost_44 : decode cX7_manyLost 44 = .ok (.goto (-40), 3) := by decide +kernel
theorem dX7_manyLost_47 : decode cX7_manyLost 47 = .ok (.iload_n 1, 1) := by decide +kernel
theorem dX7_manyLost_48 : decode cX7_manyLost 48 = .ok (.ireturn, 1) := by decide +kernel
theorem dX7_many_0 : decode cX7_many 0 = .ok (.aload_n 0, 1) := by decide +kernel
theorem dX7_many_1 : decode cX7_many 1 = .ok (.invokevirtual 178, 3) := by decide +kernel
theorem dX7_many_4 : decode cX7_many 4 = .ok (.iload_n 1, 1) := by decide +kernel
theorem dX7_many_5 : decode cX7_many 5 = .ok (.tableswitch 127 0 11 #[63, 68, 73, 79, 85, 90, 96, 102, 107, 112, 117, 122], 63) := by decide +kernel
theorem dX7_many_68 : decode cX7_many 68 = .ok (.aload_n 0, 1) := by decide +kernel
theorem dX7_many_69 : decode cX7_many 69 = .ok (.getfield 98, 3) := by decide +kernel
theorem dX7_many_72 : decode cX7_many 72 = .ok (.ireturn, 1) := by decide +kernel
theorem dX7_many_73 : decode cX7_many 73 = .ok (.aload_n 0, 1) := by decide +kernel
theorem dX7_many_74 : decode cX7_many 74 = .ok (.getfield 114, 3) := by decide +kernel
theorem dX7_many_77 : decode cX7_many 77 = .ok (.ireturn, 1) := by decide +kernel
theorem dX7_many_78 : decode cX7_many 78 = .ok (.aload_n 0, 1) := by decide +kernel
theorem dX7_many_79 : decode cX7_many 79 = .ok (.iconst 0, 1) := by decide +kernel
theorem dX7_many_80 : decode cX7_many 80 = .ok (.invokevirtual 203, 3) := by decide +kernel
theorem dX7_many_83 : decode cX7_many 83 = .ok (.ireturn, 1) := by decide +kernel
theorem dX7_many_84 : decode cX7_many 84 = .ok (.aload_n 0, 1) := by decide +kernel
theorem dX7_many_85 : decode cX7_many 85 = .ok (.iconst 1, 1) := by decide +kernel
theorem dX7_many_86 : decode cX7_many 86 = .ok (.invokevirtual 203, 3) := by decide +kernel
theorem dX7_many_89 : decode cX7_many 89 = .ok (.ireturn, 1) := by decide +kernel
theorem dX7_many_90 : decode cX7_many 90 = .ok (.aload_n 0, 1) := by decide +kernel
theorem dX7_many_91 : decode cX7_many 91 = .ok (.getfield 153, 3) := by decide +kernel
theorem dX7_many_94 : decode cX7_many 94 = .ok (.ireturn, 1) := by decide +kernel
theorem dX7_many_95 : decode cX7_many 95 = .ok (.aload_n 0, 1) := by decide +kernel
theorem dX7_many_96 : decode cX7_many 96 = .ok (.iconst 1, 1) := by decide +kernel
theorem dX7_many_97 : decode cX7_many 97 = .ok (.invokevirtual 206, 3) := by decide +kernel
theorem dX7_many_100 : decode cX7_many 100 = .ok (.ireturn, 1) := by decide +kernel
theorem dX7_many_101 : decode cX7_many 101 = .ok (.aload_n 0, 1) := by decide +kernel
theorem dX7_many_102 : decode cX7_many 102 = .ok (.iconst 0, 1) := by decide +kernel
theorem dX7_many_103 : decode cX7_many 103 = .ok (.invokevirtual 206, 3) := by decide +kernel
theorem dX7_many_106 : decode cX7_many 106 = .ok (.ireturn, 1) := by decide +kernel
theorem dX7_many_107 : decode cX7_many 107 = .ok (.aload_n 0, 1) := by decide +kernel
theorem dX7_many_108 : decode cX7_many 108 = .ok (.getfield 162, 3) := by decide +kernel
theorem dX7_many_111 : decode cX7_many 111 = .ok (.ireturn, 1) := by decide +kernel
theorem dX7_many_112 : decode cX7_many 112 = .ok (.aload_n 0, 1) := by decide +kernel
theorem dX7_many_113 : decode cX7_many 113 = .ok (.invokevirtual 210, 3) := by decide +kernel
theorem dX7_many_116 : decode cX7_many 116 = .ok (.ireturn, 1) := by decide +kernel
theorem dX7_many_117 : decode cX7_many 117 = .ok (.aload_n 0, 1) := by decide +kernel
theorem dX7_many_118 : decode cX7_many 118 = .ok (.invokevirtual 214, 3) := by decide +kernel
theorem dX7_many_121 : decode cX7_many 121 = .ok (.ireturn, 1) := by decide +kernel
theorem dX7_many_122 : decode cX7_many 122 = .ok (.aload_n 0, 1) := by decide +kernel
theorem dX7_many_123 : decode cX7_many 123 = .ok (.invokevirtual 217, 3) := by decide +kernel
theorem dX7_many_126 : decode cX7_many 126 = .ok (.ireturn, 1) := by decide +kernel
theorem dX7_many_127 : decode cX7_many 127 = .ok (.aload_n 0, 1) := by decide +kernel
theorem dX7_many_128 : decode cX7_many 128 = .ok (.invokevirtual 220, 3) := by decide +kernel
theorem dX7_many_131 : decode cX7_many 131 = .ok (.ireturn, 1) := by decide +kernel
theorem dX7_many_132 : decode cX7_many 132 = .ok (.bipush (-2), 2) := by decide +kernel
theorem dX7_many_134 : decode cX7_many 134 = .ok (.ireturn, 1) := by decide +kernel
theorem dJ9_max_7cf53_0 : decode cJ9_max_7cf53 0 = .ok (.iload_n 0, 1) := by decide +kernel
theorem dJ9_max_7cf53_1 : decode cJ9_max_7cf53 1 = .ok (.iload_n 1, 1) := by decide +kernel
theorem dJ9_max_7cf53_2 : decode cJ9_max_7cf53 2 = .ok (.if_icmp .lt 7, 3) := by decide +kernel
theorem dJ9_max_7cf53_5 : decode cJ9_max_7cf53 5 = .ok (.iload_n 0, 1) := by decide +kernel
theorem dJ9_max_7cf53_6 : decode cJ9_max_7cf53 6 = .ok (.goto 4, 3) := by decide +kernel
theorem dJ9_max_7cf53_9 : decode cJ9_max_7cf53 9 = .ok (.iload_n 1, 1) := by decide +kernel
theorem dJ9_max_7cf53_10 : decode cJ9_max_7cf53 10 = .ok (.ireturn, 1) := by decide +kernel
theorem dJ9_min_7cf53_0 : decode cJ9_min_7cf53 0 = .ok (.iload_n 0, 1) := by decide +kernel
theorem dJ9_min_7cf53_1 : decode cJ9_min_7cf53 1 = .ok (.iload_n 1, 1) := by decide +kernel
theorem dJ9_min_7cf53_2 : decode cJ9_min_7cf53 2 = .ok (.if_icmp .gt 7, 3) := by decide +kernel
theorem dJ9_min_7cf53_5 : decode cJ9_min_7cf53 5 = .ok (.iload_n 0, 1) := by decide +kernel
theorem dJ9_min_7cf53_6 : decode cJ9_min_7cf53 6 = .ok (.goto 4, 3) := by decide +kernel
theorem dJ9_min_7cf53_9 : decode cJ9_min_7cf53 9 = .ok (.iload_n 1, 1) := by decide +kernel
theorem dJ9_min_7cf53_10 : decode cJ9_min_7cf53 10 = .ok (.ireturn, 1) := by decide +kernel
theorem dL_law_0 : decode cL_law 0 = .ok (.new 7, 3) := by decide +kernel
theorem dL_law_3 : decode cL_law 3 = .ok (.dup, 1) := by decide +kernel
theorem dL_law_4 : decode cL_law 4 = .ok (.invokespecial 9, 3) := by decide +kernel
theorem dL_law_7 : decode cL_law 7 = .ok (.astore_n 1, 1) := by decide +kernel
theorem dL_law_8 : decode cL_law 8 = .ok (.new 10, 3) := by decide +kernel
theorem dL_law_11 : decode cL_law 11 = .ok (.dup, 1) := by decide +kernel
theorem dL_law_12 : decode cL_law 12 = .ok (.invokespecial 12, 3) := by decide +kernel
theorem dL_law_15 : decode cL_law 15 = .ok (.astore_n 2, 1) := by decide +kernel
theorem dL_law_16 : decode cL_law 16 = .ok (.iconst 0, 1) := by decide +kernel
theorem dL_law_17 : decode cL_law 17 = .ok (.istore_n 3, 1) := by decide +kernel
theorem dL_law_18 : decode cL_law 18 = .ok (.iload_n 3, 1) := by decide +kernel
theorem dL_law_19 : decode cL_law 19 = .ok (.aload_n 0, 1) := by decide +kernel
theorem dL_law_20 : decode cL_law 20 = .ok (.arraylength, 1) := by decide +kernel
theorem dL_law_21 : decode cL_law 21 = .ok (.bipush 7, 2) := by decide +kernel
theorem dL_law_23 : decode cL_law 23 = .ok (.isub, 1) := by decide +kernel
theorem dL_law_24 : decode cL_law 24 = .ok (.if_icmp .gt 836, 3) := by decide +kernel
theorem dL_law_27 : decode cL_law 27 = .ok (.aload_n 0, 1) := by decide +kernel
theorem dL_law_28 : decode cL_law 28 = .ok (.iload_n 3, 1) := by decide +kernel
theorem dL_law_29 : decode cL_law 29 = .ok (.iaload, 1) := by decide +kernel
theorem dL_law_30 : decode cL_law 30 = .ok (.bipush 31, 2) := by decide +kernel
theorem dL_law_32 : decode cL_law 32 = .ok (.iand, 1) := by decide +kernel
theorem dL_law_33 : decode cL_law 33 = .ok (.tableswitch 821 0 21 #[103, 178, 211, 274, 287, 300, 313, 326, 359, 392, 435, 468, 491, 514, 537, 570, 603, 656, 689, 732, 765, 798], 103) := by decide +kernel
theorem dL_law_136 : decode cL_law 136 = .ok (.aload_n 1, 1) := by decide +kernel
theorem dL_law_137 : decode cL_law 137 = .ok (.aload_n 0, 1) := by decide +kernel
theorem dL_law_138 : decode cL_law 138 = .ok (.iload_n 3, 1) := by decide +kernel
theorem dL_law_139 : decode cL_law 139 = .ok (.iconst 1, 1) := by decide +kernel
theorem dL_law_140 : decode cL_law 140 = .ok (.iadd, 1) := by decide +kernel
theorem dL_law_141 : decode cL_law 141 = .ok (.iaload, 1) := by decide +kernel
theorem dL_law_142 : decode cL_law 142 = .ok (.aload_n 0, 1) := by decide +kernel
theorem dL_law_143 : decode cL_law 143 = .ok (.iload_n 3, 1) := by decide +kernel
theorem dL_law_144 : decode cL_law 144 = .ok (.iconst 2, 1) := by decide +kernel
theorem dL_law_145 : decode cL_law 145 = .ok (.iadd, 1) := by decide +kernel
theorem dL_law_146 : decode cL_law 146 = .ok (.iaload, 1) := by decide +kernel
theorem dL_law_147 : decode cL_law 147 = .ok (.aload_n 0, 1) := by decide +kernel
theorem dL_law_148 : decode cL_law 148 = .ok (.iload_n 3, 1) := by decide +kernel
theorem dL_law_149 : decode cL_law 149 = .ok (.iconst 3, 1) := by decide +kernel
theorem dL_law_150 : decode cL_law 150 = .ok (.iadd, 1) := by decide +kernel
theorem dL_law_151 : decode cL_law 151 = .ok (.iaload, 1) := by decide +kernel
theorem dL_law_152 : decode cL_law 152 = .ok (.aload_n 0, 1) := by decide +kernel
theorem dL_law_153 : decode cL_law 153 = .ok (.iload_n 3, 1) := by decide +kernel
theorem dL_law_154 : decode cL_law 154 = .ok (.iconst 4, 1) := by decide +kernel
theorem dL_law_155 : decode cL_law 155 = .ok (.iadd, 1) := by decide +kernel
theorem dL_law_156 : decode cL_law 156 = .ok (.iaload, 1) := by decide +kernel
theorem dL_law_157 : decode cL_law 157 = .ok (.aload_n 0, 1) := by decide +kernel
theorem dL_law_158 : decode cL_law 158 = .ok (.iload_n 3, 1) := by decide +kernel
theorem dL_law_159 : decode cL_law 159 = .ok (.iconst 5, 1) := by decide +kernel
theorem dL_law_160 : decode cL_law 160 = .ok (.iadd, 1) := by decide +kernel
theorem dL_law_161 : decode cL_law 161 = .ok (.iaload, 1) := by decide +kernel
theorem dL_law_162 : decode cL_law 162 = .ok (.aload_n 0, 1) := by decide +kernel
theorem dL_law_163 : decode cL_law 163 = .ok (.iload_n 3, 1) := by decide +kernel
theorem dL_law_164 : decode cL_law 164 = .ok (.bipush 6, 2) := by decide +kernel
theorem dL_law_166 : decode cL_law 166 = .ok (.iadd, 1) := by decide +kernel
theorem dL_law_167 : decode cL_law 167 = .ok (.iaload, 1) := by decide +kernel
theorem dL_law_168 : decode cL_law 168 = .ok (.invokevirtual 13, 3) := by decide +kernel
theorem dL_law_171 : decode cL_law 171 = .ok (.aload_n 2, 1) := by decide +kernel
theorem dL_law_172 : decode cL_law 172 = .ok (.aload_n 0, 1) := by decide +kernel
theorem dL_law_173 : decode cL_law 173 = .ok (.iload_n 3, 1) := by decide +kernel
theorem dL_law_174 : decode cL_law 174 = .ok (.iconst 1, 1) := by decide +kernel
theorem dL_law_175 : decode cL_law 175 = .ok (.iadd, 1) := by decide +kernel
theorem dL_law_176 : decode cL_law 176 = .ok (.iaload, 1) := by decide +kernel
theorem dL_law_177 : decode cL_law 177 = .ok (.aload_n 0, 1) := by decide +kernel
theorem dL_law_178 : decode cL_law 178 = .ok (.iload_n 3, 1) := by decide +kernel
theorem dL_law_179 : decode cL_law 179 = .ok (.iconst 2, 1) := by decide +kernel
theorem dL_law_180 : decode cL_law 180 = .ok (.iadd, 1) := by decide +kernel
theorem dL_law_181 : decode cL_law 181 = .ok (.iaload, 1) := by decide +kernel
theorem dL_law_182 : decode cL_law 182 = .ok (.aload_n 0, 1) := by decide +kernel
theorem dL_law_183 : decode cL_law 183 = .ok (.iload_n 3, 1) := by decide +kernel
theorem dL_law_184 : decode cL_law 184 = .ok (.iconst 3, 1) := by decide +kernel
theorem dL_law_185 : decode cL_law 185 = .ok (.iadd, 1) := by decide +kernel
theorem dL_law_186 : decode cL_law 186 = .ok (.iaload, 1) := by decide +kernel
theorem dL_law_187 : decode cL_law 187 = .ok (.aload_n 0, 1) := by decide +kernel
theorem dL_law_188 : decode cL_law 188 = .ok (.iload_n 3, 1) := by decide +kernel
theorem dL_law_189 : decode cL_law 189 = .ok (.iconst 4, 1) := by decide +kernel
theorem dL_law_190 : decode cL_law 190 = .ok (.iadd, 1) := by decide +kernel
theorem dL_law_191 : decode cL_law 191 = .ok (.iaload, 1) := by decide +kernel
theorem dL_law_192 : decode cL_law 192 = .ok (.aload_n 0, 1) := by decide +kernel
theorem dL_law_193 : decode cL_law 193 = .ok (.iload_n 3, 1) := by decide +kernel
theorem dL_law_194 : decode cL_law 194 = .ok (.iconst 5, 1) := by decide +kernel
theorem dL_law_195 : decode cL_law 195 = .ok (.iadd, 1) := by decide +kernel
theorem dL_law_196 : decode cL_law 196 = .ok (.iaload, 1) := by decide +kernel
theorem dL_law_197 : decode cL_law 197 = .ok (.aload_n 0, 1) := by decide +kernel
theorem dL_law_198 : decode cL_law 198 = .ok (.iload_n 3, 1) := by decide +kernel
theorem dL_law_199 : decode cL_law 199 = .ok (.bipush 6, 2) := by decide +kernel
theorem dL_law_201 : decode cL_law 201 = .ok (.iadd, 1) := by decide +kernel
theorem dL_law_202 : decode cL_law 202 = .ok (.iaload, 1) := by decide +kernel
theorem dL_law_203 : decode cL_law 203 = .ok (.invokevirtual 17, 3) := by decide +kernel
theorem dL_law_206 : decode cL_law 206 = .ok (.if_icmp .eq 648, 3) := by decide +kernel
theorem dL_law_209 : decode cL_law 209 = .ok (.iconst 0, 1) := by decide +kernel
theorem dL_law_210 : decode cL_law 210 = .ok (.ireturn, 1) := by decide +kernel
theorem dL_law_211 : decode cL_law 211 = .ok (.aload_n 1, 1) := by decide +kernel
theorem dL_law_212 : decode cL_law 212 = .ok (.aload_n 0, 1) := by decide +kernel
theorem dL_law_213 : decode cL_law 213 = .ok (.iload_n 3, 1) := by decide +kernel
theorem dL_law_214 : decode cL_law 214 = .ok (.iconst 1, 1) := by decide +kernel
theorem dL_law_215 : decode cL_law 215 = .ok (.iadd, 1) := by decide +kernel
theorem dL_law_216 : decode cL_law 216 = .ok (.iaload, 1) := by decide +kernel
theorem dL_law_217 : decode cL_law 217 = .ok (.aload_n 0, 1) := by decide +kernel
theorem dL_law_218 : decode cL_law 218 = .ok (.iload_n 3, 1) := by decide +kernel
theorem dL_law_219 : decode cL_law 219 = .ok (.iconst 2, 1) := by decide +kernel
theorem dL_law_220 : decode cL_law 220 = .ok (.iadd, 1) := by decide +kernel
theorem dL_law_221 : decode cL_law 221 = .ok (.iaload, 1) := by decide +kernel
theorem dL_law_222 : decode cL_law 222 = .ok (.invokevirtual 18, 3) := by decide +kernel
theorem dL_law_225 : decode cL_law 225 = .ok (.aload_n 2, 1) := by decide +kernel
theorem dL_law_226 : decode cL_law 226 = .ok (.aload_n 0, 1) := by decide +kernel
theorem dL_law_227 : decode cL_law 227 = .ok (.iload_n 3, 1) := by decide +kernel
theorem dL_law_228 : decode cL_law 228 = .ok (.iconst 1, 1) := by decide +kernel
theorem dL_law_229 : decode cL_law 229 = .ok (.iadd, 1) := by decide +kernel
theorem dL_law_230 : decode cL_law 230 = .ok (.iaload, 1) := by decide +kernel
theorem dL_law_231 : decode cL_law 231 = .ok (.aload_n 0, 1) := by decide +kernel
theorem dL_law_232 : decode cL_law 232 = .ok (.iload_n 3, 1) := by decide +kernel
theorem dL_law_233 : decode cL_law 233 = .ok (.iconst 2, 1) := by decide +kernel
theorem dL_law_234 : decode cL_law 234 = .ok (.iadd, 1) := by decide +kernel
theorem dL_law_235 : decode cL_law 235 = .ok (.iaload, 1) := by decide +kernel
theorem dL_law_236 : decode cL_law 236 = .ok (.invokevirtual 22, 3) := by decide +kernel
theorem dL_law_239 : decode cL_law 239 = .ok (.if_icmp .eq 615, 3) := by decide +kernel
theorem dL_law_242 : decode cL_law 242 = .ok (.iconst 0, 1) := by decide +kernel
theorem dL_law_243 : decode cL_law 243 = .ok (.ireturn, 1) := by decide +kernel
theorem dL_law_244 : decode cL_law 244 = .ok (.aload_n 1, 1) := by decide +kernel
theorem dL_law_245 : decode cL_law 245 = .ok (.aload_n 0, 1) := by decide +kernel
theorem dL_law_246 : decode cL_law 246 = .ok (.iload_n 3, 1) := by decide +kernel
theorem dL_law_247 : decode cL_law 247 = .ok (.iconst 1, 1) := by decide +kernel
theorem dL_law_248 : decode cL_law 248 = .ok (.iadd, 1) := by decide +kernel
theorem dL_law_249 : decode cL_law 249 = .ok (.iaload, 1) := by decide +kernel
theorem dL_law_250 : decode cL_law 250 = .ok (.aload_n 0, 1) := by decide +kernel
theorem dL_law_251 : decode cL_law 251 = .ok (.iload_n 3, 1) := by decide +kernel
theorem dL_law_252 : decode cL_law 252 = .ok (.iconst 2, 1) := by decide +kernel
theorem dL_law_253 : decode cL_law 253 = .ok (.iadd, 1) := by decide +kernel
theorem dL_law_254 : decode cL_law 254 = .ok (.iaload, 1) := by decide +kernel
theorem dL_law_255 : decode cL_law 255 = .ok (.aload_n 0, 1) := by decide +kernel
theorem dL_law_256 : decode cL_law 256 = .ok (.iload_n 3, 1) := by decide +kernel
theorem dL_law_257 : decode cL_law 257 = .ok (.iconst 3, 1) := by decide +kernel
theorem dL_law_258 : decode cL_law 258 = .ok (.iadd, 1) := by decide +kernel
theorem dL_law_259 : decode cL_law 259 = .ok (.iaload, 1) := by decide +kernel
theorem dL_law_260 : decode cL_law 260 = .ok (.aload_n 0, 1) := by decide +kernel
theorem dL_law_261 : decode cL_law 261 = .ok (.iload_n 3, 1) := by decide +kernel
theorem dL_law_262 : decode cL_law 262 = .ok (.iconst 4, 1) := by decide +kernel
theorem dL_law_263 : decode cL_law 263 = .ok (.iadd, 1) := by decide +kernel
theorem dL_law_264 : decode cL_law 264 = .ok (.iaload, 1) := by decide +kernel
theorem dL_law_265 : decode cL_law 265 = .ok (.aload_n 0, 1) := by decide +kernel
theorem dL_law_266 : decode cL_law 266 = .ok (.iload_n 3, 1) := by decide +kernel
theorem dL_law_267 : decode cL_law 267 = .ok (.iconst 5, 1) := by decide +kernel
theorem dL_law_268 : decode cL_law 268 = .ok (.iadd, 1) := by decide +kernel
theorem dL_law_269 : decode cL_law 269 = .ok (.iaload, 1) := by decide +kernel
theorem dL_law_270 : decode cL_law 270 = .ok (.invokevirtual 23, 3) := by decide +kernel
theorem dL_law_273 : decode cL_law 273 = .ok (.aload_n 2, 1) := by decide +kernel
theorem dL_law_274 : decode cL_law 274 = .ok (.aload_n 0, 1) := by decide +kernel
theorem dL_law_275 : decode cL_law 275 = .ok (.iload_n 3, 1) := by decide +kernel
theorem dL_law_276 : decode cL_law 276 = .ok (.iconst 1, 1) := by decide +kernel
theorem dL_law_277 : decode cL_law 277 = .ok (.iadd, 1) := by decide +kernel
theorem dL_law_278 : decode cL_law 278 = .ok (.iaload, 1) := by decide +kernel
theorem dL_law_279 : decode cL_law 279 = .ok (.aload_n 0, 1) := by decide +kernel
theorem dL_law_280 : decode cL_law 280 = .ok (.iload_n 3, 1) := by decide +kernel
theorem dL_law_281 : decode cL_law 281 = .ok (.iconst 2, 1) := by decide +kernel
theorem dL_law_282 : decode cL_law 282 = .ok (.iadd, 1) := by decide +kernel
theorem dL_law_283 : decode cL_law 283 = .ok (.iaload, 1) := by decide +kernel
theorem dL_law_284 : decode cL_law 284 = .ok (.aload_n 0, 1) := by decide +kernel
theorem dL_law_285 : decode cL_law 285 = .ok (.iload_n 3, 1) := by decide +kernel
theorem dL_law_286 : decode cL_law 286 = .ok (.iconst 3, 1) := by decide +kernel
theorem dL_law_287 : decode cL_law 287 = .ok (.iadd, 1) := by decide +kernel
theorem dL_law_288 : decode cL_law 288 = .ok (.iaload, 1) := by decide +kernel
theorem dL_law_289 : decode cL_law 289 = .ok (.aload_n 0, 1) := by decide +kernel
theorem dL_law_290 : decode cL_law 290 = .ok (.iload_n 3, 1) := by decide +kernel
theorem dL_law_291 : decode cL_law 291 = .ok (.iconst 4, 1) := by decide +kernel
theorem dL_law_292 : decode cL_law 292 = .ok (.iadd, 1) := by decide +kernel
theorem dL_law_293 : decode cL_law 293 = .ok (.iaload, 1) := by decide +kernel
theorem dL_law_294 : decode cL_law 294 = .ok (.aload_n 0, 1) := by decide +kernel
theorem dL_law_295 : decode cL_law 295 = .ok (.iload_n 3, 1) := by decide +kernel
theorem dL_law_296 : decode cL_law 296 = .ok (.iconst 5, 1) := by decide +kernel
theorem dL_law_297 : decode cL_law 297 = .ok (.iadd, 1) := by decide +kernel
theorem dL_law_298 : decode cL_law 298 = .ok (.iaload, 1) := by decide +kernel
theorem dL_law_299 : decode cL_law 299 = .ok (.invokevirtual 27, 3) := by decide +kernel
theorem dL_law_302 : decode cL_law 302 = .ok (.if_icmp .eq 552, 3) := by decide +kernel
theorem dL_law_305 : decode cL_law 305 = .ok (.iconst 0, 1) := by decide +kernel
theorem dL_law_306 : decode cL_law 306 = .ok (.ireturn, 1) := by decide +kernel
theorem dL_law_307 : decode cL_law 307 = .ok (.aload_n 1, 1) := by decide +kernel
theorem dL_law_308 : decode cL_law 308 = .ok (.invokevirtual 28, 3) := by decide +kernel
theorem dL_law_311 : decode cL_law 311 = .ok (.aload_n 2, 1) := by decide +kernel
theorem dL_law_312 : decode cL_law 312 = .ok (.invokevirtual 32, 3) := by decide +kernel
theorem dL_law_315 : decode cL_law 315 = .ok (.if_icmp .eq 539, 3) := by decide +kernel
theorem dL_law_318 : decode cL_law 318 = .ok (.iconst 0, 1) := by decide +kernel
theorem dL_law_319 : decode cL_law 319 = .ok (.ireturn, 1) := by decide +kernel
theorem dL_law_320 : decode cL_law 320 = .ok (.aload_n 1, 1) := by decide +kernel
theorem dL_law_321 : decode cL_law 321 = .ok (.invokevirtual 33, 3) := by decide +kernel
theorem dL_law_324 : decode cL_law 324 = .ok (.aload_n 2, 1) := by decide +kernel
theorem dL_law_325 : decode cL_law 325 = .ok (.invokevirtual 36, 3) := by decide +kernel
theorem dL_law_328 : decode cL_law 328 = .ok (.if_icmp .eq 526, 3) := by decide +kernel
theorem dL_law_331 : decode cL_law 331 = .ok (.iconst 0, 1) := by decide +kernel
theorem dL_law_332 : decode cL_law 332 = .ok (.ireturn, 1) := by decide +kernel
theorem dL_law_333 : decode cL_law 333 = .ok (.aload_n 1, 1) := by decide +kernel
theorem dL_law_334 : decode cL_law 334 = .ok (.invokevirtual 37, 3) := by decide +kernel
theorem dL_law_337 : decode cL_law 337 = .ok (.aload_n 2, 1) := by decide +kernel
theorem dL_law_338 : decode cL_law 338 = .ok (.invokevirtual 40, 3) := by decide +kernel
theorem dL_law_341 : decode cL_law 341 = .ok (.if_icmp .eq 513, 3) := by decide +kernel
theorem dL_law_344 : decode cL_law 344 = .ok (.iconst 0, 1) := by decide +kernel
theorem dL_law_345 : decode cL_law 345 = .ok (.ireturn, 1) := by decide +kernel
theorem dL_law_346 : decode cL_law 346 = .ok (.aload_n 1, 1) := by decide +kernel
theorem dL_law_347 : decode cL_law 347 = .ok (.invokevirtual 41, 3) := by decide +kernel
theorem dL_law_350 : decode cL_law 350 = .ok (.aload_n 2, 1) := by decide +kernel
theorem dL_law_351 : decode cL_law 351 = .ok (.invokevirtual 44, 3) := by decide +kernel
theorem dL_law_354 : decode cL_law 354 = .ok (.if_icmp .eq 500, 3) := by decide +kernel
theorem dL_law_357 : decode cL_law 357 = .ok (.iconst 0, 1) := by decide +kernel
theorem dL_law_358 : decode cL_law 358 = .ok (.ireturn, 1) := by decide +kernel
theorem dL_law_359 : decode cL_law 359 = .ok (.aload_n 1, 1) := by decide +kernel
theorem dL_law_360 : decode cL_law 360 = .ok (.aload_n 0, 1) := by decide +kernel
theorem dL_law_361 : decode cL_law 361 = .ok (.iload_n 3, 1) := by decide +kernel
theorem dL_law_362 : decode cL_law 362 = .ok (.iconst 1, 1) := by decide +kernel
theorem dL_law_363 : decode cL_law 363 = .ok (.iadd, 1) := by decide +kernel
theorem dL_law_364 : decode cL_law 364 = .ok (.iaload, 1) := by decide +kernel
theorem dL_law_365 : decode cL_law 365 = .ok (.aload_n 0, 1) := by decide +kernel
theorem dL_law_366 : decode cL_law 366 = .ok (.iload_n 3, 1) := by decide +kernel
theorem dL_law_367 : decode cL_law 367 = .ok (.iconst 2, 1) := by decide +kernel
theorem dL_law_368 : decode cL_law 368 = .ok (.iadd, 1) := by decide +kernel
theorem dL_law_369 : decode cL_law 369 = .ok (.iaload, 1) := by decide +kernel
theorem dL_law_370 : decode cL_law 370 = .ok (.invokevirtual 45, 3) := by decide +kernel
theorem dL_law_373 : decode cL_law 373 = .ok (.aload_n 2, 1) := by decide +kernel
theorem dL_law_374 : decode cL_law 374 = .ok (.aload_n 0, 1) := by decide +kernel
theorem dL_law_375 : decode cL_law 375 = .ok (.iload_n 3, 1) := by decide +kernel
theorem dL_law_376 : decode cL_law 376 = .ok (.iconst 1, 1) := by decide +kernel
theorem dL_law_377 : decode cL_law 377 = .ok (.iadd, 1) := by decide +kernel
theorem dL_law_378 : decode cL_law 378 = .ok (.iaload, 1) := by decide +kernel
theorem dL_law_379 : decode cL_law 379 = .ok (.aload_n 0, 1) := by decide +kernel
theorem dL_law_380 : decode cL_law 380 = .ok (.iload_n 3, 1) := by decide +kernel
theorem dL_law_381 : decode cL_law 381 = .ok (.iconst 2, 1) := by decide +kernel
theorem dL_law_382 : decode cL_law 382 = .ok (.iadd, 1) := by decide +kernel
theorem dL_law_383 : decode cL_law 383 = .ok (.iaload, 1) := by decide +kernel
theorem dL_law_384 : decode cL_law 384 = .ok (.invokevirtual 48, 3) := by decide +kernel
theorem dL_law_387 : decode cL_law 387 = .ok (.if_icmp .eq 467, 3) := by decide +kernel
theorem dL_law_390 : decode cL_law 390 = .ok (.iconst 0, 1) := by decide +kernel
theorem dL_law_391 : decode cL_law 391 = .ok (.ireturn, 1) := by decide +kernel
theorem dL_law_392 : decode cL_law 392 = .ok (.aload_n 1, 1) := by decide +kernel
theorem dL_law_393 : decode cL_law 393 = .ok (.aload_n 0, 1) := by decide +kernel
theorem dL_law_394 : decode cL_law 394 = .ok (.iload_n 3, 1) := by decide +kernel
theorem dL_law_395 : decode cL_law 395 = .ok (.iconst 1, 1) := by decide +kernel
theorem dL_law_396 : decode cL_law 396 = .ok (.iadd, 1) := by decide +kernel
theorem dL_law_397 : decode cL_law 397 = .ok (.iaload, 1) := by decide +kernel
theorem dL_law_398 : decode cL_law 398 = .ok (.aload_n 0, 1) := by decide +kernel
theorem dL_law_399 : decode cL_law 399 = .ok (.iload_n 3, 1) := by decide +kernel
theorem dL_law_400 : decode cL_law 400 = .ok (.iconst 2, 1) := by decide +kernel
theorem dL_law_401 : decode cL_law 401 = .ok (.iadd, 1) := by decide +kernel
theorem dL_law_402 : decode cL_law 402 = .ok (.iaload, 1) := by decide +kernel
theorem dL_law_403 : decode cL_law 403 = .ok (.invokevirtual 49, 3) := by decide +kernel
theorem dL_law_406 : decode cL_law 406 = .ok (.aload_n 2, 1) := by decide +kernel
theorem dL_law_407 : decode cL_law 407 = .ok (.aload_n 0, 1) := by decide +kernel
theorem dL_law_408 : decode cL_law 408 = .ok (.iload_n 3, 1) := by decide +kernel
theorem dL_law_409 : decode cL_law 409 = .ok (.iconst 1, 1) := by decide +kernel
theorem dL_law_410 : decode cL_law 410 = .ok (.iadd, 1) := by decide +kernel
theorem dL_law_411 : decode cL_law 411 = .ok (.iaload, 1) := by decide +kernel
theorem dL_law_412 : decode cL_law 412 = .ok (.aload_n 0, 1) := by decide +kernel
theorem dL_law_413 : decode cL_law 413 = .ok (.iload_n 3, 1) := by decide +kernel
theorem dL_law_414 : decode cL_law 414 = .ok (.iconst 2, 1) := by decide +kernel
theorem dL_law_415 : decode cL_law 415 = .ok (.iadd, 1) := by decide +kernel
theorem dL_law_416 : decode cL_law 416 = .ok (.iaload, 1) := by decide +kernel
theorem dL_law_417 : decode cL_law 417 = .ok (.invokevirtual 52, 3) := by decide +kernel
theorem dL_law_420 : decode cL_law 420 = .ok (.if_icmp .eq 434, 3) := by decide +kernel
theorem dL_law_423 : decode cL_law 423 = .ok (.iconst 0, 1) := by decide +kernel
theorem dL_law_424 : decode cL_law 424 = .ok (.ireturn, 1) := by decide +kernel
theorem dL_law_425 : decode cL_law 425 = .ok (.aload_n 1, 1) := by decide +kernel
theorem dL_law_426 : decode cL_law 426 = .ok (.aload_n 0, 1) := by decide +kernel
theorem dL_law_427 : decode cL_law 427 = .ok (.iload_n 3, 1) := by decide +kernel
theorem dL_law_428 : decode cL_law 428 = .ok (.iconst 1, 1) := by decide +kernel
theorem dL_law_429 : decode cL_law 429 = .ok (.iadd, 1) := by decide +kernel
theorem dL_law_430 : decode cL_law 430 = .ok (.iaload, 1) := by decide +kernel
theorem dL_law_431 : decode cL_law 431 = .ok (.aload_n 0, 1) := by decide +kernel
theorem dL_law_432 : decode cL_law 432 = .ok (.iload_n 3, 1) := by decide +kernel
theorem dL_law_433 : decode cL_law 433 = .ok (.iconst 2, 1) := by decide +kernel
theorem dL_law_434 : decode cL_law 434 = .ok (.iadd, 1) := by decide +kernel
theorem dL_law_435 : decode cL_law 435 = .ok (.iaload, 1) := by decide +kernel
theorem dL_law_436 : decode cL_law 436 = .ok (.aload_n 0, 1) := by decide +kernel
theorem dL_law_437 : decode cL_law 437 = .ok (.iload_n 3, 1) := by decide +kernel
theorem dL_law_438 : decode cL_law 438 = .ok (.iconst 3, 1) := by decide +kernel
theorem dL_law_439 : decode cL_law 439 = .ok (.iadd, 1) := by decide +kernel
theorem dL_law_440 : decode cL_law 440 = .ok (.iaload, 1) := by decide +kernel
theorem dL_law_441 : decode cL_law 441 = .ok (.invokevirtual 53, 3) := by decide +kernel
theorem dL_law_444 : decode cL_law 444 = .ok (.aload_n 2, 1) := by decide +kernel
theorem dL_law_445 : decode cL_law 445 = .ok (.aload_n 0, 1) := by decide +kernel
theorem dL_law_446 : decode cL_law 446 = .ok (.iload_n 3, 1) := by decide +kernel
theorem dL_law_447 : decode cL_law 447 = .ok (.iconst 1, 1) := by decide +kernel
theorem dL_law_448 : decode cL_law 448 = .ok (.iadd, 1) := by decide +kernel
theorem dL_law_449 : decode cL_law 449 = .ok (.iaload, 1) := by decide +kernel
theorem dL_law_450 : decode cL_law 450 = .ok (.aload_n 0, 1) := by decide +kernel
theorem dL_law_451 : decode cL_law 451 = .ok (.iload_n 3, 1) := by decide +kernel
theorem dL_law_452 : decode cL_law 452 = .ok (.iconst 2, 1) := by decide +kernel
theorem dL_law_453 : decode cL_law 453 = .ok (.iadd, 1) := by decide +kernel
theorem dL_law_454 : decode cL_law 454 = .ok (.iaload, 1) := by decide +kernel
theorem dL_law_455 : decode cL_law 455 = .ok (.aload_n 0, 1) := by decide +kernel
theorem dL_law_456 : decode cL_law 456 = .ok (.iload_n 3, 1) := by decide +kernel
theorem dL_law_457 : decode cL_law 457 = .ok (.iconst 3, 1) := by decide +kernel
theorem dL_law_458 : decode cL_law 458 = .ok (.iadd, 1) := by decide +kernel
theorem dL_law_459 : decode cL_law 459 = .ok (.iaload, 1) := by decide +kernel
theorem dL_law_460 : decode cL_law 460 = .ok (.invokevirtual 57, 3) := by decide +kernel
theorem dL_law_463 : decode cL_law 463 = .ok (.if_icmp .eq 391, 3) := by decide +kernel
theorem dL_law_466 : decode cL_law 466 = .ok (.iconst 0, 1) := by decide +kernel
theorem dL_law_467 : decode cL_law 467 = .ok (.ireturn, 1) := by decide +kernel
theorem dL_law_468 : decode cL_law 468 = .ok (.aload_n 1, 1) := by decide +kernel
theorem dL_law_469 : decode cL_law 469 = .ok (.aload_n 0, 1) := by decide +kernel
theorem dL_law_470 : decode cL_law 470 = .ok (.iload_n 3, 1) := by decide +kernel
theorem dL_law_471 : decode cL_law 471 = .ok (.iconst 1, 1) := by decide +kernel
theorem dL_law_472 : decode cL_law 472 = .ok (.iadd, 1) := by decide +kernel
theorem dL_law_473 : decode cL_law 473 = .ok (.iaload, 1) := by decide +kernel
theorem dL_law_474 : decode cL_law 474 = .ok (.aload_n 0, 1) := by decide +kernel
theorem dL_law_475 : decode cL_law 475 = .ok (.iload_n 3, 1) := by decide +kernel
theorem dL_law_476 : decode cL_law 476 = .ok (.iconst 2, 1) := by decide +kernel
theorem dL_law_477 : decode cL_law 477 = .ok (.iadd, 1) := by decide +kernel
theorem dL_law_478 : decode cL_law 478 = .ok (.iaload, 1) := by decide +kernel
theorem dL_law_479 : decode cL_law 479 = .ok (.invokevirtual 58, 3) := by decide +kernel
theorem dL_law_482 : decode cL_law 482 = .ok (.aload_n 2, 1) := by decide +kernel
theorem dL_law_483 : decode cL_law 483 = .ok (.aload_n 0, 1) := by decide +kernel
theorem dL_law_484 : decode cL_law 484 = .ok (.iload_n 3, 1) := by decide +kernel
theorem dL_law_485 : decode cL_law 485 = .ok (.iconst 1, 1) := by decide +kernel
theorem dL_law_486 : decode cL_law 486 = .ok (.iadd, 1) := by decide +kernel
theorem dL_law_487 : decode cL_law 487 = .ok (.iaload, 1) := by decide +kernel
theorem dL_law_488 : decode cL_law 488 = .ok (.aload_n 0, 1) := by decide +kernel
theorem dL_law_489 : decode cL_law 489 = .ok (.iload_n 3, 1) := by decide +kernel
theorem dL_law_490 : decode cL_law 490 = .ok (.iconst 2, 1) := by decide +kernel
theorem dL_law_491 : decode cL_law 491 = .ok (.iadd, 1) := by decide +kernel
theorem dL_law_492 : decode cL_law 492 = .ok (.iaload, 1) := by decide +kernel
theorem dL_law_493 : decode cL_law 493 = .ok (.invokevirtual 61, 3) := by decide +kernel
theorem dL_law_496 : decode cL_law 496 = .ok (.if_icmp .eq 358, 3) := by decide +kernel
theorem dL_law_499 : decode cL_law 499 = .ok (.iconst 0, 1) := by decide +kernel
theorem dL_law_500 : decode cL_law 500 = .ok (.ireturn, 1) := by decide +kernel
theorem dL_law_501 : decode cL_law 501 = .ok (.aload_n 1, 1) := by decide +kernel
theorem dL_law_502 : decode cL_law 502 = .ok (.aload_n 0, 1) := by decide +kernel
theorem dL_law_503 : decode cL_law 503 = .ok (.iload_n 3, 1) := by decide +kernel
theorem dL_law_504 : decode cL_law 504 = .ok (.iconst 1, 1) := by decide +kernel
theorem dL_law_505 : decode cL_law 505 = .ok (.iadd, 1) := by decide +kernel
theorem dL_law_506 : decode cL_law 506 = .ok (.iaload, 1) := by decide +kernel
theorem dL_law_507 : decode cL_law 507 = .ok (.invokevirtual 62, 3) := by decide +kernel
theorem dL_law_510 : decode cL_law 510 = .ok (.aload_n 2, 1) := by decide +kernel
theorem dL_law_511 : decode cL_law 511 = .ok (.aload_n 0, 1) := by decide +kernel
theorem dL_law_512 : decode cL_law 512 = .ok (.iload_n 3, 1) := by decide +kernel
theorem dL_law_513 : decode cL_law 513 = .ok (.iconst 1, 1) := by decide +kernel
theorem dL_law_514 : decode cL_law 514 = .ok (.iadd, 1) := by decide +kernel
theorem dL_law_515 : decode cL_law 515 = .ok (.iaload, 1) := by decide +kernel
theorem dL_law_516 : decode cL_law 516 = .ok (.invokevirtual 66, 3) := by decide +kernel
theorem dL_law_519 : decode cL_law 519 = .ok (.if_icmp .eq 335, 3) := by decide +kernel
theorem dL_law_522 : decode cL_law 522 = .ok (.iconst 0, 1) := by decide +kernel
theorem dL_law_523 : decode cL_law 523 = .ok (.ireturn, 1) := by decide +kernel
theorem dL_law_524 : decode cL_law 524 = .ok (.aload_n 1, 1) := by decide +kernel
theorem dL_law_525 : decode cL_law 525 = .ok (.aload_n 0, 1) := by decide +kernel
theorem dL_law_526 : decode cL_law 526 = .ok (.iload_n 3, 1) := by decide +kernel
theorem dL_law_527 : decode cL_law 527 = .ok (.iconst 1, 1) := by decide +kernel
theorem dL_law_528 : decode cL_law 528 = .ok (.iadd, 1) := by decide +kernel
theorem dL_law_529 : decode cL_law 529 = .ok (.iaload, 1) := by decide +kernel
theorem dL_law_530 : decode cL_law 530 = .ok (.invokevirtual 67, 3) := by decide +kernel
theorem dL_law_533 : decode cL_law 533 = .ok (.aload_n 2, 1) := by decide +kernel
theorem dL_law_534 : decode cL_law 534 = .ok (.aload_n 0, 1) := by decide +kernel
theorem dL_law_535 : decode cL_law 535 = .ok (.iload_n 3, 1) := by decide +kernel
theorem dL_law_536 : decode cL_law 536 = .ok (.iconst 1, 1) := by decide +kernel
theorem dL_law_537 : decode cL_law 537 = .ok (.iadd, 1) := by decide +kernel
theorem dL_law_538 : decode cL_law 538 = .ok (.iaload, 1) := by decide +kernel
theorem dL_law_539 : decode cL_law 539 = .ok (.invokevirtual 70, 3) := by decide +kernel
theorem dL_law_542 : decode cL_law 542 = .ok (.if_icmp .eq 312, 3) := by decide +kernel
theorem dL_law_545 : decode cL_law 545 = .ok (.iconst 0, 1) := by decide +kernel
theorem dL_law_546 : decode cL_law 546 = .ok (.ireturn, 1) := by decide +kernel
theorem dL_law_547 : decode cL_law 547 = .ok (.aload_n 1, 1) := by decide +kernel
theorem dL_law_548 : decode cL_law 548 = .ok (.aload_n 0, 1) := by decide +kernel
theorem dL_law_549 : decode cL_law 549 = .ok (.iload_n 3, 1) := by decide +kernel
theorem dL_law_550 : decode cL_law 550 = .ok (.iconst 1, 1) := by decide +kernel
theorem dL_law_551 : decode cL_law 551 = .ok (.iadd, 1) := by decide +kernel
theorem dL_law_552 : decode cL_law 552 = .ok (.iaload, 1) := by decide +kernel
theorem dL_law_553 : decode cL_law 553 = .ok (.invokevirtual 71, 3) := by decide +kernel
theorem dL_law_556 : decode cL_law 556 = .ok (.aload_n 2, 1) := by decide +kernel
theorem dL_law_557 : decode cL_law 557 = .ok (.aload_n 0, 1) := by decide +kernel
theorem dL_law_558 : decode cL_law 558 = .ok (.iload_n 3, 1) := by decide +kernel
theorem dL_law_559 : decode cL_law 559 = .ok (.iconst 1, 1) := by decide +kernel
theorem dL_law_560 : decode cL_law 560 = .ok (.iadd, 1) := by decide +kernel
theorem dL_law_561 : decode cL_law 561 = .ok (.iaload, 1) := by decide +kernel
theorem dL_law_562 : decode cL_law 562 = .ok (.invokevirtual 74, 3) := by decide +kernel
theorem dL_law_565 : decode cL_law 565 = .ok (.if_icmp .eq 289, 3) := by decide +kernel
theorem dL_law_568 : decode cL_law 568 = .ok (.iconst 0, 1) := by decide +kernel
theorem dL_law_569 : decode cL_law 569 = .ok (.ireturn, 1) := by decide +kernel
theorem dL_law_570 : decode cL_law 570 = .ok (.aload_n 1, 1) := by decide +kernel
theorem dL_law_571 : decode cL_law 571 = .ok (.aload_n 0, 1) := by decide +kernel
theorem dL_law_572 : decode cL_law 572 = .ok (.iload_n 3, 1) := by decide +kernel
theorem dL_law_573 : decode cL_law 573 = .ok (.iconst 1, 1) := by decide +kernel
theorem dL_law_574 : decode cL_law 574 = .ok (.iadd, 1) := by decide +kernel
theorem dL_law_575 : decode cL_law 575 = .ok (.iaload, 1) := by decide +kernel
theorem dL_law_576 : decode cL_law 576 = .ok (.aload_n 0, 1) := by decide +kernel
theorem dL_law_577 : decode cL_law 577 = .ok (.iload_n 3, 1) := by decide +kernel
theorem dL_law_578 : decode cL_law 578 = .ok (.iconst 2, 1) := by decide +kernel
theorem dL_law_579 : decode cL_law 579 = .ok (.iadd, 1) := by decide +kernel
theorem dL_law_580 : decode cL_law 580 = .ok (.iaload, 1) := by decide +kernel
theorem dL_law_581 : decode cL_law 581 = .ok (.invokevirtual 75, 3) := by decide +kernel
theorem dL_law_584 : decode cL_law 584 = .ok (.aload_n 2, 1) := by decide +kernel
theorem dL_law_585 : decode cL_law 585 = .ok (.aload_n 0, 1) := by decide +kernel
theorem dL_law_586 : decode cL_law 586 = .ok (.iload_n 3, 1) := by decide +kernel
theorem dL_law_587 : decode cL_law 587 = .ok (.iconst 1, 1) := by decide +kernel
theorem dL_law_588 : decode cL_law 588 = .ok (.iadd, 1) := by decide +kernel
theorem dL_law_589 : decode cL_law 589 = .ok (.iaload, 1) := by decide +kernel
theorem dL_law_590 : decode cL_law 590 = .ok (.aload_n 0, 1) := by decide +kernel
theorem dL_law_591 : decode cL_law 591 = .ok (.iload_n 3, 1) := by decide +kernel
theorem dL_law_592 : decode cL_law 592 = .ok (.iconst 2, 1) := by decide +kernel
theorem dL_law_593 : decode cL_law 593 = .ok (.iadd, 1) := by decide +kernel
theorem dL_law_594 : decode cL_law 594 = .ok (.iaload, 1) := by decide +kernel
theorem dL_law_595 : decode cL_law 595 = .ok (.invokevirtual 78, 3) := by decide +kernel
theorem dL_law_598 : decode cL_law 598 = .ok (.if_icmp .eq 256, 3) := by decide +kernel
theorem dL_law_601 : decode cL_law 601 = .ok (.iconst 0, 1) := by decide +kernel
theorem dL_law_602 : decode cL_law 602 = .ok (.ireturn, 1) := by decide +kernel
theorem dL_law_603 : decode cL_law 603 = .ok (.aload_n 1, 1) := by decide +kernel
theorem dL_law_604 : decode cL_law 604 = .ok (.aload_n 0, 1) := by decide +kernel
theorem dL_law_605 : decode cL_law 605 = .ok (.iload_n 3, 1) := by decide +kernel
theorem dL_law_606 : decode cL_law 606 = .ok (.iconst 1, 1) := by decide +kernel
theorem dL_law_607 : decode cL_law 607 = .ok (.iadd, 1) := by decide +kernel
theorem dL_law_608 : decode cL_law 608 = .ok (.iaload, 1) := by decide +kernel
theorem dL_law_609 : decode cL_law 609 = .ok (.aload_n 0, 1) := by decide +kernel
theorem dL_law_610 : decode cL_law 610 = .ok (.iload_n 3, 1) := by decide +kernel
theorem dL_law_611 : decode cL_law 611 = .ok (.iconst 2, 1) := by decide +kernel
theorem dL_law_612 : decode cL_law 612 = .ok (.iadd, 1) := by decide +kernel
theorem dL_law_613 : decode cL_law 613 = .ok (.iaload, 1) := by decide +kernel
theorem dL_law_614 : decode cL_law 614 = .ok (.invokevirtual 79, 3) := by decide +kernel
theorem dL_law_617 : decode cL_law 617 = .ok (.aload_n 2, 1) := by decide +kernel
theorem dL_law_618 : decode cL_law 618 = .ok (.aload_n 0, 1) := by decide +kernel
theorem dL_law_619 : decode cL_law 619 = .ok (.iload_n 3, 1) := by decide +kernel
theorem dL_law_620 : decode cL_law 620 = .ok (.iconst 1, 1) := by decide +kernel
theorem dL_law_621 : decode cL_law 621 = .ok (.iadd, 1) := by decide +kernel
theorem dL_law_622 : decode cL_law 622 = .ok (.iaload, 1) := by decide +kernel
theorem dL_law_623 : decode cL_law 623 = .ok (.aload_n 0, 1) := by decide +kernel
theorem dL_law_624 : decode cL_law 624 = .ok (.iload_n 3, 1) := by decide +kernel
theorem dL_law_625 : decode cL_law 625 = .ok (.iconst 2, 1) := by decide +kernel
theorem dL_law_626 : decode cL_law 626 = .ok (.iadd, 1) := by decide +kernel
theorem dL_law_627 : decode cL_law 627 = .ok (.iaload, 1) := by decide +kernel
theorem dL_law_628 : decode cL_law 628 = .ok (.invokevirtual 82, 3) := by decide +kernel
theorem dL_law_631 : decode cL_law 631 = .ok (.if_icmp .eq 223, 3) := by decide +kernel
theorem dL_law_634 : decode cL_law 634 = .ok (.iconst 0, 1) := by decide +kernel
theorem dL_law_635 : decode cL_law 635 = .ok (.ireturn, 1) := by decide +kernel
theorem dL_law_636 : decode cL_law 636 = .ok (.aload_n 1, 1) := by decide +kernel
theorem dL_law_637 : decode cL_law 637 = .ok (.aload_n 0, 1) := by decide +kernel
theorem dL_law_638 : decode cL_law 638 = .ok (.iload_n 3, 1) := by decide +kernel
theorem dL_law_639 : decode cL_law 639 = .ok (.iconst 1, 1) := by decide +kernel
theorem dL_law_640 : decode cL_law 640 = .ok (.iadd, 1) := by decide +kernel
theorem dL_law_641 : decode cL_law 641 = .ok (.iaload, 1) := by decide +kernel
theorem dL_law_642 : decode cL_law 642 = .ok (.aload_n 0, 1) := by decide +kernel
theorem dL_law_643 : decode cL_law 643 = .ok (.iload_n 3, 1) := by decide +kernel
theorem dL_law_644 : decode cL_law 644 = .ok (.iconst 2, 1) := by decide +kernel
theorem dL_law_645 : decode cL_law 645 = .ok (.iadd, 1) := by decide +kernel
theorem dL_law_646 : decode cL_law 646 = .ok (.iaload, 1) := by decide +kernel
theorem dL_law_647 : decode cL_law 647 = .ok (.aload_n 0, 1) := by decide +kernel
theorem dL_law_648 : decode cL_law 648 = .ok (.iload_n 3, 1) := by decide +kernel
theorem dL_law_649 : decode cL_law 649 = .ok (.iconst 3, 1) := by decide +kernel
theorem dL_law_650 : decode cL_law 650 = .ok (.iadd, 1) := by decide +kernel
theorem dL_law_651 : decode cL_law 651 = .ok (.iaload, 1) := by decide +kernel
theorem dL_law_652 : decode cL_law 652 = .ok (.aload_n 0, 1) := by decide +kernel
theorem dL_law_653 : decode cL_law 653 = .ok (.iload_n 3, 1) := by decide +kernel
theorem dL_law_654 : decode cL_law 654 = .ok (.iconst 4, 1) := by decide +kernel
theorem dL_law_655 : decode cL_law 655 = .ok (.iadd, 1) := by decide +kernel
theorem dL_law_656 : decode cL_law 656 = .ok (.iaload, 1) := by decide +kernel
theorem dL_law_657 : decode cL_law 657 = .ok (.invokevirtual 83, 3) := by decide +kernel
theorem dL_law_660 : decode cL_law 660 = .ok (.aload_n 2, 1) := by decide +kernel
theorem dL_law_661 : decode cL_law 661 = .ok (.aload_n 0, 1) := by decide +kernel
theorem dL_law_662 : decode cL_law 662 = .ok (.iload_n 3, 1) := by decide +kernel
theorem dL_law_663 : decode cL_law 663 = .ok (.iconst 1, 1) := by decide +kernel
theorem dL_law_664 : decode cL_law 664 = .ok (.iadd, 1) := by decide +kernel
theorem dL_law_665 : decode cL_law 665 = .ok (.iaload, 1) := by decide +kernel
theorem dL_law_666 : decode cL_law 666 = .ok (.aload_n 0, 1) := by decide +kernel
theorem dL_law_667 : decode cL_law 667 = .ok (.iload_n 3, 1) := by decide +kernel
theorem dL_law_668 : decode cL_law 668 = .ok (.iconst 2, 1) := by decide +kernel
theorem dL_law_669 : decode cL_law 669 = .ok (.iadd, 1) := by decide +kernel
theorem dL_law_670 : decode cL_law 670 = .ok (.iaload, 1) := by decide +kernel
theorem dL_law_671 : decode cL_law 671 = .ok (.aload_n 0, 1) := by decide +kernel
theorem dL_law_672 : decode cL_law 672 = .ok (.iload_n 3, 1) := by decide +kernel
theorem dL_law_673 : decode cL_law 673 = .ok (.iconst 3, 1) := by decide +kernel
theorem dL_law_674 : decode cL_law 674 = .ok (.iadd, 1) := by decide +kernel
theorem dL_law_675 : decode cL_law 675 = .ok (.iaload, 1) := by decide +kernel
theorem dL_law_676 : decode cL_law 676 = .ok (.aload_n 0, 1) := by decide +kernel
theorem dL_law_677 : decode cL_law 677 = .ok (.iload_n 3, 1) := by decide +kernel
theorem dL_law_678 : decode cL_law 678 = .ok (.iconst 4, 1) := by decide +kernel
theorem dL_law_679 : decode cL_law 679 = .ok (.iadd, 1) := by decide +kernel
theorem dL_law_680 : decode cL_law 680 = .ok (.iaload, 1) := by decide +kernel
theorem dL_law_681 : decode cL_law 681 = .ok (.invokevirtual 87, 3) := by decide +kernel
theorem dL_law_684 : decode cL_law 684 = .ok (.if_icmp .eq 170, 3) := by decide +kernel
theorem dL_law_687 : decode cL_law 687 = .ok (.iconst 0, 1) := by decide +kernel
theorem dL_law_688 : decode cL_law 688 = .ok (.ireturn, 1) := by decide +kernel
theorem dL_law_689 : decode cL_law 689 = .ok (.aload_n 1, 1) := by decide +kernel
theorem dL_law_690 : decode cL_law 690 = .ok (.aload_n 0, 1) := by decide +kernel
theorem dL_law_691 : decode cL_law 691 = .ok (.iload_n 3, 1) := by decide +kernel
theorem dL_law_692 : decode cL_law 692 = .ok (.iconst 1, 1) := by decide +kernel
theorem dL_law_693 : decode cL_law 693 = .ok (.iadd, 1) := by decide +kernel
theorem dL_law_694 : decode cL_law 694 = .ok (.iaload, 1) := by decide +kernel
theorem dL_law_695 : decode cL_law 695 = .ok (.aload_n 0, 1) := by decide +kernel
theorem dL_law_696 : decode cL_law 696 = .ok (.iload_n 3, 1) := by decide +kernel
theorem dL_law_697 : decode cL_law 697 = .ok (.iconst 2, 1) := by decide +kernel
theorem dL_law_698 : decode cL_law 698 = .ok (.iadd, 1) := by decide +kernel
theorem dL_law_699 : decode cL_law 699 = .ok (.iaload, 1) := by decide +kernel
theorem dL_law_700 : decode cL_law 700 = .ok (.invokevirtual 88, 3) := by decide +kernel
theorem dL_law_703 : decode cL_law 703 = .ok (.aload_n 2, 1) := by decide +kernel
theorem dL_law_704 : decode cL_law 704 = .ok (.aload_n 0, 1) := by decide +kernel
theorem dL_law_705 : decode cL_law 705 = .ok (.iload_n 3, 1) := by decide +kernel
theorem dL_law_706 : decode cL_law 706 = .ok (.iconst 1, 1) := by decide +kernel
theorem dL_law_707 : decode cL_law 707 = .ok (.iadd, 1) := by decide +kernel
theorem dL_law_708 : decode cL_law 708 = .ok (.iaload, 1) := by decide +kernel
theorem dL_law_709 : decode cL_law 709 = .ok (.aload_n 0, 1) := by decide +kernel
theorem dL_law_710 : decode cL_law 710 = .ok (.iload_n 3, 1) := by decide +kernel
theorem dL_law_711 : decode cL_law 711 = .ok (.iconst 2, 1) := by decide +kernel
theorem dL_law_712 : decode cL_law 712 = .ok (.iadd, 1) := by decide +kernel
theorem dL_law_713 : decode cL_law 713 = .ok (.iaload, 1) := by decide +kernel
theorem dL_law_714 : decode cL_law 714 = .ok (.invokevirtual 91, 3) := by decide +kernel
theorem dL_law_717 : decode cL_law 717 = .ok (.if_icmp .eq 137, 3) := by decide +kernel
theorem dL_law_720 : decode cL_law 720 = .ok (.iconst 0, 1) := by decide +kernel
theorem dL_law_721 : decode cL_law 721 = .ok (.ireturn, 1) := by decide +kernel
theorem dL_law_722 : decode cL_law 722 = .ok (.aload_n 1, 1) := by decide +kernel
theorem dL_law_723 : decode cL_law 723 = .ok (.aload_n 0, 1) := by decide +kernel
theorem dL_law_724 : decode cL_law 724 = .ok (.iload_n 3, 1) := by decide +kernel
theorem dL_law_725 : decode cL_law 725 = .ok (.iconst 1, 1) := by decide +kernel
theorem dL_law_726 : decode cL_law 726 = .ok (.iadd, 1) := by decide +kernel
theorem dL_law_727 : decode cL_law 727 = .ok (.iaload, 1) := by decide +kernel
theorem dL_law_728 : decode cL_law 728 = .ok (.aload_n 0, 1) := by decide +kernel
theorem dL_law_729 : decode cL_law 729 = .ok (.iload_n 3, 1) := by decide +kernel
theorem dL_law_730 : decode cL_law 730 = .ok (.iconst 2, 1) := by decide +kernel
theorem dL_law_731 : decode cL_law 731 = .ok (.iadd, 1) := by decide +kernel
theorem dL_law_732 : decode cL_law 732 = .ok (.iaload, 1) := by decide +kernel
theorem dL_law_733 : decode cL_law 733 = .ok (.aload_n 0, 1) := by decide +kernel
theorem dL_law_734 : decode cL_law 734 = .ok (.iload_n 3, 1) := by decide +kernel
theorem dL_law_735 : decode cL_law 735 = .ok (.iconst 3, 1) := by decide +kernel
theorem dL_law_736 : decode cL_law 736 = .ok (.iadd, 1) := by decide +kernel
theorem dL_law_737 : decode cL_law 737 = .ok (.iaload, 1) := by decide +kernel
theorem dL_law_738 : decode cL_law 738 = .ok (.invokevirtual 92, 3) := by decide +kernel
theorem dL_law_741 : decode cL_law 741 = .ok (.aload_n 2, 1) := by decide +kernel
theorem dL_law_742 : decode cL_law 742 = .ok (.aload_n 0, 1) := by decide +kernel
theorem dL_law_743 : decode cL_law 743 = .ok (.iload_n 3, 1) := by decide +kernel
theorem dL_law_744 : decode cL_law 744 = .ok (.iconst 1, 1) := by decide +kernel
theorem dL_law_745 : decode cL_law 745 = .ok (.iadd, 1) := by decide +kernel
theorem dL_law_746 : decode cL_law 746 = .ok (.iaload, 1) := by decide +kernel
theorem dL_law_747 : decode cL_law 747 = .ok (.aload_n 0, 1) := by decide +kernel
theorem dL_law_748 : decode cL_law 748 = .ok (.iload_n 3, 1) := by decide +kernel
theorem dL_law_749 : decode cL_law 749 = .ok (.iconst 2, 1) := by decide +kernel
theorem dL_law_750 : decode cL_law 750 = .ok (.iadd, 1) := by decide +kernel
theorem dL_law_751 : decode cL_law 751 = .ok (.iaload, 1) := by decide +kernel
theorem dL_law_752 : decode cL_law 752 = .ok (.aload_n 0, 1) := by decide +kernel
theorem dL_law_753 : decode cL_law 753 = .ok (.iload_n 3, 1) := by decide +kernel
theorem dL_law_754 : decode cL_law 754 = .ok (.iconst 3, 1) := by decide +kernel
theorem dL_law_755 : decode cL_law 755 = .ok (.iadd, 1) := by decide +kernel
theorem dL_law_756 : decode cL_law 756 = .ok (.iaload, 1) := by decide +kernel
theorem dL_law_757 : decode cL_law 757 = .ok (.invokevirtual 95, 3) := by decide +kernel
theorem dL_law_760 : decode cL_law 760 = .ok (.if_icmp .eq 94, 3) := by decide +kernel
theorem dL_law_763 : decode cL_law 763 = .ok (.iconst 0, 1) := by decide +kernel
theorem dL_law_764 : decode cL_law 764 = .ok (.ireturn, 1) := by decide +kernel
theorem dL_law_765 : decode cL_law 765 = .ok (.aload_n 1, 1) := by decide +kernel
theorem dL_law_766 : decode cL_law 766 = .ok (.aload_n 0, 1) := by decide +kernel
theorem dL_law_767 : decode cL_law 767 = .ok (.iload_n 3, 1) := by decide +kernel
theorem dL_law_768 : decode cL_law 768 = .ok (.iconst 1, 1) := by decide +kernel
theorem dL_law_769 : decode cL_law 769 = .ok (.iadd, 1) := by decide +kernel
theorem dL_law_770 : decode cL_law 770 = .ok (.iaload, 1) := by decide +kernel
theorem dL_law_771 : decode cL_law 771 = .ok (.aload_n 0, 1) := by decide +kernel
theorem dL_law_772 : decode cL_law 772 = .ok (.iload_n 3, 1) := by decide +kernel
theorem dL_law_773 : decode cL_law 773 = .ok (.iconst 2, 1) := by decide +kernel
theorem dL_law_774 : decode cL_law 774 = .ok (.iadd, 1) := by decide +kernel
theorem dL_law_775 : decode cL_law 775 = .ok (.iaload, 1) := by decide +kernel
theorem dL_law_776 : decode cL_law 776 = .ok (.invokevirtual 96, 3) := by decide +kernel
theorem dL_law_779 : decode cL_law 779 = .ok (.aload_n 2, 1) := by decide +kernel
theorem dL_law_780 : decode cL_law 780 = .ok (.aload_n 0, 1) := by decide +kernel
theorem dL_law_781 : decode cL_law 781 = .ok (.iload_n 3, 1) := by decide +kernel
theorem dL_law_782 : decode cL_law 782 = .ok (.iconst 1, 1) := by decide +kernel
theorem dL_law_783 : decode cL_law 783 = .ok (.iadd, 1) := by decide +kernel
theorem dL_law_784 : decode cL_law 784 = .ok (.iaload, 1) := by decide +kernel
theorem dL_law_785 : decode cL_law 785 = .ok (.aload_n 0, 1) := by decide +kernel
theorem dL_law_786 : decode cL_law 786 = .ok (.iload_n 3, 1) := by decide +kernel
theorem dL_law_787 : decode cL_law 787 = .ok (.iconst 2, 1) := by decide +kernel
theorem dL_law_788 : decode cL_law 788 = .ok (.iadd, 1) := by decide +kernel
theorem dL_law_789 : decode cL_law 789 = .ok (.iaload, 1) := by decide +kernel
theorem dL_law_790 : decode cL_law 790 = .ok (.invokevirtual 99, 3) := by decide +kernel
theorem dL_law_793 : decode cL_law 793 = .ok (.if_icmp .eq 61, 3) := by decide +kernel
theorem dL_law_796 : decode cL_law 796 = .ok (.iconst 0, 1) := by decide +kernel
theorem dL_law_797 : decode cL_law 797 = .ok (.ireturn, 1) := by decide +kernel
theorem dL_law_798 : decode cL_law 798 = .ok (.aload_n 1, 1) := by decide +kernel
theorem dL_law_799 : decode cL_law 799 = .ok (.aload_n 0, 1) := by decide +kernel
theorem dL_law_800 : decode cL_law 800 = .ok (.iload_n 3, 1) := by decide +kernel
theorem dL_law_801 : decode cL_law 801 = .ok (.iconst 1, 1) := by decide +kernel
theorem dL_law_802 : decode cL_law 802 = .ok (.iadd, 1) := by decide +kernel
theorem dL_law_803 : decode cL_law 803 = .ok (.iaload, 1) := by decide +kernel
theorem dL_law_804 : decode cL_law 804 = .ok (.aload_n 0, 1) := by decide +kernel
theorem dL_law_805 : decode cL_law 805 = .ok (.iload_n 3, 1) := by decide +kernel
theorem dL_law_806 : decode cL_law 806 = .ok (.iconst 2, 1) := by decide +kernel
theorem dL_law_807 : decode cL_law 807 = .ok (.iadd, 1) := by decide +kernel
theorem dL_law_808 : decode cL_law 808 = .ok (.iaload, 1) := by decide +kernel
theorem dL_law_809 : decode cL_law 809 = .ok (.invokevirtual 100, 3) := by decide +kernel
theorem dL_law_812 : decode cL_law 812 = .ok (.aload_n 2, 1) := by decide +kernel
theorem dL_law_813 : decode cL_law 813 = .ok (.aload_n 0, 1) := by decide +kernel
theorem dL_law_814 : decode cL_law 814 = .ok (.iload_n 3, 1) := by decide +kernel
theorem dL_law_815 : decode cL_law 815 = .ok (.iconst 1, 1) := by decide +kernel
theorem dL_law_816 : decode cL_law 816 = .ok (.iadd, 1) := by decide +kernel
theorem dL_law_817 : decode cL_law 817 = .ok (.iaload, 1) := by decide +kernel
theorem dL_law_818 : decode cL_law 818 = .ok (.aload_n 0, 1) := by decide +kernel
theorem dL_law_819 : decode cL_law 819 = .ok (.iload_n 3, 1) := by decide +kernel
theorem dL_law_820 : decode cL_law 820 = .ok (.iconst 2, 1) := by decide +kernel
theorem dL_law_821 : decode cL_law 821 = .ok (.iadd, 1) := by decide +kernel
theorem dL_law_822 : decode cL_law 822 = .ok (.iaload, 1) := by decide +kernel
theorem dL_law_823 : decode cL_law 823 = .ok (.invokevirtual 103, 3) := by decide +kernel
theorem dL_law_826 : decode cL_law 826 = .ok (.if_icmp .eq 28, 3) := by decide +kernel
theorem dL_law_829 : decode cL_law 829 = .ok (.iconst 0, 1) := by decide +kernel
theorem dL_law_830 : decode cL_law 830 = .ok (.ireturn, 1) := by decide +kernel
theorem dL_law_831 : decode cL_law 831 = .ok (.aload_n 1, 1) := by decide +kernel
theorem dL_law_832 : decode cL_law 832 = .ok (.aload_n 0, 1) := by decide +kernel
theorem dL_law_833 : decode cL_law 833 = .ok (.iload_n 3, 1) := by decide +kernel
theorem dL_law_834 : decode cL_law 834 = .ok (.iconst 1, 1) := by decide +kernel
theorem dL_law_835 : decode cL_law 835 = .ok (.iadd, 1) := by decide +kernel
theorem dL_law_836 : decode cL_law 836 = .ok (.iaload, 1) := by decide +kernel
theorem dL_law_837 : decode cL_law 837 = .ok (.invokevirtual 104, 3) := by decide +kernel
theorem dL_law_840 : decode cL_law 840 = .ok (.aload_n 2, 1) := by decide +kernel
theorem dL_law_841 : decode cL_law 841 = .ok (.aload_n 0, 1) := by decide +kernel
theorem dL_law_842 : decode cL_law 842 = .ok (.iload_n 3, 1) := by decide +kernel
theorem dL_law_843 : decode cL_law 843 = .ok (.iconst 1, 1) := by decide +kernel
theorem dL_law_844 : decode cL_law 844 = .ok (.iadd, 1) := by decide +kernel
theorem dL_law_845 : decode cL_law 845 = .ok (.iaload, 1) := by decide +kernel
theorem dL_law_846 : decode cL_law 846 = .ok (.invokevirtual 107, 3) := by decide +kernel
theorem dL_law_849 : decode cL_law 849 = .ok (.if_icmp .eq 5, 3) := by decide +kernel
theorem dL_law_852 : decode cL_law 852 = .ok (.iconst 0, 1) := by decide +kernel
theorem dL_law_853 : decode cL_law 853 = .ok (.ireturn, 1) := by decide +kernel
theorem dL_law_854 : decode cL_law 854 = .ok (.iinc 3 7, 3) := by decide +kernel
theorem dL_law_857 : decode cL_law 857 = .ok (.goto (-839), 3) := by decide +kernel
theorem dL_law_860 : decode cL_law 860 = .ok (.iconst 1, 1) := by decide +kernel
theorem dL_law_861 : decode cL_law 861 = .ok (.ireturn, 1) := by decide +kernel
