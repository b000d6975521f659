theorem dX6_mark_1 : decode cX6_mark 1 = .ok (.getfield 10, 3) := by decide +kernel
theorem dX6_mark_4 : decode cX6_mark 4 = .ok (.iload_n 1, 1) := by decide +kernel
theorem dX6_mark_5 : decode cX6_mark 5 = .ok (.invokevirtual 85, 3) := by decide +kernel
theorem dX6_mark_8 : decode cX6_mark 8 = .ok (.ifCond .ne 5, 3) := by decide +kernel
theorem dX6_mark_11 : decode cX6_mark 11 = .ok (.iconst (-1), 1) := by decide +kernel
theorem dX6_mark_12 : decode cX6_mark 12 = .ok (.ireturn, 1) := by decide +kernel
theorem dX6_mark_13 : decode cX6_mark 13 = .ok (.iload_n 2, 1) := by decide +kernel
theorem dX6_mark_14 : decode cX6_mark 14 = .ok (.iconst 2, 1) := by decide +kernel
theorem dX6_mark_15 : decode cX6_mark 15 = .ok (.invokestatic 61, 3) := by decide +kernel
theorem dX6_mark_18 : decode cX6_mark 18 = .ok (.ifCond .eq 21, 3) := by decide +kernel
theorem dX6_mark_21 : decode cX6_mark 21 = .ok (.iload_n 3, 1) := by decide +kernel
theorem dX6_mark_22 : decode cX6_mark 22 = .ok (.iconst 4, 1) := by decide +kernel
theorem dX6_mark_23 : decode cX6_mark 23 = .ok (.invokestatic 61, 3) := by decide +kernel
theorem dX6_mark_26 : decode cX6_mark 26 = .ok (.ifCond .eq 13, 3) := by decide +kernel
theorem dX6_mark_29 : decode cX6_mark 29 = .ok (.iload 4, 2) := by decide +kernel
theorem dX6_mark_31 : decode cX6_mark 31 = .ok (.bipush 100, 2) := by decide +kernel
theorem dX6_mark_33 : decode cX6_mark 33 = .ok (.invokestatic 61, 3) := by decide +kernel
theorem dX6_mark_36 : decode cX6_mark 36 = .ok (.ifCond .ne 6, 3) := by decide +kernel
theorem dX6_mark_39 : decode cX6_mark 39 = .ok (.bipush (-2), 2) := by decide +kernel
theorem dX6_mark_41 : decode cX6_mark 41 = .ok (.ireturn, 1) := by decide +kernel
theorem dX6_mark_42 : decode cX6_mark 42 = .ok (.aload_n 0, 1) := by decide +kernel
theorem dX6_mark_43 : decode cX6_mark 43 = .ok (.getfield 10, 3) := by decide +kernel
theorem dX6_mark_46 : decode cX6_mark 46 = .ok (.getfield 89, 3) := by decide +kernel
theorem dX6_mark_49 : decode cX6_mark 49 = .ok (.iload_n 1, 1) := by decide +kernel
theorem dX6_mark_50 : decode cX6_mark 50 = .ok (.iaload, 1) := by decide +kernel
theorem dX6_mark_51 : decode cX6_mark 51 = .ok (.iconst 2, 1) := by decide +kernel
theorem dX6_mark_52 : decode cX6_mark 52 = .ok (.if_icmp .eq 19, 3) := by decide +kernel
theorem dX6_mark_55 : decode cX6_mark 55 = .ok (.aload_n 0, 1) := by decide +kernel
theorem dX6_mark_56 : decode cX6_mark 56 = .ok (.getfield 10, 3) := by decide +kernel
theorem dX6_mark_59 : decode cX6_mark 59 = .ok (.getfield 89, 3) := by decide +kernel
theorem dX6_mark_62 : decode cX6_mark 62 = .ok (.iload_n 1, 1) := by decide +kernel
theorem dX6_mark_63 : decode cX6_mark 63 = .ok (.iaload, 1) := by decide +kernel
theorem dX6_mark_64 : decode cX6_mark 64 = .ok (.ifCond .ne 10, 3) := by decide +kernel
theorem dX6_mark_67 : decode cX6_mark 67 = .ok (.iload_n 2, 1) := by decide +kernel
theorem dX6_mark_68 : decode cX6_mark 68 = .ok (.ifCond .ne 6, 3) := by decide +kernel
theorem dX6_mark_71 : decode cX6_mark 71 = .ok (.bipush (-3), 2) := by decide +kernel
theorem dX6_mark_73 : decode cX6_mark 73 = .ok (.ireturn, 1) := by decide +kernel
theorem dX6_mark_74 : decode cX6_mark 74 = .ok (.aload_n 0, 1) := by decide +kernel
theorem dX6_mark_75 : decode cX6_mark 75 = .ok (.getfield 19, 3) := by decide +kernel
theorem dX6_mark_78 : decode cX6_mark 78 = .ok (.iload_n 1, 1) := by decide +kernel
theorem dX6_mark_79 : decode cX6_mark 79 = .ok (.iload_n 2, 1) := by decide +kernel
theorem dX6_mark_80 : decode cX6_mark 80 = .ok (.invokevirtual 186, 3) := by decide +kernel
theorem dX6_mark_83 : decode cX6_mark 83 = .ok (.ifCond .eq 7, 3) := by decide +kernel
theorem dX6_mark_86 : decode cX6_mark 86 = .ok (.iconst 1, 1) := by decide +kernel
theorem dX6_mark_87 : decode cX6_mark 87 = .ok (.goto 4, 3) := by decide +kernel
theorem dX6_mark_90 : decode cX6_mark 90 = .ok (.iconst 0, 1) := by decide +kernel
theorem dX6_mark_91 : decode cX6_mark 91 = .ok (.istore 5, 2) := by decide +kernel
theorem dX6_mark_93 : decode cX6_mark 93 = .ok (.aload_n 0, 1) := by decide +kernel
theorem dX6_mark_94 : decode cX6_mark 94 = .ok (.getfield 19, 3) := by decide +kernel
theorem dX6_mark_97 : decode cX6_mark 97 = .ok (.iload_n 1, 1) := by decide +kernel
theorem dX6_mark_98 : decode cX6_mark 98 = .ok (.iload_n 2, 1) := by decide +kernel
theorem dX6_mark_99 : decode cX6_mark 99 = .ok (.iload_n 3, 1) := by decide +kernel
theorem dX6_mark_100 : decode cX6_mark 100 = .ok (.iload 4, 2) := by decide +kernel
theorem dX6_mark_102 : decode cX6_mark 102 = .ok (.invokevirtual 188, 3) := by decide +kernel
theorem dX6_mark_105 : decode cX6_mark 105 = .ok (.aload_n 0, 1) := by decide +kernel
theorem dX6_mark_106 : decode cX6_mark 106 = .ok (.iconst 1, 1) := by decide +kernel
theorem dX6_mark_107 : decode cX6_mark 107 = .ok (.putfield 57, 3) := by decide +kernel
theorem dX6_mark_110 : decode cX6_mark 110 = .ok (.iload 5, 2) := by decide +kernel
theorem dX6_mark_112 : decode cX6_mark 112 = .ok (.ireturn, 1) := by decide +kernel
theorem dX6_unmark_0 : decode cX6_unmark 0 = .ok (.aload_n 0, 1) := by decide +kernel
theorem dX6_unmark_1 : decode cX6_unmark 1 = .ok (.getfield 10, 3) := by decide +kernel
theorem dX6_unmark_4 : decode cX6_unmark 4 = .ok (.iload_n 1, 1) := by decide +kernel
theorem dX6_unmark_5 : decode cX6_unmark 5 = .ok (.invokevirtual 85, 3) := by decide +kernel
theorem dX6_unmark_8 : decode cX6_unmark 8 = .ok (.ifCond .ne 5, 3) := by decide +kernel
theorem dX6_unmark_11 : decode cX6_unmark 11 = .ok (.iconst (-1), 1) := by decide +kernel
theorem dX6_unmark_12 : decode cX6_unmark 12 = .ok (.ireturn, 1) := by decide +kernel
theorem dX6_unmark_13 : decode cX6_unmark 13 = .ok (.iload_n 2, 1) := by decide +kernel
theorem dX6_unmark_14 : decode cX6_unmark 14 = .ok (.iconst 2, 1) := by decide +kernel
theorem dX6_unmark_15 : decode cX6_unmark 15 = .ok (.invokestatic 61, 3) := by decide +kernel
theorem dX6_unmark_18 : decode cX6_unmark 18 = .ok (.ifCond .ne 6, 3) := by decide +kernel
theorem dX6_unmark_21 : decode cX6_unmark 21 = .ok (.bipush (-2), 2) := by decide +kernel
theorem dX6_unmark_23 : decode cX6_unmark 23 = .ok (.ireturn, 1) := by decide +kernel
theorem dX6_unmark_24 : decode cX6_unmark 24 = .ok (.aload_n 0, 1) := by decide +kernel
theorem dX6_unmark_25 : decode cX6_unmark 25 = .ok (.getfield 19, 3) := by decide +kernel
theorem dX6_unmark_28 : decode cX6_unmark 28 = .ok (.iload_n 1, 1) := by decide +kernel
theorem dX6_unmark_29 : decode cX6_unmark 29 = .ok (.iload_n 2, 1) := by decide +kernel
theorem dX6_unmark_30 : decode cX6_unmark 30 = .ok (.invokevirtual 186, 3) := by decide +kernel
theorem dX6_unmark_33 : decode cX6_unmark 33 = .ok (.ifCond .eq 7, 3) := by decide +kernel
theorem dX6_unmark_36 : decode cX6_unmark 36 = .ok (.iconst 1, 1) := by decide +kernel
theorem dX6_unmark_37 : decode cX6_unmark 37 = .ok (.goto 4, 3) := by decide +kernel
theorem dX6_unmark_40 : decode cX6_unmark 40 = .ok (.iconst 0, 1) := by decide +kernel
theorem dX6_unmark_41 : decode cX6_unmark 41 = .ok (.istore_n 3, 1) := by decide +kernel
theorem dX6_unmark_42 : decode cX6_unmark 42 = .ok (.aload_n 0, 1) := by decide +kernel
theorem dX6_unmark_43 : decode cX6_unmark 43 = .ok (.getfield 19, 3) := by decide +kernel
theorem dX6_unmark_46 : decode cX6_unmark 46 = .ok (.iload_n 1, 1) := by decide +kernel
theorem dX6_unmark_47 : decode cX6_unmark 47 = .ok (.iload_n 2, 1) := by decide +kernel
theorem dX6_unmark_48 : decode cX6_unmark 48 = .ok (.invokevirtual 192, 3) := by decide +kernel
theorem dX6_unmark_51 : decode cX6_unmark 51 = .ok (.aload_n 0, 1) := by decide +kernel
theorem dX6_unmark_52 : decode cX6_unmark 52 = .ok (.iconst 1, 1) := by decide +kernel
theorem dX6_unmark_53 : decode cX6_unmark 53 = .ok (.putfield 57, 3) := by decide +kernel
theorem dX6_unmark_56 : decode cX6_unmark 56 = .ok (.iload_n 3, 1) := by decide +kernel
theorem dX6_unmark_57 : decode cX6_unmark 57 = .ok (.ireturn, 1) := by decide +kernel
theorem dX6_ofMark_0 : decode cX6_ofMark 0 = .ok (.aload_n 0, 1) := by decide +kernel
theorem dX6_ofMark_1 : decode cX6_ofMark 1 = .ok (.getfield 10, 3) := by decide +kernel
theorem dX6_ofMark_4 : decode cX6_ofMark 4 = .ok (.iload_n 1, 1) := by decide +kernel
theorem dX6_ofMark_5 : decode cX6_ofMark 5 = .ok (.invokevirtual 85, 3) := by decide +kernel
theorem dX6_ofMark_8 : decode cX6_ofMark 8 = .ok (.ifCond .ne 5, 3) := by decide +kernel
theorem dX6_ofMark_11 : decode cX6_ofMark 11 = .ok (.iconst (-1), 1) := by decide +kernel
theorem dX6_ofMark_12 : decode cX6_ofMark 12 = .ok (.ireturn, 1) := by decide +kernel
theorem dX6_ofMark_13 : decode cX6_ofMark 13 = .ok (.iload_n 2, 1) := by decide +kernel
theorem dX6_ofMark_14 : decode cX6_ofMark 14 = .ok (.iconst 2, 1) := by decide +kernel
theorem dX6_ofMark_15 : decode cX6_ofMark 15 = .ok (.invokestatic 61, 3) := by decide +kernel
theorem dX6_ofMark_18 : decode cX6_ofMark 18 = .ok (.ifCond .eq 11, 3) := by decide +kernel
theorem dX6_ofMark_21 : decode cX6_ofMark 21 = .ok (.iload_n 3, 1) := by decide +kernel
theorem dX6_ofMark_22 : decode cX6_ofMark 22 = .ok (.iconst 2, 1) := by decide +kernel
theorem dX6_ofMark_23 : decode cX6_ofMark 23 = .ok (.invokestatic 61, 3) := by decide +kernel
theorem dX6_ofMark_26 : decode cX6_ofMark 26 = .ok (.ifCond .ne 6, 3) := by decide +kernel
theorem dX6_ofMark_29 : decode cX6_ofMark 29 = .ok (.bipush (-2), 2) := by decide +kernel
theorem dX6_ofMark_31 : decode cX6_ofMark 31 = .ok (.ireturn, 1) := by decide +kernel
theorem dX6_ofMark_32 : decode cX6_ofMark 32 = .ok (.iload_n 3, 1) := by decide +kernel
theorem dX6_ofMark_33 : decode cX6_ofMark 33 = .ok (.ifCond .ne 15, 3) := by decide +kernel
theorem dX6_ofMark_36 : decode cX6_ofMark 36 = .ok (.aload_n 0, 1) := by decide +kernel
theorem dX6_ofMark_37 : decode cX6_ofMark 37 = .ok (.getfield 19, 3) := by decide +kernel
theorem dX6_ofMark_40 : decode cX6_ofMark 40 = .ok (.iload_n 1, 1) := by decide +kernel
theorem dX6_ofMark_41 : decode cX6_ofMark 41 = .ok (.iload_n 2, 1) := by decide +kernel
theorem dX6_ofMark_42 : decode cX6_ofMark 42 = .ok (.invokevirtual 196, 3) := by decide +kernel
theorem dX6_ofMark_45 : decode cX6_ofMark 45 = .ok (.goto 12, 3) := by decide +kernel
theorem dX6_ofMark_48 : decode cX6_ofMark 48 = .ok (.aload_n 0, 1) := by decide +kernel
theorem dX6_ofMark_49 : decode cX6_ofMark 49 = .ok (.getfield 19, 3) := by decide +kernel
theorem dX6_ofMark_52 : decode cX6_ofMark 52 = .ok (.iload_n 1, 1) := by decide +kernel
theorem dX6_ofMark_53 : decode cX6_ofMark 53 = .ok (.iload_n 2, 1) := by decide +kernel
theorem dX6_ofMark_54 : decode cX6_ofMark 54 = .ok (.invokevirtual 199, 3) := by decide +kernel
theorem dX6_ofMark_57 : decode cX6_ofMark 57 = .ok (.ireturn, 1) := by decide +kernel
theorem dX6_ofArticle_0 : decode cX6_ofArticle 0 = .ok (.aload_n 0, 1) := by decide +kernel
theorem dX6_ofArticle_1 : decode cX6_ofArticle 1 = .ok (.invokevirtual 142, 3) := by decide +kernel
theorem dX6_ofArticle_4 : decode cX6_ofArticle 4 = .ok (.aload_n 0, 1) := by decide +kernel
theorem dX6_ofArticle_5 : decode cX6_ofArticle 5 = .ok (.getfield 53, 3) := by decide +kernel
theorem dX6_ofArticle_8 : decode cX6_ofArticle 8 = .ok (.iload_n 1, 1) := by decide +kernel
theorem dX6_ofArticle_9 : decode cX6_ofArticle 9 = .ok (.invokevirtual 202, 3) := by decide +kernel
theorem dX6_ofArticle_12 : decode cX6_ofArticle 12 = .ok (.ifCond .ne 5, 3) := by decide +kernel
theorem dX6_ofArticle_15 : decode cX6_ofArticle 15 = .ok (.iconst (-1), 1) := by decide +kernel
theorem dX6_ofArticle_16 : decode cX6_ofArticle 16 = .ok (.ireturn, 1) := by decide +kernel
theorem dX6_ofArticle_17 : decode cX6_ofArticle 17 = .ok (.iload_n 2, 1) := by decide +kernel
theorem dX6_ofArticle_18 : decode cX6_ofArticle 18 = .ok (.tableswitch 131 0 6 #[42, 52, 62, 71, 80, 89, 106], 42) := by decide +kernel
theorem dX6_ofArticle_60 : decode cX6_ofArticle 60 = .ok (.aload_n 0, 1) := by decide +kernel
theorem dX6_ofArticle_61 : decode cX6_ofArticle 61 = .ok (.getfield 53, 3) := by decide +kernel
theorem dX6_ofArticle_64 : decode cX6_ofArticle 64 = .ok (.getfield 203, 3) := by decide +kernel
theorem dX6_ofArticle_67 : decode cX6_ofArticle 67 = .ok (.iload_n 1, 1) := by decide +kernel
theorem dX6_ofArticle_68 : decode cX6_ofArticle 68 = .ok (.iaload, 1) := by decide +kernel
theorem dX6_ofArticle_69 : decode cX6_ofArticle 69 = .ok (.ireturn, 1) := by decide +kernel
theorem dX6_ofArticle_70 : decode cX6_ofArticle 70 = .ok (.aload_n 0, 1) := by decide +kernel
theorem dX6_ofArticle_71 : decode cX6_ofArticle 71 = .ok (.getfield 53, 3) := by decide +kernel
theorem dX6_ofArticle_74 : decode cX6_ofArticle 74 = .ok (.getfield 206, 3) := by decide +kernel
theorem dX6_ofArticle_77 : decode cX6_ofArticle 77 = .ok (.iload_n 1, 1) := by decide +kernel
theorem dX6_ofArticle_78 : decode cX6_ofArticle 78 = .ok (.iaload, 1) := by decide +kernel
theorem dX6_ofArticle_79 : decode cX6_ofArticle 79 = .ok (.ireturn, 1) := by decide +kernel
theorem dX6_ofArticle_80 : decode cX6_ofArticle 80 = .ok (.aload_n 0, 1) := by decide +kernel
theorem dX6_ofArticle_81 : decode cX6_ofArticle 81 = .ok (.getfield 53, 3) := by decide +kernel
theorem dX6_ofArticle_84 : decode cX6_ofArticle 84 = .ok (.iload_n 1, 1) := by decide +kernel
theorem dX6_ofArticle_85 : decode cX6_ofArticle 85 = .ok (.invokevirtual 209, 3) := by decide +kernel
theorem dX6_ofArticle_88 : decode cX6_ofArticle 88 = .ok (.ireturn, 1) := by decide +kernel
theorem dX6_ofArticle_89 : decode cX6_ofArticle 89 = .ok (.aload_n 0, 1) := by decide +kernel
theorem dX6_ofArticle_90 : decode cX6_ofArticle 90 = .ok (.getfield 53, 3) := by decide +kernel
theorem dX6_ofArticle_93 : decode cX6_ofArticle 93 = .ok (.iload_n 1, 1) := by decide +kernel
theorem dX6_ofArticle_94 : decode cX6_ofArticle 94 = .ok (.invokevirtual 210, 3) := by decide +kernel
theorem dX6_ofArticle_97 : decode cX6_ofArticle 97 = .ok (.ireturn, 1) := by decide +kernel
theorem dX6_ofArticle_98 : decode cX6_ofArticle 98 = .ok (.aload_n 0, 1) := by decide +kernel
theorem dX6_ofArticle_99 : decode cX6_ofArticle 99 = .ok (.getfield 53, 3) := by decide +kernel
theorem dX6_ofArticle_102 : decode cX6_ofArticle 102 = .ok (.iload_n 1, 1) := by decide +kernel
theorem dX6_ofArticle_103 : decode cX6_ofArticle 103 = .ok (.invokevirtual 211, 3) := by decide +kernel
theorem dX6_ofArticle_106 : decode cX6_ofArticle 106 = .ok (.ireturn, 1) := by decide +kernel
theorem dX6_ofArticle_107 : decode cX6_ofArticle 107 = .ok (.aload_n 0, 1) := by decide +kernel
theorem dX6_ofArticle_108 : decode cX6_ofArticle 108 = .ok (.getfield 53, 3) := by decide +kernel
theorem dX6_ofArticle_111 : decode cX6_ofArticle 111 = .ok (.iload_n 1, 1) := by decide +kernel
theorem dX6_ofArticle_112 : decode cX6_ofArticle 112 = .ok (.invokevirtual 214, 3) := by decide +kernel
theorem dX6_ofArticle_115 : decode cX6_ofArticle 115 = .ok (.ifCond .eq 7, 3) := by decide +kernel
theorem dX6_ofArticle_118 : decode cX6_ofArticle 118 = .ok (.iconst 1, 1) := by decide +kernel
theorem dX6_ofArticle_119 : decode cX6_ofArticle 119 = .ok (.goto 4, 3) := by decide +kernel
theorem dX6_ofArticle_122 : decode cX6_ofArticle 122 = .ok (.iconst 0, 1) := by decide +kernel
theorem dX6_ofArticle_123 : decode cX6_ofArticle 123 = .ok (.ireturn, 1) := by decide +kernel
theorem dX6_ofArticle_124 : decode cX6_ofArticle 124 = .ok (.aload_n 0, 1) := by decide +kernel
theorem dX6_ofArticle_125 : decode cX6_ofArticle 125 = .ok (.getfield 53, 3) := by decide +kernel
theorem dX6_ofArticle_128 : decode cX6_ofArticle 128 = .ok (.aload_n 0, 1) := by decide +kernel
theorem dX6_ofArticle_129 : decode cX6_ofArticle 129 = .ok (.getfield 53, 3) := by decide +kernel
theorem dX6_ofArticle_132 : decode cX6_ofArticle 132 = .ok (.getfield 217, 3) := by decide +kernel
theorem dX6_ofArticle_135 : decode cX6_ofArticle 135 = .ok (.iload_n 1, 1) := by decide +kernel
theorem dX6_ofArticle_136 : decode cX6_ofArticle 136 = .ok (.iaload, 1) := by decide +kernel
theorem dX6_ofArticle_137 : decode cX6_ofArticle 137 = .ok (.invokevirtual 180, 3) := by decide +kernel
theorem dX6_ofArticle_140 : decode cX6_ofArticle 140 = .ok (.ifCond .eq 7, 3) := by decide +kernel
theorem dX6_ofArticle_143 : decode cX6_ofArticle 143 = .ok (.iconst 1, 1) := by decide +kernel
theorem dX6_ofArticle_144 : decode cX6_ofArticle 144 = .ok (.goto 4, 3) := by decide +kernel
theorem dX6_ofArticle_147 : decode cX6_ofArticle 147 = .ok (.iconst 0, 1) := by decide +kernel
theorem dX6_ofArticle_148 : decode cX6_ofArticle 148 = .ok (.ireturn, 1) := by decide +kernel
theorem dX6_ofArticle_149 : decode cX6_ofArticle 149 = .ok (.bipush (-2), 2) := by decide +kernel
theorem dX6_ofArticle_151 : decode cX6_ofArticle 151 = .ok (.ireturn, 1) := by decide +kernel
theorem dX6_read_0 : decode cX6_read 0 = .ok (.aload_n 0, 1) := by decide +kernel
theorem dX6_read_1 : decode cX6_read 1 = .ok (.invokevirtual 142, 3) := by decide +kernel
theorem dX6_read_4 : decode cX6_read 4 = .ok (.aload_n 0, 1) := by decide +kernel
theorem dX6_read_5 : decode cX6_read 5 = .ok (.getfield 53, 3) := by decide +kernel
theorem dX6_read_8 : decode cX6_read 8 = .ok (.iload_n 1, 1) := by decide +kernel
theorem dX6_read_9 : decode cX6_read 9 = .ok (.invokevirtual 202, 3) := by decide +kernel
theorem dX6_read_12 : decode cX6_read 12 = .ok (.ifCond .ne 5, 3) := by decide +kernel
theorem dX6_read_15 : decode cX6_read 15 = .ok (.iconst (-1), 1) := by decide +kernel
theorem dX6_read_16 : decode cX6_read 16 = .ok (.ireturn, 1) := by decide +kernel
theorem dX6_read_17 : decode cX6_read 17 = .ok (.iload_n 2, 1) := by decide +kernel
theorem dX6_read_18 : decode cX6_read 18 = .ok (.bipush 24, 2) := by decide +kernel
theorem dX6_read_20 : decode cX6_read 20 = .ok (.invokestatic 61, 3) := by decide +kernel
theorem dX6_read_23 : decode cX6_read 23 = .ok (.ifCond .ne 6, 3) := by decide +kernel
theorem dX6_read_26 : decode cX6_read 26 = .ok (.bipush (-2), 2) := by decide +kernel
theorem dX6_read_28 : decode cX6_read 28 = .ok (.ireturn, 1) := by decide +kernel
theorem dX6_read_29 : decode cX6_read 29 = .ok (.aload_n 0, 1) := by decide +kernel
theorem dX6_read_30 : decode cX6_read 30 = .ok (.getfield 53, 3) := by decide +kernel
theorem dX6_read_33 : decode cX6_read 33 = .ok (.iload_n 1, 1) := by decide +kernel
theorem dX6_read_34 : decode cX6_read 34 = .ok (.iload_n 2, 1) := by decide +kernel
theorem dX6_read_35 : decode cX6_read 35 = .ok (.invokevirtual 220, 3) := by decide +kernel
theorem dX6_read_38 : decode cX6_read 38 = .ok (.ireturn, 1) := by decide +kernel
theorem dX6_many_0 : decode cX6_many 0 = .ok (.aload_n 0, 1) := by decide +kernel
theorem dX6_many_1 : decode cX6_many 1 = .ok (.invokevirtual 142, 3) := by decide +kernel
theorem dX6_many_4 : decode cX6_many 4 = .ok (.iload_n 1, 1) := by decide +kernel
theorem dX6_many_5 : decode cX6_many 5 = .ok (.tableswitch 161 0 11 #[63, 71, 79, 88, 97, 105, 113, 121, 129, 137, 145, 153], 63) := by decide +kernel
theorem dX6_many_68 : decode cX6_many 68 = .ok (.aload_n 0, 1) := by decide +kernel
theorem dX6_many_69 : decode cX6_many 69 = .ok (.getfield 10, 3) := by decide +kernel
theorem dX6_many_72 : decode cX6_many 72 = .ok (.getfield 73, 3) := by decide +kernel
theorem dX6_many_75 : decode cX6_many 75 = .ok (.ireturn, 1) := by decide +kernel
theorem dX6_many_76 : decode cX6_many 76 = .ok (.aload_n 0, 1) := by decide +kernel
theorem dX6_many_77 : decode cX6_many 77 = .ok (.getfield 26, 3) := by decide +kernel
theorem dX6_many_80 : decode cX6_many 80 = .ok (.getfield 96, 3) := by decide +kernel
theorem dX6_many_83 : decode cX6_many 83 = .ok (.ireturn, 1) := by decide +kernel
theorem dX6_many_84 : decode cX6_many 84 = .ok (.aload_n 0, 1) := by decide +kernel
theorem dX6_many_85 : decode cX6_many 85 = .ok (.getfield 10, 3) := by decide +kernel
theorem dX6_many_88 : decode cX6_many 88 = .ok (.iconst 0, 1) := by decide +kernel
theorem dX6_many_89 : decode cX6_many 89 = .ok (.invokevirtual 223, 3) := by decide +kernel
theorem dX6_many_92 : decode cX6_many 92 = .ok (.ireturn, 1) := by decide +kernel
theorem dX6_many_93 : decode cX6_many 93 = .ok (.aload_n 0, 1) := by decide +kernel
theorem dX6_many_94 : decode cX6_many 94 = .ok (.getfield 10, 3) := by decide +kernel
theorem dX6_many_97 : decode cX6_many 97 = .ok (.iconst 1, 1) := by decide +kernel
theorem dX6_many_98 : decode cX6_many 98 = .ok (.invokevirtual 223, 3) := by decide +kernel
theorem dX6_many_101 : decode cX6_many 101 = .ok (.ireturn, 1) := by decide +kernel
theorem dX6_many_102 : decode cX6_many 102 = .ok (.aload_n 0, 1) := by decide +kernel
theorem dX6_many_103 : decode cX6_many 103 = .ok (.getfield 44, 3) := by decide +kernel
theorem dX6_many_106 : decode cX6_many 106 = .ok (.getfield 226, 3) := by decide +kernel
theorem dX6_many_109 : decode cX6_many 109 = .ok (.ireturn, 1) := by decide +kernel
theorem dX6_many_110 : decode cX6_many 110 = .ok (.aload_n 0, 1) := by decide +kernel
theorem dX6_many_111 : decode cX6_many 111 = .ok (.getfield 44, 3) := by decide +kernel
theorem dX6_many_114 : decode cX6_many 114 = .ok (.invokevirtual 227, 3) := by decide +kernel
theorem dX6_many_117 : decode cX6_many 117 = .ok (.ireturn, 1) := by decide +kernel
theorem dX6_many_118 : decode cX6_many 118 = .ok (.aload_n 0, 1) := by decide +kernel
theorem dX6_many_119 : decode cX6_many 119 = .ok (.getfield 44, 3) := by decide +kernel
theorem dX6_many_122 : decode cX6_many 122 = .ok (.invokevirtual 230, 3) := by decide +kernel
theorem dX6_many_125 : decode cX6_many 125 = .ok (.ireturn, 1) := by decide +kernel
theorem dX6_many_126 : decode cX6_many 126 = .ok (.aload_n 0, 1) := by decide +kernel
theorem dX6_many_127 : decode cX6_many 127 = .ok (.getfield 53, 3) := by decide +kernel
theorem dX6_many_130 : decode cX6_many 130 = .ok (.getfield 233, 3) := by decide +kernel
theorem dX6_many_133 : decode cX6_many 133 = .ok (.ireturn, 1) := by decide +kernel
theorem dX6_many_134 : decode cX6_many 134 = .ok (.aload_n 0, 1) := by decide +kernel
theorem dX6_many_135 : decode cX6_many 135 = .ok (.getfield 53, 3) := by decide +kernel
theorem dX6_many_138 : decode cX6_many 138 = .ok (.invokevirtual 234, 3) := by decide +kernel
theorem dX6_many_141 : decode cX6_many 141 = .ok (.ireturn, 1) := by decide +kernel
theorem dX6_many_142 : decode cX6_many 142 = .ok (.aload_n 0, 1) := by decide +kernel
theorem dX6_many_143 : decode cX6_many 143 = .ok (.getfield 53, 3) := by decide +kernel
theorem dX6_many_146 : decode cX6_many 146 = .ok (.invokevirtual 237, 3) := by decide +kernel
theorem dX6_many_149 : decode cX6_many 149 = .ok (.ireturn, 1) := by decide +kernel
theorem dX6_many_150 : decode cX6_many 150 = .ok (.aload_n 0, 1) := by decide +kernel
theorem dX6_many_151 : decode cX6_many 151 = .ok (.getfield 53, 3) := by decide +kernel
theorem dX6_many_154 : decode cX6_many 154 = .ok (.invokevirtual 240, 3) := by decide +kernel
theorem dX6_many_157 : decode cX6_many 157 = .ok (.ireturn, 1) := by decide +kernel
theorem dX6_many_158 : decode cX6_many 158 = .ok (.aload_n 0, 1) := by decide +kernel
theorem dX6_many_159 : decode cX6_many 159 = .ok (.getfield 44, 3) := by decide +kernel
theorem dX6_many_162 : decode cX6_many 162 = .ok (.invokevirtual 243, 3) := by decide +kernel
theorem dX6_many_165 : decode cX6_many 165 = .ok (.ireturn, 1) := by decide +kernel
theorem dX6_many_166 : decode cX6_many 166 = .ok (.bipush (-2), 2) := by decide +kernel
theorem dX6_many_168 : decode cX6_many 168 = .ok (.ireturn, 1) := by decide +kernel
theorem dX6_isBelow_0 : decode cX6_isBelow 0 = .ok (.iload_n 0, 1) := by decide +kernel
theorem dX6_isBelow_1 : decode cX6_isBelow 1 = .ok (.ifCond .lt 12, 3) := by decide +kernel
theorem dX6_isBelow_4 : decode cX6_isBelow 4 = .ok (.iload_n 0, 1) := by decide +kernel
theorem dX6_isBelow_5 : decode cX6_isBelow 5 = .ok (.iload_n 1, 1) := by decide +kernel
theorem dX6_isBelow_6 : decode cX6_isBelow 6 = .ok (.if_icmp .ge 7, 3) := by decide +kernel
theorem dX6_isBelow_9 : decode cX6_isBelow 9 = .ok (.iconst 1, 1) := by decide +kernel
theorem dX6_isBelow_10 : decode cX6_isBelow 10 = .ok (.goto 4, 3) := by decide +kernel
theorem dX6_isBelow_13 : decode cX6_isBelow 13 = .ok (.iconst 0, 1) := by decide +kernel
theorem dX6_isBelow_14 : decode cX6_isBelow 14 = .ok (.ireturn, 1) := by decide +kernel
theorem dX6_isSpan_0 : decode cX6_isSpan 0 = .ok (.iload_n 0, 1) := by decide +kernel
theorem dX6_isSpan_1 : decode cX6_isSpan 1 = .ok (.ifCond .lt 17, 3) := by decide +kernel
theorem dX6_isSpan_4 : decode cX6_isSpan 4 = .ok (.iload_n 0, 1) := by decide +kernel
theorem dX6_isSpan_5 : decode cX6_isSpan 5 = .ok (.iload_n 1, 1) := by decide +kernel
theorem dX6_isSpan_6 : decode cX6_isSpan 6 = .ok (.if_icmp .gt 12, 3) := by decide +kernel
theorem dX6_isSpan_9 : decode cX6_isSpan 9 = .ok (.iload_n 1, 1) := by decide +kernel
theorem dX6_isSpan_10 : decode cX6_isSpan 10 = .ok (.iload_n 2, 1) := by decide +kernel
theorem dX6_isSpan_11 : decode cX6_isSpan 11 = .ok (.if_icmp .ge 7, 3) := by decide +kernel
theorem dX6_isSpan_14 : decode cX6_isSpan 14 = .ok (.iconst 1, 1) := by decide +kernel
theorem dX6_isSpan_15 : decode cX6_isSpan 15 = .ok (.goto 4, 3) := by decide +kernel
theorem dX6_isSpan_18 : decode cX6_isSpan 18 = .ok (.iconst 0, 1) := by decide +kernel
theorem dX6_isSpan_19 : decode cX6_isSpan 19 = .ok (.ireturn, 1) := by decide +kernel
theorem dX6_refresh_0 : decode cX6_refresh 0 = .ok (.aload_n 0, 1) := by decide +kernel
theorem dX6_refresh_1 : decode cX6_refresh 1 = .ok (.getfield 57, 3) := by decide +kernel
theorem dX6_refresh_4 : decode cX6_refresh 4 = .ok (.ifCond .eq 22, 3) := by decide +kernel
theorem dX6_refresh_7 : decode cX6_refresh 7 = .ok (.aload_n 0, 1) := by decide +kernel
theorem dX6_refresh_8 : decode cX6_refresh 8 = .ok (.getfield 44, 3) := by decide +kernel
theorem dX6_refresh_11 : decode cX6_refresh 11 = .ok (.invokevirtual 246, 3) := by decide +kernel
theorem dX6_refresh_14 : decode cX6_refresh 14 = .ok (.aload_n 0, 1) := by decide +kernel
theorem dX6_refresh_15 : decode cX6_refresh 15 = .ok (.getfield 53, 3) := by decide +kernel
theorem dX6_refresh_18 : decode cX6_refresh 18 = .ok (.invokevirtual 249, 3) := by decide +kernel
theorem dX6_refresh_21 : decode cX6_refresh 21 = .ok (.aload_n 0, 1) := by decide +kernel
theorem dX6_refresh_22 : decode cX6_refresh 22 = .ok (.iconst 0, 1) := by decide +kernel
theorem dX6_refresh_23 : decode cX6_refresh 23 = .ok (.putfield 57, 3) := by decide +kernel
theorem dX6_refresh_26 : decode cX6_refresh 26 = .ok (.return_, 1) := by decide +kernel
theorem dX7_init_0 : decode cX7_init 0 = .ok (.aload_n 0, 1) := by decide +kernel
theorem dX7_init_1 : decode cX7_init 1 = .ok (.invokespecial 1, 3) := by decide +kernel
theorem dX7_init_4 : decode cX7_init 4 = .ok (.aload_n 0, 1) := by decide +kernel
theorem dX7_init_5 : decode cX7_init 5 = .ok (.bipush 24, 2) := by decide +kernel
theorem dX7_init_7 : decode cX7_init 7 = .ok (.newarray .int, 2) := by decide +kernel
theorem dX7_init_9 : decode cX7_init 9 = .ok (.putfield 7, 3) := by decide +kernel
theorem dX7_init_12 : decode cX7_init 12 = .ok (.aload_n 0, 1) := by decide +kernel
theorem dX7_init_13 : decode cX7_init 13 = .ok (.bipush 24, 2) := by decide +kernel
theorem dX7_init_15 : decode cX7_init 15 = .ok (.newarray .int, 2) := by decide +kernel
theorem dX7_init_17 : decode cX7_init 17 = .ok (.putfield 13, 3) := by decide +kernel
theorem dX7_init_20 : decode cX7_init 20 = .ok (.aload_n 0, 1) := by decide +kernel
theorem dX7_init_21 : decode cX7_init 21 = .ok (.bipush 24, 2) := by decide +kernel
theorem dX7_init_23 : decode cX7_init 23 = .ok (.newarray .int, 2) := by decide +kernel
theorem dX7_init_25 : decode cX7_init 25 = .ok (.putfield 16, 3) := by decide +kernel
theorem dX7_init_28 : decode cX7_init 28 = .ok (.aload_n 0, 1) := by decide +kernel
theorem dX7_init_29 : decode cX7_init 29 = .ok (.bipush 24, 2) := by decide +kernel
theorem dX7_init_31 : decode cX7_init 31 = .ok (.newarray .int, 2) := by decide +kernel
theorem dX7_init_33 : decode cX7_init 33 = .ok (.putfield 19, 3) := by decide +kernel
theorem dX7_init_36 : decode cX7_init 36 = .ok (.aload_n 0, 1) := by decide +kernel
theorem dX7_init_37 : decode cX7_init 37 = .ok (.bipush 24, 2) := by decide +kernel
theorem dX7_init_39 : decode cX7_init 39 = .ok (.newarray .int, 2) := by decide +kernel
theorem dX7_init_41 : decode cX7_init 41 = .ok (.putfield 22, 3) := by decide +kernel
theorem dX7_init_44 : decode cX7_init 44 = .ok (.aload_n 0, 1) := by decide +kernel
theorem dX7_init_45 : decode cX7_init 45 = .ok (.bipush 24, 2) := by decide +kernel
theorem dX7_init_47 : decode cX7_init 47 = .ok (.newarray .int, 2) := by decide +kernel
theorem dX7_init_49 : decode cX7_init 49 = .ok (.putfield 25, 3) := by decide +kernel
theorem dX7_init_52 : decode cX7_init 52 = .ok (.aload_n 0, 1) := by decide +kernel
theorem dX7_init_53 : decode cX7_init 53 = .ok (.bipush 24, 2) := by decide +kernel
theorem dX7_init_55 : decode cX7_init 55 = .ok (.newarray .int, 2) := by decide +kernel
theorem dX7_init_57 : decode cX7_init 57 = .ok (.putfield 28, 3) := by decide +kernel
theorem dX7_init_60 : decode cX7_init 60 = .ok (.aload_n 0, 1) := by decide +kernel
theorem dX7_init_61 : decode cX7_init 61 = .ok (.bipush 48, 2) := by decide +kernel
theorem dX7_init_63 : decode cX7_init 63 = .ok (.newarray .int, 2) := by decide +kernel
theorem dX7_init_65 : decode cX7_init 65 = .ok (.putfield 31, 3) := by decide +kernel
theorem dX7_init_68 : decode cX7_init 68 = .ok (.aload_n 0, 1) := by decide +kernel
theorem dX7_init_69 : decode cX7_init 69 = .ok (.bipush 48, 2) := by decide +kernel
theorem dX7_init_71 : decode cX7_init 71 = .ok (.newarray .int, 2) := by decide +kernel
theorem dX7_init_73 : decode cX7_init 73 = .ok (.putfield 34, 3) := by decide +kernel
theorem dX7_init_76 : decode cX7_init 76 = .ok (.aload_n 0, 1) := by decide +kernel
theorem dX7_init_77 : decode cX7_init 77 = .ok (.bipush 12, 2) := by decide +kernel
theorem dX7_init_79 : decode cX7_init 79 = .ok (.newarray .int, 2) := by decide +kernel
theorem dX7_init_81 : decode cX7_init 81 = .ok (.putfield 37, 3) := by decide +kernel
theorem dX7_init_84 : decode cX7_init 84 = .ok (.aload_n 0, 1) := by decide +kernel
theorem dX7_init_85 : decode cX7_init 85 = .ok (.bipush 12, 2) := by decide +kernel
theorem dX7_init_87 : decode cX7_init 87 = .ok (.newarray .int, 2) := by decide +kernel
theorem dX7_init_89 : decode cX7_init 89 = .ok (.putfield 40, 3) := by decide +kernel
theorem dX7_init_92 : decode cX7_init 92 = .ok (.aload_n 0, 1) := by decide +kernel
theorem dX7_init_93 : decode cX7_init 93 = .ok (.bipush 12, 2) := by decide +kernel
theorem dX7_init_95 : decode cX7_init 95 = .ok (.newarray .int, 2) := by decide +kernel
theorem dX7_init_97 : decode cX7_init 97 = .ok (.putfield 43, 3) := by decide +kernel
theorem dX7_init_100 : decode cX7_init 100 = .ok (.aload_n 0, 1) := by decide +kernel
theorem dX7_init_101 : decode cX7_init 101 = .ok (.bipush 12, 2) := by decide +kernel
theorem dX7_init_103 : decode cX7_init 103 = .ok (.newarray .int, 2) := by decide +kernel
theorem dX7_init_105 : decode cX7_init 105 = .ok (.putfield 46, 3) := by decide +kernel
theorem dX7_init_108 : decode cX7_init 108 = .ok (.aload_n 0, 1) := by decide +kernel
theorem dX7_init_109 : decode cX7_init 109 = .ok (.bipush 12, 2) := by decide +kernel
theorem dX7_init_111 : decode cX7_init 111 = .ok (.newarray .int, 2) := by decide +kernel
theorem dX7_init_113 : decode cX7_init 113 = .ok (.putfield 49, 3) := by decide +kernel
theorem dX7_init_116 : decode cX7_init 116 = .ok (.aload_n 0, 1) := by decide +kernel
theorem dX7_init_117 : decode cX7_init 117 = .ok (.bipush 24, 2) := by decide +kernel
theorem dX7_init_119 : decode cX7_init 119 = .ok (.newarray .int, 2) := by decide +kernel
theorem dX7_init_121 : decode cX7_init 121 = .ok (.putfield 52, 3) := by decide +kernel
theorem dX7_init_124 : decode cX7_init 124 = .ok (.aload_n 0, 1) := by decide +kernel
theorem dX7_init_125 : decode cX7_init 125 = .ok (.bipush 24, 2) := by decide +kernel
theorem dX7_init_127 : decode cX7_init 127 = .ok (.newarray .int, 2) := by decide +kernel
theorem dX7_init_129 : decode cX7_init 129 = .ok (.putfield 55, 3) := by decide +kernel
theorem dX7_init_132 : decode cX7_init 132 = .ok (.aload_n 0, 1) := by decide +kernel
theorem dX7_init_133 : decode cX7_init 133 = .ok (.bipush 24, 2) := by decide +kernel
theorem dX7_init_135 : decode cX7_init 135 = .ok (.newarray .int, 2) := by decide +kernel
theorem dX7_init_137 : decode cX7_init 137 = .ok (.putfield 58, 3) := by decide +kernel
theorem dX7_init_140 : decode cX7_init 140 = .ok (.aload_n 0, 1) := by decide +kernel
theorem dX7_init_141 : decode cX7_init 141 = .ok (.bipush 24, 2) := by decide +kernel
theorem dX7_init_143 : decode cX7_init 143 = .ok (.newarray .int, 2) := by decide +kernel
theorem dX7_init_145 : decode cX7_init 145 = .ok (.putfield 61, 3) := by decide +kernel
theorem dX7_init_148 : decode cX7_init 148 = .ok (.aload_n 0, 1) := by decide +kernel
theorem dX7_init_149 : decode cX7_init 149 = .ok (.sipush 576, 3) := by decide +kernel
theorem dX7_init_152 : decode cX7_init 152 = .ok (.newarray .int, 2) := by decide +kernel
theorem dX7_init_154 : decode cX7_init 154 = .ok (.putfield 64, 3) := by decide +kernel
theorem dX7_init_157 : decode cX7_init 157 = .ok (.aload_n 0, 1) := by decide +kernel
theorem dX7_init_158 : decode cX7_init 158 = .ok (.bipush 24, 2) := by decide +kernel
theorem dX7_init_160 : decode cX7_init 160 = .ok (.newarray .int, 2) := by decide +kernel
theorem dX7_init_162 : decode cX7_init 162 = .ok (.putfield 67, 3) := by decide +kernel
theorem dX7_init_165 : decode cX7_init 165 = .ok (.aload_n 0, 1) := by decide +kernel
theorem dX7_init_166 : decode cX7_init 166 = .ok (.bipush 24, 2) := by decide +kernel
theorem dX7_init_168 : decode cX7_init 168 = .ok (.newarray .int, 2) := by decide +kernel
theorem dX7_init_170 : decode cX7_init 170 = .ok (.putfield 70, 3) := by decide +kernel
theorem dX7_init_173 : decode cX7_init 173 = .ok (.aload_n 0, 1) := by decide +kernel
theorem dX7_init_174 : decode cX7_init 174 = .ok (.bipush 24, 2) := by decide +kernel
theorem dX7_init_176 : decode cX7_init 176 = .ok (.newarray .boolean, 2) := by decide +kernel
theorem dX7_init_178 : decode cX7_init 178 = .ok (.putfield 73, 3) := by decide +kernel
theorem dX7_init_181 : decode cX7_init 181 = .ok (.aload_n 0, 1) := by decide +kernel
theorem dX7_init_182 : decode cX7_init 182 = .ok (.bipush 24, 2) := by decide +kernel
theorem dX7_init_184 : decode cX7_init 184 = .ok (.newarray .int, 2) := by decide +kernel
theorem dX7_init_186 : decode cX7_init 186 = .ok (.putfield 77, 3) := by decide +kernel
theorem dX7_init_189 : decode cX7_init 189 = .ok (.aload_n 0, 1) := by decide +kernel
theorem dX7_init_190 : decode cX7_init 190 = .ok (.bipush 24, 2) := by decide +kernel
theorem dX7_init_192 : decode cX7_init 192 = .ok (.newarray .int, 2) := by decide +kernel
theorem dX7_init_194 : decode cX7_init 194 = .ok (.putfield 80, 3) := by decide +kernel
theorem dX7_init_197 : decode cX7_init 197 = .ok (.aload_n 0, 1) := by decide +kernel
theorem dX7_init_198 : decode cX7_init 198 = .ok (.bipush 24, 2) := by decide +kernel
theorem dX7_init_200 : decode cX7_init 200 = .ok (.newarray .int, 2) := by decide +kernel
theorem dX7_init_202 : decode cX7_init 202 = .ok (.putfield 83, 3) := by decide +kernel
theorem dX7_init_205 : decode cX7_init 205 = .ok (.aload_n 0, 1) := by decide +kernel
theorem dX7_init_206 : decode cX7_init 206 = .ok (.bipush 25, 2) := by decide +kernel
theorem dX7_init_208 : decode cX7_init 208 = .ok (.newarray .int, 2) := by decide +kernel
theorem dX7_init_210 : decode cX7_init 210 = .ok (.putfield 86, 3) := by decide +kernel
theorem dX7_init_213 : decode cX7_init 213 = .ok (.aload_n 0, 1) := by decide +kernel
theorem dX7_init_214 : decode cX7_init 214 = .ok (.bipush 24, 2) := by decide +kernel
theorem dX7_init_216 : decode cX7_init 216 = .ok (.newarray .boolean, 2) := by decide +kernel
theorem dX7_init_218 : decode cX7_init 218 = .ok (.putfield 89, 3) := by decide +kernel
theorem dX7_init_221 : decode cX7_init 221 = .ok (.aload_n 0, 1) := by decide +kernel
theorem dX7_init_222 : decode cX7_init 222 = .ok (.bipush 24, 2) := by decide +kernel
theorem dX7_init_224 : decode cX7_init 224 = .ok (.newarray .int, 2) := by decide +kernel
theorem dX7_init_226 : decode cX7_init 226 = .ok (.putfield 92, 3) := by decide +kernel
theorem dX7_init_229 : decode cX7_init 229 = .ok (.aload_n 0, 1) := by decide +kernel
theorem dX7_init_230 : decode cX7_init 230 = .ok (.bipush 24, 2) := by decide +kernel
theorem dX7_init_232 : decode cX7_init 232 = .ok (.newarray .int, 2) := by decide +kernel
theorem dX7_init_234 : decode cX7_init 234 = .ok (.putfield 95, 3) := by decide +kernel
theorem dX7_init_237 : decode cX7_init 237 = .ok (.return_, 1) := by decide +kernel
theorem dX7_within_0 : decode cX7_within 0 = .ok (.iload_n 0, 1) := by decide +kernel
theorem dX7_within_1 : decode cX7_within 1 = .ok (.iload_n 1, 1) := by decide +kernel
theorem dX7_within_2 : decode cX7_within 2 = .ok (.if_icmp .lt 12, 3) := by decide +kernel
theorem dX7_within_5 : decode cX7_within 5 = .ok (.iload_n 0, 1) := by decide +kernel
theorem dX7_within_6 : decode cX7_within 6 = .ok (.iload_n 2, 1) := by decide +kernel
theorem dX7_within_7 : decode cX7_within 7 = .ok (.if_icmp .gt 7, 3) := by decide +kernel
theorem dX7_within_10 : decode cX7_within 10 = .ok (.iconst 1, 1) := by decide +kernel
theorem dX7_within_11 : decode cX7_within 11 = .ok (.goto 4, 3) := by decide +kernel
theorem dX7_within_14 : decode cX7_within 14 = .ok (.iconst 0, 1) := by decide +kernel
theorem dX7_within_15 : decode cX7_within 15 = .ok (.ireturn, 1) := by decide +kernel
theorem dX7_isBlock_0 : decode cX7_isBlock 0 = .ok (.iload_n 1, 1) := by decide +kernel
theorem dX7_isBlock_1 : decode cX7_isBlock 1 = .ok (.iconst 0, 1) := by decide +kernel
theorem dX7_isBlock_2 : decode cX7_isBlock 2 = .ok (.aload_n 0, 1) := by decide +kernel
theorem dX7_isBlock_3 : decode cX7_isBlock 3 = .ok (.getfield 98, 3) := by decide +kernel
theorem dX7_isBlock_6 : decode cX7_isBlock 6 = .ok (.iconst 1, 1) := by decide +kernel
theorem dX7_isBlock_7 : decode cX7_isBlock 7 = .ok (.isub, 1) := by decide +kernel
theorem dX7_isBlock_8 : decode cX7_isBlock 8 = .ok (.invokestatic 102, 3) := by decide +kernel
theorem dX7_isBlock_11 : decode cX7_isBlock 11 = .ok (.ireturn, 1) := by decide +kernel
theorem dX7_isMeeting_0 : decode cX7_isMeeting 0 = .ok (.aload_n 0, 1) := by decide +kernel
theorem dX7_isMeeting_1 : decode cX7_isMeeting 1 = .ok (.getfield 16, 3) := by decide +kernel
theorem dX7_isMeeting_4 : decode cX7_isMeeting 4 = .ok (.iload_n 1, 1) := by decide +kernel
theorem dX7_isMeeting_5 : decode cX7_isMeeting 5 = .ok (.iaload, 1) := by decide +kernel
theorem dX7_isMeeting_6 : decode cX7_isMeeting 6 = .ok (.iload_n 3, 1) := by decide +kernel
theorem dX7_isMeeting_7 : decode cX7_isMeeting 7 = .ok (.if_icmp .gt 39, 3) := by decide +kernel
theorem dX7_isMeeting_10 : decode cX7_isMeeting 10 = .ok (.aload_n 0, 1) := by decide +kernel
theorem dX7_isMeeting_11 : decode cX7_isMeeting 11 = .ok (.getfield 19, 3) := by decide +kernel
theorem dX7_isMeeting_14 : decode cX7_isMeeting 14 = .ok (.iload_n 1, 1) := by decide +kernel
theorem dX7_isMeeting_15 : decode cX7_isMeeting 15 = .ok (.iaload, 1) := by decide +kernel
theorem dX7_isMeeting_16 : decode cX7_isMeeting 16 = .ok (.iload_n 2, 1) := by decide +kernel
theorem dX7_isMeeting_17 : decode cX7_isMeeting 17 = .ok (.if_icmp .lt 29, 3) := by decide +kernel
theorem dX7_isMeeting_20 : decode cX7_isMeeting 20 = .ok (.aload_n 0, 1) := by decide +kernel
theorem dX7_isMeeting_21 : decode cX7_isMeeting 21 = .ok (.getfield 22, 3) := by decide +kernel
theorem dX7_isMeeting_24 : decode cX7_isMeeting 24 = .ok (.iload_n 1, 1) := by decide +kernel
theorem dX7_isMeeting_25 : decode cX7_isMeeting 25 = .ok (.iaload, 1) := by decide +kernel
theorem dX7_isMeeting_26 : decode cX7_isMeeting 26 = .ok (.iload 5, 2) := by decide +kernel
theorem dX7_isMeeting_28 : decode cX7_isMeeting 28 = .ok (.if_icmp .gt 18, 3) := by decide +kernel
theorem dX7_isMeeting_31 : decode cX7_isMeeting 31 = .ok (.aload_n 0, 1) := by decide +kernel
theorem dX7_isMeeting_32 : decode cX7_isMeeting 32 = .ok (.getfield 25, 3) := by decide +kernel
theorem dX7_isMeeting_35 : decode cX7_isMeeting 35 = .ok (.iload_n 1, 1) := by decide +kernel
theorem dX7_isMeeting_36 : decode cX7_isMeeting 36 = .ok (.iaload, 1) := by decide +kernel
theorem dX7_isMeeting_37 : decode cX7_isMeeting 37 = .ok (.iload 4, 2) := by decide +kernel
theorem dX7_isMeeting_39 : decode cX7_isMeeting 39 = .ok (.if_icmp .lt 7, 3) := by decide +kernel
theorem dX7_isMeeting_42 : decode cX7_isMeeting 42 = .ok (.iconst 1, 1) := by decide +kernel
theorem dX7_isMeeting_43 : decode cX7_isMeeting 43 = .ok (.goto 4, 3) := by decide +kernel
theorem dX7_isMeeting_46 : decode cX7_isMeeting 46 = .ok (.iconst 0, 1) := by decide +kernel
theorem dX7_isMeeting_47 : decode cX7_isMeeting 47 = .ok (.ireturn, 1) := by decide +kernel
theorem dX7_block_0 : decode cX7_block 0 = .ok (.iload_n 3, 1) := by decide +kernel
theorem dX7_block_1 : decode cX7_block 1 = .ok (.iconst 0, 1) := by decide +kernel
theorem dX7_block_2 : decode cX7_block 2 = .ok (.iload 4, 2) := by decide +kernel
theorem dX7_block_4 : decode cX7_block 4 = .ok (.invokestatic 102, 3) := by decide +kernel
theorem dX7_block_7 : decode cX7_block 7 = .ok (.ifCond .eq 41, 3) := by decide +kernel
theorem dX7_block_10 : decode cX7_block 10 = .ok (.iload 4, 2) := by decide +kernel
theorem dX7_block_12 : decode cX7_block 12 = .ok (.iload_n 3, 1) := by decide +kernel
theorem dX7_block_13 : decode cX7_block 13 = .ok (.bipush 7, 2) := by decide +kernel
theorem dX7_block_15 : decode cX7_block 15 = .ok (.invokestatic 102, 3) := by decide +kernel
theorem dX7_block_18 : decode cX7_block 18 = .ok (.ifCond .eq 30, 3) := by decide +kernel
theorem dX7_block_21 : decode cX7_block 21 = .ok (.iload 5, 2) := by decide +kernel
theorem dX7_block_23 : decode cX7_block 23 = .ok (.iconst 0, 1) := by decide +kernel
theorem dX7_block_24 : decode cX7_block 24 = .ok (.iload 6, 2) := by decide +kernel
theorem dX7_block_26 : decode cX7_block 26 = .ok (.invokestatic 102, 3) := by decide +kernel
theorem dX7_block_29 : decode cX7_block 29 = .ok (.ifCond .eq 19, 3) := by decide +kernel
theorem dX7_block_32 : decode cX7_block 32 = .ok (.iload 6, 2) := by decide +kernel
theorem dX7_block_34 : decode cX7_block 34 = .ok (.iload 5, 2) := by decide +kernel
theorem dX7_block_36 : decode cX7_block 36 = .ok (.bipush 29, 2) := by decide +kernel
theorem dX7_block_38 : decode cX7_block 38 = .ok (.invokestatic 102, 3) := by decide +kernel
theorem dX7_block_41 : decode cX7_block 41 = .ok (.ifCond .eq 7, 3) := by decide +kernel
theorem dX7_block_44 : decode cX7_block 44 = .ok (.iconst 1, 1) := by decide +kernel
theorem dX7_block_45 : decode cX7_block 45 = .ok (.goto 4, 3) := by decide +kernel
theorem dX7_block_48 : decode cX7_block 48 = .ok (.iconst 0, 1) := by decide +kernel
theorem dX7_block_49 : decode cX7_block 49 = .ok (.istore 7, 2) := by decide +kernel
theorem dX7_block_51 : decode cX7_block 51 = .ok (.iload_n 1, 1) := by decide +kernel
theorem dX7_block_52 : decode cX7_block 52 = .ok (.iconst 0, 1) := by decide +kernel
theorem dX7_block_53 : decode cX7_block 53 = .ok (.iconst 3, 1) := by decide +kernel
theorem dX7_block_54 : decode cX7_block 54 = .ok (.invokestatic 102, 3) := by decide +kernel
theorem dX7_block_57 : decode cX7_block 57 = .ok (.ifCond .eq 17, 3) := by decide +kernel
theorem dX7_block_60 : decode cX7_block 60 = .ok (.iload_n 2, 1) := by decide +kernel
theorem dX7_block_61 : decode cX7_block 61 = .ok (.iconst 0, 1) := by decide +kernel
theorem dX7_block_62 : decode cX7_block 62 = .ok (.iconst 2, 1) := by decide +kernel
theorem dX7_block_63 : decode cX7_block 63 = .ok (.invokestatic 102, 3) := by decide +kernel
theorem dX7_block_66 : decode cX7_block 66 = .ok (.ifCond .eq 8, 3) := by decide +kernel
theorem dX7_block_69 : decode cX7_block 69 = .ok (.iload 7, 2) := by decide +kernel
theorem dX7_block_71 : decode cX7_block 71 = .ok (.ifCond .ne 6, 3) := by decide +kernel
theorem dX7_block_74 : decode cX7_block 74 = .ok (.bipush (-2), 2) := by decide +kernel
theorem dX7_block_76 : decode cX7_block 76 = .ok (.ireturn, 1) := by decide +kernel
theorem dX7_block_77 : decode cX7_block 77 = .ok (.iconst 0, 1) := by decide +kernel
theorem dX7_block_78 : decode cX7_block 78 = .ok (.istore 8, 2) := by decide +kernel
theorem dX7_block_80 : decode cX7_block 80 = .ok (.iload 8, 2) := by decide +kernel
theorem dX7_block_82 : decode cX7_block 82 = .ok (.aload_n 0, 1) := by decide +kernel
theorem dX7_block_83 : decode cX7_block 83 = .ok (.getfield 98, 3) := by decide +kernel
theorem dX7_block_86 : decode cX7_block 86 = .ok (.if_icmp .ge 39, 3) := by decide +kernel
theorem dX7_block_89 : decode cX7_block 89 = .ok (.aload_n 0, 1) := by decide +kernel
theorem dX7_block_90 : decode cX7_block 90 = .ok (.getfield 7, 3) := by decide +kernel
theorem dX7_block_93 : decode cX7_block 93 = .ok (.iload 8, 2) := by decide +kernel
theorem dX7_block_95 : decode cX7_block 95 = .ok (.iaload, 1) := by decide +kernel
theorem dX7_block_96 : decode cX7_block 96 = .ok (.iload_n 1, 1) := by decide +kernel
theorem dX7_block_97 : decode cX7_block 97 = .ok (.if_icmp .ne 22, 3) := by decide +kernel
theorem dX7_block_100 : decode cX7_block 100 = .ok (.aload_n 0, 1) := by decide +kernel
theorem dX7_block_101 : decode cX7_block 101 = .ok (.iload 8, 2) := by decide +kernel
theorem dX7_block_103 : decode cX7_block 103 = .ok (.iload_n 3, 1) := by decide +kernel
theorem dX7_block_104 : decode cX7_block 104 = .ok (.iload 4, 2) := by decide +kernel
theorem dX7_block_106 : decode cX7_block 106 = .ok (.iload 5, 2) := by decide +kernel
theorem dX7_block_108 : decode cX7_block 108 = .ok (.iload 6, 2) := by decide +kernel
theorem dX7_block_110 : decode cX7_block 110 = .ok (.invokevirtual 106, 3) := by decide +kernel
theorem dX7_block_113 : decode cX7_block 113 = .ok (.ifCond .eq 6, 3) := by decide +kernel
theorem dX7_block_116 : decode cX7_block 116 = .ok (.bipush (-3), 2) := by decide +kernel
theorem dX7_block_118 : decode cX7_block 118 = .ok (.ireturn, 1) := by decide +kernel
theorem dX7_block_119 : decode cX7_block 119 = .ok (.iinc 8 1, 3) := by decide +kernel
theorem dX7_block_122 : decode cX7_block 122 = .ok (.goto (-42), 3) := by decide +kernel
theorem dX7_block_125 : decode cX7_block 125 = .ok (.aload_n 0, 1) := by decide +kernel
theorem dX7_block_126 : decode cX7_block 126 = .ok (.getfield 98, 3) := by decide +kernel
theorem dX7_block_129 : decode cX7_block 129 = .ok (.bipush 24, 2) := by decide +kernel
theorem dX7_block_131 : decode cX7_block 131 = .ok (.if_icmp .ne 6, 3) := by decide +kernel
theorem dX7_block_134 : decode cX7_block 134 = .ok (.bipush (-4), 2) := by decide +kernel
theorem dX7_block_136 : decode cX7_block 136 = .ok (.ireturn, 1) := by decide +kernel
theorem dX7_block_137 : decode cX7_block 137 = .ok (.aload_n 0, 1) := by decide +kernel
theorem dX7_block_138 : decode cX7_block 138 = .ok (.getfield 7, 3) := by decide +kernel
theorem dX7_block_141 : decode cX7_block 141 = .ok (.aload_n 0, 1) := by decide +kernel
theorem dX7_block_142 : decode cX7_block 142 = .ok (.getfield 98, 3) := by decide +kernel
theorem dX7_block_145 : decode cX7_block 145 = .ok (.iload_n 1, 1) := by decide +kernel
theorem dX7_block_146 : decode cX7_block 146 = .ok (.iastore, 1) := by decide +kernel
theorem dX7_block_147 : decode cX7_block 147 = .ok (.aload_n 0, 1) := by decide +kernel
theorem dX7_block_148 : decode cX7_block 148 = .ok (.getfield 13, 3) := by decide +kernel
theorem dX7_block_151 : decode cX7_block 151 = .ok (.aload_n 0, 1) := by decide +kernel
theorem dX7_block_152 : decode cX7_block 152 = .ok (.getfield 98, 3) := by decide +kernel
theorem dX7_block_155 : decode cX7_block 155 = .ok (.iload_n 2, 1) := by decide +kernel
theorem dX7_block_156 : decode cX7_block 156 = .ok (.iastore, 1) := by decide +kernel
theorem dX7_block_157 : decode cX7_block 157 = .ok (.aload_n 0, 1) := by decide +kernel
theorem dX7_block_158 : decode cX7_block 158 = .ok (.getfield 16, 3) := by decide +kernel
theorem dX7_block_161 : decode cX7_block 161 = .ok (.aload_n 0, 1) := by decide +kernel
theorem dX7_block_162 : decode cX7_block 162 = .ok (.getfield 98, 3) := by decide +kernel
theorem dX7_block_165 : decode cX7_block 165 = .ok (.iload_n 3, 1) := by decide +kernel
theorem dX7_block_166 : decode cX7_block 166 = .ok (.iastore, 1) := by decide +kernel
theorem dX7_block_167 : decode cX7_block 167 = .ok (.aload_n 0, 1) := by decide +kernel
theorem dX7_block_168 : decode cX7_block 168 = .ok (.getfield 19, 3) := by decide +kernel
theorem dX7_block_171 : decode cX7_block 171 = .ok (.aload_n 0, 1) := by decide +kernel
theorem dX7_block_172 : decode cX7_block 172 = .ok (.getfield 98, 3) := by decide +kernel
theorem dX7_block_175 : decode cX7_block 175 = .ok (.iload 4, 2) := by decide +kernel
theorem dX7_block_177 : decode cX7_block 177 = .ok (.iastore, 1) := by decide +kernel
theorem dX7_block_178 : decode cX7_block 178 = .ok (.aload_n 0, 1) := by decide +kernel
theorem dX7_block_179 : decode cX7_block 179 = .ok (.getfield 22, 3) := by decide +kernel
theorem dX7_block_182 : decode cX7_block 182 = .ok (.aload_n 0, 1) := by decide +kernel
theorem dX7_block_183 : decode cX7_block 183 = .ok (.getfield 98, 3) := by decide +kernel
theorem dX7_block_186 : decode cX7_block 186 = .ok (.iload 5, 2) := by decide +kernel
theorem dX7_block_188 : decode cX7_block 188 = .ok (.iastore, 1) := by decide +kernel
theorem dX7_block_189 : decode cX7_block 189 = .ok (.aload_n 0, 1) := by decide +kernel
theorem dX7_block_190 : decode cX7_block 190 = .ok (.getfield 25, 3) := by decide +kernel
theorem dX7_block_193 : decode cX7_block 193 = .ok (.aload_n 0, 1) := by decide +kernel
theorem dX7_block_194 : decode cX7_block 194 = .ok (.getfield 98, 3) := by decide +kernel
theorem dX7_block_197 : decode cX7_block 197 = .ok (.iload 6, 2) := by decide +kernel
theorem dX7_block_199 : decode cX7_block 199 = .ok (.iastore, 1) := by decide +kernel
theorem dX7_block_200 : decode cX7_block 200 = .ok (.aload_n 0, 1) := by decide +kernel
theorem dX7_block_201 : decode cX7_block 201 = .ok (.getfield 28, 3) := by decide +kernel
theorem dX7_block_204 : decode cX7_block 204 = .ok (.aload_n 0, 1) := by decide +kernel
theorem dX7_block_205 : decode cX7_block 205 = .ok (.getfield 98, 3) := by decide +kernel
theorem dX7_block_208 : decode cX7_block 208 = .ok (.iload_n 2, 1) := by decide +kernel
theorem dX7_block_209 : decode cX7_block 209 = .ok (.iconst 1, 1) := by decide +kernel
theorem dX7_block_210 : decode cX7_block 210 = .ok (.if_icmp .ne 7, 3) := by decide +kernel
theorem dX7_block_213 : decode cX7_block 213 = .ok (.iconst 1, 1) := by decide +kernel
theorem dX7_block_214 : decode cX7_block 214 = .ok (.goto 5, 3) := by decide +kernel
theorem dX7_block_217 : decode cX7_block 217 = .ok (.bipush (-9), 2) := by decide +kernel
theorem dX7_block_219 : decode cX7_block 219 = .ok (.iastore, 1) := by decide +kernel
theorem dX7_block_220 : decode cX7_block 220 = .ok (.aload_n 0, 1) := by decide +kernel
theorem dX7_block_221 : decode cX7_block 221 = .ok (.getfield 31, 3) := by decide +kernel
theorem dX7_block_224 : decode cX7_block 224 = .ok (.iconst 2, 1) := by decide +kernel
theorem dX7_block_225 : decode cX7_block 225 = .ok (.aload_n 0, 1) := by decide +kernel
theorem dX7_block_226 : decode cX7_block 226 = .ok (.getfield 98, 3) := by decide +kernel
theorem dX7_block_229 : decode cX7_block 229 = .ok (.imul, 1) := by decide +kernel
theorem dX7_block_230 : decode cX7_block 230 = .ok (.bipush (-9), 2) := by decide +kernel
theorem dX7_block_232 : decode cX7_block 232 = .ok (.iastore, 1) := by decide +kernel
theorem dX7_block_233 : decode cX7_block 233 = .ok (.aload_n 0, 1) := by decide +kernel
theorem dX7_block_234 : decode cX7_block 234 = .ok (.getfield 31, 3) := by decide +kernel
theorem dX7_block_237 : decode cX7_block 237 = .ok (.iconst 2, 1) := by decide +kernel
theorem dX7_block_238 : decode cX7_block 238 = .ok (.aload_n 0, 1) := by decide +kernel
theorem dX7_block_239 : decode cX7_block 239 = .ok (.getfield 98, 3) := by decide +kernel
theorem dX7_block_242 : decode cX7_block 242 = .ok (.imul, 1) := by decide +kernel
theorem dX7_block_243 : decode cX7_block 243 = .ok (.iconst 1, 1) := by decide +kernel
theorem dX7_block_244 : decode cX7_block 244 = .ok (.iadd, 1) := by decide +kernel
theorem dX7_block_245 : decode cX7_block 245 = .ok (.bipush (-9), 2) := by decide +kernel
theorem dX7_block_247 : decode cX7_block 247 = .ok (.iastore, 1) := by decide +kernel
theorem dX7_block_248 : decode cX7_block 248 = .ok (.aload_n 0, 1) := by decide +kernel
theorem dX7_block_249 : decode cX7_block 249 = .ok (.dup, 1) := by decide +kernel
theorem dX7_block_250 : decode cX7_block 250 = .ok (.getfield 98, 3) := by decide +kernel
theorem dX7_block_253 : decode cX7_block 253 = .ok (.iconst 1, 1) := by decide +kernel
theorem dX7_block_254 : decode cX7_block 254 = .ok (.iadd, 1) := by decide +kernel
theorem dX7_block_255 : decode cX7_block 255 = .ok (.putfield 98, 3) := by decide +kernel
theorem dX7_block_258 : decode cX7_block 258 = .ok (.aload_n 0, 1) := by decide +kernel
theorem dX7_block_259 : decode cX7_block 259 = .ok (.getfield 98, 3) := by decide +kernel
theorem dX7_block_262 : decode cX7_block 262 = .ok (.iconst 1, 1) := by decide +kernel
theorem dX7_block_263 : decode cX7_block 263 = .ok (.isub, 1) := by decide +kernel
theorem dX7_block_264 : decode cX7_block 264 = .ok (.ireturn, 1) := by decide +kernel
theorem dX7_words_0 : decode cX7_words 0 = .ok (.aload_n 0, 1) := by decide +kernel
theorem dX7_words_1 : decode cX7_words 1 = .ok (.iload_n 1, 1) := by decide +kernel
theorem dX7_words_2 : decode cX7_words 2 = .ok (.invokevirtual 110, 3) := by decide +kernel
theorem dX7_words_5 : decode cX7_words 5 = .ok (.ifCond .ne 5, 3) := by decide +kernel
theorem dX7_words_8 : decode cX7_words 8 = .ok (.iconst (-1), 1) := by decide +kernel
theorem dX7_words_9 : decode cX7_words 9 = .ok (.ireturn, 1) := by decide +kernel
theorem dX7_words_10 : decode cX7_words 10 = .ok (.iload_n 2, 1) := by decide +kernel
theorem dX7_words_11 : decode cX7_words 11 = .ok (.iconst 1, 1) := by decide +kernel
theorem dX7_words_12 : decode cX7_words 12 = .ok (.bipush 99, 2) := by decide +kernel
theorem dX7_words_14 : decode cX7_words 14 = .ok (.invokestatic 102, 3) := by decide +kernel
theorem dX7_words_17 : decode cX7_words 17 = .ok (.ifCond .ne 6, 3) := by decide +kernel
theorem dX7_words_20 : decode cX7_words 20 = .ok (.bipush (-2), 2) := by decide +kernel
theorem dX7_words_22 : decode cX7_words 22 = .ok (.ireturn, 1) := by decide +kernel
theorem dX7_words_23 : decode cX7_words 23 = .ok (.aload_n 0, 1) := by decide +kernel
theorem dX7_words_24 : decode cX7_words 24 = .ok (.getfield 13, 3) := by decide +kernel
theorem dX7_words_27 : decode cX7_words 27 = .ok (.iload_n 1, 1) := by decide +kernel
theorem dX7_words_28 : decode cX7_words 28 = .ok (.iaload, 1) := by decide +kernel
theorem dX7_words_29 : decode cX7_words 29 = .ok (.iconst 1, 1) := by decide +kernel
theorem dX7_words_30 : decode cX7_words 30 = .ok (.if_icmp .eq 6, 3) := by decide +kernel
theorem dX7_words_33 : decode cX7_words 33 = .ok (.bipush (-3), 2) := by decide +kernel
theorem dX7_words_35 : decode cX7_words 35 = .ok (.ireturn, 1) := by decide +kernel
theorem dX7_words_36 : decode cX7_words 36 = .ok (.aload_n 0, 1) := by decide +kernel
theorem dX7_words_37 : decode cX7_words 37 = .ok (.getfield 28, 3) := by decide +kernel
theorem dX7_words_40 : decode cX7_words 40 = .ok (.iload_n 1, 1) := by decide +kernel
theorem dX7_words_41 : decode cX7_words 41 = .ok (.iaload, 1) := by decide +kernel
theorem dX7_words_42 : decode cX7_words 42 = .ok (.istore_n 3, 1) := by decide +kernel
theorem dX7_words_43 : decode cX7_words 43 = .ok (.aload_n 0, 1) := by decide +kernel
theorem dX7_words_44 : decode cX7_words 44 = .ok (.getfield 28, 3) := by decide +kernel
theorem dX7_words_47 : decode cX7_words 47 = .ok (.iload_n 1, 1) := by decide +kernel
theorem dX7_words_48 : decode cX7_words 48 = .ok (.iload_n 2, 1) := by decide +kernel
theorem dX7_words_49 : decode cX7_words 49 = .ok (.iastore, 1) := by decide +kernel
theorem dX7_words_50 : decode cX7_words 50 = .ok (.iload_n 3, 1) := by decide +kernel
theorem dX7_words_51 : decode cX7_words 51 = .ok (.ireturn, 1) := by decide +kernel
theorem dX7_line_0 : decode cX7_line 0 = .ok (.iload_n 1, 1) := by decide +kernel
theorem dX7_line_1 : decode cX7_line 1 = .ok (.iconst 0, 1) := by decide +kernel
theorem dX7_line_2 : decode cX7_line 2 = .ok (.iconst 3, 1) := by decide +kernel
theorem dX7_line_3 : decode cX7_line 3 = .ok (.invokestatic 102, 3) := by decide +kernel
theorem dX7_line_6 : decode cX7_line 6 = .ok (.ifCond .eq 12, 3) := by decide +kernel
theorem dX7_line_9 : decode cX7_line 9 = .ok (.iload_n 2, 1) := by decide +kernel
theorem dX7_line_10 : decode cX7_line 10 = .ok (.iconst 0, 1) := by decide +kernel
theorem dX7_line_11 : decode cX7_line 11 = .ok (.iconst 1, 1) := by decide +kernel
theorem dX7_line_12 : decode cX7_line 12 = .ok (.invokestatic 102, 3) := by decide +kernel
theorem dX7_line_15 : decode cX7_line 15 = .ok (.ifCond .ne 6, 3) := by decide +kernel
theorem dX7_line_18 : decode cX7_line 18 = .ok (.bipush (-2), 2) := by decide +kernel
theorem dX7_line_20 : decode cX7_line 20 = .ok (.ireturn, 1) := by decide +kernel
theorem dX7_line_21 : decode cX7_line 21 = .ok (.iload_n 2, 1) := by decide +kernel
theorem dX7_line_22 : decode cX7_line 22 = .ok (.ifCond .ne 8, 3) := by decide +kernel
theorem dX7_line_25 : decode cX7_line 25 = .ok (.bipush 7, 2) := by decide +kernel
theorem dX7_line_27 : decode cX7_line 27 = .ok (.goto 5, 3) := by decide +kernel
theorem dX7_line_30 : decode cX7_line 30 = .ok (.bipush 29, 2) := by decide +kernel
theorem dX7_line_32 : decode cX7_line 32 = .ok (.istore 6, 2) := by decide +kernel
theorem dX7_line_34 : decode cX7_line 34 = .ok (.iload_n 2, 1) := by decide +kernel
theorem dX7_line_35 : decode cX7_line 35 = .ok (.ifCond .ne 8, 3) := by decide +kernel
theorem dX7_line_38 : decode cX7_line 38 = .ok (.bipush 29, 2) := by decide +kernel
theorem dX7_line_40 : decode cX7_line 40 = .ok (.goto 5, 3) := by decide +kernel
theorem dX7_line_43 : decode cX7_line 43 = .ok (.bipush 7, 2) := by decide +kernel
theorem dX7_line_45 : decode cX7_line 45 = .ok (.istore 7, 2) := by decide +kernel
theorem dX7_line_47 : decode cX7_line 47 = .ok (.iload_n 3, 1) := by decide +kernel
theorem dX7_line_48 : decode cX7_line 48 = .ok (.iconst 1, 1) := by decide +kernel
theorem dX7_line_49 : decode cX7_line 49 = .ok (.iload 6, 2) := by decide +kernel
theorem dX7_line_51 : decode cX7_line 51 = .ok (.invokestatic 102, 3) := by decide +kernel
theorem dX7_line_54 : decode cX7_line 54 = .ok (.ifCond .eq 21, 3) := by decide +kernel
theorem dX7_line_57 : decode cX7_line 57 = .ok (.iload 4, 2) := by decide +kernel
theorem dX7_line_59 : decode cX7_line 59 = .ok (.iconst 0, 1) := by decide +kernel
theorem dX7_line_60 : decode cX7_line 60 = .ok (.iload 5, 2) := by decide +kernel
theorem dX7_line_62 : decode cX7_line 62 = .ok (.invokestatic 102, 3) := by decide +kernel
theorem dX7_line_65 : decode cX7_line 65 = .ok (.ifCond .eq 10, 3) := by decide +kernel
theorem dX7_line_68 : decode cX7_line 68 = .ok (.iload 5, 2) := by decide +kernel
theorem dX7_line_70 : decode cX7_line 70 = .ok (.iload 7, 2) := by decide +kernel
theorem dX7_line_72 : decode cX7_line 72 = .ok (.if_icmp .le 6, 3) := by decide +kernel
theorem dX7_line_75 : decode cX7_line 75 = .ok (.bipush (-2), 2) := by decide +kernel
theorem dX7_line_77 : decode cX7_line 77 = .ok (.ireturn, 1) := by decide +kernel
theorem dX7_line_78 : decode cX7_line 78 = .ok (.aload_n 0, 1) := by decide +kernel
theorem dX7_line_79 : decode cX7_line 79 = .ok (.getfield 114, 3) := by decide +kernel
theorem dX7_line_82 : decode cX7_line 82 = .ok (.bipush 12, 2) := by decide +kernel
theorem dX7_line_84 : decode cX7_line 84 = .ok (.if_icmp .ne 6, 3) := by decide +kernel
theorem dX7_line_87 : decode cX7_line 87 = .ok (.bipush (-4), 2) := by decide +kernel
theorem dX7_line_89 : decode cX7_line 89 = .ok (.ireturn, 1) := by decide +kernel
theorem dX7_line_90 : decode cX7_line 90 = .ok (.aload_n 0, 1) := by decide +kernel
theorem dX7_line_91 : decode cX7_line 91 = .ok (.getfield 37, 3) := by decide +kernel
theorem dX7_line_94 : decode cX7_line 94 = .ok (.aload_n 0, 1) := by decide +kernel
theorem dX7_line_95 : decode cX7_line 95 = .ok (.getfield 114, 3) := by decide +kernel
theorem dX7_line_98 : decode cX7_line 98 = .ok (.iload_n 1, 1) := by decide +kernel
theorem dX7_line_99 : decode cX7_line 99 = .ok (.iastore, 1) := by decide +kernel
theorem dX7_line_100 : decode cX7_line 100 = .ok (.aload_n 0, 1) := by decide +kernel
theorem dX7_line_101 : decode cX7_line 101 = .ok (.getfield 40, 3) := by decide +kernel
theorem dX7_line_104 : decode cX7_line 104 = .ok (.aload_n 0, 1) := by decide +kernel
theorem dX7_line_105 : decode cX7_line 105 = .ok (.getfield 114, 3) := by decide +kernel
theorem dX7_line_108 : decode cX7_line 108 = .ok (.iload_n 2, 1) := by decide +kernel
theorem dX7_line_109 : decode cX7_line 109 = .ok (.iastore, 1) := by decide +kernel
theorem dX7_line_110 : decode cX7_line 110 = .ok (.aload_n 0, 1) := by decide +kernel
theorem dX7_line_111 : decode cX7_line 111 = .ok (.getfield 43, 3) := by decide +kernel
theorem dX7_line_114 : decode cX7_line 114 = .ok (.aload_n 0, 1) := by decide +kernel
theorem dX7_line_115 : decode cX7_line 115 = .ok (.getfield 114, 3) := by decide +kernel
theorem dX7_line_118 : decode cX7_line 118 = .ok (.iload_n 3, 1) := by decide +kernel
theorem dX7_line_119 : decode cX7_line 119 = .ok (.iastore, 1) := by decide +kernel
theorem dX7_line_120 : decode cX7_line 120 = .ok (.aload_n 0, 1) := by decide +kernel
theorem dX7_line_121 : decode cX7_line 121 = .ok (.getfield 46, 3) := by decide +kernel
theorem dX7_line_124 : decode cX7_line 124 = .ok (.aload_n 0, 1) := by decide +kernel
theorem dX7_line_125 : decode cX7_line 125 = .ok (.getfield 114, 3) := by decide +kernel
theorem dX7_line_128 : decode cX7_line 128 = .ok (.iload 4, 2) := by decide +kernel
theorem dX7_line_130 : decode cX7_line 130 = .ok (.iastore, 1) := by decide +kernel
theorem dX7_line_131 : decode cX7_line 131 = .ok (.aload_n 0, 1) := by decide +kernel
theorem dX7_line_132 : decode cX7_line 132 = .ok (.getfield 49, 3) := by decide +kernel
theorem dX7_line_135 : decode cX7_line 135 = .ok (.aload_n 0, 1) := by decide +kernel
theorem dX7_line_136 : decode cX7_line 136 = .ok (.getfield 114, 3) := by decide +kernel
theorem dX7_line_139 : decode cX7_line 139 = .ok (.iload 5, 2) := by decide +kernel
theorem dX7_line_141 : decode cX7_line 141 = .ok (.iastore, 1) := by decide +kernel
theorem dX7_line_142 : decode cX7_line 142 = .ok (.aload_n 0, 1) := by decide +kernel
theorem dX7_line_143 : decode cX7_line 143 = .ok (.dup, 1) := by decide +kernel
theorem dX7_line_144 : decode cX7_line 144 = .ok (.getfield 114, 3) := by decide +kernel
theorem dX7_line_147 : decode cX7_line 147 = .ok (.iconst 1, 1) := by decide +kernel
theorem dX7_line_148 : decode cX7_line 148 = .ok (.iadd, 1) := by decide +kernel
theorem dX7_line_149 : decode cX7_line 149 = .ok (.putfield 114, 3) := by decide +kernel
theorem dX7_line_152 : decode cX7_line 152 = .ok (.aload_n 0, 1) := by decide +kernel
theorem dX7_line_153 : decode cX7_line 153 = .ok (.getfield 114, 3) := by decide +kernel
theorem dX7_line_156 : decode cX7_line 156 = .ok (.iconst 1, 1) := by decide +kernel
theorem dX7_line_157 : decode cX7_line 157 = .ok (.isub, 1) := by decide +kernel
theorem dX7_line_158 : decode cX7_line 158 = .ok (.ireturn, 1) := by decide +kernel
theorem dX7_back_0 : decode cX7_back 0 = .ok (.aload_n 0, 1) := by decide +kernel
theorem dX7_back_1 : decode cX7_back 1 = .ok (.getfield 98, 3) := by decide +kernel
theorem dX7_back_4 : decode cX7_back 4 = .ok (.ifCond .ne 6, 3) := by decide +kernel
theorem dX7_back_7 : decode cX7_back 7 = .ok (.bipush (-3), 2) := by decide +kernel
theorem dX7_back_9 : decode cX7_back 9 = .ok (.ireturn, 1) := by decide +kernel
theorem dX7_back_10 : decode cX7_back 10 = .ok (.aload_n 0, 1) := by decide +kernel
theorem dX7_back_11 : decode cX7_back 11 = .ok (.dup, 1) := by decide +kernel
theorem dX7_back_12 : decode cX7_back 12 = .ok (.getfield 98, 3) := by decide +kernel
theorem dX7_back_15 : decode cX7_back 15 = .ok (.iconst 1, 1) := by decide +kernel
theorem dX7_back_16 : decode cX7_back 16 = .ok (.isub, 1) := by decide +kernel
theorem dX7_back_17 : decode cX7_back 17 = .ok (.putfield 98, 3) := by decide +kernel
theorem dX7_back_20 : decode cX7_back 20 = .ok (.aload_n 0, 1) := by decide +kernel
theorem dX7_back_21 : decode cX7_back 21 = .ok (.getfield 98, 3) := by decide +kernel
theorem dX7_back_24 : decode cX7_back 24 = .ok (.ireturn, 1) := by decide +kernel
theorem dX7_erase_0 : decode cX7_erase 0 = .ok (.aload_n 0, 1) := by decide +kernel
theorem dX7_erase_1 : decode cX7_erase 1 = .ok (.getfield 114, 3) := by decide +kernel
theorem dX7_erase_4 : decode cX7_erase 4 = .ok (.ifCond .ne 6, 3) := by decide +kernel
theorem dX7_erase_7 : decode cX7_erase 7 = .ok (.bipush (-3), 2) := by decide +kernel
theorem dX7_erase_9 : decode cX7_erase 9 = .ok (.ireturn, 1) := by decide +kernel
theorem dX7_erase_10 : decode cX7_erase 10 = .ok (.aload_n 0, 1) := by decide +kernel
theorem dX7_erase_11 : decode cX7_erase 11 = .ok (.dup, 1) := by decide +kernel
theorem dX7_erase_12 : decode cX7_erase 12 = .ok (.getfield 114, 3) := by decide +kernel
theorem dX7_erase_15 : decode cX7_erase 15 = .ok (.iconst 1, 1) := by decide +kernel
theorem dX7_erase_16 : decode cX7_erase 16 = .ok (.isub, 1) := by decide +kernel
theorem dX7_erase_17 : decode cX7_erase 17 = .ok (.putfield 114, 3) := by decide +kernel
theorem dX7_erase_20 : decode cX7_erase 20 = .ok (.aload_n 0, 1) := by decide +kernel
theorem dX7_erase_21 : decode cX7_erase 21 = .ok (.getfield 114, 3) := by decide +kernel
theorem dX7_erase_24 : decode cX7_erase 24 = .ok (.ireturn, 1) := by decide +kernel
theorem dX7_clear_0 : decode cX7_clear 0 = .ok (.aload_n 0, 1) := by decide +kernel
theorem dX7_clear_1 : decode cX7_clear 1 = .ok (.getfield 98, 3) := by decide +kernel
theorem dX7_clear_4 : decode cX7_clear 4 = .ok (.istore_n 1, 1) := by decide +kernel
theorem dX7_clear_5 : decode cX7_clear 5 = .ok (.aload_n 0, 1) := by decide +kernel
theorem dX7_clear_6 : decode cX7_clear 6 = .ok (.iconst 0, 1) := by decide +kernel
theorem dX7_clear_7 : decode cX7_clear 7 = .ok (.putfield 98, 3) := by decide +kernel
theorem dX7_clear_10 : decode cX7_clear 10 = .ok (.aload_n 0, 1) := by decide +kernel
theorem dX7_clear_11 : decode cX7_clear 11 = .ok (.iconst 0, 1) := by decide +kernel
theorem dX7_clear_12 : decode cX7_clear 12 = .ok (.putfield 114, 3) := by decide +kernel
theorem dX7_clear_15 : decode cX7_clear 15 = .ok (.iload_n 1, 1) := by decide +kernel
theorem dX7_clear_16 : decode cX7_clear 16 = .ok (.ireturn, 1) := by decide +kernel
theorem dX7_turn_0 : decode cX7_turn 0 = .ok (.iconst 0, 1) := by decide +kernel
theorem dX7_turn_1 : decode cX7_turn 1 = .ok (.istore_n 1, 1) := by decide +kernel
theorem dX7_turn_2 : decode cX7_turn 2 = .ok (.iconst 0, 1) := by decide +kernel
theorem dX7_turn_3 : decode cX7_turn 3 = .ok (.istore_n 2, 1) := by decide +kernel
theorem dX7_turn_4 : decode cX7_turn 4 = .ok (.iload_n 2, 1) := by decide +kernel
theorem dX7_turn_5 : decode cX7_turn 5 = .ok (.aload_n 0, 1) := by decide +kernel
theorem dX7_turn_6 : decode cX7_turn 6 = .ok (.getfield 98, 3) := by decide +kernel
theorem dX7_turn_9 : decode cX7_turn 9 = .ok (.if_icmp .ge 59, 3) := by decide +kernel
theorem dX7_turn_12 : decode cX7_turn 12 = .ok (.aload_n 0, 1) := by decide +kernel
theorem dX7_turn_13 : decode cX7_turn 13 = .ok (.getfield 16, 3) := by decide +kernel
theorem dX7_turn_16 : decode cX7_turn 16 = .ok (.iload_n 2, 1) := by decide +kernel
theorem dX7_turn_17 : decode cX7_turn 17 = .ok (.iaload, 1) := by decide +kernel
theorem dX7_turn_18 : decode cX7_turn 18 = .ok (.istore_n 3, 1) := by decide +kernel
theorem dX7_turn_19 : decode cX7_turn 19 = .ok (.aload_n 0, 1) := by decide +kernel
theorem dX7_turn_20 : decode cX7_turn 20 = .ok (.getfield 16, 3) := by decide +kernel
theorem dX7_turn_23 : decode cX7_turn 23 = .ok (.iload_n 2, 1) := by decide +kernel
theorem dX7_turn_24 : decode cX7_turn 24 = .ok (.bipush 7, 2) := by decide +kernel
theorem dX7_turn_26 : decode cX7_turn 26 = .ok (.aload_n 0, 1) := by decide +kernel
theorem dX7_turn_27 : decode cX7_turn 27 = .ok (.getfield 19, 3) := by decide +kernel
theorem dX7_turn_30 : decode cX7_turn 30 = .ok (.iload_n 2, 1) := by decide +kernel
theorem dX7_turn_31 : decode cX7_turn 31 = .ok (.iaload, 1) := by decide +kernel
theorem dX7_turn_32 : decode cX7_turn 32 = .ok (.isub, 1) := by decide +kernel
theorem dX7_turn_33 : decode cX7_turn 33 = .ok (.iastore, 1) := by decide +kernel
theorem dX7_turn_34 : decode cX7_turn 34 = .ok (.aload_n 0, 1) := by decide +kernel
theorem dX7_turn_35 : decode cX7_turn 35 = .ok (.getfield 19, 3) := by decide +kernel
theorem dX7_turn_38 : decode cX7_turn 38 = .ok (.iload_n 2, 1) := by decide +kernel
theorem dX7_turn_39 : decode cX7_turn 39 = .ok (.bipush 7, 2) := by decide +kernel
theorem dX7_turn_41 : decode cX7_turn 41 = .ok (.iload_n 3, 1) := by decide +kernel
theorem dX7_turn_42 : decode cX7_turn 42 = .ok (.isub, 1) := by decide +kernel
theorem dX7_turn_43 : decode cX7_turn 43 = .ok (.iastore, 1) := by decide +kernel
theorem dX7_turn_44 : decode cX7_turn 44 = .ok (.iload_n 1, 1) := by decide +kernel
theorem dX7_turn_45 : decode cX7_turn 45 = .ok (.aload_n 0, 1) := by decide +kernel
theorem dX7_turn_46 : decode cX7_turn 46 = .ok (.getfield 16, 3) := by decide +kernel
theorem dX7_turn_49 : decode cX7_turn 49 = .ok (.iload_n 2, 1) := by decide +kernel
theorem dX7_turn_50 : decode cX7_turn 50 = .ok (.iaload, 1) := by decide +kernel
theorem dX7_turn_51 : decode cX7_turn 51 = .ok (.iload_n 3, 1) := by decide +kernel
theorem dX7_turn_52 : decode cX7_turn 52 = .ok (.if_icmp .ne 7, 3) := by decide +kernel
theorem dX7_turn_55 : decode cX7_turn 55 = .ok (.iconst 0, 1) := by decide +kernel
theorem dX7_turn_56 : decode cX7_turn 56 = .ok (.goto 4, 3) := by decide +kernel
theorem dX7_turn_59 : decode cX7_turn 59 = .ok (.iconst 1, 1) := by decide +kernel
theorem dX7_turn_60 : decode cX7_turn 60 = .ok (.iadd, 1) := by decide +kernel
theorem dX7_turn_61 : decode cX7_turn 61 = .ok (.istore_n 1, 1) := by decide +kernel
theorem dX7_turn_62 : decode cX7_turn 62 = .ok (.iinc 2 1, 3) := by decide +kernel
theorem dX7_turn_65 : decode cX7_turn 65 = .ok (.goto (-61), 3) := by decide +kernel
theorem dX7_turn_68 : decode cX7_turn 68 = .ok (.iconst 0, 1) := by decide +kernel
theorem dX7_turn_69 : decode cX7_turn 69 = .ok (.istore_n 2, 1) := by decide +kernel
theorem dX7_turn_70 : decode cX7_turn 70 = .ok (.iload_n 2, 1) := by decide +kernel
theorem dX7_turn_71 : decode cX7_turn 71 = .ok (.aload_n 0, 1) := by decide +kernel
theorem dX7_turn_72 : decode cX7_turn 72 = .ok (.getfield 114, 3) := by decide +kernel
theorem dX7_turn_75 : decode cX7_turn 75 = .ok (.if_icmp .ge 68, 3) := by decide +kernel
theorem dX7_turn_78 : decode cX7_turn 78 = .ok (.aload_n 0, 1) := by decide +kernel
theorem dX7_turn_79 : decode cX7_turn 79 = .ok (.getfield 40, 3) := by decide +kernel
theorem dX7_turn_82 : decode cX7_turn 82 = .ok (.iload_n 2, 1) := by decide +kernel
theorem dX7_turn_83 : decode cX7_turn 83 = .ok (.iaload, 1) := by decide +kernel
theorem dX7_turn_84 : decode cX7_turn 84 = .ok (.ifCond .ne 21, 3) := by decide +kernel
theorem dX7_turn_87 : decode cX7_turn 87 = .ok (.aload_n 0, 1) := by decide +kernel
theorem dX7_turn_88 : decode cX7_turn 88 = .ok (.getfield 43, 3) := by decide +kernel
theorem dX7_turn_91 : decode cX7_turn 91 = .ok (.iload_n 2, 1) := by decide +kernel
theorem dX7_turn_92 : decode cX7_turn 92 = .ok (.bipush 8, 2) := by decide +kernel
theorem dX7_turn_94 : decode cX7_turn 94 = .ok (.aload_n 0, 1) := by decide +kernel
theorem dX7_turn_95 : decode cX7_turn 95 = .ok (.getfield 43, 3) := by decide +kernel
theorem dX7_turn_98 : decode cX7_turn 98 = .ok (.iload_n 2, 1) := by decide +kernel
theorem dX7_turn_99 : decode cX7_turn 99 = .ok (.iaload, 1) := by decide +kernel
theorem dX7_turn_100 : decode cX7_turn 100 = .ok (.isub, 1) := by decide +kernel
theorem dX7_turn_101 : decode cX7_turn 101 = .ok (.iastore, 1) := by decide +kernel
theorem dX7_turn_102 : decode cX7_turn 102 = .ok (.goto 35, 3) := by decide +kernel
theorem dX7_turn_105 : decode cX7_turn 105 = .ok (.aload_n 0, 1) := by decide +kernel
theorem dX7_turn_106 : decode cX7_turn 106 = .ok (.getfield 46, 3) := by decide +kernel
theorem dX7_turn_109 : decode cX7_turn 109 = .ok (.iload_n 2, 1) := by decide +kernel
theorem dX7_turn_110 : decode cX7_turn 110 = .ok (.iaload, 1) := by decide +kernel
theorem dX7_turn_111 : decode cX7_turn 111 = .ok (.istore_n 3, 1) := by decide +kernel
theorem dX7_turn_112 : decode cX7_turn 112 = .ok (.aload_n 0, 1) := by decide +kernel
theorem dX7_turn_113 : decode cX7_turn 113 = .ok (.getfield 46, 3) := by decide +kernel
theorem dX7_turn_116 : decode cX7_turn 116 = .ok (.iload_n 2, 1) := by decide +kernel
theorem dX7_turn_117 : decode cX7_turn 117 = .ok (.bipush 7, 2) := by decide +kernel
theorem dX7_turn_119 : decode cX7_turn 119 = .ok (.aload_n 0, 1) := by decide +kernel
theorem dX7_turn_120 : decode cX7_turn 120 = .ok (.getfield 49, 3) := by decide +kernel
theorem dX7_turn_123 : decode cX7_turn 123 = .ok (.iload_n 2, 1) := by decide +kernel
theorem dX7_turn_124 : decode cX7_turn 124 = .ok (.iaload, 1) := by decide +kernel
theorem dX7_turn_125 : decode cX7_turn 125 = .ok (.isub, 1) := by decide +kernel
theorem dX7_turn_126 : decode cX7_turn 126 = .ok (.iastore, 1) := by decide +kernel
theorem dX7_turn_127 : decode cX7_turn 127 = .ok (.aload_n 0, 1) := by decide +kernel
theorem dX7_turn_128 : decode cX7_turn 128 = .ok (.getfield 49, 3) := by decide +kernel
theorem dX7_turn_131 : decode cX7_turn 131 = .ok (.iload_n 2, 1) := by decide +kernel
theorem dX7_turn_132 : decode cX7_turn 132 = .ok (.bipush 7, 2) := by decide +kernel
theorem dX7_turn_134 : decode cX7_turn 134 = .ok (.iload_n 3, 1) := by decide +kernel
theorem dX7_turn_135 : decode cX7_turn 135 = .ok (.isub, 1) := by decide +kernel
theorem dX7_turn_136 : decode cX7_turn 136 = .ok (.iastore, 1) := by decide +kernel
theorem dX7_turn_137 : decode cX7_turn 137 = .ok (.iinc 2 1, 3) := by decide +kernel
theorem dX7_turn_140 : decode cX7_turn 140 = .ok (.goto (-70), 3) := by decide +kernel
theorem dX7_turn_143 : decode cX7_turn 143 = .ok (.iload_n 1, 1) := by decide +kernel
theorem dX7_turn_144 : decode cX7_turn 144 = .ok (.ireturn, 1) := by decide +kernel
theorem dX7_ofBlock_0 : decode cX7_ofBlock 0 = .ok (.aload_n 0, 1) := by decide +kernel
theorem dX7_ofBlock_1 : decode cX7_ofBlock 1 = .ok (.iload_n 1, 1) := by decide +kernel
theorem dX7_ofBlock_2 : decode cX7_ofBlock 2 = .ok (.invokevirtual 110, 3) := by decide +kernel
theorem dX7_ofBlock_5 : decode cX7_ofBlock 5 = .ok (.ifCond .ne 5, 3) := by decide +kernel
theorem dX7_ofBlock_8 : decode cX7_ofBlock 8 = .ok (.iconst (-1), 1) := by decide +kernel
theorem dX7_ofBlock_9 : decode cX7_ofBlock 9 = .ok (.ireturn, 1) := by decide +kernel
theorem dX7_ofBlock_10 : decode cX7_ofBlock 10 = .ok (.iload_n 2, 1) := by decide +kernel
theorem dX7_ofBlock_11 : decode cX7_ofBlock 11 = .ok (.tableswitch 90 0 6 #[41, 48, 55, 62, 69, 76, 83], 41) := by decide +kernel
theorem dX7_ofBlock_52 : decode cX7_ofBlock 52 = .ok (.aload_n 0, 1) := by decide +kernel
theorem dX7_ofBlock_53 : decode cX7_ofBlock 53 = .ok (.getfield 7, 3) := by decide +kernel
theorem dX7_ofBlock_56 : decode cX7_ofBlock 56 = .ok (.iload_n 1, 1) := by decide +kernel
theorem dX7_ofBlock_57 : decode cX7_ofBlock 57 = .ok (.iaload, 1) := by decide +kernel
theorem dX7_ofBlock_58 : decode cX7_ofBlock 58 = .ok (.ireturn, 1) := by decide +kernel
theorem dX7_ofBlock_59 : decode cX7_ofBlock 59 = .ok (.aload_n 0, 1) := by decide +kernel
theorem dX7_ofBlock_60 : decode cX7_ofBlock 60 = .ok (.getfield 13, 3) := by decide +kernel
theorem dX7_ofBlock_63 : decode cX7_ofBlock 63 = .ok (.iload_n 1, 1) := by decide +kernel
theorem dX7_ofBlock_64 : decode cX7_ofBlock 64 = .ok (.iaload, 1) := by decide +kernel
theorem dX7_ofBlock_65 : decode cX7_ofBlock 65 = .ok (.ireturn, 1) := by decide +kernel
theorem dX7_ofBlock_66 : decode cX7_ofBlock 66 = .ok (.aload_n 0, 1) := by decide +kernel
theorem dX7_ofBlock_67 : decode cX7_ofBlock 67 = .ok (.getfield 16, 3) := by decide +kernel
theorem dX7_ofBlock_70 : decode cX7_ofBlock 70 = .ok (.iload_n 1, 1) := by decide +kernel
theorem dX7_ofBlock_71 : decode cX7_ofBlock 71 = .ok (.iaload, 1) := by decide +kernel
theorem dX7_ofBlock_72 : decode cX7_ofBlock 72 = .ok (.ireturn, 1) := by decide +kernel
theorem dX7_ofBlock_73 : decode cX7_ofBlock 73 = .ok (.aload_n 0, 1) := by decide +kernel
theorem dX7_ofBlock_74 : decode cX7_ofBlock 74 = .ok (.getfield 19, 3) := by decide +kernel
theorem dX7_ofBlock_77 : decode cX7_ofBlock 77 = .ok (.iload_n 1, 1) := by decide +kernel
theorem dX7_ofBlock_78 : decode cX7_ofBlock 78 = .ok (.iaload, 1) := by decide +kernel
theorem dX7_ofBlock_79 : decode cX7_ofBlock 79 = .ok (.ireturn, 1) := by decide +kernel
theorem dX7_ofBlock_80 : decode cX7_ofBlock 80 = .ok (.aload_n 0, 1) := by decide +kernel
theorem dX7_ofBlock_81 : decode cX7_ofBlock 81 = .ok (.getfield 22, 3) := by decide +kernel
theorem dX7_ofBlock_84 : decode cX7_ofBlock 84 = .ok (.iload_n 1, 1) := by decide +kernel
theorem dX7_ofBlock_85 : decode cX7_ofBlock 85 = .ok (.iaload, 1) := by decide +kernel
theorem dX7_ofBlock_86 : decode cX7_ofBlock 86 = .ok (.ireturn, 1) := by decide +kernel
theorem dX7_ofBlock_87 : decode cX7_ofBlock 87 = .ok (.aload_n 0, 1) := by decide +kernel
theorem dX7_ofBlock_88 : decode cX7_ofBlock 88 = .ok (.getfield 25, 3) := by decide +kernel
theorem dX7_ofBlock_91 : decode cX7_ofBlock 91 = .ok (.iload_n 1, 1) := by decide +kernel
theorem dX7_ofBlock_92 : decode cX7_ofBlock 92 = .ok (.iaload, 1) := by decide +kernel
theorem dX7_ofBlock_93 : decode cX7_ofBlock 93 = .ok (.ireturn, 1) := by decide +kernel
theorem dX7_ofBlock_94 : decode cX7_ofBlock 94 = .ok (.aload_n 0, 1) := by decide +kernel
theorem dX7_ofBlock_95 : decode cX7_ofBlock 95 = .ok (.getfield 28, 3) := by decide +kernel
theorem dX7_ofBlock_98 : decode cX7_ofBlock 98 = .ok (.iload_n 1, 1) := by decide +kernel
theorem dX7_ofBlock_99 : decode cX7_ofBlock 99 = .ok (.iaload, 1) := by decide +kernel
theorem dX7_ofBlock_100 : decode cX7_ofBlock 100 = .ok (.ireturn, 1) := by decide +kernel
theorem dX7_ofBlock_101 : decode cX7_ofBlock 101 = .ok (.bipush (-2), 2) := by decide +kernel
theorem dX7_ofBlock_103 : decode cX7_ofBlock 103 = .ok (.ireturn, 1) := by decide +kernel
theorem dX7_ofLine_0 : decode cX7_ofLine 0 = .ok (.iload_n 1, 1) := by decide +kernel
theorem dX7_ofLine_1 : decode cX7_ofLine 1 = .ok (.iconst 0, 1) := by decide +kernel
theorem dX7_ofLine_2 : decode cX7_ofLine 2 = .ok (.aload_n 0, 1) := by decide +kernel
theorem dX7_ofLine_3 : decode cX7_ofLine 3 = .ok (.getfield 114, 3) := by decide +kernel
theorem dX7_ofLine_6 : decode cX7_ofLine 6 = .ok (.iconst 1, 1) := by decide +kernel
theorem dX7_ofLine_7 : decode cX7_ofLine 7 = .ok (.isub, 1) := by decide +kernel
theorem dX7_ofLine_8 : decode cX7_ofLine 8 = .ok (.invokestatic 102, 3) := by decide +kernel
theorem dX7_ofLine_11 : decode cX7_ofLine 11 = .ok (.ifCond .ne 5, 3) := by decide +kernel
theorem dX7_ofLine_14 : decode cX7_ofLine 14 = .ok (.iconst (-1), 1) := by decide +kernel
theorem dX7_ofLine_15 : decode cX7_ofLine 15 = .ok (.ireturn, 1) := by decide +kernel
theorem dX7_ofLine_16 : decode cX7_ofLine 16 = .ok (.iload_n 2, 1) := by decide +kernel
theorem dX7_ofLine_17 : decode cX7_ofLine 17 = .ok (.tableswitch 70 0 4 #[35, 42, 49, 56, 63], 35) := by decide +kernel
theorem dX7_ofLine_52 : decode cX7_ofLine 52 = .ok (.aload_n 0, 1) := by decide +kernel
theorem dX7_ofLine_53 : decode cX7_ofLine 53 = .ok (.getfield 37, 3) := by decide +kernel
theorem dX7_ofLine_56 : decode cX7_ofLine 56 = .ok (.iload_n 1, 1) := by decide +kernel
theorem dX7_ofLine_57 : decode cX7_ofLine 57 = .ok (.iaload, 1) := by decide +kernel
theorem dX7_ofLine_58 : decode cX7_ofLine 58 = .ok (.ireturn, 1) := by decide +kernel
theorem dX7_ofLine_59 : decode cX7_ofLine 59 = .ok (.aload_n 0, 1) := by decide +kernel
theorem dX7_ofLine_60 : decode cX7_ofLine 60 = .ok (.getfield 40, 3) := by decide +kernel
theorem dX7_ofLine_63 : decode cX7_ofLine 63 = .ok (.iload_n 1, 1) := by decide +kernel
theorem dX7_ofLine_64 : decode cX7_ofLine 64 = .ok (.iaload, 1) := by decide +kernel
theorem dX7_ofLine_65 : decode cX7_ofLine 65 = .ok (.ireturn, 1) := by decide +kernel
theorem dX7_ofLine_66 : decode cX7_ofLine 66 = .ok (.aload_n 0, 1) := by decide +kernel
theorem dX7_ofLine_67 : decode cX7_ofLine 67 = .ok (.getfield 43, 3) := by decide +kernel
theorem dX7_ofLine_70 : decode cX7_ofLine 70 = .ok (.iload_n 1, 1) := by decide +kernel
theorem dX7_ofLine_71 : decode cX7_ofLine 71 = .ok (.iaload, 1) := by decide +kernel
theorem dX7_ofLine_72 : decode cX7_ofLine 72 = .ok (.ireturn, 1) := by decide +kernel
theorem dX7_ofLine_73 : decode cX7_ofLine 73 = .ok (.aload_n 0, 1) := by decide +kernel
theorem dX7_ofLine_74 : decode cX7_ofLine 74 = .ok (.getfield 46, 3) := by decide +kernel
theorem dX7_ofLine_77 : decode cX7_ofLine 77 = .ok (.iload_n 1, 1) := by decide +kernel
theorem dX7_ofLine_78 : decode cX7_ofLine 78 = .ok (.iaload, 1) := by decide +kernel
theorem dX7_ofLine_79 : decode cX7_ofLine 79 = .ok (.ireturn, 1) := by decide +kernel
theorem dX7_ofLine_80 : decode cX7_ofLine 80 = .ok (.aload_n 0, 1) := by decide +kernel
theorem dX7_ofLine_81 : decode cX7_ofLine 81 = .ok (.getfield 49, 3) := by decide +kernel
theorem dX7_ofLine_84 : decode cX7_ofLine 84 = .ok (.iload_n 1, 1) := by decide +kernel
theorem dX7_ofLine_85 : decode cX7_ofLine 85 = .ok (.iaload, 1) := by decide +kernel
theorem dX7_ofLine_86 : decode cX7_ofLine 86 = .ok (.ireturn, 1) := by decide +kernel
theorem dX7_ofLine_87 : decode cX7_ofLine 87 = .ok (.bipush (-2), 2) := by decide +kernel
theorem dX7_ofLine_89 : decode cX7_ofLine 89 = .ok (.ireturn, 1) := by decide +kernel
theorem dX7_at_0 : decode cX7_at 0 = .ok (.iload_n 1, 1) := by decide +kernel
theorem dX7_at_1 : decode cX7_at 1 = .ok (.iconst 0, 1) := by decide +kernel
theorem dX7_at_2 : decode cX7_at 2 = .ok (.iconst 3, 1) := by decide +kernel
theorem dX7_at_3 : decode cX7_at 3 = .ok (.invokestatic 102, 3) := by decide +kernel
theorem dX7_at_6 : decode cX7_at 6 = .ok (.ifCond .eq 23, 3) := by decide +kernel
theorem dX7_at_9 : decode cX7_at 9 = .ok (.iload_n 2, 1) := by decide +kernel
theorem dX7_at_10 : decode cX7_at 10 = .ok (.iconst 0, 1) := by decide +kernel
theorem dX7_at_11 : decode cX7_at 11 = .ok (.bipush 7, 2) := by decide +kernel
theorem dX7_at_13 : decode cX7_at 13 = .ok (.invokestatic 102, 3) := by decide +kernel
theorem dX7_at_16 : decode cX7_at 16 = .ok (.ifCond .eq 13, 3) := by decide +kernel
theorem dX7_at_19 : decode cX7_at 19 = .ok (.iload_n 3, 1) := by decide +kernel
theorem dX7_at_20 : decode cX7_at 20 = .ok (.iconst 0, 1) := by decide +kernel
theorem dX7_at_21 : decode cX7_at 21 = .ok (.bipush 29, 2) := by decide +kernel
theorem dX7_at_23 : decode cX7_at 23 = .ok (.invokestatic 102, 3) := by decide +kernel
theorem dX7_at_26 : decode cX7_at 26 = .ok (.ifCond .ne 6, 3) := by decide +kernel
theorem dX7_at_29 : decode cX7_at 29 = .ok (.bipush (-2), 2) := by decide +kernel
theorem dX7_at_31 : decode cX7_at 31 = .ok (.ireturn, 1) := by decide +kernel
theorem dX7_at_32 : decode cX7_at 32 = .ok (.iconst 0, 1) := by decide +kernel
theorem dX7_at_33 : decode cX7_at 33 = .ok (.istore 4, 2) := by decide +kernel
theorem dX7_at_35 : decode cX7_at 35 = .ok (.iload 4, 2) := by decide +kernel
theorem dX7_at_37 : decode cX7_at 37 = .ok (.aload_n 0, 1) := by decide +kernel
theorem dX7_at_38 : decode cX7_at 38 = .ok (.getfield 98, 3) := by decide +kernel
theorem dX7_at_41 : decode cX7_at 41 = .ok (.if_icmp .ge 36, 3) := by decide +kernel
theorem dX7_at_44 : decode cX7_at 44 = .ok (.aload_n 0, 1) := by decide +kernel
theorem dX7_at_45 : decode cX7_at 45 = .ok (.getfield 7, 3) := by decide +kernel
theorem dX7_at_48 : decode cX7_at 48 = .ok (.iload 4, 2) := by decide +kernel
theorem dX7_at_50 : decode cX7_at 50 = .ok (.iaload, 1) := by decide +kernel
theorem dX7_at_51 : decode cX7_at 51 = .ok (.iload_n 1, 1) := by decide +kernel
theorem dX7_at_52 : decode cX7_at 52 = .ok (.if_icmp .ne 19, 3) := by decide +kernel
theorem dX7_at_55 : decode cX7_at 55 = .ok (.aload_n 0, 1) := by decide +kernel
theorem dX7_at_56 : decode cX7_at 56 = .ok (.iload 4, 2) := by decide +kernel
theorem dX7_at_58 : decode cX7_at 58 = .ok (.iload_n 2, 1) := by decide +kernel
theorem dX7_at_59 : decode cX7_at 59 = .ok (.iload_n 2, 1) := by decide +kernel
theorem dX7_at_60 : decode cX7_at 60 = .ok (.iload_n 3, 1) := by decide +kernel
theorem dX7_at_61 : decode cX7_at 61 = .ok (.iload_n 3, 1) := by decide +kernel
theorem dX7_at_62 : decode cX7_at 62 = .ok (.invokevirtual 106, 3) := by decide +kernel
theorem dX7_at_65 : decode cX7_at 65 = .ok (.ifCond .eq 6, 3) := by decide +kernel
theorem dX7_at_68 : decode cX7_at 68 = .ok (.iload 4, 2) := by decide +kernel
theorem dX7_at_70 : decode cX7_at 70 = .ok (.ireturn, 1) := by decide +kernel
theorem dX7_at_71 : decode cX7_at 71 = .ok (.iinc 4 1, 3) := by decide +kernel
theorem dX7_at_74 : decode cX7_at 74 = .ok (.goto (-39), 3) := by decide +kernel
theorem dX7_at_77 : decode cX7_at 77 = .ok (.bipush (-9), 2) := by decide +kernel
theorem dX7_at_79 : decode cX7_at 79 = .ok (.ireturn, 1) := by decide +kernel
theorem dX7_isHead_0 : decode cX7_isHead 0 = .ok (.aload_n 0, 1) := by decide +kernel
theorem dX7_isHead_1 : decode cX7_isHead 1 = .ok (.iload_n 1, 1) := by decide +kernel
theorem dX7_isHead_2 : decode cX7_isHead 2 = .ok (.invokevirtual 110, 3) := by decide +kernel
theorem dX7_isHead_5 : decode cX7_isHead 5 = .ok (.ifCond .eq 16, 3) := by decide +kernel
theorem dX7_isHead_8 : decode cX7_isHead 8 = .ok (.aload_n 0, 1) := by decide +kernel
theorem dX7_isHead_9 : decode cX7_isHead 9 = .ok (.getfield 13, 3) := by decide +kernel
theorem dX7_isHead_12 : decode cX7_isHead 12 = .ok (.iload_n 1, 1) := by decide +kernel
theorem dX7_isHead_13 : decode cX7_isHead 13 = .ok (.iaload, 1) := by decide +kernel
theorem dX7_isHead_14 : decode cX7_isHead 14 = .ok (.ifCond .ne 7, 3) := by decide +kernel
theorem dX7_isHead_17 : decode cX7_isHead 17 = .ok (.iconst 1, 1) := by decide +kernel
theorem dX7_isHead_18 : decode cX7_isHead 18 = .ok (.goto 4, 3) := by decide +kernel
theorem dX7_isHead_21 : decode cX7_isHead 21 = .ok (.iconst 0, 1) := by decide +kernel
theorem dX7_isHead_22 : decode cX7_isHead 22 = .ok (.ireturn, 1) := by decide +kernel
theorem dX7_isUpright_0 : decode cX7_isUpright 0 = .ok (.iconst 0, 1) := by decide +kernel
theorem dX7_isUpright_1 : decode cX7_isUpright 1 = .ok (.istore 5, 2) := by decide +kernel
theorem dX7_isUpright_3 : decode cX7_isUpright 3 = .ok (.iload 5, 2) := by decide +kernel
theorem dX7_isUpright_5 : decode cX7_isUpright 5 = .ok (.aload_n 0, 1) := by decide +kernel
theorem dX7_isUpright_6 : decode cX7_isUpright 6 = .ok (.getfield 114, 3) := by decide +kernel
theorem dX7_isUpright_9 : decode cX7_isUpright 9 = .ok (.if_icmp .ge 66, 3) := by decide +kernel
theorem dX7_isUpright_12 : decode cX7_isUpright 12 = .ok (.aload_n 0, 1) := by decide +kernel
theorem dX7_isUpright_13 : decode cX7_isUpright 13 = .ok (.getfield 37, 3) := by decide +kernel
theorem dX7_isUpright_16 : decode cX7_isUpright 16 = .ok (.iload 5, 2) := by decide +kernel
theorem dX7_isUpright_18 : decode cX7_isUpright 18 = .ok (.iaload, 1) := by decide +kernel
theorem dX7_isUpright_19 : decode cX7_isUpright 19 = .ok (.iload_n 1, 1) := by decide +kernel
theorem dX7_isUpright_20 : decode cX7_isUpright 20 = .ok (.if_icmp .ne 49, 3) := by decide +kernel
theorem dX7_isUpright_23 : decode cX7_isUpright 23 = .ok (.aload_n 0, 1) := by decide +kernel
theorem dX7_isUpright_24 : decode cX7_isUpright 24 = .ok (.getfield 40, 3) := by decide +kernel
theorem dX7_isUpright_27 : decode cX7_isUpright 27 = .ok (.iload 5, 2) := by decide +kernel
theorem dX7_isUpright_29 : decode cX7_isUpright 29 = .ok (.iaload, 1) := by decide +kernel
theorem dX7_isUpright_30 : decode cX7_isUpright 30 = .ok (.ifCond .ne 39, 3) := by decide +kernel
theorem dX7_isUpright_33 : decode cX7_isUpright 33 = .ok (.aload_n 0, 1) := by decide +kernel
theorem dX7_isUpright_34 : decode cX7_isUpright 34 = .ok (.getfield 43, 3) := by decide +kernel
theorem dX7_isUpright_37 : decode cX7_isUpright 37 = .ok (.iload 5, 2) := by decide +kernel
theorem dX7_isUpright_39 : decode cX7_isUpright 39 = .ok (.iaload, 1) := by decide +kernel
theorem dX7_isUpright_40 : decode cX7_isUpright 40 = .ok (.iload_n 2, 1) := by decide +kernel
theorem dX7_isUpright_41 : decode cX7_isUpright 41 = .ok (.if_icmp .ne 28, 3) := by decide +kernel
theorem dX7_isUpright_44 : decode cX7_isUpright 44 = .ok (.aload_n 0, 1) := by decide +kernel
theorem dX7_isUpright_45 : decode cX7_isUpright 45 = .ok (.getfield 46, 3) := by decide +kernel
theorem dX7_isUpright_48 : decode cX7_isUpright 48 = .ok (.iload 5, 2) := by decide +kernel
theorem dX7_isUpright_50 : decode cX7_isUpright 50 = .ok (.iaload, 1) := by decide +kernel
theorem dX7_isUpright_51 : decode cX7_isUpright 51 = .ok (.iload 4, 2) := by decide +kernel
theorem dX7_isUpright_53 : decode cX7_isUpright 53 = .ok (.if_icmp .gt 16, 3) := by decide +kernel
theorem dX7_isUpright_56 : decode cX7_isUpright 56 = .ok (.aload_n 0, 1) := by decide +kernel
theorem dX7_isUpright_57 : decode cX7_isUpright 57 = .ok (.getfield 49, 3) := by decide +kernel
theorem dX7_isUpright_60 : decode cX7_isUpright 60 = .ok (.iload 5, 2) := by decide +kernel
theorem dX7_isUpright_62 : decode cX7_isUpright 62 = .ok (.iaload, 1) := by decide +kernel
theorem dX7_isUpright_63 : decode cX7_isUpright 63 = .ok (.iload_n 3, 1) := by decide +kernel
theorem dX7_isUpright_64 : decode cX7_isUpright 64 = .ok (.if_icmp .lt 5, 3) := by decide +kernel
theorem dX7_isUpright_67 : decode cX7_isUpright 67 = .ok (.iconst 1, 1) := by decide +kernel
theorem dX7_isUpright_68 : decode cX7_isUpright 68 = .ok (.ireturn, 1) := by decide +kernel
theorem dX7_isUpright_69 : decode cX7_isUpright 69 = .ok (.iinc 5 1, 3) := by decide +kernel
theorem dX7_isUpright_72 : decode cX7_isUpright 72 = .ok (.goto (-69), 3) := by decide +kernel
theorem dX7_isUpright_75 : decode cX7_isUpright 75 = .ok (.iconst 0, 1) := by decide +kernel
theorem dX7_isUpright_76 : decode cX7_isUpright 76 = .ok (.ireturn, 1) := by decide +kernel
theorem dX7_reachesAcross_0 : decode cX7_reachesAcross 0 = .ok (.aload_n 0, 1) := by decide +kernel
theorem dX7_reachesAcross_1 : decode cX7_reachesAcross 1 = .ok (.getfield 25, 3) := by decide +kernel
theorem dX7_reachesAcross_4 : decode cX7_reachesAcross 4 = .ok (.iload_n 1, 1) := by decide +kernel
theorem dX7_reachesAcross_5 : decode cX7_reachesAcross 5 = .ok (.iaload, 1) := by decide +kernel
theorem dX7_reachesAcross_6 : decode cX7_reachesAcross 6 = .ok (.bipush 29, 2) := by decide +kernel
theorem dX7_reachesAcross_8 : decode cX7_reachesAcross 8 = .ok (.if_icmp .eq 22, 3) := by decide +kernel
theorem dX7_reachesAcross_11 : decode cX7_reachesAcross 11 = .ok (.iload_n 2, 1) := by decide +kernel
theorem dX7_reachesAcross_12 : decode cX7_reachesAcross 12 = .ok (.aload_n 0, 1) := by decide +kernel
theorem dX7_reachesAcross_13 : decode cX7_reachesAcross 13 = .ok (.getfield 16, 3) := by decide +kernel
theorem dX7_reachesAcross_16 : decode cX7_reachesAcross 16 = .ok (.iload_n 1, 1) := by decide +kernel
theorem dX7_reachesAcross_17 : decode cX7_reachesAcross 17 = .ok (.iaload, 1) := by decide +kernel
theorem dX7_reachesAcross_18 : decode cX7_reachesAcross 18 = .ok (.aload_n 0, 1) := by decide +kernel
theorem dX7_reachesAcross_19 : decode cX7_reachesAcross 19 = .ok (.getfield 19, 3) := by decide +kernel
theorem dX7_reachesAcross_22 : decode cX7_reachesAcross 22 = .ok (.iload_n 1, 1) := by decide +kernel
theorem dX7_reachesAcross_23 : decode cX7_reachesAcross 23 = .ok (.iaload, 1) := by decide +kernel
theorem dX7_reachesAcross_24 : decode cX7_reachesAcross 24 = .ok (.invokestatic 102, 3) := by decide +kernel
theorem dX7_reachesAcross_27 : decode cX7_reachesAcross 27 = .ok (.ifCond .ne 5, 3) := by decide +kernel
theorem dX7_reachesAcross_30 : decode cX7_reachesAcross 30 = .ok (.iconst 0, 1) := by decide +kernel
theorem dX7_reachesAcross_31 : decode cX7_reachesAcross 31 = .ok (.ireturn, 1) := by decide +kernel
theorem dX7_reachesAcross_32 : decode cX7_reachesAcross 32 = .ok (.aload_n 0, 1) := by decide +kernel
theorem dX7_reachesAcross_33 : decode cX7_reachesAcross 33 = .ok (.getfield 16, 3) := by decide +kernel
theorem dX7_reachesAcross_36 : decode cX7_reachesAcross 36 = .ok (.iload_n 1, 1) := by decide +kernel
theorem dX7_reachesAcross_37 : decode cX7_reachesAcross 37 = .ok (.iaload, 1) := by decide +kernel
theorem dX7_reachesAcross_38 : decode cX7_reachesAcross 38 = .ok (.iconst 1, 1) := by decide +kernel
theorem dX7_reachesAcross_39 : decode cX7_reachesAcross 39 = .ok (.iadd, 1) := by decide +kernel
theorem dX7_reachesAcross_40 : decode cX7_reachesAcross 40 = .ok (.istore_n 3, 1) := by decide +kernel
theorem dX7_reachesAcross_41 : decode cX7_reachesAcross 41 = .ok (.iload_n 3, 1) := by decide +kernel
theorem dX7_reachesAcross_42 : decode cX7_reachesAcross 42 = .ok (.iload_n 2, 1) := by decide +kernel
theorem dX7_reachesAcross_43 : decode cX7_reachesAcross 43 = .ok (.if_icmp .gt 41, 3) := by decide +kernel
theorem dX7_reachesAcross_46 : decode cX7_reachesAcross 46 = .ok (.aload_n 0, 1) := by decide +kernel
theorem dX7_reachesAcross_47 : decode cX7_reachesAcross 47 = .ok (.aload_n 0, 1) := by decide +kernel
theorem dX7_reachesAcross_48 : decode cX7_reachesAcross 48 = .ok (.getfield 7, 3) := by decide +kernel
theorem dX7_reachesAcross_51 : decode cX7_reachesAcross 51 = .ok (.iload_n 1, 1) := by decide +kernel
theorem dX7_reachesAcross_52 : decode cX7_reachesAcross 52 = .ok (.iaload, 1) := by decide +kernel
theorem dX7_reachesAcross_53 : decode cX7_reachesAcross 53 = .ok (.iload_n 3, 1) := by decide +kernel
theorem dX7_reachesAcross_54 : decode cX7_reachesAcross 54 = .ok (.aload_n 0, 1) := by decide +kernel
theorem dX7_reachesAcross_55 : decode cX7_reachesAcross 55 = .ok (.getfield 25, 3) := by decide +kernel
theorem dX7_reachesAcross_58 : decode cX7_reachesAcross 58 = .ok (.iload_n 1, 1) := by decide +kernel
theorem dX7_reachesAcross_59 : decode cX7_reachesAcross 59 = .ok (.iaload, 1) := by decide +kernel
theorem dX7_reachesAcross_60 : decode cX7_reachesAcross 60 = .ok (.iconst 1, 1) := by decide +kernel
theorem dX7_reachesAcross_61 : decode cX7_reachesAcross 61 = .ok (.iadd, 1) := by decide +kernel
theorem dX7_reachesAcross_62 : decode cX7_reachesAcross 62 = .ok (.aload_n 0, 1) := by decide +kernel
theorem dX7_reachesAcross_63 : decode cX7_reachesAcross 63 = .ok (.getfield 25, 3) := by decide +kernel
theorem dX7_reachesAcross_66 : decode cX7_reachesAcross 66 = .ok (.iload_n 1, 1) := by decide +kernel
theorem dX7_reachesAcross_67 : decode cX7_reachesAcross 67 = .ok (.iaload, 1) := by decide +kernel
theorem dX7_reachesAcross_68 : decode cX7_reachesAcross 68 = .ok (.iconst 1, 1) := by decide +kernel
theorem dX7_reachesAcross_69 : decode cX7_reachesAcross 69 = .ok (.iadd, 1) := by decide +kernel
theorem dX7_reachesAcross_70 : decode cX7_reachesAcross 70 = .ok (.invokevirtual 117, 3) := by decide +kernel
theorem dX7_reachesAcross_73 : decode cX7_reachesAcross 73 = .ok (.ifCond .eq 5, 3) := by decide +kernel
theorem dX7_reachesAcross_76 : decode cX7_reachesAcross 76 = .ok (.iconst 0, 1) := by decide +kernel
theorem dX7_reachesAcross_77 : decode cX7_reachesAcross 77 = .ok (.ireturn, 1) := by decide +kernel
theorem dX7_reachesAcross_78 : decode cX7_reachesAcross 78 = .ok (.iinc 3 1, 3) := by decide +kernel
theorem dX7_reachesAcross_81 : decode cX7_reachesAcross 81 = .ok (.goto (-40), 3) := by decide +kernel
theorem dX7_reachesAcross_84 : decode cX7_reachesAcross 84 = .ok (.iconst 1, 1) := by decide +kernel
theorem dX7_reachesAcross_85 : decode cX7_reachesAcross 85 = .ok (.ireturn, 1) := by decide +kernel
theorem dX7_lastRow_0 : decode cX7_lastRow 0 = .ok (.aload_n 0, 1) := by decide +kernel
theorem dX7_lastRow_1 : decode cX7_lastRow 1 = .ok (.iload_n 1, 1) := by decide +kernel
theorem dX7_lastRow_2 : decode cX7_lastRow 2 = .ok (.iload_n 2, 1) := by decide +kernel
theorem dX7_lastRow_3 : decode cX7_lastRow 3 = .ok (.invokevirtual 121, 3) := by decide +kernel
theorem dX7_lastRow_6 : decode cX7_lastRow 6 = .ok (.ifCond .ne 6, 3) := by decide +kernel
theorem dX7_lastRow_9 : decode cX7_lastRow 9 = .ok (.bipush (-9), 2) := by decide +kernel
theorem dX7_lastRow_11 : decode cX7_lastRow 11 = .ok (.ireturn, 1) := by decide +kernel
theorem dX7_lastRow_12 : decode cX7_lastRow 12 = .ok (.aload_n 0, 1) := by decide +kernel
theorem dX7_lastRow_13 : decode cX7_lastRow 13 = .ok (.getfield 25, 3) := by decide +kernel
theorem dX7_lastRow_16 : decode cX7_lastRow 16 = .ok (.iload_n 1, 1) := by decide +kernel
theorem dX7_lastRow_17 : decode cX7_lastRow 17 = .ok (.iaload, 1) := by decide +kernel
theorem dX7_lastRow_18 : decode cX7_lastRow 18 = .ok (.istore_n 3, 1) := by decide +kernel
theorem dX7_lastRow_19 : decode cX7_lastRow 19 = .ok (.bipush 29, 2) := by decide +kernel
theorem dX7_lastRow_21 : decode cX7_lastRow 21 = .ok (.istore 4, 2) := by decide +kernel
theorem dX7_lastRow_23 : decode cX7_lastRow 23 = .ok (.iconst 0, 1) := by decide +kernel
theorem dX7_lastRow_24 : decode cX7_lastRow 24 = .ok (.istore 5, 2) := by decide +kernel
theorem dX7_lastRow_26 : decode cX7_lastRow 26 = .ok (.iload 5, 2) := by decide +kernel
theorem dX7_lastRow_28 : decode cX7_lastRow 28 = .ok (.aload_n 0, 1) := by decide +kernel
theorem dX7_lastRow_29 : decode cX7_lastRow 29 = .ok (.getfield 98, 3) := by decide +kernel
theorem dX7_lastRow_32 : decode cX7_lastRow 32 = .ok (.if_icmp .ge 109, 3) := by decide +kernel
theorem dX7_lastRow_35 : decode cX7_lastRow 35 = .ok (.aload_n 0, 1) := by decide +kernel
theorem dX7_lastRow_36 : decode cX7_lastRow 36 = .ok (.getfield 7, 3) := by decide +kernel
theorem dX7_lastRow_39 : decode cX7_lastRow 39 = .ok (.iload 5, 2) := by decide +kernel
theorem dX7_lastRow_41 : decode cX7_lastRow 41 = .ok (.iaload, 1) := by decide +kernel
theorem dX7_lastRow_42 : decode cX7_lastRow 42 = .ok (.aload_n 0, 1) := by decide +kernel
theorem dX7_lastRow_43 : decode cX7_lastRow 43 = .ok (.getfield 7, 3) := by decide +kernel
theorem dX7_lastRow_46 : decode cX7_lastRow 46 = .ok (.iload_n 1, 1) := by decide +kernel
theorem dX7_lastRow_47 : decode cX7_lastRow 47 = .ok (.iaload, 1) := by decide +kernel
theorem dX7_lastRow_48 : decode cX7_lastRow 48 = .ok (.if_icmp .ne 49, 3) := by decide +kernel
theorem dX7_lastRow_51 : decode cX7_lastRow 51 = .ok (.aload_n 0, 1) := by decide +kernel
theorem dX7_lastRow_52 : decode cX7_lastRow 52 = .ok (.getfield 13, 3) := by decide +kernel
theorem dX7_lastRow_55 : decode cX7_lastRow 55 = .ok (.iload 5, 2) := by decide +kernel
theorem dX7_lastRow_57 : decode cX7_lastRow 57 = .ok (.iaload, 1) := by decide +kernel
theorem dX7_lastRow_58 : decode cX7_lastRow 58 = .ok (.ifCond .ne 39, 3) := by decide +kernel
theorem dX7_lastRow_61 : decode cX7_lastRow 61 = .ok (.iload_n 2, 1) := by decide +kernel
theorem dX7_lastRow_62 : decode cX7_lastRow 62 = .ok (.aload_n 0, 1) := by decide +kernel
theorem dX7_lastRow_63 : decode cX7_lastRow 63 = .ok (.getfield 16, 3) := by decide +kernel
theorem dX7_lastRow_66 : decode cX7_lastRow 66 = .ok (.iload 5, 2) := by decide +kernel
theorem dX7_lastRow_68 : decode cX7_lastRow 68 = .ok (.iaload, 1) := by decide +kernel
theorem dX7_lastRow_69 : decode cX7_lastRow 69 = .ok (.aload_n 0, 1) := by decide +kernel
theorem dX7_lastRow_70 : decode cX7_lastRow 70 = .ok (.getfield 19, 3) := by decide +kernel
theorem dX7_lastRow_73 : decode cX7_lastRow 73 = .ok (.iload 5, 2) := by decide +kernel
theorem dX7_lastRow_75 : decode cX7_lastRow 75 = .ok (.iaload, 1) := by decide +kernel
theorem dX7_lastRow_76 : decode cX7_lastRow 76 = .ok (.invokestatic 102, 3) := by decide +kernel
theorem dX7_lastRow_79 : decode cX7_lastRow 79 = .ok (.ifCond .eq 18, 3) := by decide +kernel
theorem dX7_lastRow_82 : decode cX7_lastRow 82 = .ok (.aload_n 0, 1) := by decide +kernel
theorem dX7_lastRow_83 : decode cX7_lastRow 83 = .ok (.getfield 22, 3) := by decide +kernel
theorem dX7_lastRow_86 : decode cX7_lastRow 86 = .ok (.iload 5, 2) := by decide +kernel
theorem dX7_lastRow_88 : decode cX7_lastRow 88 = .ok (.iaload, 1) := by decide +kernel
theorem dX7_lastRow_89 : decode cX7_lastRow 89 = .ok (.iload_n 3, 1) := by decide +kernel
theorem dX7_lastRow_90 : decode cX7_lastRow 90 = .ok (.if_icmp .le 7, 3) := by decide +kernel
theorem dX7_lastRow_93 : decode cX7_lastRow 93 = .ok (.iconst 1, 1) := by decide +kernel
theorem dX7_lastRow_94 : decode cX7_lastRow 94 = .ok (.goto 4, 3) := by decide +kernel
theorem dX7_lastRow_97 : decode cX7_lastRow 97 = .ok (.iconst 0, 1) := by decide +kernel
theorem dX7_lastRow_98 : decode cX7_lastRow 98 = .ok (.istore 6, 2) := by decide +kernel
theorem dX7_lastRow_100 : decode cX7_lastRow 100 = .ok (.iload 6, 2) := by decide +kernel
theorem dX7_lastRow_102 : decode cX7_lastRow 102 = .ok (.ifCond .eq 29, 3) := by decide +kernel
theorem dX7_lastRow_105 : decode cX7_lastRow 105 = .ok (.aload_n 0, 1) := by decide +kernel
theorem dX7_lastRow_106 : decode cX7_lastRow 106 = .ok (.getfield 22, 3) := by decide +kernel
theorem dX7_lastRow_109 : decode cX7_lastRow 109 = .ok (.iload 5, 2) := by decide +kernel
theorem dX7_lastRow_111 : decode cX7_lastRow 111 = .ok (.iaload, 1) := by decide +kernel
theorem dX7_lastRow_112 : decode cX7_lastRow 112 = .ok (.iconst 1, 1) := by decide +kernel
theorem dX7_lastRow_113 : decode cX7_lastRow 113 = .ok (.isub, 1) := by decide +kernel
theorem dX7_lastRow_114 : decode cX7_lastRow 114 = .ok (.iload 4, 2) := by decide +kernel
theorem dX7_lastRow_116 : decode cX7_lastRow 116 = .ok (.if_icmp .ge 15, 3) := by decide +kernel
theorem dX7_lastRow_119 : decode cX7_lastRow 119 = .ok (.aload_n 0, 1) := by decide +kernel
theorem dX7_lastRow_120 : decode cX7_lastRow 120 = .ok (.getfield 22, 3) := by decide +kernel
theorem dX7_lastRow_123 : decode cX7_lastRow 123 = .ok (.iload 5, 2) := by decide +kernel
theorem dX7_lastRow_125 : decode cX7_lastRow 125 = .ok (.iaload, 1) := by decide +kernel
theorem dX7_lastRow_126 : decode cX7_lastRow 126 = .ok (.iconst 1, 1) := by decide +kernel
theorem dX7_lastRow_127 : decode cX7_lastRow 127 = .ok (.isub, 1) := by decide +kernel
theorem dX7_lastRow_128 : decode cX7_lastRow 128 = .ok (.goto 5, 3) := by decide +kernel
theorem dX7_lastRow_131 : decode cX7_lastRow 131 = .ok (.iload 4, 2) := by decide +kernel
theorem dX7_lastRow_133 : decode cX7_lastRow 133 = .ok (.istore 4, 2) := by decide +kernel
theorem dX7_lastRow_135 : decode cX7_lastRow 135 = .ok (.iinc 5 1, 3) := by decide +kernel
theorem dX7_lastRow_138 : decode cX7_lastRow 138 = .ok (.goto (-112), 3) := by decide +kernel
theorem dX7_lastRow_141 : decode cX7_lastRow 141 = .ok (.iconst 0, 1) := by decide +kernel
theorem dX7_lastRow_142 : decode cX7_lastRow 142 = .ok (.istore 5, 2) := by decide +kernel
theorem dX7_lastRow_144 : decode cX7_lastRow 144 = .ok (.iload 5, 2) := by decide +kernel
theorem dX7_lastRow_146 : decode cX7_lastRow 146 = .ok (.aload_n 0, 1) := by decide +kernel
theorem dX7_lastRow_147 : decode cX7_lastRow 147 = .ok (.getfield 114, 3) := by decide +kernel
theorem dX7_lastRow_150 : decode cX7_lastRow 150 = .ok (.if_icmp .ge 110, 3) := by decide +kernel
theorem dX7_lastRow_153 : decode cX7_lastRow 153 = .ok (.aload_n 0, 1) := by decide +kernel
theorem dX7_lastRow_154 : decode cX7_lastRow 154 = .ok (.getfield 37, 3) := by decide +kernel
theorem dX7_lastRow_157 : decode cX7_lastRow 157 = .ok (.iload 5, 2) := by decide +kernel
theorem dX7_lastRow_159 : decode cX7_lastRow 159 = .ok (.iaload, 1) := by decide +kernel
theorem dX7_lastRow_160 : decode cX7_lastRow 160 = .ok (.aload_n 0, 1) := by decide +kernel
theorem dX7_lastRow_161 : decode cX7_lastRow 161 = .ok (.getfield 7, 3) := by decide +kernel
theorem dX7_lastRow_164 : decode cX7_lastRow 164 = .ok (.iload_n 1, 1) := by decide +kernel
theorem dX7_lastRow_165 : decode cX7_lastRow 165 = .ok (.iaload, 1) := by decide +kernel
theorem dX7_lastRow_166 : decode cX7_lastRow 166 = .ok (.if_icmp .ne 50, 3) := by decide +kernel
theorem dX7_lastRow_169 : decode cX7_lastRow 169 = .ok (.aload_n 0, 1) := by decide +kernel
theorem dX7_lastRow_170 : decode cX7_lastRow 170 = .ok (.getfield 40, 3) := by decide +kernel
theorem dX7_lastRow_173 : decode cX7_lastRow 173 = .ok (.iload 5, 2) := by decide +kernel
theorem dX7_lastRow_175 : decode cX7_lastRow 175 = .ok (.iaload, 1) := by decide +kernel
theorem dX7_lastRow_176 : decode cX7_lastRow 176 = .ok (.iconst 1, 1) := by decide +kernel
theorem dX7_lastRow_177 : decode cX7_lastRow 177 = .ok (.if_icmp .ne 39, 3) := by decide +kernel
theorem dX7_lastRow_180 : decode cX7_lastRow 180 = .ok (.iload_n 2, 1) := by decide +kernel
theorem dX7_lastRow_181 : decode cX7_lastRow 181 = .ok (.aload_n 0, 1) := by decide +kernel
theorem dX7_lastRow_182 : decode cX7_lastRow 182 = .ok (.getfield 46, 3) := by decide +kernel
theorem dX7_lastRow_185 : decode cX7_lastRow 185 = .ok (.iload 5, 2) := by decide +kernel
theorem dX7_lastRow_187 : decode cX7_lastRow 187 = .ok (.iaload, 1) := by decide +kernel
theorem dX7_lastRow_188 : decode cX7_lastRow 188 = .ok (.aload_n 0, 1) := by decide +kernel
theorem dX7_lastRow_189 : decode cX7_lastRow 189 = .ok (.getfield 49, 3) := by decide +kernel
theorem dX7_lastRow_192 : decode cX7_lastRow 192 = .ok (.iload 5, 2) := by decide +kernel
theorem dX7_lastRow_194 : decode cX7_lastRow 194 = .ok (.iaload, 1) := by decide +kernel
theorem dX7_lastRow_195 : decode cX7_lastRow 195 = .ok (.invokestatic 102, 3) := by decide +kernel
theorem dX7_lastRow_198 : decode cX7_lastRow 198 = .ok (.ifCond .eq 18, 3) := by decide +kernel
theorem dX7_lastRow_201 : decode cX7_lastRow 201 = .ok (.aload_n 0, 1) := by decide +kernel
theorem dX7_lastRow_202 : decode cX7_lastRow 202 = .ok (.getfield 43, 3) := by decide +kernel
theorem dX7_lastRow_205 : decode cX7_lastRow 205 = .ok (.iload 5, 2) := by decide +kernel
theorem dX7_lastRow_207 : decode cX7_lastRow 207 = .ok (.iaload, 1) := by decide +kernel
theorem dX7_lastRow_208 : decode cX7_lastRow 208 = .ok (.iload_n 3, 1) := by decide +kernel
theorem dX7_lastRow_209 : decode cX7_lastRow 209 = .ok (.if_icmp .le 7, 3) := by decide +kernel
theorem dX7_lastRow_212 : decode cX7_lastRow 212 = .ok (.iconst 1, 1) := by decide +kernel
theorem dX7_lastRow_213 : decode cX7_lastRow 213 = .ok (.goto 4, 3) := by decide +kernel
theorem dX7_lastRow_216 : decode cX7_lastRow 216 = .ok (.iconst 0, 1) := by decide +kernel
theorem dX7_lastRow_217 : decode cX7_lastRow 217 = .ok (.istore 6, 2) := by decide +kernel
theorem dX7_lastRow_219 : decode cX7_lastRow 219 = .ok (.iload 6, 2) := by decide +kernel
theorem dX7_lastRow_221 : decode cX7_lastRow 221 = .ok (.ifCond .eq 29, 3) := by decide +kernel
theorem dX7_lastRow_224 : decode cX7_lastRow 224 = .ok (.aload_n 0, 1) := by decide +kernel
theorem dX7_lastRow_225 : decode cX7_lastRow 225 = .ok (.getfield 43, 3) := by decide +kernel
theorem dX7_lastRow_228 : decode cX7_lastRow 228 = .ok (.iload 5, 2) := by decide +kernel
theorem dX7_lastRow_230 : decode cX7_lastRow 230 = .ok (.iaload, 1) := by decide +kernel
theorem dX7_lastRow_231 : decode cX7_lastRow 231 = .ok (.iconst 1, 1) := by decide +kernel
theorem dX7_lastRow_232 : decode cX7_lastRow 232 = .ok (.isub, 1) := by decide +kernel
theorem dX7_lastRow_233 : decode cX7_lastRow 233 = .ok (.iload 4, 2) := by decide +kernel
theorem dX7_lastRow_235 : decode cX7_lastRow 235 = .ok (.if_icmp .ge 15, 3) := by decide +kernel
theorem dX7_lastRow_238 : decode cX7_lastRow 238 = .ok (.aload_n 0, 1) := by decide +kernel
theorem dX7_lastRow_239 : decode cX7_lastRow 239 = .ok (.getfield 43, 3) := by decide +kernel
theorem dX7_lastRow_242 : decode cX7_lastRow 242 = .ok (.iload 5, 2) := by decide +kernel
theorem dX7_lastRow_244 : decode cX7_lastRow 244 = .ok (.iaload, 1) := by decide +kernel
theorem dX7_lastRow_245 : decode cX7_lastRow 245 = .ok (.iconst 1, 1) := by decide +kernel
theorem dX7_lastRow_246 : decode cX7_lastRow 246 = .ok (.isub, 1) := by decide +kernel
theorem dX7_lastRow_247 : decode cX7_lastRow 247 = .ok (.goto 5, 3) := by decide +kernel
theorem dX7_lastRow_250 : decode cX7_lastRow 250 = .ok (.iload 4, 2) := by decide +kernel
theorem dX7_lastRow_252 : decode cX7_lastRow 252 = .ok (.istore 4, 2) := by decide +kernel
theorem dX7_lastRow_254 : decode cX7_lastRow 254 = .ok (.iinc 5 1, 3) := by decide +kernel
theorem dX7_lastRow_257 : decode cX7_lastRow 257 = .ok (.goto (-113), 3) := by decide +kernel
theorem dX7_lastRow_260 : decode cX7_lastRow 260 = .ok (.iload 4, 2) := by decide +kernel
theorem dX7_lastRow_262 : decode cX7_lastRow 262 = .ok (.iload_n 3, 1) := by decide +kernel
theorem dX7_lastRow_263 : decode cX7_lastRow 263 = .ok (.if_icmp .le 8, 3) := by decide +kernel
theorem dX7_lastRow_266 : decode cX7_lastRow 266 = .ok (.iload 4, 2) := by decide +kernel
theorem dX7_lastRow_268 : decode cX7_lastRow 268 = .ok (.goto 5, 3) := by decide +kernel
theorem dX7_lastRow_271 : decode cX7_lastRow 271 = .ok (.bipush (-9), 2) := by decide +kernel
theorem dX7_lastRow_273 : decode cX7_lastRow 273 = .ok (.ireturn, 1) := by decide +kernel
theorem dX7_headOver_0 : decode cX7_headOver 0 = .ok (.iconst 0, 1) := by decide +kernel
theorem dX7_headOver_1 : decode cX7_headOver 1 = .ok (.istore_n 2, 1) := by decide +kernel
theorem dX7_headOver_2 : decode cX7_headOver 2 = .ok (.iload_n 2, 1) := by decide +kernel
theorem dX7_headOver_3 : decode cX7_headOver 3 = .ok (.aload_n 0, 1) := by decide +kernel
theorem dX7_headOver_4 : decode cX7_headOver 4 = .ok (.getfield 98, 3) := by decide +kernel
theorem dX7_headOver_7 : decode cX7_headOver 7 = .ok (.if_icmp .ge 89, 3) := by decide +kernel
theorem dX7_headOver_10 : decode cX7_headOver 10 = .ok (.aload_n 0, 1) := by decide +kernel
theorem dX7_headOver_11 : decode cX7_headOver 11 = .ok (.getfield 13, 3) := by decide +kernel
theorem dX7_headOver_14 : decode cX7_headOver 14 = .ok (.iload_n 2, 1) := by decide +kernel
theorem dX7_headOver_15 : decode cX7_headOver 15 = .ok (.iaload, 1) := by decide +kernel
theorem dX7_headOver_16 : decode cX7_headOver 16 = .ok (.ifCond .ne 46, 3) := by decide +kernel
theorem dX7_headOver_19 : decode cX7_headOver 19 = .ok (.aload_n 0, 1) := by decide +kernel
theorem dX7_headOver_20 : decode cX7_headOver 20 = .ok (.getfield 7, 3) := by decide +kernel
theorem dX7_headOver_23 : decode cX7_headOver 23 = .ok (.iload_n 2, 1) := by decide +kernel
theorem dX7_headOver_24 : decode cX7_headOver 24 = .ok (.iaload, 1) := by decide +kernel
theorem dX7_headOver_25 : decode cX7_headOver 25 = .ok (.aload_n 0, 1) := by decide +kernel
theorem dX7_headOver_26 : decode cX7_headOver 26 = .ok (.getfield 7, 3) := by decide +kernel
theorem dX7_headOver_29 : decode cX7_headOver 29 = .ok (.iload_n 1, 1) := by decide +kernel
theorem dX7_headOver_30 : decode cX7_headOver 30 = .ok (.iaload, 1) := by decide +kernel
theorem dX7_headOver_31 : decode cX7_headOver 31 = .ok (.if_icmp .ne 31, 3) := by decide +kernel
theorem dX7_headOver_34 : decode cX7_headOver 34 = .ok (.aload_n 0, 1) := by decide +kernel
theorem dX7_headOver_35 : decode cX7_headOver 35 = .ok (.getfield 22, 3) := by decide +kernel
theorem dX7_headOver_38 : decode cX7_headOver 38 = .ok (.iload_n 1, 1) := by decide +kernel
theorem dX7_headOver_39 : decode cX7_headOver 39 = .ok (.iaload, 1) := by decide +kernel
theorem dX7_headOver_40 : decode cX7_headOver 40 = .ok (.aload_n 0, 1) := by decide +kernel
theorem dX7_headOver_41 : decode cX7_headOver 41 = .ok (.getfield 25, 3) := by decide +kernel
theorem dX7_headOver_44 : decode cX7_headOver 44 = .ok (.iload_n 2, 1) := by decide +kernel
theorem dX7_headOver_45 : decode cX7_headOver 45 = .ok (.iaload, 1) := by decide +kernel
theorem dX7_headOver_46 : decode cX7_headOver 46 = .ok (.if_icmp .le 16, 3) := by decide +kernel
theorem dX7_headOver_49 : decode cX7_headOver 49 = .ok (.aload_n 0, 1) := by decide +kernel
theorem dX7_headOver_50 : decode cX7_headOver 50 = .ok (.getfield 13, 3) := by decide +kernel
theorem dX7_headOver_53 : decode cX7_headOver 53 = .ok (.iload_n 1, 1) := by decide +kernel
theorem dX7_headOver_54 : decode cX7_headOver 54 = .ok (.iaload, 1) := by decide +kernel
theorem dX7_headOver_55 : decode cX7_headOver 55 = .ok (.ifCond .eq 7, 3) := by decide +kernel
theorem dX7_headOver_58 : decode cX7_headOver 58 = .ok (.iconst 1, 1) := by decide +kernel
theorem dX7_headOver_59 : decode cX7_headOver 59 = .ok (.goto 4, 3) := by decide +kernel
theorem dX7_headOver_62 : decode cX7_headOver 62 = .ok (.iconst 0, 1) := by decide +kernel
theorem dX7_headOver_63 : decode cX7_headOver 63 = .ok (.istore_n 3, 1) := by decide +kernel
theorem dX7_headOver_64 : decode cX7_headOver 64 = .ok (.iload_n 3, 1) := by decide +kernel
theorem dX7_headOver_65 : decode cX7_headOver 65 = .ok (.ifCond .eq 25, 3) := by decide +kernel
theorem dX7_headOver_68 : decode cX7_headOver 68 = .ok (.aload_n 0, 1) := by decide +kernel
theorem dX7_headOver_69 : decode cX7_headOver 69 = .ok (.iload_n 2, 1) := by decide +kernel
theorem dX7_headOver_70 : decode cX7_headOver 70 = .ok (.aload_n 0, 1) := by decide +kernel
theorem dX7_headOver_71 : decode cX7_headOver 71 = .ok (.getfield 16, 3) := by decide +kernel
theorem dX7_headOver_74 : decode cX7_headOver 74 = .ok (.iload_n 1, 1) := by decide +kernel
theorem dX7_headOver_75 : decode cX7_headOver 75 = .ok (.iaload, 1) := by decide +kernel
theorem dX7_headOver_76 : decode cX7_headOver 76 = .ok (.invokevirtual 125, 3) := by decide +kernel
theorem dX7_headOver_79 : decode cX7_headOver 79 = .ok (.aload_n 0, 1) := by decide +kernel
theorem dX7_headOver_80 : decode cX7_headOver 80 = .ok (.getfield 22, 3) := by decide +kernel
theorem dX7_headOver_83 : decode cX7_headOver 83 = .ok (.iload_n 1, 1) := by decide +kernel
theorem dX7_headOver_84 : decode cX7_headOver 84 = .ok (.iaload, 1) := by decide +kernel
theorem dX7_headOver_85 : decode cX7_headOver 85 = .ok (.if_icmp .lt 5, 3) := by decide +kernel
theorem dX7_headOver_88 : decode cX7_headOver 88 = .ok (.iload_n 2, 1) := by decide +kernel
theorem dX7_headOver_89 : decode cX7_headOver 89 = .ok (.ireturn, 1) := by decide +kernel
theorem dX7_headOver_90 : decode cX7_headOver 90 = .ok (.iinc 2 1, 3) := by decide +kernel
theorem dX7_headOver_93 : decode cX7_headOver 93 = .ok (.goto (-91), 3) := by decide +kernel
theorem dX7_headOver_96 : decode cX7_headOver 96 = .ok (.bipush (-9), 2) := by decide +kernel
theorem dX7_headOver_98 : decode cX7_headOver 98 = .ok (.ireturn, 1) := by decide +kernel
theorem dX7_comesBehind_0 : decode cX7_comesBehind 0 = .ok (.aload_n 0, 1) := by decide +kernel
theorem dX7_comesBehind_1 : decode cX7_comesBehind 1 = .ok (.getfield 64, 3) := by decide +kernel
theorem dX7_comesBehind_4 : decode cX7_comesBehind 4 = .ok (.bipush 24, 2) := by decide +kernel
theorem dX7_comesBehind_6 : decode cX7_comesBehind 6 = .ok (.iload_n 1, 1) := by decide +kernel
theorem dX7_comesBehind_7 : decode cX7_comesBehind 7 = .ok (.imul, 1) := by decide +kernel
