theorem dX4_headOver_1 : decode cX4_headOver 1 = .ok (.istore_n 2, 1) := by decide +kernel
theorem dX4_headOver_2 : decode cX4_headOver 2 = .ok (.iload_n 2, 1) := by decide +kernel
theorem dX4_headOver_3 : decode cX4_headOver 3 = .ok (.aload_n 0, 1) := by decide +kernel
theorem dX4_headOver_4 : decode cX4_headOver 4 = .ok (.getfield 9, 3) := by decide +kernel
theorem dX4_headOver_7 : decode cX4_headOver 7 = .ok (.getfield 57, 3) := by decide +kernel
theorem dX4_headOver_10 : decode cX4_headOver 10 = .ok (.if_icmp .ge 101, 3) := by decide +kernel
theorem dX4_headOver_13 : decode cX4_headOver 13 = .ok (.aload_n 0, 1) := by decide +kernel
theorem dX4_headOver_14 : decode cX4_headOver 14 = .ok (.getfield 9, 3) := by decide +kernel
theorem dX4_headOver_17 : decode cX4_headOver 17 = .ok (.getfield 31, 3) := by decide +kernel
theorem dX4_headOver_20 : decode cX4_headOver 20 = .ok (.iload_n 2, 1) := by decide +kernel
theorem dX4_headOver_21 : decode cX4_headOver 21 = .ok (.iaload, 1) := by decide +kernel
theorem dX4_headOver_22 : decode cX4_headOver 22 = .ok (.aload_n 0, 1) := by decide +kernel
theorem dX4_headOver_23 : decode cX4_headOver 23 = .ok (.getfield 9, 3) := by decide +kernel
theorem dX4_headOver_26 : decode cX4_headOver 26 = .ok (.getfield 31, 3) := by decide +kernel
theorem dX4_headOver_29 : decode cX4_headOver 29 = .ok (.iload_n 1, 1) := by decide +kernel
theorem dX4_headOver_30 : decode cX4_headOver 30 = .ok (.iaload, 1) := by decide +kernel
theorem dX4_headOver_31 : decode cX4_headOver 31 = .ok (.if_icmp .ne 28, 3) := by decide +kernel
theorem dX4_headOver_34 : decode cX4_headOver 34 = .ok (.aload_n 0, 1) := by decide +kernel
theorem dX4_headOver_35 : decode cX4_headOver 35 = .ok (.getfield 9, 3) := by decide +kernel
theorem dX4_headOver_38 : decode cX4_headOver 38 = .ok (.getfield 19, 3) := by decide +kernel
theorem dX4_headOver_41 : decode cX4_headOver 41 = .ok (.iload_n 2, 1) := by decide +kernel
theorem dX4_headOver_42 : decode cX4_headOver 42 = .ok (.iaload, 1) := by decide +kernel
theorem dX4_headOver_43 : decode cX4_headOver 43 = .ok (.aload_n 0, 1) := by decide +kernel
theorem dX4_headOver_44 : decode cX4_headOver 44 = .ok (.getfield 9, 3) := by decide +kernel
theorem dX4_headOver_47 : decode cX4_headOver 47 = .ok (.getfield 61, 3) := by decide +kernel
theorem dX4_headOver_50 : decode cX4_headOver 50 = .ok (.iload_n 1, 1) := by decide +kernel
theorem dX4_headOver_51 : decode cX4_headOver 51 = .ok (.iaload, 1) := by decide +kernel
theorem dX4_headOver_52 : decode cX4_headOver 52 = .ok (.if_icmp .ge 7, 3) := by decide +kernel
theorem dX4_headOver_55 : decode cX4_headOver 55 = .ok (.iconst 1, 1) := by decide +kernel
theorem dX4_headOver_56 : decode cX4_headOver 56 = .ok (.goto 4, 3) := by decide +kernel
theorem dX4_headOver_59 : decode cX4_headOver 59 = .ok (.iconst 0, 1) := by decide +kernel
theorem dX4_headOver_60 : decode cX4_headOver 60 = .ok (.istore_n 3, 1) := by decide +kernel
theorem dX4_headOver_61 : decode cX4_headOver 61 = .ok (.aload_n 0, 1) := by decide +kernel
theorem dX4_headOver_62 : decode cX4_headOver 62 = .ok (.getfield 9, 3) := by decide +kernel
theorem dX4_headOver_65 : decode cX4_headOver 65 = .ok (.getfield 64, 3) := by decide +kernel
theorem dX4_headOver_68 : decode cX4_headOver 68 = .ok (.iload_n 2, 1) := by decide +kernel
theorem dX4_headOver_69 : decode cX4_headOver 69 = .ok (.iaload, 1) := by decide +kernel
theorem dX4_headOver_70 : decode cX4_headOver 70 = .ok (.ifCond .ne 35, 3) := by decide +kernel
theorem dX4_headOver_73 : decode cX4_headOver 73 = .ok (.iload_n 3, 1) := by decide +kernel
theorem dX4_headOver_74 : decode cX4_headOver 74 = .ok (.ifCond .eq 31, 3) := by decide +kernel
theorem dX4_headOver_77 : decode cX4_headOver 77 = .ok (.aload_n 0, 1) := by decide +kernel
theorem dX4_headOver_78 : decode cX4_headOver 78 = .ok (.iload_n 2, 1) := by decide +kernel
theorem dX4_headOver_79 : decode cX4_headOver 79 = .ok (.aload_n 0, 1) := by decide +kernel
theorem dX4_headOver_80 : decode cX4_headOver 80 = .ok (.getfield 9, 3) := by decide +kernel
theorem dX4_headOver_83 : decode cX4_headOver 83 = .ok (.getfield 25, 3) := by decide +kernel
theorem dX4_headOver_86 : decode cX4_headOver 86 = .ok (.iload_n 1, 1) := by decide +kernel
theorem dX4_headOver_87 : decode cX4_headOver 87 = .ok (.iaload, 1) := by decide +kernel
theorem dX4_headOver_88 : decode cX4_headOver 88 = .ok (.invokevirtual 67, 3) := by decide +kernel
theorem dX4_headOver_91 : decode cX4_headOver 91 = .ok (.aload_n 0, 1) := by decide +kernel
theorem dX4_headOver_92 : decode cX4_headOver 92 = .ok (.getfield 9, 3) := by decide +kernel
theorem dX4_headOver_95 : decode cX4_headOver 95 = .ok (.getfield 61, 3) := by decide +kernel
theorem dX4_headOver_98 : decode cX4_headOver 98 = .ok (.iload_n 1, 1) := by decide +kernel
theorem dX4_headOver_99 : decode cX4_headOver 99 = .ok (.iaload, 1) := by decide +kernel
theorem dX4_headOver_100 : decode cX4_headOver 100 = .ok (.if_icmp .lt 5, 3) := by decide +kernel
theorem dX4_headOver_103 : decode cX4_headOver 103 = .ok (.iload_n 2, 1) := by decide +kernel
theorem dX4_headOver_104 : decode cX4_headOver 104 = .ok (.ireturn, 1) := by decide +kernel
theorem dX4_headOver_105 : decode cX4_headOver 105 = .ok (.iinc 2 1, 3) := by decide +kernel
theorem dX4_headOver_108 : decode cX4_headOver 108 = .ok (.goto (-106), 3) := by decide +kernel
theorem dX4_headOver_111 : decode cX4_headOver 111 = .ok (.bipush (-9), 2) := by decide +kernel
theorem dX4_headOver_113 : decode cX4_headOver 113 = .ok (.ireturn, 1) := by decide +kernel
theorem dX5_init_0 : decode cX5_init 0 = .ok (.aload_n 0, 1) := by decide +kernel
theorem dX5_init_1 : decode cX5_init 1 = .ok (.invokespecial 3, 3) := by decide +kernel
theorem dX5_init_4 : decode cX5_init 4 = .ok (.aload_n 0, 1) := by decide +kernel
theorem dX5_init_5 : decode cX5_init 5 = .ok (.bipush 24, 2) := by decide +kernel
theorem dX5_init_7 : decode cX5_init 7 = .ok (.newarray .int, 2) := by decide +kernel
theorem dX5_init_9 : decode cX5_init 9 = .ok (.putfield 9, 3) := by decide +kernel
theorem dX5_init_12 : decode cX5_init 12 = .ok (.aload_n 0, 1) := by decide +kernel
theorem dX5_init_13 : decode cX5_init 13 = .ok (.bipush 24, 2) := by decide +kernel
theorem dX5_init_15 : decode cX5_init 15 = .ok (.newarray .int, 2) := by decide +kernel
theorem dX5_init_17 : decode cX5_init 17 = .ok (.putfield 15, 3) := by decide +kernel
theorem dX5_init_20 : decode cX5_init 20 = .ok (.aload_n 0, 1) := by decide +kernel
theorem dX5_init_21 : decode cX5_init 21 = .ok (.bipush 24, 2) := by decide +kernel
theorem dX5_init_23 : decode cX5_init 23 = .ok (.newarray .int, 2) := by decide +kernel
theorem dX5_init_25 : decode cX5_init 25 = .ok (.putfield 18, 3) := by decide +kernel
theorem dX5_init_28 : decode cX5_init 28 = .ok (.aload_n 0, 1) := by decide +kernel
theorem dX5_init_29 : decode cX5_init 29 = .ok (.bipush 24, 2) := by decide +kernel
theorem dX5_init_31 : decode cX5_init 31 = .ok (.newarray .int, 2) := by decide +kernel
theorem dX5_init_33 : decode cX5_init 33 = .ok (.putfield 21, 3) := by decide +kernel
theorem dX5_init_36 : decode cX5_init 36 = .ok (.aload_n 0, 1) := by decide +kernel
theorem dX5_init_37 : decode cX5_init 37 = .ok (.bipush 24, 2) := by decide +kernel
theorem dX5_init_39 : decode cX5_init 39 = .ok (.newarray .int, 2) := by decide +kernel
theorem dX5_init_41 : decode cX5_init 41 = .ok (.putfield 24, 3) := by decide +kernel
theorem dX5_init_44 : decode cX5_init 44 = .ok (.aload_n 0, 1) := by decide +kernel
theorem dX5_init_45 : decode cX5_init 45 = .ok (.bipush 24, 2) := by decide +kernel
theorem dX5_init_47 : decode cX5_init 47 = .ok (.newarray .int, 2) := by decide +kernel
theorem dX5_init_49 : decode cX5_init 49 = .ok (.putfield 27, 3) := by decide +kernel
theorem dX5_init_52 : decode cX5_init 52 = .ok (.aload_n 0, 1) := by decide +kernel
theorem dX5_init_53 : decode cX5_init 53 = .ok (.aload_n 1, 1) := by decide +kernel
theorem dX5_init_54 : decode cX5_init 54 = .ok (.putfield 30, 3) := by decide +kernel
theorem dX5_init_57 : decode cX5_init 57 = .ok (.aload_n 0, 1) := by decide +kernel
theorem dX5_init_58 : decode cX5_init 58 = .ok (.aload_n 2, 1) := by decide +kernel
theorem dX5_init_59 : decode cX5_init 59 = .ok (.putfield 34, 3) := by decide +kernel
theorem dX5_init_62 : decode cX5_init 62 = .ok (.aload_n 0, 1) := by decide +kernel
theorem dX5_init_63 : decode cX5_init 63 = .ok (.aload_n 3, 1) := by decide +kernel
theorem dX5_init_64 : decode cX5_init 64 = .ok (.putfield 38, 3) := by decide +kernel
theorem dX5_init_67 : decode cX5_init 67 = .ok (.return_, 1) := by decide +kernel
theorem dX5_build_0 : decode cX5_build 0 = .ok (.aload_n 0, 1) := by decide +kernel
theorem dX5_build_1 : decode cX5_build 1 = .ok (.iconst 0, 1) := by decide +kernel
theorem dX5_build_2 : decode cX5_build 2 = .ok (.putfield 42, 3) := by decide +kernel
theorem dX5_build_5 : decode cX5_build 5 = .ok (.iconst 0, 1) := by decide +kernel
theorem dX5_build_6 : decode cX5_build 6 = .ok (.istore_n 1, 1) := by decide +kernel
theorem dX5_build_7 : decode cX5_build 7 = .ok (.iload_n 1, 1) := by decide +kernel
theorem dX5_build_8 : decode cX5_build 8 = .ok (.aload_n 0, 1) := by decide +kernel
theorem dX5_build_9 : decode cX5_build 9 = .ok (.getfield 30, 3) := by decide +kernel
theorem dX5_build_12 : decode cX5_build 12 = .ok (.getfield 46, 3) := by decide +kernel
theorem dX5_build_15 : decode cX5_build 15 = .ok (.if_icmp .ge 45, 3) := by decide +kernel
theorem dX5_build_18 : decode cX5_build 18 = .ok (.aload_n 0, 1) := by decide +kernel
theorem dX5_build_19 : decode cX5_build 19 = .ok (.getfield 9, 3) := by decide +kernel
theorem dX5_build_22 : decode cX5_build 22 = .ok (.iload_n 1, 1) := by decide +kernel
theorem dX5_build_23 : decode cX5_build 23 = .ok (.aload_n 0, 1) := by decide +kernel
theorem dX5_build_24 : decode cX5_build 24 = .ok (.getfield 30, 3) := by decide +kernel
theorem dX5_build_27 : decode cX5_build 27 = .ok (.getfield 51, 3) := by decide +kernel
theorem dX5_build_30 : decode cX5_build 30 = .ok (.iload_n 1, 1) := by decide +kernel
theorem dX5_build_31 : decode cX5_build 31 = .ok (.iaload, 1) := by decide +kernel
theorem dX5_build_32 : decode cX5_build 32 = .ok (.ifCond .ne 8, 3) := by decide +kernel
theorem dX5_build_35 : decode cX5_build 35 = .ok (.bipush (-9), 2) := by decide +kernel
theorem dX5_build_37 : decode cX5_build 37 = .ok (.goto 11, 3) := by decide +kernel
theorem dX5_build_40 : decode cX5_build 40 = .ok (.aload_n 0, 1) := by decide +kernel
theorem dX5_build_41 : decode cX5_build 41 = .ok (.getfield 38, 3) := by decide +kernel
theorem dX5_build_44 : decode cX5_build 44 = .ok (.iload_n 1, 1) := by decide +kernel
theorem dX5_build_45 : decode cX5_build 45 = .ok (.invokevirtual 54, 3) := by decide +kernel
theorem dX5_build_48 : decode cX5_build 48 = .ok (.iastore, 1) := by decide +kernel
theorem dX5_build_49 : decode cX5_build 49 = .ok (.aload_n 0, 1) := by decide +kernel
theorem dX5_build_50 : decode cX5_build 50 = .ok (.iload_n 1, 1) := by decide +kernel
theorem dX5_build_51 : decode cX5_build 51 = .ok (.invokevirtual 60, 3) := by decide +kernel
theorem dX5_build_54 : decode cX5_build 54 = .ok (.iinc 1 1, 3) := by decide +kernel
theorem dX5_build_57 : decode cX5_build 57 = .ok (.goto (-50), 3) := by decide +kernel
theorem dX5_build_60 : decode cX5_build 60 = .ok (.iconst 0, 1) := by decide +kernel
theorem dX5_build_61 : decode cX5_build 61 = .ok (.istore_n 1, 1) := by decide +kernel
theorem dX5_build_62 : decode cX5_build 62 = .ok (.iload_n 1, 1) := by decide +kernel
theorem dX5_build_63 : decode cX5_build 63 = .ok (.aload_n 0, 1) := by decide +kernel
theorem dX5_build_64 : decode cX5_build 64 = .ok (.getfield 30, 3) := by decide +kernel
theorem dX5_build_67 : decode cX5_build 67 = .ok (.getfield 46, 3) := by decide +kernel
theorem dX5_build_70 : decode cX5_build 70 = .ok (.if_icmp .ge 16, 3) := by decide +kernel
theorem dX5_build_73 : decode cX5_build 73 = .ok (.aload_n 0, 1) := by decide +kernel
theorem dX5_build_74 : decode cX5_build 74 = .ok (.invokevirtual 64, 3) := by decide +kernel
theorem dX5_build_77 : decode cX5_build 77 = .ok (.ifCond .eq 9, 3) := by decide +kernel
theorem dX5_build_80 : decode cX5_build 80 = .ok (.iinc 1 1, 3) := by decide +kernel
theorem dX5_build_83 : decode cX5_build 83 = .ok (.goto (-21), 3) := by decide +kernel
theorem dX5_build_86 : decode cX5_build 86 = .ok (.iconst 0, 1) := by decide +kernel
theorem dX5_build_87 : decode cX5_build 87 = .ok (.istore_n 2, 1) := by decide +kernel
theorem dX5_build_88 : decode cX5_build 88 = .ok (.iload_n 2, 1) := by decide +kernel
theorem dX5_build_89 : decode cX5_build 89 = .ok (.aload_n 0, 1) := by decide +kernel
theorem dX5_build_90 : decode cX5_build 90 = .ok (.getfield 30, 3) := by decide +kernel
theorem dX5_build_93 : decode cX5_build 93 = .ok (.getfield 46, 3) := by decide +kernel
theorem dX5_build_96 : decode cX5_build 96 = .ok (.if_icmp .ge 29, 3) := by decide +kernel
theorem dX5_build_99 : decode cX5_build 99 = .ok (.aload_n 0, 1) := by decide +kernel
theorem dX5_build_100 : decode cX5_build 100 = .ok (.iload_n 2, 1) := by decide +kernel
theorem dX5_build_101 : decode cX5_build 101 = .ok (.invokevirtual 68, 3) := by decide +kernel
theorem dX5_build_104 : decode cX5_build 104 = .ok (.ifCond .eq 15, 3) := by decide +kernel
theorem dX5_build_107 : decode cX5_build 107 = .ok (.aload_n 0, 1) := by decide +kernel
theorem dX5_build_108 : decode cX5_build 108 = .ok (.getfield 18, 3) := by decide +kernel
theorem dX5_build_111 : decode cX5_build 111 = .ok (.iload_n 2, 1) := by decide +kernel
theorem dX5_build_112 : decode cX5_build 112 = .ok (.iload_n 2, 1) := by decide +kernel
theorem dX5_build_113 : decode cX5_build 113 = .ok (.iastore, 1) := by decide +kernel
theorem dX5_build_114 : decode cX5_build 114 = .ok (.aload_n 0, 1) := by decide +kernel
theorem dX5_build_115 : decode cX5_build 115 = .ok (.iload_n 2, 1) := by decide +kernel
theorem dX5_build_116 : decode cX5_build 116 = .ok (.invokevirtual 72, 3) := by decide +kernel
theorem dX5_build_119 : decode cX5_build 119 = .ok (.iinc 2 1, 3) := by decide +kernel
theorem dX5_build_122 : decode cX5_build 122 = .ok (.goto (-34), 3) := by decide +kernel
theorem dX5_build_125 : decode cX5_build 125 = .ok (.aload_n 0, 1) := by decide +kernel
theorem dX5_build_126 : decode cX5_build 126 = .ok (.invokevirtual 75, 3) := by decide +kernel
theorem dX5_build_129 : decode cX5_build 129 = .ok (.return_, 1) := by decide +kernel
theorem dX5_putUnderHead_0 : decode cX5_putUnderHead 0 = .ok (.aload_n 0, 1) := by decide +kernel
theorem dX5_putUnderHead_1 : decode cX5_putUnderHead 1 = .ok (.getfield 15, 3) := by decide +kernel
theorem dX5_putUnderHead_4 : decode cX5_putUnderHead 4 = .ok (.iload_n 1, 1) := by decide +kernel
theorem dX5_putUnderHead_5 : decode cX5_putUnderHead 5 = .ok (.bipush (-9), 2) := by decide +kernel
theorem dX5_putUnderHead_7 : decode cX5_putUnderHead 7 = .ok (.iastore, 1) := by decide +kernel
theorem dX5_putUnderHead_8 : decode cX5_putUnderHead 8 = .ok (.aload_n 0, 1) := by decide +kernel
theorem dX5_putUnderHead_9 : decode cX5_putUnderHead 9 = .ok (.getfield 18, 3) := by decide +kernel
theorem dX5_putUnderHead_12 : decode cX5_putUnderHead 12 = .ok (.iload_n 1, 1) := by decide +kernel
theorem dX5_putUnderHead_13 : decode cX5_putUnderHead 13 = .ok (.aload_n 0, 1) := by decide +kernel
theorem dX5_putUnderHead_14 : decode cX5_putUnderHead 14 = .ok (.getfield 30, 3) := by decide +kernel
theorem dX5_putUnderHead_17 : decode cX5_putUnderHead 17 = .ok (.getfield 51, 3) := by decide +kernel
theorem dX5_putUnderHead_20 : decode cX5_putUnderHead 20 = .ok (.iload_n 1, 1) := by decide +kernel
theorem dX5_putUnderHead_21 : decode cX5_putUnderHead 21 = .ok (.iaload, 1) := by decide +kernel
theorem dX5_putUnderHead_22 : decode cX5_putUnderHead 22 = .ok (.ifCond .ne 7, 3) := by decide +kernel
theorem dX5_putUnderHead_25 : decode cX5_putUnderHead 25 = .ok (.iload_n 1, 1) := by decide +kernel
theorem dX5_putUnderHead_26 : decode cX5_putUnderHead 26 = .ok (.goto 9, 3) := by decide +kernel
theorem dX5_putUnderHead_29 : decode cX5_putUnderHead 29 = .ok (.aload_n 0, 1) := by decide +kernel
theorem dX5_putUnderHead_30 : decode cX5_putUnderHead 30 = .ok (.getfield 9, 3) := by decide +kernel
theorem dX5_putUnderHead_33 : decode cX5_putUnderHead 33 = .ok (.iload_n 1, 1) := by decide +kernel
theorem dX5_putUnderHead_34 : decode cX5_putUnderHead 34 = .ok (.iaload, 1) := by decide +kernel
theorem dX5_putUnderHead_35 : decode cX5_putUnderHead 35 = .ok (.iastore, 1) := by decide +kernel
theorem dX5_putUnderHead_36 : decode cX5_putUnderHead 36 = .ok (.aload_n 0, 1) := by decide +kernel
theorem dX5_putUnderHead_37 : decode cX5_putUnderHead 37 = .ok (.getfield 30, 3) := by decide +kernel
theorem dX5_putUnderHead_40 : decode cX5_putUnderHead 40 = .ok (.getfield 51, 3) := by decide +kernel
theorem dX5_putUnderHead_43 : decode cX5_putUnderHead 43 = .ok (.iload_n 1, 1) := by decide +kernel
theorem dX5_putUnderHead_44 : decode cX5_putUnderHead 44 = .ok (.iaload, 1) := by decide +kernel
theorem dX5_putUnderHead_45 : decode cX5_putUnderHead 45 = .ok (.iconst 1, 1) := by decide +kernel
theorem dX5_putUnderHead_46 : decode cX5_putUnderHead 46 = .ok (.if_icmp .ne 19, 3) := by decide +kernel
theorem dX5_putUnderHead_49 : decode cX5_putUnderHead 49 = .ok (.aload_n 0, 1) := by decide +kernel
theorem dX5_putUnderHead_50 : decode cX5_putUnderHead 50 = .ok (.getfield 9, 3) := by decide +kernel
theorem dX5_putUnderHead_53 : decode cX5_putUnderHead 53 = .ok (.iload_n 1, 1) := by decide +kernel
theorem dX5_putUnderHead_54 : decode cX5_putUnderHead 54 = .ok (.iaload, 1) := by decide +kernel
theorem dX5_putUnderHead_55 : decode cX5_putUnderHead 55 = .ok (.bipush (-9), 2) := by decide +kernel
theorem dX5_putUnderHead_57 : decode cX5_putUnderHead 57 = .ok (.if_icmp .eq 8, 3) := by decide +kernel
theorem dX5_putUnderHead_60 : decode cX5_putUnderHead 60 = .ok (.aload_n 0, 1) := by decide +kernel
theorem dX5_putUnderHead_61 : decode cX5_putUnderHead 61 = .ok (.iload_n 1, 1) := by decide +kernel
theorem dX5_putUnderHead_62 : decode cX5_putUnderHead 62 = .ok (.invokevirtual 78, 3) := by decide +kernel
theorem dX5_putUnderHead_65 : decode cX5_putUnderHead 65 = .ok (.return_, 1) := by decide +kernel
theorem dX5_insert_0 : decode cX5_insert 0 = .ok (.aload_n 0, 1) := by decide +kernel
theorem dX5_insert_1 : decode cX5_insert 1 = .ok (.getfield 42, 3) := by decide +kernel
theorem dX5_insert_4 : decode cX5_insert 4 = .ok (.istore_n 2, 1) := by decide +kernel
theorem dX5_insert_5 : decode cX5_insert 5 = .ok (.iload_n 2, 1) := by decide +kernel
theorem dX5_insert_6 : decode cX5_insert 6 = .ok (.ifCond .le 42, 3) := by decide +kernel
theorem dX5_insert_9 : decode cX5_insert 9 = .ok (.aload_n 0, 1) := by decide +kernel
theorem dX5_insert_10 : decode cX5_insert 10 = .ok (.getfield 30, 3) := by decide +kernel
theorem dX5_insert_13 : decode cX5_insert 13 = .ok (.iload_n 1, 1) := by decide +kernel
theorem dX5_insert_14 : decode cX5_insert 14 = .ok (.aload_n 0, 1) := by decide +kernel
theorem dX5_insert_15 : decode cX5_insert 15 = .ok (.getfield 27, 3) := by decide +kernel
theorem dX5_insert_18 : decode cX5_insert 18 = .ok (.iload_n 2, 1) := by decide +kernel
theorem dX5_insert_19 : decode cX5_insert 19 = .ok (.iconst 1, 1) := by decide +kernel
theorem dX5_insert_20 : decode cX5_insert 20 = .ok (.isub, 1) := by decide +kernel
theorem dX5_insert_21 : decode cX5_insert 21 = .ok (.iaload, 1) := by decide +kernel
theorem dX5_insert_22 : decode cX5_insert 22 = .ok (.invokevirtual 81, 3) := by decide +kernel
theorem dX5_insert_25 : decode cX5_insert 25 = .ok (.ifCond .eq 23, 3) := by decide +kernel
theorem dX5_insert_28 : decode cX5_insert 28 = .ok (.aload_n 0, 1) := by decide +kernel
theorem dX5_insert_29 : decode cX5_insert 29 = .ok (.getfield 27, 3) := by decide +kernel
theorem dX5_insert_32 : decode cX5_insert 32 = .ok (.iload_n 2, 1) := by decide +kernel
theorem dX5_insert_33 : decode cX5_insert 33 = .ok (.aload_n 0, 1) := by decide +kernel
theorem dX5_insert_34 : decode cX5_insert 34 = .ok (.getfield 27, 3) := by decide +kernel
theorem dX5_insert_37 : decode cX5_insert 37 = .ok (.iload_n 2, 1) := by decide +kernel
theorem dX5_insert_38 : decode cX5_insert 38 = .ok (.iconst 1, 1) := by decide +kernel
theorem dX5_insert_39 : decode cX5_insert 39 = .ok (.isub, 1) := by decide +kernel
theorem dX5_insert_40 : decode cX5_insert 40 = .ok (.iaload, 1) := by decide +kernel
theorem dX5_insert_41 : decode cX5_insert 41 = .ok (.iastore, 1) := by decide +kernel
theorem dX5_insert_42 : decode cX5_insert 42 = .ok (.iinc 2 (-1), 3) := by decide +kernel
theorem dX5_insert_45 : decode cX5_insert 45 = .ok (.goto (-40), 3) := by decide +kernel
theorem dX5_insert_48 : decode cX5_insert 48 = .ok (.aload_n 0, 1) := by decide +kernel
theorem dX5_insert_49 : decode cX5_insert 49 = .ok (.getfield 27, 3) := by decide +kernel
theorem dX5_insert_52 : decode cX5_insert 52 = .ok (.iload_n 2, 1) := by decide +kernel
theorem dX5_insert_53 : decode cX5_insert 53 = .ok (.iload_n 1, 1) := by decide +kernel
theorem dX5_insert_54 : decode cX5_insert 54 = .ok (.iastore, 1) := by decide +kernel
theorem dX5_insert_55 : decode cX5_insert 55 = .ok (.aload_n 0, 1) := by decide +kernel
theorem dX5_insert_56 : decode cX5_insert 56 = .ok (.dup, 1) := by decide +kernel
theorem dX5_insert_57 : decode cX5_insert 57 = .ok (.getfield 42, 3) := by decide +kernel
theorem dX5_insert_60 : decode cX5_insert 60 = .ok (.iconst 1, 1) := by decide +kernel
theorem dX5_insert_61 : decode cX5_insert 61 = .ok (.iadd, 1) := by decide +kernel
theorem dX5_insert_62 : decode cX5_insert 62 = .ok (.putfield 42, 3) := by decide +kernel
theorem dX5_insert_65 : decode cX5_insert 65 = .ok (.return_, 1) := by decide +kernel
theorem dX5_append_0 : decode cX5_append 0 = .ok (.aload_n 0, 1) := by decide +kernel
theorem dX5_append_1 : decode cX5_append 1 = .ok (.getfield 27, 3) := by decide +kernel
theorem dX5_append_4 : decode cX5_append 4 = .ok (.aload_n 0, 1) := by decide +kernel
theorem dX5_append_5 : decode cX5_append 5 = .ok (.getfield 42, 3) := by decide +kernel
theorem dX5_append_8 : decode cX5_append 8 = .ok (.iload_n 1, 1) := by decide +kernel
theorem dX5_append_9 : decode cX5_append 9 = .ok (.iastore, 1) := by decide +kernel
theorem dX5_append_10 : decode cX5_append 10 = .ok (.aload_n 0, 1) := by decide +kernel
theorem dX5_append_11 : decode cX5_append 11 = .ok (.dup, 1) := by decide +kernel
theorem dX5_append_12 : decode cX5_append 12 = .ok (.getfield 42, 3) := by decide +kernel
theorem dX5_append_15 : decode cX5_append 15 = .ok (.iconst 1, 1) := by decide +kernel
theorem dX5_append_16 : decode cX5_append 16 = .ok (.iadd, 1) := by decide +kernel
theorem dX5_append_17 : decode cX5_append 17 = .ok (.putfield 42, 3) := by decide +kernel
theorem dX5_append_20 : decode cX5_append 20 = .ok (.return_, 1) := by decide +kernel
theorem dX5_isWithoutStory_0 : decode cX5_isWithoutStory 0 = .ok (.aload_n 0, 1) := by decide +kernel
theorem dX5_isWithoutStory_1 : decode cX5_isWithoutStory 1 = .ok (.getfield 30, 3) := by decide +kernel
theorem dX5_isWithoutStory_4 : decode cX5_isWithoutStory 4 = .ok (.getfield 51, 3) := by decide +kernel
theorem dX5_isWithoutStory_7 : decode cX5_isWithoutStory 7 = .ok (.iload_n 1, 1) := by decide +kernel
theorem dX5_isWithoutStory_8 : decode cX5_isWithoutStory 8 = .ok (.iaload, 1) := by decide +kernel
theorem dX5_isWithoutStory_9 : decode cX5_isWithoutStory 9 = .ok (.iconst 1, 1) := by decide +kernel
theorem dX5_isWithoutStory_10 : decode cX5_isWithoutStory 10 = .ok (.if_icmp .ne 18, 3) := by decide +kernel
theorem dX5_isWithoutStory_13 : decode cX5_isWithoutStory 13 = .ok (.aload_n 0, 1) := by decide +kernel
theorem dX5_isWithoutStory_14 : decode cX5_isWithoutStory 14 = .ok (.getfield 18, 3) := by decide +kernel
theorem dX5_isWithoutStory_17 : decode cX5_isWithoutStory 17 = .ok (.iload_n 1, 1) := by decide +kernel
theorem dX5_isWithoutStory_18 : decode cX5_isWithoutStory 18 = .ok (.iaload, 1) := by decide +kernel
theorem dX5_isWithoutStory_19 : decode cX5_isWithoutStory 19 = .ok (.bipush (-9), 2) := by decide +kernel
theorem dX5_isWithoutStory_21 : decode cX5_isWithoutStory 21 = .ok (.if_icmp .ne 7, 3) := by decide +kernel
theorem dX5_isWithoutStory_24 : decode cX5_isWithoutStory 24 = .ok (.iconst 1, 1) := by decide +kernel
theorem dX5_isWithoutStory_25 : decode cX5_isWithoutStory 25 = .ok (.goto 4, 3) := by decide +kernel
theorem dX5_isWithoutStory_28 : decode cX5_isWithoutStory 28 = .ok (.iconst 0, 1) := by decide +kernel
theorem dX5_isWithoutStory_29 : decode cX5_isWithoutStory 29 = .ok (.ireturn, 1) := by decide +kernel
theorem dX5_joinNext_0 : decode cX5_joinNext 0 = .ok (.iconst 0, 1) := by decide +kernel
theorem dX5_joinNext_1 : decode cX5_joinNext 1 = .ok (.istore_n 1, 1) := by decide +kernel
theorem dX5_joinNext_2 : decode cX5_joinNext 2 = .ok (.iload_n 1, 1) := by decide +kernel
theorem dX5_joinNext_3 : decode cX5_joinNext 3 = .ok (.aload_n 0, 1) := by decide +kernel
theorem dX5_joinNext_4 : decode cX5_joinNext 4 = .ok (.getfield 30, 3) := by decide +kernel
theorem dX5_joinNext_7 : decode cX5_joinNext 7 = .ok (.getfield 46, 3) := by decide +kernel
theorem dX5_joinNext_10 : decode cX5_joinNext 10 = .ok (.if_icmp .ge 60, 3) := by decide +kernel
theorem dX5_joinNext_13 : decode cX5_joinNext 13 = .ok (.aload_n 0, 1) := by decide +kernel
theorem dX5_joinNext_14 : decode cX5_joinNext 14 = .ok (.iload_n 1, 1) := by decide +kernel
theorem dX5_joinNext_15 : decode cX5_joinNext 15 = .ok (.invokevirtual 68, 3) := by decide +kernel
theorem dX5_joinNext_18 : decode cX5_joinNext 18 = .ok (.ifCond .eq 11, 3) := by decide +kernel
theorem dX5_joinNext_21 : decode cX5_joinNext 21 = .ok (.aload_n 0, 1) := by decide +kernel
theorem dX5_joinNext_22 : decode cX5_joinNext 22 = .ok (.iload_n 1, 1) := by decide +kernel
theorem dX5_joinNext_23 : decode cX5_joinNext 23 = .ok (.invokevirtual 85, 3) := by decide +kernel
theorem dX5_joinNext_26 : decode cX5_joinNext 26 = .ok (.goto 5, 3) := by decide +kernel
theorem dX5_joinNext_29 : decode cX5_joinNext 29 = .ok (.bipush (-9), 2) := by decide +kernel
theorem dX5_joinNext_31 : decode cX5_joinNext 31 = .ok (.istore_n 2, 1) := by decide +kernel
theorem dX5_joinNext_32 : decode cX5_joinNext 32 = .ok (.iload_n 2, 1) := by decide +kernel
theorem dX5_joinNext_33 : decode cX5_joinNext 33 = .ok (.bipush (-9), 2) := by decide +kernel
theorem dX5_joinNext_35 : decode cX5_joinNext 35 = .ok (.if_icmp .eq 29, 3) := by decide +kernel
theorem dX5_joinNext_38 : decode cX5_joinNext 38 = .ok (.aload_n 0, 1) := by decide +kernel
theorem dX5_joinNext_39 : decode cX5_joinNext 39 = .ok (.getfield 15, 3) := by decide +kernel
theorem dX5_joinNext_42 : decode cX5_joinNext 42 = .ok (.iload_n 1, 1) := by decide +kernel
theorem dX5_joinNext_43 : decode cX5_joinNext 43 = .ok (.iload_n 2, 1) := by decide +kernel
theorem dX5_joinNext_44 : decode cX5_joinNext 44 = .ok (.iastore, 1) := by decide +kernel
theorem dX5_joinNext_45 : decode cX5_joinNext 45 = .ok (.aload_n 0, 1) := by decide +kernel
theorem dX5_joinNext_46 : decode cX5_joinNext 46 = .ok (.getfield 18, 3) := by decide +kernel
theorem dX5_joinNext_49 : decode cX5_joinNext 49 = .ok (.iload_n 1, 1) := by decide +kernel
theorem dX5_joinNext_50 : decode cX5_joinNext 50 = .ok (.aload_n 0, 1) := by decide +kernel
theorem dX5_joinNext_51 : decode cX5_joinNext 51 = .ok (.getfield 18, 3) := by decide +kernel
theorem dX5_joinNext_54 : decode cX5_joinNext 54 = .ok (.iload_n 2, 1) := by decide +kernel
theorem dX5_joinNext_55 : decode cX5_joinNext 55 = .ok (.iaload, 1) := by decide +kernel
theorem dX5_joinNext_56 : decode cX5_joinNext 56 = .ok (.iastore, 1) := by decide +kernel
theorem dX5_joinNext_57 : decode cX5_joinNext 57 = .ok (.aload_n 0, 1) := by decide +kernel
theorem dX5_joinNext_58 : decode cX5_joinNext 58 = .ok (.iload_n 1, 1) := by decide +kernel
theorem dX5_joinNext_59 : decode cX5_joinNext 59 = .ok (.invokevirtual 72, 3) := by decide +kernel
theorem dX5_joinNext_62 : decode cX5_joinNext 62 = .ok (.iconst 1, 1) := by decide +kernel
theorem dX5_joinNext_63 : decode cX5_joinNext 63 = .ok (.ireturn, 1) := by decide +kernel
theorem dX5_joinNext_64 : decode cX5_joinNext 64 = .ok (.iinc 1 1, 3) := by decide +kernel
theorem dX5_joinNext_67 : decode cX5_joinNext 67 = .ok (.goto (-65), 3) := by decide +kernel
theorem dX5_joinNext_70 : decode cX5_joinNext 70 = .ok (.iconst 0, 1) := by decide +kernel
theorem dX5_joinNext_71 : decode cX5_joinNext 71 = .ok (.ireturn, 1) := by decide +kernel
theorem dX5_takerFor_0 : decode cX5_takerFor 0 = .ok (.bipush (-9), 2) := by decide +kernel
theorem dX5_takerFor_2 : decode cX5_takerFor 2 = .ok (.istore_n 2, 1) := by decide +kernel
theorem dX5_takerFor_3 : decode cX5_takerFor 3 = .ok (.iconst 0, 1) := by decide +kernel
theorem dX5_takerFor_4 : decode cX5_takerFor 4 = .ok (.istore_n 3, 1) := by decide +kernel
theorem dX5_takerFor_5 : decode cX5_takerFor 5 = .ok (.iload_n 3, 1) := by decide +kernel
theorem dX5_takerFor_6 : decode cX5_takerFor 6 = .ok (.aload_n 0, 1) := by decide +kernel
theorem dX5_takerFor_7 : decode cX5_takerFor 7 = .ok (.getfield 30, 3) := by decide +kernel
theorem dX5_takerFor_10 : decode cX5_takerFor 10 = .ok (.getfield 46, 3) := by decide +kernel
theorem dX5_takerFor_13 : decode cX5_takerFor 13 = .ok (.if_icmp .ge 47, 3) := by decide +kernel
theorem dX5_takerFor_16 : decode cX5_takerFor 16 = .ok (.aload_n 0, 1) := by decide +kernel
theorem dX5_takerFor_17 : decode cX5_takerFor 17 = .ok (.iload_n 3, 1) := by decide +kernel
theorem dX5_takerFor_18 : decode cX5_takerFor 18 = .ok (.iload_n 1, 1) := by decide +kernel
theorem dX5_takerFor_19 : decode cX5_takerFor 19 = .ok (.invokevirtual 88, 3) := by decide +kernel
theorem dX5_takerFor_22 : decode cX5_takerFor 22 = .ok (.ifCond .eq 32, 3) := by decide +kernel
theorem dX5_takerFor_25 : decode cX5_takerFor 25 = .ok (.iload_n 2, 1) := by decide +kernel
theorem dX5_takerFor_26 : decode cX5_takerFor 26 = .ok (.bipush (-9), 2) := by decide +kernel
theorem dX5_takerFor_28 : decode cX5_takerFor 28 = .ok (.if_icmp .eq 24, 3) := by decide +kernel
theorem dX5_takerFor_31 : decode cX5_takerFor 31 = .ok (.aload_n 0, 1) := by decide +kernel
theorem dX5_takerFor_32 : decode cX5_takerFor 32 = .ok (.getfield 30, 3) := by decide +kernel
theorem dX5_takerFor_35 : decode cX5_takerFor 35 = .ok (.getfield 91, 3) := by decide +kernel
theorem dX5_takerFor_38 : decode cX5_takerFor 38 = .ok (.iload_n 3, 1) := by decide +kernel
theorem dX5_takerFor_39 : decode cX5_takerFor 39 = .ok (.iaload, 1) := by decide +kernel
theorem dX5_takerFor_40 : decode cX5_takerFor 40 = .ok (.aload_n 0, 1) := by decide +kernel
theorem dX5_takerFor_41 : decode cX5_takerFor 41 = .ok (.getfield 30, 3) := by decide +kernel
theorem dX5_takerFor_44 : decode cX5_takerFor 44 = .ok (.getfield 91, 3) := by decide +kernel
theorem dX5_takerFor_47 : decode cX5_takerFor 47 = .ok (.iload_n 2, 1) := by decide +kernel
theorem dX5_takerFor_48 : decode cX5_takerFor 48 = .ok (.iaload, 1) := by decide +kernel
theorem dX5_takerFor_49 : decode cX5_takerFor 49 = .ok (.if_icmp .ge 5, 3) := by decide +kernel
theorem dX5_takerFor_52 : decode cX5_takerFor 52 = .ok (.iload_n 3, 1) := by decide +kernel
theorem dX5_takerFor_53 : decode cX5_takerFor 53 = .ok (.istore_n 2, 1) := by decide +kernel
theorem dX5_takerFor_54 : decode cX5_takerFor 54 = .ok (.iinc 3 1, 3) := by decide +kernel
theorem dX5_takerFor_57 : decode cX5_takerFor 57 = .ok (.goto (-52), 3) := by decide +kernel
theorem dX5_takerFor_60 : decode cX5_takerFor 60 = .ok (.iload_n 2, 1) := by decide +kernel
theorem dX5_takerFor_61 : decode cX5_takerFor 61 = .ok (.ireturn, 1) := by decide +kernel
theorem dX5_takes_0 : decode cX5_takes 0 = .ok (.aload_n 0, 1) := by decide +kernel
theorem dX5_takes_1 : decode cX5_takes 1 = .ok (.getfield 30, 3) := by decide +kernel
theorem dX5_takes_4 : decode cX5_takes 4 = .ok (.getfield 51, 3) := by decide +kernel
theorem dX5_takes_7 : decode cX5_takes 7 = .ok (.iload_n 1, 1) := by decide +kernel
theorem dX5_takes_8 : decode cX5_takes 8 = .ok (.iaload, 1) := by decide +kernel
theorem dX5_takes_9 : decode cX5_takes 9 = .ok (.iconst 1, 1) := by decide +kernel
theorem dX5_takes_10 : decode cX5_takes 10 = .ok (.if_icmp .ne 18, 3) := by decide +kernel
theorem dX5_takes_13 : decode cX5_takes 13 = .ok (.aload_n 0, 1) := by decide +kernel
theorem dX5_takes_14 : decode cX5_takes 14 = .ok (.getfield 18, 3) := by decide +kernel
theorem dX5_takes_17 : decode cX5_takes 17 = .ok (.iload_n 1, 1) := by decide +kernel
theorem dX5_takes_18 : decode cX5_takes 18 = .ok (.iaload, 1) := by decide +kernel
theorem dX5_takes_19 : decode cX5_takes 19 = .ok (.bipush (-9), 2) := by decide +kernel
theorem dX5_takes_21 : decode cX5_takes 21 = .ok (.if_icmp .eq 7, 3) := by decide +kernel
theorem dX5_takes_24 : decode cX5_takes 24 = .ok (.iconst 1, 1) := by decide +kernel
theorem dX5_takes_25 : decode cX5_takes 25 = .ok (.goto 4, 3) := by decide +kernel
theorem dX5_takes_28 : decode cX5_takes 28 = .ok (.iconst 0, 1) := by decide +kernel
theorem dX5_takes_29 : decode cX5_takes 29 = .ok (.istore_n 3, 1) := by decide +kernel
theorem dX5_takes_30 : decode cX5_takes 30 = .ok (.aload_n 0, 1) := by decide +kernel
theorem dX5_takes_31 : decode cX5_takes 31 = .ok (.getfield 30, 3) := by decide +kernel
theorem dX5_takes_34 : decode cX5_takes 34 = .ok (.getfield 94, 3) := by decide +kernel
theorem dX5_takes_37 : decode cX5_takes 37 = .ok (.iload_n 1, 1) := by decide +kernel
theorem dX5_takes_38 : decode cX5_takes 38 = .ok (.iaload, 1) := by decide +kernel
theorem dX5_takes_39 : decode cX5_takes 39 = .ok (.aload_n 0, 1) := by decide +kernel
theorem dX5_takes_40 : decode cX5_takes 40 = .ok (.getfield 30, 3) := by decide +kernel
theorem dX5_takes_43 : decode cX5_takes 43 = .ok (.getfield 94, 3) := by decide +kernel
theorem dX5_takes_46 : decode cX5_takes 46 = .ok (.iload_n 2, 1) := by decide +kernel
theorem dX5_takes_47 : decode cX5_takes 47 = .ok (.iaload, 1) := by decide +kernel
theorem dX5_takes_48 : decode cX5_takes 48 = .ok (.if_icmp .ne 30, 3) := by decide +kernel
theorem dX5_takes_51 : decode cX5_takes 51 = .ok (.aload_n 0, 1) := by decide +kernel
theorem dX5_takes_52 : decode cX5_takes 52 = .ok (.getfield 30, 3) := by decide +kernel
theorem dX5_takes_55 : decode cX5_takes 55 = .ok (.getfield 97, 3) := by decide +kernel
theorem dX5_takes_58 : decode cX5_takes 58 = .ok (.iload_n 1, 1) := by decide +kernel
theorem dX5_takes_59 : decode cX5_takes 59 = .ok (.iaload, 1) := by decide +kernel
theorem dX5_takes_60 : decode cX5_takes 60 = .ok (.iconst 1, 1) := by decide +kernel
theorem dX5_takes_61 : decode cX5_takes 61 = .ok (.iadd, 1) := by decide +kernel
theorem dX5_takes_62 : decode cX5_takes 62 = .ok (.aload_n 0, 1) := by decide +kernel
theorem dX5_takes_63 : decode cX5_takes 63 = .ok (.getfield 30, 3) := by decide +kernel
theorem dX5_takes_66 : decode cX5_takes 66 = .ok (.getfield 100, 3) := by decide +kernel
theorem dX5_takes_69 : decode cX5_takes 69 = .ok (.iload_n 2, 1) := by decide +kernel
theorem dX5_takes_70 : decode cX5_takes 70 = .ok (.iaload, 1) := by decide +kernel
theorem dX5_takes_71 : decode cX5_takes 71 = .ok (.if_icmp .ne 7, 3) := by decide +kernel
theorem dX5_takes_74 : decode cX5_takes 74 = .ok (.iconst 1, 1) := by decide +kernel
theorem dX5_takes_75 : decode cX5_takes 75 = .ok (.goto 4, 3) := by decide +kernel
theorem dX5_takes_78 : decode cX5_takes 78 = .ok (.iconst 0, 1) := by decide +kernel
theorem dX5_takes_79 : decode cX5_takes 79 = .ok (.istore 4, 2) := by decide +kernel
theorem dX5_takes_81 : decode cX5_takes 81 = .ok (.iload_n 3, 1) := by decide +kernel
theorem dX5_takes_82 : decode cX5_takes 82 = .ok (.ifCond .eq 8, 3) := by decide +kernel
theorem dX5_takes_85 : decode cX5_takes 85 = .ok (.iload 4, 2) := by decide +kernel
theorem dX5_takes_87 : decode cX5_takes 87 = .ok (.ifCond .ne 5, 3) := by decide +kernel
theorem dX5_takes_90 : decode cX5_takes 90 = .ok (.iconst 0, 1) := by decide +kernel
theorem dX5_takes_91 : decode cX5_takes 91 = .ok (.ireturn, 1) := by decide +kernel
theorem dX5_takes_92 : decode cX5_takes 92 = .ok (.aload_n 0, 1) := by decide +kernel
theorem dX5_takes_93 : decode cX5_takes 93 = .ok (.getfield 30, 3) := by decide +kernel
theorem dX5_takes_96 : decode cX5_takes 96 = .ok (.getfield 91, 3) := by decide +kernel
theorem dX5_takes_99 : decode cX5_takes 99 = .ok (.iload_n 1, 1) := by decide +kernel
theorem dX5_takes_100 : decode cX5_takes 100 = .ok (.iaload, 1) := by decide +kernel
theorem dX5_takes_101 : decode cX5_takes 101 = .ok (.aload_n 0, 1) := by decide +kernel
theorem dX5_takes_102 : decode cX5_takes 102 = .ok (.getfield 30, 3) := by decide +kernel
theorem dX5_takes_105 : decode cX5_takes 105 = .ok (.getfield 91, 3) := by decide +kernel
theorem dX5_takes_108 : decode cX5_takes 108 = .ok (.iload_n 2, 1) := by decide +kernel
theorem dX5_takes_109 : decode cX5_takes 109 = .ok (.iaload, 1) := by decide +kernel
theorem dX5_takes_110 : decode cX5_takes 110 = .ok (.invokestatic 103, 3) := by decide +kernel
theorem dX5_takes_113 : decode cX5_takes 113 = .ok (.istore 5, 2) := by decide +kernel
theorem dX5_takes_115 : decode cX5_takes 115 = .ok (.aload_n 0, 1) := by decide +kernel
theorem dX5_takes_116 : decode cX5_takes 116 = .ok (.getfield 30, 3) := by decide +kernel
theorem dX5_takes_119 : decode cX5_takes 119 = .ok (.getfield 109, 3) := by decide +kernel
theorem dX5_takes_122 : decode cX5_takes 122 = .ok (.iload_n 1, 1) := by decide +kernel
theorem dX5_takes_123 : decode cX5_takes 123 = .ok (.iaload, 1) := by decide +kernel
theorem dX5_takes_124 : decode cX5_takes 124 = .ok (.aload_n 0, 1) := by decide +kernel
theorem dX5_takes_125 : decode cX5_takes 125 = .ok (.getfield 30, 3) := by decide +kernel
theorem dX5_takes_128 : decode cX5_takes 128 = .ok (.getfield 109, 3) := by decide +kernel
theorem dX5_takes_131 : decode cX5_takes 131 = .ok (.iload_n 2, 1) := by decide +kernel
theorem dX5_takes_132 : decode cX5_takes 132 = .ok (.iaload, 1) := by decide +kernel
theorem dX5_takes_133 : decode cX5_takes 133 = .ok (.invokestatic 112, 3) := by decide +kernel
theorem dX5_takes_136 : decode cX5_takes 136 = .ok (.istore 6, 2) := by decide +kernel
theorem dX5_takes_138 : decode cX5_takes 138 = .ok (.iload 5, 2) := by decide +kernel
theorem dX5_takes_140 : decode cX5_takes 140 = .ok (.iload 6, 2) := by decide +kernel
theorem dX5_takes_142 : decode cX5_takes 142 = .ok (.if_icmp .gt 39, 3) := by decide +kernel
theorem dX5_takes_145 : decode cX5_takes 145 = .ok (.aload_n 0, 1) := by decide +kernel
theorem dX5_takes_146 : decode cX5_takes 146 = .ok (.getfield 34, 3) := by decide +kernel
theorem dX5_takes_149 : decode cX5_takes 149 = .ok (.aload_n 0, 1) := by decide +kernel
theorem dX5_takes_150 : decode cX5_takes 150 = .ok (.getfield 30, 3) := by decide +kernel
theorem dX5_takes_153 : decode cX5_takes 153 = .ok (.getfield 94, 3) := by decide +kernel
theorem dX5_takes_156 : decode cX5_takes 156 = .ok (.iload_n 2, 1) := by decide +kernel
theorem dX5_takes_157 : decode cX5_takes 157 = .ok (.iaload, 1) := by decide +kernel
theorem dX5_takes_158 : decode cX5_takes 158 = .ok (.aload_n 0, 1) := by decide +kernel
theorem dX5_takes_159 : decode cX5_takes 159 = .ok (.getfield 30, 3) := by decide +kernel
theorem dX5_takes_162 : decode cX5_takes 162 = .ok (.getfield 100, 3) := by decide +kernel
theorem dX5_takes_165 : decode cX5_takes 165 = .ok (.iload_n 2, 1) := by decide +kernel
theorem dX5_takes_166 : decode cX5_takes 166 = .ok (.iaload, 1) := by decide +kernel
theorem dX5_takes_167 : decode cX5_takes 167 = .ok (.iload 5, 2) := by decide +kernel
theorem dX5_takes_169 : decode cX5_takes 169 = .ok (.iload 6, 2) := by decide +kernel
theorem dX5_takes_171 : decode cX5_takes 171 = .ok (.invokevirtual 115, 3) := by decide +kernel
theorem dX5_takes_174 : decode cX5_takes 174 = .ok (.ifCond .ne 7, 3) := by decide +kernel
theorem dX5_takes_177 : decode cX5_takes 177 = .ok (.iconst 1, 1) := by decide +kernel
theorem dX5_takes_178 : decode cX5_takes 178 = .ok (.goto 4, 3) := by decide +kernel
theorem dX5_takes_181 : decode cX5_takes 181 = .ok (.iconst 0, 1) := by decide +kernel
theorem dX5_takes_182 : decode cX5_takes 182 = .ok (.ireturn, 1) := by decide +kernel
theorem dX5_giveNumbers_0 : decode cX5_giveNumbers 0 = .ok (.aload_n 0, 1) := by decide +kernel
theorem dX5_giveNumbers_1 : decode cX5_giveNumbers 1 = .ok (.iconst 0, 1) := by decide +kernel
theorem dX5_giveNumbers_2 : decode cX5_giveNumbers 2 = .ok (.putfield 121, 3) := by decide +kernel
theorem dX5_giveNumbers_5 : decode cX5_giveNumbers 5 = .ok (.iconst 0, 1) := by decide +kernel
theorem dX5_giveNumbers_6 : decode cX5_giveNumbers 6 = .ok (.istore_n 1, 1) := by decide +kernel
theorem dX5_giveNumbers_7 : decode cX5_giveNumbers 7 = .ok (.iload_n 1, 1) := by decide +kernel
theorem dX5_giveNumbers_8 : decode cX5_giveNumbers 8 = .ok (.aload_n 0, 1) := by decide +kernel
theorem dX5_giveNumbers_9 : decode cX5_giveNumbers 9 = .ok (.getfield 30, 3) := by decide +kernel
theorem dX5_giveNumbers_12 : decode cX5_giveNumbers 12 = .ok (.getfield 46, 3) := by decide +kernel
theorem dX5_giveNumbers_15 : decode cX5_giveNumbers 15 = .ok (.if_icmp .ge 49, 3) := by decide +kernel
theorem dX5_giveNumbers_18 : decode cX5_giveNumbers 18 = .ok (.aload_n 0, 1) := by decide +kernel
theorem dX5_giveNumbers_19 : decode cX5_giveNumbers 19 = .ok (.getfield 18, 3) := by decide +kernel
theorem dX5_giveNumbers_22 : decode cX5_giveNumbers 22 = .ok (.iload_n 1, 1) := by decide +kernel
theorem dX5_giveNumbers_23 : decode cX5_giveNumbers 23 = .ok (.iaload, 1) := by decide +kernel
theorem dX5_giveNumbers_24 : decode cX5_giveNumbers 24 = .ok (.iload_n 1, 1) := by decide +kernel
theorem dX5_giveNumbers_25 : decode cX5_giveNumbers 25 = .ok (.if_icmp .ne 33, 3) := by decide +kernel
theorem dX5_giveNumbers_28 : decode cX5_giveNumbers 28 = .ok (.aload_n 0, 1) := by decide +kernel
theorem dX5_giveNumbers_29 : decode cX5_giveNumbers 29 = .ok (.getfield 24, 3) := by decide +kernel
theorem dX5_giveNumbers_32 : decode cX5_giveNumbers 32 = .ok (.aload_n 0, 1) := by decide +kernel
theorem dX5_giveNumbers_33 : decode cX5_giveNumbers 33 = .ok (.getfield 121, 3) := by decide +kernel
theorem dX5_giveNumbers_36 : decode cX5_giveNumbers 36 = .ok (.iload_n 1, 1) := by decide +kernel
theorem dX5_giveNumbers_37 : decode cX5_giveNumbers 37 = .ok (.iastore, 1) := by decide +kernel
theorem dX5_giveNumbers_38 : decode cX5_giveNumbers 38 = .ok (.aload_n 0, 1) := by decide +kernel
theorem dX5_giveNumbers_39 : decode cX5_giveNumbers 39 = .ok (.getfield 21, 3) := by decide +kernel
theorem dX5_giveNumbers_42 : decode cX5_giveNumbers 42 = .ok (.iload_n 1, 1) := by decide +kernel
theorem dX5_giveNumbers_43 : decode cX5_giveNumbers 43 = .ok (.aload_n 0, 1) := by decide +kernel
theorem dX5_giveNumbers_44 : decode cX5_giveNumbers 44 = .ok (.getfield 121, 3) := by decide +kernel
theorem dX5_giveNumbers_47 : decode cX5_giveNumbers 47 = .ok (.iastore, 1) := by decide +kernel
theorem dX5_giveNumbers_48 : decode cX5_giveNumbers 48 = .ok (.aload_n 0, 1) := by decide +kernel
theorem dX5_giveNumbers_49 : decode cX5_giveNumbers 49 = .ok (.dup, 1) := by decide +kernel
theorem dX5_giveNumbers_50 : decode cX5_giveNumbers 50 = .ok (.getfield 121, 3) := by decide +kernel
theorem dX5_giveNumbers_53 : decode cX5_giveNumbers 53 = .ok (.iconst 1, 1) := by decide +kernel
theorem dX5_giveNumbers_54 : decode cX5_giveNumbers 54 = .ok (.iadd, 1) := by decide +kernel
theorem dX5_giveNumbers_55 : decode cX5_giveNumbers 55 = .ok (.putfield 121, 3) := by decide +kernel
theorem dX5_giveNumbers_58 : decode cX5_giveNumbers 58 = .ok (.iinc 1 1, 3) := by decide +kernel
theorem dX5_giveNumbers_61 : decode cX5_giveNumbers 61 = .ok (.goto (-54), 3) := by decide +kernel
theorem dX5_giveNumbers_64 : decode cX5_giveNumbers 64 = .ok (.iconst 0, 1) := by decide +kernel
theorem dX5_giveNumbers_65 : decode cX5_giveNumbers 65 = .ok (.istore_n 1, 1) := by decide +kernel
theorem dX5_giveNumbers_66 : decode cX5_giveNumbers 66 = .ok (.iload_n 1, 1) := by decide +kernel
theorem dX5_giveNumbers_67 : decode cX5_giveNumbers 67 = .ok (.aload_n 0, 1) := by decide +kernel
theorem dX5_giveNumbers_68 : decode cX5_giveNumbers 68 = .ok (.getfield 30, 3) := by decide +kernel
theorem dX5_giveNumbers_71 : decode cX5_giveNumbers 71 = .ok (.getfield 46, 3) := by decide +kernel
theorem dX5_giveNumbers_74 : decode cX5_giveNumbers 74 = .ok (.if_icmp .ge 42, 3) := by decide +kernel
theorem dX5_giveNumbers_77 : decode cX5_giveNumbers 77 = .ok (.aload_n 0, 1) := by decide +kernel
theorem dX5_giveNumbers_78 : decode cX5_giveNumbers 78 = .ok (.getfield 21, 3) := by decide +kernel
theorem dX5_giveNumbers_81 : decode cX5_giveNumbers 81 = .ok (.iload_n 1, 1) := by decide +kernel
theorem dX5_giveNumbers_82 : decode cX5_giveNumbers 82 = .ok (.aload_n 0, 1) := by decide +kernel
theorem dX5_giveNumbers_83 : decode cX5_giveNumbers 83 = .ok (.getfield 18, 3) := by decide +kernel
theorem dX5_giveNumbers_86 : decode cX5_giveNumbers 86 = .ok (.iload_n 1, 1) := by decide +kernel
theorem dX5_giveNumbers_87 : decode cX5_giveNumbers 87 = .ok (.iaload, 1) := by decide +kernel
theorem dX5_giveNumbers_88 : decode cX5_giveNumbers 88 = .ok (.bipush (-9), 2) := by decide +kernel
theorem dX5_giveNumbers_90 : decode cX5_giveNumbers 90 = .ok (.if_icmp .ne 8, 3) := by decide +kernel
theorem dX5_giveNumbers_93 : decode cX5_giveNumbers 93 = .ok (.bipush (-9), 2) := by decide +kernel
theorem dX5_giveNumbers_95 : decode cX5_giveNumbers 95 = .ok (.goto 14, 3) := by decide +kernel
theorem dX5_giveNumbers_98 : decode cX5_giveNumbers 98 = .ok (.aload_n 0, 1) := by decide +kernel
theorem dX5_giveNumbers_99 : decode cX5_giveNumbers 99 = .ok (.getfield 21, 3) := by decide +kernel
theorem dX5_giveNumbers_102 : decode cX5_giveNumbers 102 = .ok (.aload_n 0, 1) := by decide +kernel
theorem dX5_giveNumbers_103 : decode cX5_giveNumbers 103 = .ok (.getfield 18, 3) := by decide +kernel
theorem dX5_giveNumbers_106 : decode cX5_giveNumbers 106 = .ok (.iload_n 1, 1) := by decide +kernel
theorem dX5_giveNumbers_107 : decode cX5_giveNumbers 107 = .ok (.iaload, 1) := by decide +kernel
theorem dX5_giveNumbers_108 : decode cX5_giveNumbers 108 = .ok (.iaload, 1) := by decide +kernel
theorem dX5_giveNumbers_109 : decode cX5_giveNumbers 109 = .ok (.iastore, 1) := by decide +kernel
theorem dX5_giveNumbers_110 : decode cX5_giveNumbers 110 = .ok (.iinc 1 1, 3) := by decide +kernel
theorem dX5_giveNumbers_113 : decode cX5_giveNumbers 113 = .ok (.goto (-47), 3) := by decide +kernel
theorem dX5_giveNumbers_116 : decode cX5_giveNumbers 116 = .ok (.return_, 1) := by decide +kernel
theorem dX5_has_0 : decode cX5_has 0 = .ok (.iload_n 1, 1) := by decide +kernel
theorem dX5_has_1 : decode cX5_has 1 = .ok (.ifCond .lt 15, 3) := by decide +kernel
theorem dX5_has_4 : decode cX5_has 4 = .ok (.iload_n 1, 1) := by decide +kernel
theorem dX5_has_5 : decode cX5_has 5 = .ok (.aload_n 0, 1) := by decide +kernel
theorem dX5_has_6 : decode cX5_has 6 = .ok (.getfield 121, 3) := by decide +kernel
theorem dX5_has_9 : decode cX5_has 9 = .ok (.if_icmp .ge 7, 3) := by decide +kernel
theorem dX5_has_12 : decode cX5_has 12 = .ok (.iconst 1, 1) := by decide +kernel
theorem dX5_has_13 : decode cX5_has 13 = .ok (.goto 4, 3) := by decide +kernel
theorem dX5_has_16 : decode cX5_has 16 = .ok (.iconst 0, 1) := by decide +kernel
theorem dX5_has_17 : decode cX5_has 17 = .ok (.ireturn, 1) := by decide +kernel
theorem dX5_headOf_0 : decode cX5_headOf 0 = .ok (.aload_n 0, 1) := by decide +kernel
theorem dX5_headOf_1 : decode cX5_headOf 1 = .ok (.getfield 30, 3) := by decide +kernel
theorem dX5_headOf_4 : decode cX5_headOf 4 = .ok (.getfield 51, 3) := by decide +kernel
theorem dX5_headOf_7 : decode cX5_headOf 7 = .ok (.aload_n 0, 1) := by decide +kernel
theorem dX5_headOf_8 : decode cX5_headOf 8 = .ok (.getfield 24, 3) := by decide +kernel
theorem dX5_headOf_11 : decode cX5_headOf 11 = .ok (.iload_n 1, 1) := by decide +kernel
theorem dX5_headOf_12 : decode cX5_headOf 12 = .ok (.iaload, 1) := by decide +kernel
theorem dX5_headOf_13 : decode cX5_headOf 13 = .ok (.iaload, 1) := by decide +kernel
theorem dX5_headOf_14 : decode cX5_headOf 14 = .ok (.ifCond .ne 12, 3) := by decide +kernel
theorem dX5_headOf_17 : decode cX5_headOf 17 = .ok (.aload_n 0, 1) := by decide +kernel
theorem dX5_headOf_18 : decode cX5_headOf 18 = .ok (.getfield 24, 3) := by decide +kernel
theorem dX5_headOf_21 : decode cX5_headOf 21 = .ok (.iload_n 1, 1) := by decide +kernel
theorem dX5_headOf_22 : decode cX5_headOf 22 = .ok (.iaload, 1) := by decide +kernel
theorem dX5_headOf_23 : decode cX5_headOf 23 = .ok (.goto 5, 3) := by decide +kernel
theorem dX5_headOf_26 : decode cX5_headOf 26 = .ok (.bipush (-9), 2) := by decide +kernel
theorem dX5_headOf_28 : decode cX5_headOf 28 = .ok (.ireturn, 1) := by decide +kernel
theorem dX5_textsOf_0 : decode cX5_textsOf 0 = .ok (.iconst 0, 1) := by decide +kernel
theorem dX5_textsOf_1 : decode cX5_textsOf 1 = .ok (.istore_n 2, 1) := by decide +kernel
theorem dX5_textsOf_2 : decode cX5_textsOf 2 = .ok (.iconst 0, 1) := by decide +kernel
theorem dX5_textsOf_3 : decode cX5_textsOf 3 = .ok (.istore_n 3, 1) := by decide +kernel
theorem dX5_textsOf_4 : decode cX5_textsOf 4 = .ok (.iload_n 3, 1) := by decide +kernel
theorem dX5_textsOf_5 : decode cX5_textsOf 5 = .ok (.aload_n 0, 1) := by decide +kernel
theorem dX5_textsOf_6 : decode cX5_textsOf 6 = .ok (.getfield 42, 3) := by decide +kernel
theorem dX5_textsOf_9 : decode cX5_textsOf 9 = .ok (.if_icmp .ge 27, 3) := by decide +kernel
theorem dX5_textsOf_12 : decode cX5_textsOf 12 = .ok (.aload_n 0, 1) := by decide +kernel
theorem dX5_textsOf_13 : decode cX5_textsOf 13 = .ok (.getfield 21, 3) := by decide +kernel
theorem dX5_textsOf_16 : decode cX5_textsOf 16 = .ok (.aload_n 0, 1) := by decide +kernel
theorem dX5_textsOf_17 : decode cX5_textsOf 17 = .ok (.getfield 27, 3) := by decide +kernel
theorem dX5_textsOf_20 : decode cX5_textsOf 20 = .ok (.iload_n 3, 1) := by decide +kernel
theorem dX5_textsOf_21 : decode cX5_textsOf 21 = .ok (.iaload, 1) := by decide +kernel
theorem dX5_textsOf_22 : decode cX5_textsOf 22 = .ok (.iaload, 1) := by decide +kernel
theorem dX5_textsOf_23 : decode cX5_textsOf 23 = .ok (.iload_n 1, 1) := by decide +kernel
theorem dX5_textsOf_24 : decode cX5_textsOf 24 = .ok (.if_icmp .ne 6, 3) := by decide +kernel
theorem dX5_textsOf_27 : decode cX5_textsOf 27 = .ok (.iinc 2 1, 3) := by decide +kernel
theorem dX5_textsOf_30 : decode cX5_textsOf 30 = .ok (.iinc 3 1, 3) := by decide +kernel
theorem dX5_textsOf_33 : decode cX5_textsOf 33 = .ok (.goto (-29), 3) := by decide +kernel
theorem dX5_textsOf_36 : decode cX5_textsOf 36 = .ok (.iload_n 2, 1) := by decide +kernel
theorem dX5_textsOf_37 : decode cX5_textsOf 37 = .ok (.ireturn, 1) := by decide +kernel
theorem dX5_wordsOf_0 : decode cX5_wordsOf 0 = .ok (.iconst 0, 1) := by decide +kernel
theorem dX5_wordsOf_1 : decode cX5_wordsOf 1 = .ok (.istore_n 2, 1) := by decide +kernel
theorem dX5_wordsOf_2 : decode cX5_wordsOf 2 = .ok (.iconst 0, 1) := by decide +kernel
theorem dX5_wordsOf_3 : decode cX5_wordsOf 3 = .ok (.istore_n 3, 1) := by decide +kernel
theorem dX5_wordsOf_4 : decode cX5_wordsOf 4 = .ok (.iload_n 3, 1) := by decide +kernel
theorem dX5_wordsOf_5 : decode cX5_wordsOf 5 = .ok (.aload_n 0, 1) := by decide +kernel
theorem dX5_wordsOf_6 : decode cX5_wordsOf 6 = .ok (.getfield 42, 3) := by decide +kernel
theorem dX5_wordsOf_9 : decode cX5_wordsOf 9 = .ok (.if_icmp .ge 41, 3) := by decide +kernel
theorem dX5_wordsOf_12 : decode cX5_wordsOf 12 = .ok (.aload_n 0, 1) := by decide +kernel
theorem dX5_wordsOf_13 : decode cX5_wordsOf 13 = .ok (.getfield 21, 3) := by decide +kernel
theorem dX5_wordsOf_16 : decode cX5_wordsOf 16 = .ok (.aload_n 0, 1) := by decide +kernel
theorem dX5_wordsOf_17 : decode cX5_wordsOf 17 = .ok (.getfield 27, 3) := by decide +kernel
theorem dX5_wordsOf_20 : decode cX5_wordsOf 20 = .ok (.iload_n 3, 1) := by decide +kernel
theorem dX5_wordsOf_21 : decode cX5_wordsOf 21 = .ok (.iaload, 1) := by decide +kernel
theorem dX5_wordsOf_22 : decode cX5_wordsOf 22 = .ok (.iaload, 1) := by decide +kernel
theorem dX5_wordsOf_23 : decode cX5_wordsOf 23 = .ok (.iload_n 1, 1) := by decide +kernel
theorem dX5_wordsOf_24 : decode cX5_wordsOf 24 = .ok (.if_icmp .ne 20, 3) := by decide +kernel
theorem dX5_wordsOf_27 : decode cX5_wordsOf 27 = .ok (.iload_n 2, 1) := by decide +kernel
theorem dX5_wordsOf_28 : decode cX5_wordsOf 28 = .ok (.aload_n 0, 1) := by decide +kernel
theorem dX5_wordsOf_29 : decode cX5_wordsOf 29 = .ok (.getfield 30, 3) := by decide +kernel
theorem dX5_wordsOf_32 : decode cX5_wordsOf 32 = .ok (.getfield 122, 3) := by decide +kernel
theorem dX5_wordsOf_35 : decode cX5_wordsOf 35 = .ok (.aload_n 0, 1) := by decide +kernel
theorem dX5_wordsOf_36 : decode cX5_wordsOf 36 = .ok (.getfield 27, 3) := by decide +kernel
theorem dX5_wordsOf_39 : decode cX5_wordsOf 39 = .ok (.iload_n 3, 1) := by decide +kernel
theorem dX5_wordsOf_40 : decode cX5_wordsOf 40 = .ok (.iaload, 1) := by decide +kernel
theorem dX5_wordsOf_41 : decode cX5_wordsOf 41 = .ok (.iaload, 1) := by decide +kernel
theorem dX5_wordsOf_42 : decode cX5_wordsOf 42 = .ok (.iadd, 1) := by decide +kernel
theorem dX5_wordsOf_43 : decode cX5_wordsOf 43 = .ok (.istore_n 2, 1) := by decide +kernel
theorem dX5_wordsOf_44 : decode cX5_wordsOf 44 = .ok (.iinc 3 1, 3) := by decide +kernel
theorem dX5_wordsOf_47 : decode cX5_wordsOf 47 = .ok (.goto (-43), 3) := by decide +kernel
theorem dX5_wordsOf_50 : decode cX5_wordsOf 50 = .ok (.iload_n 2, 1) := by decide +kernel
theorem dX5_wordsOf_51 : decode cX5_wordsOf 51 = .ok (.ireturn, 1) := by decide +kernel
theorem dX5_picturesOf_0 : decode cX5_picturesOf 0 = .ok (.iconst 0, 1) := by decide +kernel
theorem dX5_picturesOf_1 : decode cX5_picturesOf 1 = .ok (.istore_n 2, 1) := by decide +kernel
theorem dX5_picturesOf_2 : decode cX5_picturesOf 2 = .ok (.iconst 0, 1) := by decide +kernel
theorem dX5_picturesOf_3 : decode cX5_picturesOf 3 = .ok (.istore_n 3, 1) := by decide +kernel
theorem dX5_picturesOf_4 : decode cX5_picturesOf 4 = .ok (.iload_n 3, 1) := by decide +kernel
theorem dX5_picturesOf_5 : decode cX5_picturesOf 5 = .ok (.aload_n 0, 1) := by decide +kernel
theorem dX5_picturesOf_6 : decode cX5_picturesOf 6 = .ok (.getfield 30, 3) := by decide +kernel
theorem dX5_picturesOf_9 : decode cX5_picturesOf 9 = .ok (.getfield 46, 3) := by decide +kernel
theorem dX5_picturesOf_12 : decode cX5_picturesOf 12 = .ok (.if_icmp .ge 35, 3) := by decide +kernel
theorem dX5_picturesOf_15 : decode cX5_picturesOf 15 = .ok (.aload_n 0, 1) := by decide +kernel
theorem dX5_picturesOf_16 : decode cX5_picturesOf 16 = .ok (.getfield 30, 3) := by decide +kernel
theorem dX5_picturesOf_19 : decode cX5_picturesOf 19 = .ok (.getfield 51, 3) := by decide +kernel
theorem dX5_picturesOf_22 : decode cX5_picturesOf 22 = .ok (.iload_n 3, 1) := by decide +kernel
theorem dX5_picturesOf_23 : decode cX5_picturesOf 23 = .ok (.iaload, 1) := by decide +kernel
theorem dX5_picturesOf_24 : decode cX5_picturesOf 24 = .ok (.iconst 2, 1) := by decide +kernel
theorem dX5_picturesOf_25 : decode cX5_picturesOf 25 = .ok (.if_icmp .ne 16, 3) := by decide +kernel
theorem dX5_picturesOf_28 : decode cX5_picturesOf 28 = .ok (.aload_n 0, 1) := by decide +kernel
theorem dX5_picturesOf_29 : decode cX5_picturesOf 29 = .ok (.getfield 21, 3) := by decide +kernel
theorem dX5_picturesOf_32 : decode cX5_picturesOf 32 = .ok (.iload_n 3, 1) := by decide +kernel
theorem dX5_picturesOf_33 : decode cX5_picturesOf 33 = .ok (.iaload, 1) := by decide +kernel
theorem dX5_picturesOf_34 : decode cX5_picturesOf 34 = .ok (.iload_n 1, 1) := by decide +kernel
theorem dX5_picturesOf_35 : decode cX5_picturesOf 35 = .ok (.if_icmp .ne 6, 3) := by decide +kernel
theorem dX5_picturesOf_38 : decode cX5_picturesOf 38 = .ok (.iinc 2 1, 3) := by decide +kernel
theorem dX5_picturesOf_41 : decode cX5_picturesOf 41 = .ok (.iinc 3 1, 3) := by decide +kernel
theorem dX5_picturesOf_44 : decode cX5_picturesOf 44 = .ok (.goto (-40), 3) := by decide +kernel
theorem dX5_picturesOf_47 : decode cX5_picturesOf 47 = .ok (.iload_n 2, 1) := by decide +kernel
theorem dX5_picturesOf_48 : decode cX5_picturesOf 48 = .ok (.ireturn, 1) := by decide +kernel
theorem dX5_joinedOf_0 : decode cX5_joinedOf 0 = .ok (.iconst 0, 1) := by decide +kernel
theorem dX5_joinedOf_1 : decode cX5_joinedOf 1 = .ok (.istore_n 2, 1) := by decide +kernel
theorem dX5_joinedOf_2 : decode cX5_joinedOf 2 = .ok (.iconst 0, 1) := by decide +kernel
theorem dX5_joinedOf_3 : decode cX5_joinedOf 3 = .ok (.istore_n 3, 1) := by decide +kernel
theorem dX5_joinedOf_4 : decode cX5_joinedOf 4 = .ok (.iload_n 3, 1) := by decide +kernel
theorem dX5_joinedOf_5 : decode cX5_joinedOf 5 = .ok (.aload_n 0, 1) := by decide +kernel
theorem dX5_joinedOf_6 : decode cX5_joinedOf 6 = .ok (.getfield 30, 3) := by decide +kernel
theorem dX5_joinedOf_9 : decode cX5_joinedOf 9 = .ok (.getfield 46, 3) := by decide +kernel
theorem dX5_joinedOf_12 : decode cX5_joinedOf 12 = .ok (.if_icmp .ge 33, 3) := by decide +kernel
theorem dX5_joinedOf_15 : decode cX5_joinedOf 15 = .ok (.aload_n 0, 1) := by decide +kernel
theorem dX5_joinedOf_16 : decode cX5_joinedOf 16 = .ok (.getfield 15, 3) := by decide +kernel
theorem dX5_joinedOf_19 : decode cX5_joinedOf 19 = .ok (.iload_n 3, 1) := by decide +kernel
theorem dX5_joinedOf_20 : decode cX5_joinedOf 20 = .ok (.iaload, 1) := by decide +kernel
theorem dX5_joinedOf_21 : decode cX5_joinedOf 21 = .ok (.bipush (-9), 2) := by decide +kernel
theorem dX5_joinedOf_23 : decode cX5_joinedOf 23 = .ok (.if_icmp .eq 16, 3) := by decide +kernel
theorem dX5_joinedOf_26 : decode cX5_joinedOf 26 = .ok (.aload_n 0, 1) := by decide +kernel
theorem dX5_joinedOf_27 : decode cX5_joinedOf 27 = .ok (.getfield 21, 3) := by decide +kernel
theorem dX5_joinedOf_30 : decode cX5_joinedOf 30 = .ok (.iload_n 3, 1) := by decide +kernel
theorem dX5_joinedOf_31 : decode cX5_joinedOf 31 = .ok (.iaload, 1) := by decide +kernel
theorem dX5_joinedOf_32 : decode cX5_joinedOf 32 = .ok (.iload_n 1, 1) := by decide +kernel
theorem dX5_joinedOf_33 : decode cX5_joinedOf 33 = .ok (.if_icmp .ne 6, 3) := by decide +kernel
theorem dX5_joinedOf_36 : decode cX5_joinedOf 36 = .ok (.iinc 2 1, 3) := by decide +kernel
theorem dX5_joinedOf_39 : decode cX5_joinedOf 39 = .ok (.iinc 3 1, 3) := by decide +kernel
theorem dX5_joinedOf_42 : decode cX5_joinedOf 42 = .ok (.goto (-38), 3) := by decide +kernel
theorem dX5_joinedOf_45 : decode cX5_joinedOf 45 = .ok (.iload_n 2, 1) := by decide +kernel
theorem dX5_joinedOf_46 : decode cX5_joinedOf 46 = .ok (.ireturn, 1) := by decide +kernel
theorem dX5_textAt_0 : decode cX5_textAt 0 = .ok (.iconst 0, 1) := by decide +kernel
theorem dX5_textAt_1 : decode cX5_textAt 1 = .ok (.istore_n 3, 1) := by decide +kernel
theorem dX5_textAt_2 : decode cX5_textAt 2 = .ok (.iconst 0, 1) := by decide +kernel
theorem dX5_textAt_3 : decode cX5_textAt 3 = .ok (.istore 4, 2) := by decide +kernel
theorem dX5_textAt_5 : decode cX5_textAt 5 = .ok (.iload 4, 2) := by decide +kernel
theorem dX5_textAt_7 : decode cX5_textAt 7 = .ok (.aload_n 0, 1) := by decide +kernel
theorem dX5_textAt_8 : decode cX5_textAt 8 = .ok (.getfield 42, 3) := by decide +kernel
theorem dX5_textAt_11 : decode cX5_textAt 11 = .ok (.if_icmp .ge 41, 3) := by decide +kernel
theorem dX5_textAt_14 : decode cX5_textAt 14 = .ok (.aload_n 0, 1) := by decide +kernel
theorem dX5_textAt_15 : decode cX5_textAt 15 = .ok (.getfield 21, 3) := by decide +kernel
theorem dX5_textAt_18 : decode cX5_textAt 18 = .ok (.aload_n 0, 1) := by decide +kernel
theorem dX5_textAt_19 : decode cX5_textAt 19 = .ok (.getfield 27, 3) := by decide +kernel
theorem dX5_textAt_22 : decode cX5_textAt 22 = .ok (.iload 4, 2) := by decide +kernel
theorem dX5_textAt_24 : decode cX5_textAt 24 = .ok (.iaload, 1) := by decide +kernel
theorem dX5_textAt_25 : decode cX5_textAt 25 = .ok (.iaload, 1) := by decide +kernel
theorem dX5_textAt_26 : decode cX5_textAt 26 = .ok (.iload_n 1, 1) := by decide +kernel
theorem dX5_textAt_27 : decode cX5_textAt 27 = .ok (.if_icmp .ne 19, 3) := by decide +kernel
theorem dX5_textAt_30 : decode cX5_textAt 30 = .ok (.iload_n 3, 1) := by decide +kernel
theorem dX5_textAt_31 : decode cX5_textAt 31 = .ok (.iload_n 2, 1) := by decide +kernel
theorem dX5_textAt_32 : decode cX5_textAt 32 = .ok (.if_icmp .ne 11, 3) := by decide +kernel
theorem dX5_textAt_35 : decode cX5_textAt 35 = .ok (.aload_n 0, 1) := by decide +kernel
theorem dX5_textAt_36 : decode cX5_textAt 36 = .ok (.getfield 27, 3) := by decide +kernel
theorem dX5_textAt_39 : decode cX5_textAt 39 = .ok (.iload 4, 2) := by decide +kernel
theorem dX5_textAt_41 : decode cX5_textAt 41 = .ok (.iaload, 1) := by decide +kernel
theorem dX5_textAt_42 : decode cX5_textAt 42 = .ok (.ireturn, 1) := by decide +kernel
theorem dX5_textAt_43 : decode cX5_textAt 43 = .ok (.iinc 3 1, 3) := by decide +kernel
theorem dX5_textAt_46 : decode cX5_textAt 46 = .ok (.iinc 4 1, 3) := by decide +kernel
theorem dX5_textAt_49 : decode cX5_textAt 49 = .ok (.goto (-44), 3) := by decide +kernel
theorem dX5_textAt_52 : decode cX5_textAt 52 = .ok (.bipush (-9), 2) := by decide +kernel
theorem dX5_textAt_54 : decode cX5_textAt 54 = .ok (.ireturn, 1) := by decide +kernel
theorem dX5_manyJoined_0 : decode cX5_manyJoined 0 = .ok (.iconst 0, 1) := by decide +kernel
theorem dX5_manyJoined_1 : decode cX5_manyJoined 1 = .ok (.istore_n 1, 1) := by decide +kernel
theorem dX5_manyJoined_2 : decode cX5_manyJoined 2 = .ok (.iconst 0, 1) := by decide +kernel
theorem dX5_manyJoined_3 : decode cX5_manyJoined 3 = .ok (.istore_n 2, 1) := by decide +kernel
theorem dX5_manyJoined_4 : decode cX5_manyJoined 4 = .ok (.iload_n 2, 1) := by decide +kernel
theorem dX5_manyJoined_5 : decode cX5_manyJoined 5 = .ok (.aload_n 0, 1) := by decide +kernel
theorem dX5_manyJoined_6 : decode cX5_manyJoined 6 = .ok (.getfield 30, 3) := by decide +kernel
theorem dX5_manyJoined_9 : decode cX5_manyJoined 9 = .ok (.getfield 46, 3) := by decide +kernel
theorem dX5_manyJoined_12 : decode cX5_manyJoined 12 = .ok (.if_icmp .ge 23, 3) := by decide +kernel
theorem dX5_manyJoined_15 : decode cX5_manyJoined 15 = .ok (.aload_n 0, 1) := by decide +kernel
theorem dX5_manyJoined_16 : decode cX5_manyJoined 16 = .ok (.getfield 15, 3) := by decide +kernel
theorem dX5_manyJoined_19 : decode cX5_manyJoined 19 = .ok (.iload_n 2, 1) := by decide +kernel
theorem dX5_manyJoined_20 : decode cX5_manyJoined 20 = .ok (.iaload, 1) := by decide +kernel
theorem dX5_manyJoined_21 : decode cX5_manyJoined 21 = .ok (.bipush (-9), 2) := by decide +kernel
theorem dX5_manyJoined_23 : decode cX5_manyJoined 23 = .ok (.if_icmp .eq 6, 3) := by decide +kernel
theorem dX5_manyJoined_26 : decode cX5_manyJoined 26 = .ok (.iinc 1 1, 3) := by decide +kernel
theorem dX5_manyJoined_29 : decode cX5_manyJoined 29 = .ok (.iinc 2 1, 3) := by decide +kernel
theorem dX5_manyJoined_32 : decode cX5_manyJoined 32 = .ok (.goto (-28), 3) := by decide +kernel
theorem dX5_manyJoined_35 : decode cX5_manyJoined 35 = .ok (.iload_n 1, 1) := by decide +kernel
theorem dX5_manyJoined_36 : decode cX5_manyJoined 36 = .ok (.ireturn, 1) := by decide +kernel
theorem dX5_manyLeftOver_0 : decode cX5_manyLeftOver 0 = .ok (.aload_n 0, 1) := by decide +kernel
theorem dX5_manyLeftOver_1 : decode cX5_manyLeftOver 1 = .ok (.getfield 121, 3) := by decide +kernel
theorem dX5_manyLeftOver_4 : decode cX5_manyLeftOver 4 = .ok (.aload_n 0, 1) := by decide +kernel
theorem dX5_manyLeftOver_5 : decode cX5_manyLeftOver 5 = .ok (.getfield 30, 3) := by decide +kernel
theorem dX5_manyLeftOver_8 : decode cX5_manyLeftOver 8 = .ok (.iconst 0, 1) := by decide +kernel
theorem dX5_manyLeftOver_9 : decode cX5_manyLeftOver 9 = .ok (.invokevirtual 125, 3) := by decide +kernel
theorem dX5_manyLeftOver_12 : decode cX5_manyLeftOver 12 = .ok (.isub, 1) := by decide +kernel
theorem dX5_manyLeftOver_13 : decode cX5_manyLeftOver 13 = .ok (.ireturn, 1) := by decide +kernel
theorem dX5_manyLoosePictures_0 : decode cX5_manyLoosePictures 0 = .ok (.iconst 0, 1) := by decide +kernel
theorem dX5_manyLoosePictures_1 : decode cX5_manyLoosePictures 1 = .ok (.istore_n 1, 1) := by decide +kernel
theorem dX5_manyLoosePictures_2 : decode cX5_manyLoosePictures 2 = .ok (.iconst 0, 1) := by decide +kernel
theorem dX5_manyLoosePictures_3 : decode cX5_manyLoosePictures 3 = .ok (.istore_n 2, 1) := by decide +kernel
theorem dX5_manyLoosePictures_4 : decode cX5_manyLoosePictures 4 = .ok (.iload_n 2, 1) := by decide +kernel
theorem dX5_manyLoosePictures_5 : decode cX5_manyLoosePictures 5 = .ok (.aload_n 0, 1) := by decide +kernel
theorem dX5_manyLoosePictures_6 : decode cX5_manyLoosePictures 6 = .ok (.getfield 30, 3) := by decide +kernel
theorem dX5_manyLoosePictures_9 : decode cX5_manyLoosePictures 9 = .ok (.getfield 46, 3) := by decide +kernel
theorem dX5_manyLoosePictures_12 : decode cX5_manyLoosePictures 12 = .ok (.if_icmp .ge 36, 3) := by decide +kernel
theorem dX5_manyLoosePictures_15 : decode cX5_manyLoosePictures 15 = .ok (.aload_n 0, 1) := by decide +kernel
theorem dX5_manyLoosePictures_16 : decode cX5_manyLoosePictures 16 = .ok (.getfield 30, 3) := by decide +kernel
theorem dX5_manyLoosePictures_19 : decode cX5_manyLoosePictures 19 = .ok (.getfield 51, 3) := by decide +kernel
theorem dX5_manyLoosePictures_22 : decode cX5_manyLoosePictures 22 = .ok (.iload_n 2, 1) := by decide +kernel
theorem dX5_manyLoosePictures_23 : decode cX5_manyLoosePictures 23 = .ok (.iaload, 1) := by decide +kernel
theorem dX5_manyLoosePictures_24 : decode cX5_manyLoosePictures 24 = .ok (.iconst 2, 1) := by decide +kernel
theorem dX5_manyLoosePictures_25 : decode cX5_manyLoosePictures 25 = .ok (.if_icmp .ne 17, 3) := by decide +kernel
theorem dX5_manyLoosePictures_28 : decode cX5_manyLoosePictures 28 = .ok (.aload_n 0, 1) := by decide +kernel
theorem dX5_manyLoosePictures_29 : decode cX5_manyLoosePictures 29 = .ok (.getfield 9, 3) := by decide +kernel
theorem dX5_manyLoosePictures_32 : decode cX5_manyLoosePictures 32 = .ok (.iload_n 2, 1) := by decide +kernel
theorem dX5_manyLoosePictures_33 : decode cX5_manyLoosePictures 33 = .ok (.iaload, 1) := by decide +kernel
theorem dX5_manyLoosePictures_34 : decode cX5_manyLoosePictures 34 = .ok (.bipush (-9), 2) := by decide +kernel
theorem dX5_manyLoosePictures_36 : decode cX5_manyLoosePictures 36 = .ok (.if_icmp .ne 6, 3) := by decide +kernel
theorem dX5_manyLoosePictures_39 : decode cX5_manyLoosePictures 39 = .ok (.iinc 1 1, 3) := by decide +kernel
theorem dX5_manyLoosePictures_42 : decode cX5_manyLoosePictures 42 = .ok (.iinc 2 1, 3) := by decide +kernel
theorem dX5_manyLoosePictures_45 : decode cX5_manyLoosePictures 45 = .ok (.goto (-41), 3) := by decide +kernel
theorem dX5_manyLoosePictures_48 : decode cX5_manyLoosePictures 48 = .ok (.iload_n 1, 1) := by decide +kernel
theorem dX5_manyLoosePictures_49 : decode cX5_manyLoosePictures 49 = .ok (.ireturn, 1) := by decide +kernel
theorem dX6_init_0 : decode cX6_init 0 = .ok (.aload_n 0, 1) := by decide +kernel
theorem dX6_init_1 : decode cX6_init 1 = .ok (.invokespecial 1, 3) := by decide +kernel
theorem dX6_init_4 : decode cX6_init 4 = .ok (.aload_n 0, 1) := by decide +kernel
theorem dX6_init_5 : decode cX6_init 5 = .ok (.new 7, 3) := by decide +kernel
theorem dX6_init_8 : decode cX6_init 8 = .ok (.dup, 1) := by decide +kernel
theorem dX6_init_9 : decode cX6_init 9 = .ok (.invokespecial 9, 3) := by decide +kernel
theorem dX6_init_12 : decode cX6_init 12 = .ok (.putfield 10, 3) := by decide +kernel
theorem dX6_init_15 : decode cX6_init 15 = .ok (.aload_n 0, 1) := by decide +kernel
theorem dX6_init_16 : decode cX6_init 16 = .ok (.new 16, 3) := by decide +kernel
theorem dX6_init_19 : decode cX6_init 19 = .ok (.dup, 1) := by decide +kernel
theorem dX6_init_20 : decode cX6_init 20 = .ok (.invokespecial 18, 3) := by decide +kernel
theorem dX6_init_23 : decode cX6_init 23 = .ok (.putfield 19, 3) := by decide +kernel
theorem dX6_init_26 : decode cX6_init 26 = .ok (.aload_n 0, 1) := by decide +kernel
theorem dX6_init_27 : decode cX6_init 27 = .ok (.new 23, 3) := by decide +kernel
theorem dX6_init_30 : decode cX6_init 30 = .ok (.dup, 1) := by decide +kernel
theorem dX6_init_31 : decode cX6_init 31 = .ok (.invokespecial 25, 3) := by decide +kernel
theorem dX6_init_34 : decode cX6_init 34 = .ok (.putfield 26, 3) := by decide +kernel
theorem dX6_init_37 : decode cX6_init 37 = .ok (.aload_n 0, 1) := by decide +kernel
theorem dX6_init_38 : decode cX6_init 38 = .ok (.new 30, 3) := by decide +kernel
theorem dX6_init_41 : decode cX6_init 41 = .ok (.dup, 1) := by decide +kernel
theorem dX6_init_42 : decode cX6_init 42 = .ok (.aload_n 0, 1) := by decide +kernel
theorem dX6_init_43 : decode cX6_init 43 = .ok (.getfield 10, 3) := by decide +kernel
theorem dX6_init_46 : decode cX6_init 46 = .ok (.aload_n 0, 1) := by decide +kernel
theorem dX6_init_47 : decode cX6_init 47 = .ok (.getfield 26, 3) := by decide +kernel
theorem dX6_init_50 : decode cX6_init 50 = .ok (.invokespecial 32, 3) := by decide +kernel
theorem dX6_init_53 : decode cX6_init 53 = .ok (.putfield 35, 3) := by decide +kernel
theorem dX6_init_56 : decode cX6_init 56 = .ok (.aload_n 0, 1) := by decide +kernel
theorem dX6_init_57 : decode cX6_init 57 = .ok (.new 39, 3) := by decide +kernel
theorem dX6_init_60 : decode cX6_init 60 = .ok (.dup, 1) := by decide +kernel
theorem dX6_init_61 : decode cX6_init 61 = .ok (.aload_n 0, 1) := by decide +kernel
theorem dX6_init_62 : decode cX6_init 62 = .ok (.getfield 10, 3) := by decide +kernel
theorem dX6_init_65 : decode cX6_init 65 = .ok (.aload_n 0, 1) := by decide +kernel
theorem dX6_init_66 : decode cX6_init 66 = .ok (.getfield 26, 3) := by decide +kernel
theorem dX6_init_69 : decode cX6_init 69 = .ok (.aload_n 0, 1) := by decide +kernel
theorem dX6_init_70 : decode cX6_init 70 = .ok (.getfield 35, 3) := by decide +kernel
theorem dX6_init_73 : decode cX6_init 73 = .ok (.invokespecial 41, 3) := by decide +kernel
theorem dX6_init_76 : decode cX6_init 76 = .ok (.putfield 44, 3) := by decide +kernel
theorem dX6_init_79 : decode cX6_init 79 = .ok (.aload_n 0, 1) := by decide +kernel
theorem dX6_init_80 : decode cX6_init 80 = .ok (.new 48, 3) := by decide +kernel
theorem dX6_init_83 : decode cX6_init 83 = .ok (.dup, 1) := by decide +kernel
theorem dX6_init_84 : decode cX6_init 84 = .ok (.aload_n 0, 1) := by decide +kernel
theorem dX6_init_85 : decode cX6_init 85 = .ok (.getfield 10, 3) := by decide +kernel
theorem dX6_init_88 : decode cX6_init 88 = .ok (.aload_n 0, 1) := by decide +kernel
theorem dX6_init_89 : decode cX6_init 89 = .ok (.getfield 19, 3) := by decide +kernel
theorem dX6_init_92 : decode cX6_init 92 = .ok (.aload_n 0, 1) := by decide +kernel
theorem dX6_init_93 : decode cX6_init 93 = .ok (.getfield 44, 3) := by decide +kernel
theorem dX6_init_96 : decode cX6_init 96 = .ok (.invokespecial 50, 3) := by decide +kernel
theorem dX6_init_99 : decode cX6_init 99 = .ok (.putfield 53, 3) := by decide +kernel
theorem dX6_init_102 : decode cX6_init 102 = .ok (.aload_n 0, 1) := by decide +kernel
theorem dX6_init_103 : decode cX6_init 103 = .ok (.iconst 1, 1) := by decide +kernel
theorem dX6_init_104 : decode cX6_init 104 = .ok (.putfield 57, 3) := by decide +kernel
theorem dX6_init_107 : decode cX6_init 107 = .ok (.return_, 1) := by decide +kernel
theorem dX6_block_0 : decode cX6_block 0 = .ok (.iload_n 1, 1) := by decide +kernel
theorem dX6_block_1 : decode cX6_block 1 = .ok (.iconst 4, 1) := by decide +kernel
theorem dX6_block_2 : decode cX6_block 2 = .ok (.invokestatic 61, 3) := by decide +kernel
theorem dX6_block_5 : decode cX6_block 5 = .ok (.ifCond .eq 11, 3) := by decide +kernel
theorem dX6_block_8 : decode cX6_block 8 = .ok (.iload_n 2, 1) := by decide +kernel
theorem dX6_block_9 : decode cX6_block 9 = .ok (.iconst 3, 1) := by decide +kernel
theorem dX6_block_10 : decode cX6_block 10 = .ok (.invokestatic 61, 3) := by decide +kernel
theorem dX6_block_13 : decode cX6_block 13 = .ok (.ifCond .ne 6, 3) := by decide +kernel
theorem dX6_block_16 : decode cX6_block 16 = .ok (.bipush (-2), 2) := by decide +kernel
theorem dX6_block_18 : decode cX6_block 18 = .ok (.ireturn, 1) := by decide +kernel
theorem dX6_block_19 : decode cX6_block 19 = .ok (.iload_n 3, 1) := by decide +kernel
theorem dX6_block_20 : decode cX6_block 20 = .ok (.iload 4, 2) := by decide +kernel
theorem dX6_block_22 : decode cX6_block 22 = .ok (.bipush 8, 2) := by decide +kernel
theorem dX6_block_24 : decode cX6_block 24 = .ok (.invokestatic 65, 3) := by decide +kernel
theorem dX6_block_27 : decode cX6_block 27 = .ok (.ifCond .eq 15, 3) := by decide +kernel
theorem dX6_block_30 : decode cX6_block 30 = .ok (.iload 5, 2) := by decide +kernel
theorem dX6_block_32 : decode cX6_block 32 = .ok (.iload 6, 2) := by decide +kernel
theorem dX6_block_34 : decode cX6_block 34 = .ok (.bipush 30, 2) := by decide +kernel
theorem dX6_block_36 : decode cX6_block 36 = .ok (.invokestatic 65, 3) := by decide +kernel
theorem dX6_block_39 : decode cX6_block 39 = .ok (.ifCond .ne 6, 3) := by decide +kernel
theorem dX6_block_42 : decode cX6_block 42 = .ok (.bipush (-2), 2) := by decide +kernel
theorem dX6_block_44 : decode cX6_block 44 = .ok (.ireturn, 1) := by decide +kernel
theorem dX6_block_45 : decode cX6_block 45 = .ok (.aload_n 0, 1) := by decide +kernel
theorem dX6_block_46 : decode cX6_block 46 = .ok (.getfield 10, 3) := by decide +kernel
theorem dX6_block_49 : decode cX6_block 49 = .ok (.iload_n 1, 1) := by decide +kernel
theorem dX6_block_50 : decode cX6_block 50 = .ok (.iload_n 3, 1) := by decide +kernel
theorem dX6_block_51 : decode cX6_block 51 = .ok (.iload 4, 2) := by decide +kernel
theorem dX6_block_53 : decode cX6_block 53 = .ok (.iload 5, 2) := by decide +kernel
theorem dX6_block_55 : decode cX6_block 55 = .ok (.iload 6, 2) := by decide +kernel
theorem dX6_block_57 : decode cX6_block 57 = .ok (.invokevirtual 69, 3) := by decide +kernel
theorem dX6_block_60 : decode cX6_block 60 = .ok (.ifCond .eq 6, 3) := by decide +kernel
theorem dX6_block_63 : decode cX6_block 63 = .ok (.bipush (-3), 2) := by decide +kernel
theorem dX6_block_65 : decode cX6_block 65 = .ok (.ireturn, 1) := by decide +kernel
theorem dX6_block_66 : decode cX6_block 66 = .ok (.aload_n 0, 1) := by decide +kernel
theorem dX6_block_67 : decode cX6_block 67 = .ok (.getfield 10, 3) := by decide +kernel
theorem dX6_block_70 : decode cX6_block 70 = .ok (.getfield 73, 3) := by decide +kernel
theorem dX6_block_73 : decode cX6_block 73 = .ok (.bipush 24, 2) := by decide +kernel
theorem dX6_block_75 : decode cX6_block 75 = .ok (.if_icmp .lt 6, 3) := by decide +kernel
theorem dX6_block_78 : decode cX6_block 78 = .ok (.bipush (-4), 2) := by decide +kernel
theorem dX6_block_80 : decode cX6_block 80 = .ok (.ireturn, 1) := by decide +kernel
theorem dX6_block_81 : decode cX6_block 81 = .ok (.aload_n 0, 1) := by decide +kernel
theorem dX6_block_82 : decode cX6_block 82 = .ok (.getfield 19, 3) := by decide +kernel
theorem dX6_block_85 : decode cX6_block 85 = .ok (.aload_n 0, 1) := by decide +kernel
theorem dX6_block_86 : decode cX6_block 86 = .ok (.getfield 10, 3) := by decide +kernel
theorem dX6_block_89 : decode cX6_block 89 = .ok (.getfield 73, 3) := by decide +kernel
theorem dX6_block_92 : decode cX6_block 92 = .ok (.invokevirtual 77, 3) := by decide +kernel
theorem dX6_block_95 : decode cX6_block 95 = .ok (.aload_n 0, 1) := by decide +kernel
theorem dX6_block_96 : decode cX6_block 96 = .ok (.iconst 1, 1) := by decide +kernel
theorem dX6_block_97 : decode cX6_block 97 = .ok (.putfield 57, 3) := by decide +kernel
theorem dX6_block_100 : decode cX6_block 100 = .ok (.aload_n 0, 1) := by decide +kernel
theorem dX6_block_101 : decode cX6_block 101 = .ok (.getfield 10, 3) := by decide +kernel
theorem dX6_block_104 : decode cX6_block 104 = .ok (.iload_n 1, 1) := by decide +kernel
theorem dX6_block_105 : decode cX6_block 105 = .ok (.iload_n 2, 1) := by decide +kernel
theorem dX6_block_106 : decode cX6_block 106 = .ok (.iload_n 3, 1) := by decide +kernel
theorem dX6_block_107 : decode cX6_block 107 = .ok (.iload 4, 2) := by decide +kernel
theorem dX6_block_109 : decode cX6_block 109 = .ok (.iload 5, 2) := by decide +kernel
theorem dX6_block_111 : decode cX6_block 111 = .ok (.iload 6, 2) := by decide +kernel
theorem dX6_block_113 : decode cX6_block 113 = .ok (.invokevirtual 81, 3) := by decide +kernel
theorem dX6_block_116 : decode cX6_block 116 = .ok (.ireturn, 1) := by decide +kernel
theorem dX6_words_0 : decode cX6_words 0 = .ok (.aload_n 0, 1) := by decide +kernel
theorem dX6_words_1 : decode cX6_words 1 = .ok (.getfield 10, 3) := by decide +kernel
theorem dX6_words_4 : decode cX6_words 4 = .ok (.iload_n 1, 1) := by decide +kernel
theorem dX6_words_5 : decode cX6_words 5 = .ok (.invokevirtual 85, 3) := by decide +kernel
theorem dX6_words_8 : decode cX6_words 8 = .ok (.ifCond .ne 5, 3) := by decide +kernel
theorem dX6_words_11 : decode cX6_words 11 = .ok (.iconst (-1), 1) := by decide +kernel
theorem dX6_words_12 : decode cX6_words 12 = .ok (.ireturn, 1) := by decide +kernel
theorem dX6_words_13 : decode cX6_words 13 = .ok (.iload_n 2, 1) := by decide +kernel
theorem dX6_words_14 : decode cX6_words 14 = .ok (.iconst 1, 1) := by decide +kernel
theorem dX6_words_15 : decode cX6_words 15 = .ok (.if_icmp .lt 9, 3) := by decide +kernel
theorem dX6_words_18 : decode cX6_words 18 = .ok (.iload_n 2, 1) := by decide +kernel
theorem dX6_words_19 : decode cX6_words 19 = .ok (.bipush 99, 2) := by decide +kernel
theorem dX6_words_21 : decode cX6_words 21 = .ok (.if_icmp .le 6, 3) := by decide +kernel
theorem dX6_words_24 : decode cX6_words 24 = .ok (.bipush (-2), 2) := by decide +kernel
theorem dX6_words_26 : decode cX6_words 26 = .ok (.ireturn, 1) := by decide +kernel
theorem dX6_words_27 : decode cX6_words 27 = .ok (.aload_n 0, 1) := by decide +kernel
theorem dX6_words_28 : decode cX6_words 28 = .ok (.getfield 10, 3) := by decide +kernel
theorem dX6_words_31 : decode cX6_words 31 = .ok (.getfield 89, 3) := by decide +kernel
theorem dX6_words_34 : decode cX6_words 34 = .ok (.iload_n 1, 1) := by decide +kernel
theorem dX6_words_35 : decode cX6_words 35 = .ok (.iaload, 1) := by decide +kernel
theorem dX6_words_36 : decode cX6_words 36 = .ok (.iconst 1, 1) := by decide +kernel
theorem dX6_words_37 : decode cX6_words 37 = .ok (.if_icmp .eq 6, 3) := by decide +kernel
theorem dX6_words_40 : decode cX6_words 40 = .ok (.bipush (-3), 2) := by decide +kernel
theorem dX6_words_42 : decode cX6_words 42 = .ok (.ireturn, 1) := by decide +kernel
theorem dX6_words_43 : decode cX6_words 43 = .ok (.aload_n 0, 1) := by decide +kernel
theorem dX6_words_44 : decode cX6_words 44 = .ok (.getfield 10, 3) := by decide +kernel
theorem dX6_words_47 : decode cX6_words 47 = .ok (.getfield 93, 3) := by decide +kernel
theorem dX6_words_50 : decode cX6_words 50 = .ok (.iload_n 1, 1) := by decide +kernel
theorem dX6_words_51 : decode cX6_words 51 = .ok (.iaload, 1) := by decide +kernel
theorem dX6_words_52 : decode cX6_words 52 = .ok (.istore_n 3, 1) := by decide +kernel
theorem dX6_words_53 : decode cX6_words 53 = .ok (.aload_n 0, 1) := by decide +kernel
theorem dX6_words_54 : decode cX6_words 54 = .ok (.getfield 10, 3) := by decide +kernel
theorem dX6_words_57 : decode cX6_words 57 = .ok (.getfield 93, 3) := by decide +kernel
theorem dX6_words_60 : decode cX6_words 60 = .ok (.iload_n 1, 1) := by decide +kernel
theorem dX6_words_61 : decode cX6_words 61 = .ok (.iload_n 2, 1) := by decide +kernel
theorem dX6_words_62 : decode cX6_words 62 = .ok (.iastore, 1) := by decide +kernel
theorem dX6_words_63 : decode cX6_words 63 = .ok (.iload_n 3, 1) := by decide +kernel
theorem dX6_words_64 : decode cX6_words 64 = .ok (.ireturn, 1) := by decide +kernel
theorem dX6_line_0 : decode cX6_line 0 = .ok (.iload_n 1, 1) := by decide +kernel
theorem dX6_line_1 : decode cX6_line 1 = .ok (.iconst 4, 1) := by decide +kernel
theorem dX6_line_2 : decode cX6_line 2 = .ok (.invokestatic 61, 3) := by decide +kernel
theorem dX6_line_5 : decode cX6_line 5 = .ok (.ifCond .eq 11, 3) := by decide +kernel
theorem dX6_line_8 : decode cX6_line 8 = .ok (.iload_n 2, 1) := by decide +kernel
theorem dX6_line_9 : decode cX6_line 9 = .ok (.iconst 2, 1) := by decide +kernel
theorem dX6_line_10 : decode cX6_line 10 = .ok (.invokestatic 61, 3) := by decide +kernel
theorem dX6_line_13 : decode cX6_line 13 = .ok (.ifCond .ne 6, 3) := by decide +kernel
theorem dX6_line_16 : decode cX6_line 16 = .ok (.bipush (-2), 2) := by decide +kernel
theorem dX6_line_18 : decode cX6_line 18 = .ok (.ireturn, 1) := by decide +kernel
theorem dX6_line_19 : decode cX6_line 19 = .ok (.iload_n 2, 1) := by decide +kernel
theorem dX6_line_20 : decode cX6_line 20 = .ok (.ifCond .ne 8, 3) := by decide +kernel
theorem dX6_line_23 : decode cX6_line 23 = .ok (.bipush 8, 2) := by decide +kernel
theorem dX6_line_25 : decode cX6_line 25 = .ok (.goto 5, 3) := by decide +kernel
theorem dX6_line_28 : decode cX6_line 28 = .ok (.bipush 30, 2) := by decide +kernel
theorem dX6_line_30 : decode cX6_line 30 = .ok (.istore 6, 2) := by decide +kernel
theorem dX6_line_32 : decode cX6_line 32 = .ok (.iload_n 2, 1) := by decide +kernel
theorem dX6_line_33 : decode cX6_line 33 = .ok (.ifCond .ne 8, 3) := by decide +kernel
theorem dX6_line_36 : decode cX6_line 36 = .ok (.bipush 30, 2) := by decide +kernel
theorem dX6_line_38 : decode cX6_line 38 = .ok (.goto 5, 3) := by decide +kernel
theorem dX6_line_41 : decode cX6_line 41 = .ok (.bipush 8, 2) := by decide +kernel
theorem dX6_line_43 : decode cX6_line 43 = .ok (.istore 7, 2) := by decide +kernel
theorem dX6_line_45 : decode cX6_line 45 = .ok (.iload_n 3, 1) := by decide +kernel
theorem dX6_line_46 : decode cX6_line 46 = .ok (.iconst 1, 1) := by decide +kernel
theorem dX6_line_47 : decode cX6_line 47 = .ok (.if_icmp .lt 21, 3) := by decide +kernel
theorem dX6_line_50 : decode cX6_line 50 = .ok (.iload_n 3, 1) := by decide +kernel
theorem dX6_line_51 : decode cX6_line 51 = .ok (.iload 6, 2) := by decide +kernel
theorem dX6_line_53 : decode cX6_line 53 = .ok (.if_icmp .ge 15, 3) := by decide +kernel
theorem dX6_line_56 : decode cX6_line 56 = .ok (.iload 4, 2) := by decide +kernel
theorem dX6_line_58 : decode cX6_line 58 = .ok (.iload 5, 2) := by decide +kernel
theorem dX6_line_60 : decode cX6_line 60 = .ok (.iload 7, 2) := by decide +kernel
theorem dX6_line_62 : decode cX6_line 62 = .ok (.invokestatic 65, 3) := by decide +kernel
theorem dX6_line_65 : decode cX6_line 65 = .ok (.ifCond .ne 6, 3) := by decide +kernel
theorem dX6_line_68 : decode cX6_line 68 = .ok (.bipush (-2), 2) := by decide +kernel
theorem dX6_line_70 : decode cX6_line 70 = .ok (.ireturn, 1) := by decide +kernel
theorem dX6_line_71 : decode cX6_line 71 = .ok (.aload_n 0, 1) := by decide +kernel
theorem dX6_line_72 : decode cX6_line 72 = .ok (.getfield 26, 3) := by decide +kernel
theorem dX6_line_75 : decode cX6_line 75 = .ok (.getfield 96, 3) := by decide +kernel
theorem dX6_line_78 : decode cX6_line 78 = .ok (.bipush 12, 2) := by decide +kernel
theorem dX6_line_80 : decode cX6_line 80 = .ok (.if_icmp .lt 6, 3) := by decide +kernel
theorem dX6_line_83 : decode cX6_line 83 = .ok (.bipush (-4), 2) := by decide +kernel
theorem dX6_line_85 : decode cX6_line 85 = .ok (.ireturn, 1) := by decide +kernel
theorem dX6_line_86 : decode cX6_line 86 = .ok (.aload_n 0, 1) := by decide +kernel
theorem dX6_line_87 : decode cX6_line 87 = .ok (.iconst 1, 1) := by decide +kernel
theorem dX6_line_88 : decode cX6_line 88 = .ok (.putfield 57, 3) := by decide +kernel
theorem dX6_line_91 : decode cX6_line 91 = .ok (.aload_n 0, 1) := by decide +kernel
theorem dX6_line_92 : decode cX6_line 92 = .ok (.getfield 26, 3) := by decide +kernel
theorem dX6_line_95 : decode cX6_line 95 = .ok (.iload_n 1, 1) := by decide +kernel
theorem dX6_line_96 : decode cX6_line 96 = .ok (.iload_n 2, 1) := by decide +kernel
theorem dX6_line_97 : decode cX6_line 97 = .ok (.iload_n 3, 1) := by decide +kernel
theorem dX6_line_98 : decode cX6_line 98 = .ok (.iload 4, 2) := by decide +kernel
theorem dX6_line_100 : decode cX6_line 100 = .ok (.iload 5, 2) := by decide +kernel
theorem dX6_line_102 : decode cX6_line 102 = .ok (.invokevirtual 97, 3) := by decide +kernel
theorem dX6_line_105 : decode cX6_line 105 = .ok (.ireturn, 1) := by decide +kernel
theorem dX6_back_0 : decode cX6_back 0 = .ok (.aload_n 0, 1) := by decide +kernel
theorem dX6_back_1 : decode cX6_back 1 = .ok (.getfield 10, 3) := by decide +kernel
theorem dX6_back_4 : decode cX6_back 4 = .ok (.getfield 73, 3) := by decide +kernel
theorem dX6_back_7 : decode cX6_back 7 = .ok (.iconst 1, 1) := by decide +kernel
theorem dX6_back_8 : decode cX6_back 8 = .ok (.if_icmp .ge 6, 3) := by decide +kernel
theorem dX6_back_11 : decode cX6_back 11 = .ok (.bipush (-3), 2) := by decide +kernel
theorem dX6_back_13 : decode cX6_back 13 = .ok (.ireturn, 1) := by decide +kernel
theorem dX6_back_14 : decode cX6_back 14 = .ok (.aload_n 0, 1) := by decide +kernel
theorem dX6_back_15 : decode cX6_back 15 = .ok (.getfield 10, 3) := by decide +kernel
theorem dX6_back_18 : decode cX6_back 18 = .ok (.dup, 1) := by decide +kernel
theorem dX6_back_19 : decode cX6_back 19 = .ok (.getfield 73, 3) := by decide +kernel
theorem dX6_back_22 : decode cX6_back 22 = .ok (.iconst 1, 1) := by decide +kernel
theorem dX6_back_23 : decode cX6_back 23 = .ok (.isub, 1) := by decide +kernel
theorem dX6_back_24 : decode cX6_back 24 = .ok (.putfield 73, 3) := by decide +kernel
theorem dX6_back_27 : decode cX6_back 27 = .ok (.aload_n 0, 1) := by decide +kernel
theorem dX6_back_28 : decode cX6_back 28 = .ok (.iconst 1, 1) := by decide +kernel
theorem dX6_back_29 : decode cX6_back 29 = .ok (.putfield 57, 3) := by decide +kernel
theorem dX6_back_32 : decode cX6_back 32 = .ok (.aload_n 0, 1) := by decide +kernel
theorem dX6_back_33 : decode cX6_back 33 = .ok (.getfield 10, 3) := by decide +kernel
theorem dX6_back_36 : decode cX6_back 36 = .ok (.getfield 73, 3) := by decide +kernel
theorem dX6_back_39 : decode cX6_back 39 = .ok (.ireturn, 1) := by decide +kernel
theorem dX6_erase_0 : decode cX6_erase 0 = .ok (.aload_n 0, 1) := by decide +kernel
theorem dX6_erase_1 : decode cX6_erase 1 = .ok (.getfield 26, 3) := by decide +kernel
theorem dX6_erase_4 : decode cX6_erase 4 = .ok (.getfield 96, 3) := by decide +kernel
theorem dX6_erase_7 : decode cX6_erase 7 = .ok (.iconst 1, 1) := by decide +kernel
theorem dX6_erase_8 : decode cX6_erase 8 = .ok (.if_icmp .ge 6, 3) := by decide +kernel
theorem dX6_erase_11 : decode cX6_erase 11 = .ok (.bipush (-3), 2) := by decide +kernel
theorem dX6_erase_13 : decode cX6_erase 13 = .ok (.ireturn, 1) := by decide +kernel
theorem dX6_erase_14 : decode cX6_erase 14 = .ok (.aload_n 0, 1) := by decide +kernel
theorem dX6_erase_15 : decode cX6_erase 15 = .ok (.getfield 26, 3) := by decide +kernel
theorem dX6_erase_18 : decode cX6_erase 18 = .ok (.dup, 1) := by decide +kernel
theorem dX6_erase_19 : decode cX6_erase 19 = .ok (.getfield 96, 3) := by decide +kernel
theorem dX6_erase_22 : decode cX6_erase 22 = .ok (.iconst 1, 1) := by decide +kernel
theorem dX6_erase_23 : decode cX6_erase 23 = .ok (.isub, 1) := by decide +kernel
theorem dX6_erase_24 : decode cX6_erase 24 = .ok (.putfield 96, 3) := by decide +kernel
theorem dX6_erase_27 : decode cX6_erase 27 = .ok (.aload_n 0, 1) := by decide +kernel
theorem dX6_erase_28 : decode cX6_erase 28 = .ok (.iconst 1, 1) := by decide +kernel
theorem dX6_erase_29 : decode cX6_erase 29 = .ok (.putfield 57, 3) := by decide +kernel
theorem dX6_erase_32 : decode cX6_erase 32 = .ok (.aload_n 0, 1) := by decide +kernel
theorem dX6_erase_33 : decode cX6_erase 33 = .ok (.getfield 26, 3) := by decide +kernel
theorem dX6_erase_36 : decode cX6_erase 36 = .ok (.getfield 96, 3) := by decide +kernel
theorem dX6_erase_39 : decode cX6_erase 39 = .ok (.ireturn, 1) := by decide +kernel
theorem dX6_clear_0 : decode cX6_clear 0 = .ok (.aload_n 0, 1) := by decide +kernel
theorem dX6_clear_1 : decode cX6_clear 1 = .ok (.getfield 10, 3) := by decide +kernel
theorem dX6_clear_4 : decode cX6_clear 4 = .ok (.getfield 73, 3) := by decide +kernel
theorem dX6_clear_7 : decode cX6_clear 7 = .ok (.istore_n 1, 1) := by decide +kernel
theorem dX6_clear_8 : decode cX6_clear 8 = .ok (.aload_n 0, 1) := by decide +kernel
theorem dX6_clear_9 : decode cX6_clear 9 = .ok (.getfield 10, 3) := by decide +kernel
theorem dX6_clear_12 : decode cX6_clear 12 = .ok (.iconst 0, 1) := by decide +kernel
theorem dX6_clear_13 : decode cX6_clear 13 = .ok (.putfield 73, 3) := by decide +kernel
theorem dX6_clear_16 : decode cX6_clear 16 = .ok (.aload_n 0, 1) := by decide +kernel
theorem dX6_clear_17 : decode cX6_clear 17 = .ok (.getfield 26, 3) := by decide +kernel
theorem dX6_clear_20 : decode cX6_clear 20 = .ok (.iconst 0, 1) := by decide +kernel
theorem dX6_clear_21 : decode cX6_clear 21 = .ok (.putfield 96, 3) := by decide +kernel
theorem dX6_clear_24 : decode cX6_clear 24 = .ok (.aload_n 0, 1) := by decide +kernel
theorem dX6_clear_25 : decode cX6_clear 25 = .ok (.iconst 1, 1) := by decide +kernel
theorem dX6_clear_26 : decode cX6_clear 26 = .ok (.putfield 57, 3) := by decide +kernel
theorem dX6_clear_29 : decode cX6_clear 29 = .ok (.iload_n 1, 1) := by decide +kernel
theorem dX6_clear_30 : decode cX6_clear 30 = .ok (.ireturn, 1) := by decide +kernel
theorem dX6_turn_0 : decode cX6_turn 0 = .ok (.aload_n 0, 1) := by decide +kernel
theorem dX6_turn_1 : decode cX6_turn 1 = .ok (.getfield 26, 3) := by decide +kernel
theorem dX6_turn_4 : decode cX6_turn 4 = .ok (.invokevirtual 100, 3) := by decide +kernel
theorem dX6_turn_7 : decode cX6_turn 7 = .ok (.aload_n 0, 1) := by decide +kernel
theorem dX6_turn_8 : decode cX6_turn 8 = .ok (.iconst 1, 1) := by decide +kernel
theorem dX6_turn_9 : decode cX6_turn 9 = .ok (.putfield 57, 3) := by decide +kernel
theorem dX6_turn_12 : decode cX6_turn 12 = .ok (.aload_n 0, 1) := by decide +kernel
theorem dX6_turn_13 : decode cX6_turn 13 = .ok (.getfield 10, 3) := by decide +kernel
theorem dX6_turn_16 : decode cX6_turn 16 = .ok (.invokevirtual 103, 3) := by decide +kernel
theorem dX6_turn_19 : decode cX6_turn 19 = .ok (.ireturn, 1) := by decide +kernel
theorem dX6_ofBlock_0 : decode cX6_ofBlock 0 = .ok (.aload_n 0, 1) := by decide +kernel
theorem dX6_ofBlock_1 : decode cX6_ofBlock 1 = .ok (.getfield 10, 3) := by decide +kernel
theorem dX6_ofBlock_4 : decode cX6_ofBlock 4 = .ok (.iload_n 1, 1) := by decide +kernel
theorem dX6_ofBlock_5 : decode cX6_ofBlock 5 = .ok (.invokevirtual 85, 3) := by decide +kernel
theorem dX6_ofBlock_8 : decode cX6_ofBlock 8 = .ok (.ifCond .ne 5, 3) := by decide +kernel
theorem dX6_ofBlock_11 : decode cX6_ofBlock 11 = .ok (.iconst (-1), 1) := by decide +kernel
theorem dX6_ofBlock_12 : decode cX6_ofBlock 12 = .ok (.ireturn, 1) := by decide +kernel
theorem dX6_ofBlock_13 : decode cX6_ofBlock 13 = .ok (.iload_n 2, 1) := by decide +kernel
theorem dX6_ofBlock_14 : decode cX6_ofBlock 14 = .ok (.tableswitch 130 0 6 #[42, 52, 62, 72, 82, 92, 102], 42) := by decide +kernel
theorem dX6_ofBlock_56 : decode cX6_ofBlock 56 = .ok (.aload_n 0, 1) := by decide +kernel
theorem dX6_ofBlock_57 : decode cX6_ofBlock 57 = .ok (.getfield 10, 3) := by decide +kernel
theorem dX6_ofBlock_60 : decode cX6_ofBlock 60 = .ok (.getfield 106, 3) := by decide +kernel
theorem dX6_ofBlock_63 : decode cX6_ofBlock 63 = .ok (.iload_n 1, 1) := by decide +kernel
theorem dX6_ofBlock_64 : decode cX6_ofBlock 64 = .ok (.iaload, 1) := by decide +kernel
theorem dX6_ofBlock_65 : decode cX6_ofBlock 65 = .ok (.ireturn, 1) := by decide +kernel
theorem dX6_ofBlock_66 : decode cX6_ofBlock 66 = .ok (.aload_n 0, 1) := by decide +kernel
theorem dX6_ofBlock_67 : decode cX6_ofBlock 67 = .ok (.getfield 10, 3) := by decide +kernel
theorem dX6_ofBlock_70 : decode cX6_ofBlock 70 = .ok (.getfield 89, 3) := by decide +kernel
theorem dX6_ofBlock_73 : decode cX6_ofBlock 73 = .ok (.iload_n 1, 1) := by decide +kernel
theorem dX6_ofBlock_74 : decode cX6_ofBlock 74 = .ok (.iaload, 1) := by decide +kernel
theorem dX6_ofBlock_75 : decode cX6_ofBlock 75 = .ok (.ireturn, 1) := by decide +kernel
theorem dX6_ofBlock_76 : decode cX6_ofBlock 76 = .ok (.aload_n 0, 1) := by decide +kernel
theorem dX6_ofBlock_77 : decode cX6_ofBlock 77 = .ok (.getfield 10, 3) := by decide +kernel
theorem dX6_ofBlock_80 : decode cX6_ofBlock 80 = .ok (.getfield 109, 3) := by decide +kernel
theorem dX6_ofBlock_83 : decode cX6_ofBlock 83 = .ok (.iload_n 1, 1) := by decide +kernel
theorem dX6_ofBlock_84 : decode cX6_ofBlock 84 = .ok (.iaload, 1) := by decide +kernel
theorem dX6_ofBlock_85 : decode cX6_ofBlock 85 = .ok (.ireturn, 1) := by decide +kernel
theorem dX6_ofBlock_86 : decode cX6_ofBlock 86 = .ok (.aload_n 0, 1) := by decide +kernel
theorem dX6_ofBlock_87 : decode cX6_ofBlock 87 = .ok (.getfield 10, 3) := by decide +kernel
theorem dX6_ofBlock_90 : decode cX6_ofBlock 90 = .ok (.getfield 112, 3) := by decide +kernel
theorem dX6_ofBlock_93 : decode cX6_ofBlock 93 = .ok (.iload_n 1, 1) := by decide +kernel
theorem dX6_ofBlock_94 : decode cX6_ofBlock 94 = .ok (.iaload, 1) := by decide +kernel
theorem dX6_ofBlock_95 : decode cX6_ofBlock 95 = .ok (.ireturn, 1) := by decide +kernel
theorem dX6_ofBlock_96 : decode cX6_ofBlock 96 = .ok (.aload_n 0, 1) := by decide +kernel
theorem dX6_ofBlock_97 : decode cX6_ofBlock 97 = .ok (.getfield 10, 3) := by decide +kernel
theorem dX6_ofBlock_100 : decode cX6_ofBlock 100 = .ok (.getfield 115, 3) := by decide +kernel
theorem dX6_ofBlock_103 : decode cX6_ofBlock 103 = .ok (.iload_n 1, 1) := by decide +kernel
theorem dX6_ofBlock_104 : decode cX6_ofBlock 104 = .ok (.iaload, 1) := by decide +kernel
theorem dX6_ofBlock_105 : decode cX6_ofBlock 105 = .ok (.ireturn, 1) := by decide +kernel
theorem dX6_ofBlock_106 : decode cX6_ofBlock 106 = .ok (.aload_n 0, 1) := by decide +kernel
theorem dX6_ofBlock_107 : decode cX6_ofBlock 107 = .ok (.getfield 10, 3) := by decide +kernel
theorem dX6_ofBlock_110 : decode cX6_ofBlock 110 = .ok (.getfield 118, 3) := by decide +kernel
theorem dX6_ofBlock_113 : decode cX6_ofBlock 113 = .ok (.iload_n 1, 1) := by decide +kernel
theorem dX6_ofBlock_114 : decode cX6_ofBlock 114 = .ok (.iaload, 1) := by decide +kernel
theorem dX6_ofBlock_115 : decode cX6_ofBlock 115 = .ok (.ireturn, 1) := by decide +kernel
theorem dX6_ofBlock_116 : decode cX6_ofBlock 116 = .ok (.aload_n 0, 1) := by decide +kernel
theorem dX6_ofBlock_117 : decode cX6_ofBlock 117 = .ok (.getfield 10, 3) := by decide +kernel
theorem dX6_ofBlock_120 : decode cX6_ofBlock 120 = .ok (.getfield 89, 3) := by decide +kernel
theorem dX6_ofBlock_123 : decode cX6_ofBlock 123 = .ok (.iload_n 1, 1) := by decide +kernel
theorem dX6_ofBlock_124 : decode cX6_ofBlock 124 = .ok (.iaload, 1) := by decide +kernel
theorem dX6_ofBlock_125 : decode cX6_ofBlock 125 = .ok (.iconst 1, 1) := by decide +kernel
theorem dX6_ofBlock_126 : decode cX6_ofBlock 126 = .ok (.if_icmp .ne 15, 3) := by decide +kernel
theorem dX6_ofBlock_129 : decode cX6_ofBlock 129 = .ok (.aload_n 0, 1) := by decide +kernel
theorem dX6_ofBlock_130 : decode cX6_ofBlock 130 = .ok (.getfield 10, 3) := by decide +kernel
theorem dX6_ofBlock_133 : decode cX6_ofBlock 133 = .ok (.getfield 93, 3) := by decide +kernel
theorem dX6_ofBlock_136 : decode cX6_ofBlock 136 = .ok (.iload_n 1, 1) := by decide +kernel
theorem dX6_ofBlock_137 : decode cX6_ofBlock 137 = .ok (.iaload, 1) := by decide +kernel
theorem dX6_ofBlock_138 : decode cX6_ofBlock 138 = .ok (.goto 5, 3) := by decide +kernel
theorem dX6_ofBlock_141 : decode cX6_ofBlock 141 = .ok (.bipush (-9), 2) := by decide +kernel
theorem dX6_ofBlock_143 : decode cX6_ofBlock 143 = .ok (.ireturn, 1) := by decide +kernel
theorem dX6_ofBlock_144 : decode cX6_ofBlock 144 = .ok (.bipush (-2), 2) := by decide +kernel
theorem dX6_ofBlock_146 : decode cX6_ofBlock 146 = .ok (.ireturn, 1) := by decide +kernel
theorem dX6_ofLine_0 : decode cX6_ofLine 0 = .ok (.aload_n 0, 1) := by decide +kernel
theorem dX6_ofLine_1 : decode cX6_ofLine 1 = .ok (.getfield 26, 3) := by decide +kernel
theorem dX6_ofLine_4 : decode cX6_ofLine 4 = .ok (.iload_n 1, 1) := by decide +kernel
theorem dX6_ofLine_5 : decode cX6_ofLine 5 = .ok (.invokevirtual 121, 3) := by decide +kernel
theorem dX6_ofLine_8 : decode cX6_ofLine 8 = .ok (.ifCond .ne 5, 3) := by decide +kernel
theorem dX6_ofLine_11 : decode cX6_ofLine 11 = .ok (.iconst (-1), 1) := by decide +kernel
theorem dX6_ofLine_12 : decode cX6_ofLine 12 = .ok (.ireturn, 1) := by decide +kernel
theorem dX6_ofLine_13 : decode cX6_ofLine 13 = .ok (.iload_n 2, 1) := by decide +kernel
theorem dX6_ofLine_14 : decode cX6_ofLine 14 = .ok (.tableswitch 84 0 4 #[34, 44, 54, 64, 74], 34) := by decide +kernel
theorem dX6_ofLine_48 : decode cX6_ofLine 48 = .ok (.aload_n 0, 1) := by decide +kernel
theorem dX6_ofLine_49 : decode cX6_ofLine 49 = .ok (.getfield 26, 3) := by decide +kernel
theorem dX6_ofLine_52 : decode cX6_ofLine 52 = .ok (.getfield 122, 3) := by decide +kernel
theorem dX6_ofLine_55 : decode cX6_ofLine 55 = .ok (.iload_n 1, 1) := by decide +kernel
theorem dX6_ofLine_56 : decode cX6_ofLine 56 = .ok (.iaload, 1) := by decide +kernel
theorem dX6_ofLine_57 : decode cX6_ofLine 57 = .ok (.ireturn, 1) := by decide +kernel
theorem dX6_ofLine_58 : decode cX6_ofLine 58 = .ok (.aload_n 0, 1) := by decide +kernel
theorem dX6_ofLine_59 : decode cX6_ofLine 59 = .ok (.getfield 26, 3) := by decide +kernel
theorem dX6_ofLine_62 : decode cX6_ofLine 62 = .ok (.getfield 123, 3) := by decide +kernel
theorem dX6_ofLine_65 : decode cX6_ofLine 65 = .ok (.iload_n 1, 1) := by decide +kernel
theorem dX6_ofLine_66 : decode cX6_ofLine 66 = .ok (.iaload, 1) := by decide +kernel
theorem dX6_ofLine_67 : decode cX6_ofLine 67 = .ok (.ireturn, 1) := by decide +kernel
theorem dX6_ofLine_68 : decode cX6_ofLine 68 = .ok (.aload_n 0, 1) := by decide +kernel
theorem dX6_ofLine_69 : decode cX6_ofLine 69 = .ok (.getfield 26, 3) := by decide +kernel
theorem dX6_ofLine_72 : decode cX6_ofLine 72 = .ok (.getfield 126, 3) := by decide +kernel
theorem dX6_ofLine_75 : decode cX6_ofLine 75 = .ok (.iload_n 1, 1) := by decide +kernel
theorem dX6_ofLine_76 : decode cX6_ofLine 76 = .ok (.iaload, 1) := by decide +kernel
theorem dX6_ofLine_77 : decode cX6_ofLine 77 = .ok (.ireturn, 1) := by decide +kernel
theorem dX6_ofLine_78 : decode cX6_ofLine 78 = .ok (.aload_n 0, 1) := by decide +kernel
theorem dX6_ofLine_79 : decode cX6_ofLine 79 = .ok (.getfield 26, 3) := by decide +kernel
theorem dX6_ofLine_82 : decode cX6_ofLine 82 = .ok (.getfield 129, 3) := by decide +kernel
theorem dX6_ofLine_85 : decode cX6_ofLine 85 = .ok (.iload_n 1, 1) := by decide +kernel
theorem dX6_ofLine_86 : decode cX6_ofLine 86 = .ok (.iaload, 1) := by decide +kernel
theorem dX6_ofLine_87 : decode cX6_ofLine 87 = .ok (.ireturn, 1) := by decide +kernel
theorem dX6_ofLine_88 : decode cX6_ofLine 88 = .ok (.aload_n 0, 1) := by decide +kernel
theorem dX6_ofLine_89 : decode cX6_ofLine 89 = .ok (.getfield 26, 3) := by decide +kernel
theorem dX6_ofLine_92 : decode cX6_ofLine 92 = .ok (.getfield 132, 3) := by decide +kernel
theorem dX6_ofLine_95 : decode cX6_ofLine 95 = .ok (.iload_n 1, 1) := by decide +kernel
theorem dX6_ofLine_96 : decode cX6_ofLine 96 = .ok (.iaload, 1) := by decide +kernel
theorem dX6_ofLine_97 : decode cX6_ofLine 97 = .ok (.ireturn, 1) := by decide +kernel
theorem dX6_ofLine_98 : decode cX6_ofLine 98 = .ok (.bipush (-2), 2) := by decide +kernel
theorem dX6_ofLine_100 : decode cX6_ofLine 100 = .ok (.ireturn, 1) := by decide +kernel
theorem dX6_at_0 : decode cX6_at 0 = .ok (.iload_n 1, 1) := by decide +kernel
theorem dX6_at_1 : decode cX6_at 1 = .ok (.iconst 4, 1) := by decide +kernel
theorem dX6_at_2 : decode cX6_at 2 = .ok (.invokestatic 61, 3) := by decide +kernel
theorem dX6_at_5 : decode cX6_at 5 = .ok (.ifCond .eq 21, 3) := by decide +kernel
theorem dX6_at_8 : decode cX6_at 8 = .ok (.iload_n 2, 1) := by decide +kernel
theorem dX6_at_9 : decode cX6_at 9 = .ok (.bipush 8, 2) := by decide +kernel
theorem dX6_at_11 : decode cX6_at 11 = .ok (.invokestatic 61, 3) := by decide +kernel
theorem dX6_at_14 : decode cX6_at 14 = .ok (.ifCond .eq 12, 3) := by decide +kernel
theorem dX6_at_17 : decode cX6_at 17 = .ok (.iload_n 3, 1) := by decide +kernel
theorem dX6_at_18 : decode cX6_at 18 = .ok (.bipush 30, 2) := by decide +kernel
theorem dX6_at_20 : decode cX6_at 20 = .ok (.invokestatic 61, 3) := by decide +kernel
theorem dX6_at_23 : decode cX6_at 23 = .ok (.ifCond .ne 6, 3) := by decide +kernel
theorem dX6_at_26 : decode cX6_at 26 = .ok (.bipush (-2), 2) := by decide +kernel
theorem dX6_at_28 : decode cX6_at 28 = .ok (.ireturn, 1) := by decide +kernel
theorem dX6_at_29 : decode cX6_at 29 = .ok (.aload_n 0, 1) := by decide +kernel
theorem dX6_at_30 : decode cX6_at 30 = .ok (.getfield 10, 3) := by decide +kernel
theorem dX6_at_33 : decode cX6_at 33 = .ok (.iload_n 1, 1) := by decide +kernel
theorem dX6_at_34 : decode cX6_at 34 = .ok (.iload_n 2, 1) := by decide +kernel
theorem dX6_at_35 : decode cX6_at 35 = .ok (.iload_n 2, 1) := by decide +kernel
theorem dX6_at_36 : decode cX6_at 36 = .ok (.iload_n 3, 1) := by decide +kernel
theorem dX6_at_37 : decode cX6_at 37 = .ok (.iload_n 3, 1) := by decide +kernel
theorem dX6_at_38 : decode cX6_at 38 = .ok (.invokevirtual 135, 3) := by decide +kernel
theorem dX6_at_41 : decode cX6_at 41 = .ok (.ireturn, 1) := by decide +kernel
theorem dX6_reach_0 : decode cX6_reach 0 = .ok (.aload_n 0, 1) := by decide +kernel
theorem dX6_reach_1 : decode cX6_reach 1 = .ok (.getfield 10, 3) := by decide +kernel
theorem dX6_reach_4 : decode cX6_reach 4 = .ok (.iload_n 1, 1) := by decide +kernel
theorem dX6_reach_5 : decode cX6_reach 5 = .ok (.invokevirtual 85, 3) := by decide +kernel
theorem dX6_reach_8 : decode cX6_reach 8 = .ok (.ifCond .eq 15, 3) := by decide +kernel
theorem dX6_reach_11 : decode cX6_reach 11 = .ok (.aload_n 0, 1) := by decide +kernel
theorem dX6_reach_12 : decode cX6_reach 12 = .ok (.getfield 10, 3) := by decide +kernel
theorem dX6_reach_15 : decode cX6_reach 15 = .ok (.getfield 89, 3) := by decide +kernel
theorem dX6_reach_18 : decode cX6_reach 18 = .ok (.iload_n 1, 1) := by decide +kernel
theorem dX6_reach_19 : decode cX6_reach 19 = .ok (.iaload, 1) := by decide +kernel
theorem dX6_reach_20 : decode cX6_reach 20 = .ok (.ifCond .eq 5, 3) := by decide +kernel
theorem dX6_reach_23 : decode cX6_reach 23 = .ok (.iconst (-1), 1) := by decide +kernel
theorem dX6_reach_24 : decode cX6_reach 24 = .ok (.ireturn, 1) := by decide +kernel
theorem dX6_reach_25 : decode cX6_reach 25 = .ok (.iload_n 2, 1) := by decide +kernel
theorem dX6_reach_26 : decode cX6_reach 26 = .ok (.bipush 8, 2) := by decide +kernel
theorem dX6_reach_28 : decode cX6_reach 28 = .ok (.invokestatic 61, 3) := by decide +kernel
theorem dX6_reach_31 : decode cX6_reach 31 = .ok (.ifCond .ne 6, 3) := by decide +kernel
theorem dX6_reach_34 : decode cX6_reach 34 = .ok (.bipush (-2), 2) := by decide +kernel
theorem dX6_reach_36 : decode cX6_reach 36 = .ok (.ireturn, 1) := by decide +kernel
theorem dX6_reach_37 : decode cX6_reach 37 = .ok (.aload_n 0, 1) := by decide +kernel
theorem dX6_reach_38 : decode cX6_reach 38 = .ok (.getfield 35, 3) := by decide +kernel
theorem dX6_reach_41 : decode cX6_reach 41 = .ok (.iload_n 1, 1) := by decide +kernel
theorem dX6_reach_42 : decode cX6_reach 42 = .ok (.iload_n 2, 1) := by decide +kernel
theorem dX6_reach_43 : decode cX6_reach 43 = .ok (.invokevirtual 138, 3) := by decide +kernel
theorem dX6_reach_46 : decode cX6_reach 46 = .ok (.ireturn, 1) := by decide +kernel
theorem dX6_under_0 : decode cX6_under 0 = .ok (.aload_n 0, 1) := by decide +kernel
theorem dX6_under_1 : decode cX6_under 1 = .ok (.getfield 10, 3) := by decide +kernel
theorem dX6_under_4 : decode cX6_under 4 = .ok (.iload_n 1, 1) := by decide +kernel
theorem dX6_under_5 : decode cX6_under 5 = .ok (.invokevirtual 85, 3) := by decide +kernel
theorem dX6_under_8 : decode cX6_under 8 = .ok (.ifCond .ne 5, 3) := by decide +kernel
theorem dX6_under_11 : decode cX6_under 11 = .ok (.iconst (-1), 1) := by decide +kernel
theorem dX6_under_12 : decode cX6_under 12 = .ok (.ireturn, 1) := by decide +kernel
theorem dX6_under_13 : decode cX6_under 13 = .ok (.aload_n 0, 1) := by decide +kernel
theorem dX6_under_14 : decode cX6_under 14 = .ok (.getfield 10, 3) := by decide +kernel
theorem dX6_under_17 : decode cX6_under 17 = .ok (.getfield 89, 3) := by decide +kernel
theorem dX6_under_20 : decode cX6_under 20 = .ok (.iload_n 1, 1) := by decide +kernel
theorem dX6_under_21 : decode cX6_under 21 = .ok (.iaload, 1) := by decide +kernel
theorem dX6_under_22 : decode cX6_under 22 = .ok (.ifCond .ne 6, 3) := by decide +kernel
theorem dX6_under_25 : decode cX6_under 25 = .ok (.bipush (-3), 2) := by decide +kernel
theorem dX6_under_27 : decode cX6_under 27 = .ok (.ireturn, 1) := by decide +kernel
theorem dX6_under_28 : decode cX6_under 28 = .ok (.aload_n 0, 1) := by decide +kernel
theorem dX6_under_29 : decode cX6_under 29 = .ok (.invokevirtual 142, 3) := by decide +kernel
theorem dX6_under_32 : decode cX6_under 32 = .ok (.aload_n 0, 1) := by decide +kernel
theorem dX6_under_33 : decode cX6_under 33 = .ok (.getfield 44, 3) := by decide +kernel
theorem dX6_under_36 : decode cX6_under 36 = .ok (.getfield 145, 3) := by decide +kernel
theorem dX6_under_39 : decode cX6_under 39 = .ok (.iload_n 1, 1) := by decide +kernel
theorem dX6_under_40 : decode cX6_under 40 = .ok (.iaload, 1) := by decide +kernel
theorem dX6_under_41 : decode cX6_under 41 = .ok (.ireturn, 1) := by decide +kernel
theorem dX6_story_0 : decode cX6_story 0 = .ok (.aload_n 0, 1) := by decide +kernel
theorem dX6_story_1 : decode cX6_story 1 = .ok (.getfield 10, 3) := by decide +kernel
theorem dX6_story_4 : decode cX6_story 4 = .ok (.iload_n 1, 1) := by decide +kernel
theorem dX6_story_5 : decode cX6_story 5 = .ok (.invokevirtual 85, 3) := by decide +kernel
theorem dX6_story_8 : decode cX6_story 8 = .ok (.ifCond .ne 5, 3) := by decide +kernel
theorem dX6_story_11 : decode cX6_story 11 = .ok (.iconst (-1), 1) := by decide +kernel
theorem dX6_story_12 : decode cX6_story 12 = .ok (.ireturn, 1) := by decide +kernel
theorem dX6_story_13 : decode cX6_story 13 = .ok (.aload_n 0, 1) := by decide +kernel
theorem dX6_story_14 : decode cX6_story 14 = .ok (.invokevirtual 142, 3) := by decide +kernel
theorem dX6_story_17 : decode cX6_story 17 = .ok (.aload_n 0, 1) := by decide +kernel
theorem dX6_story_18 : decode cX6_story 18 = .ok (.getfield 44, 3) := by decide +kernel
theorem dX6_story_21 : decode cX6_story 21 = .ok (.getfield 148, 3) := by decide +kernel
theorem dX6_story_24 : decode cX6_story 24 = .ok (.iload_n 1, 1) := by decide +kernel
theorem dX6_story_25 : decode cX6_story 25 = .ok (.iaload, 1) := by decide +kernel
theorem dX6_story_26 : decode cX6_story 26 = .ok (.ireturn, 1) := by decide +kernel
theorem dX6_takenBy_0 : decode cX6_takenBy 0 = .ok (.aload_n 0, 1) := by decide +kernel
theorem dX6_takenBy_1 : decode cX6_takenBy 1 = .ok (.getfield 10, 3) := by decide +kernel
theorem dX6_takenBy_4 : decode cX6_takenBy 4 = .ok (.iload_n 1, 1) := by decide +kernel
theorem dX6_takenBy_5 : decode cX6_takenBy 5 = .ok (.invokevirtual 85, 3) := by decide +kernel
theorem dX6_takenBy_8 : decode cX6_takenBy 8 = .ok (.ifCond .ne 5, 3) := by decide +kernel
theorem dX6_takenBy_11 : decode cX6_takenBy 11 = .ok (.iconst (-1), 1) := by decide +kernel
theorem dX6_takenBy_12 : decode cX6_takenBy 12 = .ok (.ireturn, 1) := by decide +kernel
theorem dX6_takenBy_13 : decode cX6_takenBy 13 = .ok (.aload_n 0, 1) := by decide +kernel
theorem dX6_takenBy_14 : decode cX6_takenBy 14 = .ok (.getfield 10, 3) := by decide +kernel
theorem dX6_takenBy_17 : decode cX6_takenBy 17 = .ok (.getfield 89, 3) := by decide +kernel
theorem dX6_takenBy_20 : decode cX6_takenBy 20 = .ok (.iload_n 1, 1) := by decide +kernel
theorem dX6_takenBy_21 : decode cX6_takenBy 21 = .ok (.iaload, 1) := by decide +kernel
theorem dX6_takenBy_22 : decode cX6_takenBy 22 = .ok (.iconst 1, 1) := by decide +kernel
theorem dX6_takenBy_23 : decode cX6_takenBy 23 = .ok (.if_icmp .eq 6, 3) := by decide +kernel
theorem dX6_takenBy_26 : decode cX6_takenBy 26 = .ok (.bipush (-3), 2) := by decide +kernel
theorem dX6_takenBy_28 : decode cX6_takenBy 28 = .ok (.ireturn, 1) := by decide +kernel
theorem dX6_takenBy_29 : decode cX6_takenBy 29 = .ok (.aload_n 0, 1) := by decide +kernel
theorem dX6_takenBy_30 : decode cX6_takenBy 30 = .ok (.invokevirtual 142, 3) := by decide +kernel
theorem dX6_takenBy_33 : decode cX6_takenBy 33 = .ok (.aload_n 0, 1) := by decide +kernel
theorem dX6_takenBy_34 : decode cX6_takenBy 34 = .ok (.getfield 44, 3) := by decide +kernel
theorem dX6_takenBy_37 : decode cX6_takenBy 37 = .ok (.getfield 151, 3) := by decide +kernel
theorem dX6_takenBy_40 : decode cX6_takenBy 40 = .ok (.iload_n 1, 1) := by decide +kernel
theorem dX6_takenBy_41 : decode cX6_takenBy 41 = .ok (.iaload, 1) := by decide +kernel
theorem dX6_takenBy_42 : decode cX6_takenBy 42 = .ok (.ireturn, 1) := by decide +kernel
theorem dX6_ofStory_0 : decode cX6_ofStory 0 = .ok (.aload_n 0, 1) := by decide +kernel
theorem dX6_ofStory_1 : decode cX6_ofStory 1 = .ok (.invokevirtual 142, 3) := by decide +kernel
theorem dX6_ofStory_4 : decode cX6_ofStory 4 = .ok (.aload_n 0, 1) := by decide +kernel
theorem dX6_ofStory_5 : decode cX6_ofStory 5 = .ok (.getfield 44, 3) := by decide +kernel
theorem dX6_ofStory_8 : decode cX6_ofStory 8 = .ok (.iload_n 1, 1) := by decide +kernel
theorem dX6_ofStory_9 : decode cX6_ofStory 9 = .ok (.invokevirtual 154, 3) := by decide +kernel
theorem dX6_ofStory_12 : decode cX6_ofStory 12 = .ok (.ifCond .ne 5, 3) := by decide +kernel
theorem dX6_ofStory_15 : decode cX6_ofStory 15 = .ok (.iconst (-1), 1) := by decide +kernel
theorem dX6_ofStory_16 : decode cX6_ofStory 16 = .ok (.ireturn, 1) := by decide +kernel
theorem dX6_ofStory_17 : decode cX6_ofStory 17 = .ok (.iload_n 2, 1) := by decide +kernel
theorem dX6_ofStory_18 : decode cX6_ofStory 18 = .ok (.tableswitch 142 0 8 #[50, 59, 68, 77, 86, 95, 105, 115, 125], 50) := by decide +kernel
theorem dX6_ofStory_68 : decode cX6_ofStory 68 = .ok (.aload_n 0, 1) := by decide +kernel
theorem dX6_ofStory_69 : decode cX6_ofStory 69 = .ok (.getfield 44, 3) := by decide +kernel
theorem dX6_ofStory_72 : decode cX6_ofStory 72 = .ok (.iload_n 1, 1) := by decide +kernel
theorem dX6_ofStory_73 : decode cX6_ofStory 73 = .ok (.invokevirtual 155, 3) := by decide +kernel
theorem dX6_ofStory_76 : decode cX6_ofStory 76 = .ok (.ireturn, 1) := by decide +kernel
theorem dX6_ofStory_77 : decode cX6_ofStory 77 = .ok (.aload_n 0, 1) := by decide +kernel
theorem dX6_ofStory_78 : decode cX6_ofStory 78 = .ok (.getfield 44, 3) := by decide +kernel
theorem dX6_ofStory_81 : decode cX6_ofStory 81 = .ok (.iload_n 1, 1) := by decide +kernel
theorem dX6_ofStory_82 : decode cX6_ofStory 82 = .ok (.invokevirtual 159, 3) := by decide +kernel
theorem dX6_ofStory_85 : decode cX6_ofStory 85 = .ok (.ireturn, 1) := by decide +kernel
theorem dX6_ofStory_86 : decode cX6_ofStory 86 = .ok (.aload_n 0, 1) := by decide +kernel
theorem dX6_ofStory_87 : decode cX6_ofStory 87 = .ok (.getfield 44, 3) := by decide +kernel
theorem dX6_ofStory_90 : decode cX6_ofStory 90 = .ok (.iload_n 1, 1) := by decide +kernel
theorem dX6_ofStory_91 : decode cX6_ofStory 91 = .ok (.invokevirtual 162, 3) := by decide +kernel
theorem dX6_ofStory_94 : decode cX6_ofStory 94 = .ok (.ireturn, 1) := by decide +kernel
theorem dX6_ofStory_95 : decode cX6_ofStory 95 = .ok (.aload_n 0, 1) := by decide +kernel
theorem dX6_ofStory_96 : decode cX6_ofStory 96 = .ok (.getfield 44, 3) := by decide +kernel
theorem dX6_ofStory_99 : decode cX6_ofStory 99 = .ok (.iload_n 1, 1) := by decide +kernel
theorem dX6_ofStory_100 : decode cX6_ofStory 100 = .ok (.invokevirtual 165, 3) := by decide +kernel
theorem dX6_ofStory_103 : decode cX6_ofStory 103 = .ok (.ireturn, 1) := by decide +kernel
theorem dX6_ofStory_104 : decode cX6_ofStory 104 = .ok (.aload_n 0, 1) := by decide +kernel
theorem dX6_ofStory_105 : decode cX6_ofStory 105 = .ok (.getfield 44, 3) := by decide +kernel
theorem dX6_ofStory_108 : decode cX6_ofStory 108 = .ok (.iload_n 1, 1) := by decide +kernel
theorem dX6_ofStory_109 : decode cX6_ofStory 109 = .ok (.invokevirtual 168, 3) := by decide +kernel
theorem dX6_ofStory_112 : decode cX6_ofStory 112 = .ok (.ireturn, 1) := by decide +kernel
theorem dX6_ofStory_113 : decode cX6_ofStory 113 = .ok (.aload_n 0, 1) := by decide +kernel
theorem dX6_ofStory_114 : decode cX6_ofStory 114 = .ok (.getfield 53, 3) := by decide +kernel
theorem dX6_ofStory_117 : decode cX6_ofStory 117 = .ok (.getfield 171, 3) := by decide +kernel
theorem dX6_ofStory_120 : decode cX6_ofStory 120 = .ok (.iload_n 1, 1) := by decide +kernel
theorem dX6_ofStory_121 : decode cX6_ofStory 121 = .ok (.iaload, 1) := by decide +kernel
theorem dX6_ofStory_122 : decode cX6_ofStory 122 = .ok (.ireturn, 1) := by decide +kernel
theorem dX6_ofStory_123 : decode cX6_ofStory 123 = .ok (.aload_n 0, 1) := by decide +kernel
theorem dX6_ofStory_124 : decode cX6_ofStory 124 = .ok (.getfield 53, 3) := by decide +kernel
theorem dX6_ofStory_127 : decode cX6_ofStory 127 = .ok (.getfield 174, 3) := by decide +kernel
theorem dX6_ofStory_130 : decode cX6_ofStory 130 = .ok (.iload_n 1, 1) := by decide +kernel
theorem dX6_ofStory_131 : decode cX6_ofStory 131 = .ok (.iaload, 1) := by decide +kernel
theorem dX6_ofStory_132 : decode cX6_ofStory 132 = .ok (.ireturn, 1) := by decide +kernel
theorem dX6_ofStory_133 : decode cX6_ofStory 133 = .ok (.aload_n 0, 1) := by decide +kernel
theorem dX6_ofStory_134 : decode cX6_ofStory 134 = .ok (.getfield 53, 3) := by decide +kernel
theorem dX6_ofStory_137 : decode cX6_ofStory 137 = .ok (.getfield 177, 3) := by decide +kernel
theorem dX6_ofStory_140 : decode cX6_ofStory 140 = .ok (.iload_n 1, 1) := by decide +kernel
theorem dX6_ofStory_141 : decode cX6_ofStory 141 = .ok (.iaload, 1) := by decide +kernel
theorem dX6_ofStory_142 : decode cX6_ofStory 142 = .ok (.ireturn, 1) := by decide +kernel
theorem dX6_ofStory_143 : decode cX6_ofStory 143 = .ok (.aload_n 0, 1) := by decide +kernel
theorem dX6_ofStory_144 : decode cX6_ofStory 144 = .ok (.getfield 53, 3) := by decide +kernel
theorem dX6_ofStory_147 : decode cX6_ofStory 147 = .ok (.iload_n 1, 1) := by decide +kernel
theorem dX6_ofStory_148 : decode cX6_ofStory 148 = .ok (.invokevirtual 180, 3) := by decide +kernel
theorem dX6_ofStory_151 : decode cX6_ofStory 151 = .ok (.ifCond .eq 7, 3) := by decide +kernel
theorem dX6_ofStory_154 : decode cX6_ofStory 154 = .ok (.iconst 1, 1) := by decide +kernel
theorem dX6_ofStory_155 : decode cX6_ofStory 155 = .ok (.goto 4, 3) := by decide +kernel
theorem dX6_ofStory_158 : decode cX6_ofStory 158 = .ok (.iconst 0, 1) := by decide +kernel
theorem dX6_ofStory_159 : decode cX6_ofStory 159 = .ok (.ireturn, 1) := by decide +kernel
theorem dX6_ofStory_160 : decode cX6_ofStory 160 = .ok (.bipush (-2), 2) := by decide +kernel
theorem dX6_ofStory_162 : decode cX6_ofStory 162 = .ok (.ireturn, 1) := by decide +kernel
theorem dX6_text_0 : decode cX6_text 0 = .ok (.aload_n 0, 1) := by decide +kernel
theorem dX6_text_1 : decode cX6_text 1 = .ok (.invokevirtual 142, 3) := by decide +kernel
theorem dX6_text_4 : decode cX6_text 4 = .ok (.aload_n 0, 1) := by decide +kernel
theorem dX6_text_5 : decode cX6_text 5 = .ok (.getfield 44, 3) := by decide +kernel
theorem dX6_text_8 : decode cX6_text 8 = .ok (.iload_n 1, 1) := by decide +kernel
theorem dX6_text_9 : decode cX6_text 9 = .ok (.invokevirtual 154, 3) := by decide +kernel
theorem dX6_text_12 : decode cX6_text 12 = .ok (.ifCond .ne 5, 3) := by decide +kernel
theorem dX6_text_15 : decode cX6_text 15 = .ok (.iconst (-1), 1) := by decide +kernel
theorem dX6_text_16 : decode cX6_text 16 = .ok (.ireturn, 1) := by decide +kernel
theorem dX6_text_17 : decode cX6_text 17 = .ok (.iload_n 2, 1) := by decide +kernel
theorem dX6_text_18 : decode cX6_text 18 = .ok (.bipush 24, 2) := by decide +kernel
theorem dX6_text_20 : decode cX6_text 20 = .ok (.invokestatic 61, 3) := by decide +kernel
theorem dX6_text_23 : decode cX6_text 23 = .ok (.ifCond .ne 6, 3) := by decide +kernel
theorem dX6_text_26 : decode cX6_text 26 = .ok (.bipush (-2), 2) := by decide +kernel
theorem dX6_text_28 : decode cX6_text 28 = .ok (.ireturn, 1) := by decide +kernel
theorem dX6_text_29 : decode cX6_text 29 = .ok (.aload_n 0, 1) := by decide +kernel
theorem dX6_text_30 : decode cX6_text 30 = .ok (.getfield 44, 3) := by decide +kernel
theorem dX6_text_33 : decode cX6_text 33 = .ok (.iload_n 1, 1) := by decide +kernel
theorem dX6_text_34 : decode cX6_text 34 = .ok (.iload_n 2, 1) := by decide +kernel
theorem dX6_text_35 : decode cX6_text 35 = .ok (.invokevirtual 183, 3) := by decide +kernel
theorem dX6_text_38 : decode cX6_text 38 = .ok (.ireturn, 1) := by decide +kernel
theorem dX6_mark_0 : decode cX6_mark 0 = .ok (.aload_n 0, 1) := by decide +kernel
