abbrev vwCl : List vw_C := [(RX0, TX0, 11), (RX1, TX1, 8), (RX2, TX2, 6), (RX3, TX3, 2), (RX4, TX4, 2), (RX5, TX5, 11), (RX6, TX6, 7), (RX7, TX7, 34)]
theorem dX0_init_0 : decode cX0_init 0 = .ok (.aload_n 0, 1) := by decide +kernel
theorem dX0_init_1 : decode cX0_init 1 = .ok (.invokespecial 3, 3) := by decide +kernel
theorem dX0_init_4 : decode cX0_init 4 = .ok (.aload_n 0, 1) := by decide +kernel
theorem dX0_init_5 : decode cX0_init 5 = .ok (.bipush 24, 2) := by decide +kernel
theorem dX0_init_7 : decode cX0_init 7 = .ok (.newarray .int, 2) := by decide +kernel
theorem dX0_init_9 : decode cX0_init 9 = .ok (.putfield 9, 3) := by decide +kernel
theorem dX0_init_12 : decode cX0_init 12 = .ok (.aload_n 0, 1) := by decide +kernel
theorem dX0_init_13 : decode cX0_init 13 = .ok (.bipush 24, 2) := by decide +kernel
theorem dX0_init_15 : decode cX0_init 15 = .ok (.newarray .int, 2) := by decide +kernel
theorem dX0_init_17 : decode cX0_init 17 = .ok (.putfield 15, 3) := by decide +kernel
theorem dX0_init_20 : decode cX0_init 20 = .ok (.aload_n 0, 1) := by decide +kernel
theorem dX0_init_21 : decode cX0_init 21 = .ok (.bipush 24, 2) := by decide +kernel
theorem dX0_init_23 : decode cX0_init 23 = .ok (.newarray .int, 2) := by decide +kernel
theorem dX0_init_25 : decode cX0_init 25 = .ok (.putfield 18, 3) := by decide +kernel
theorem dX0_init_28 : decode cX0_init 28 = .ok (.aload_n 0, 1) := by decide +kernel
theorem dX0_init_29 : decode cX0_init 29 = .ok (.bipush 24, 2) := by decide +kernel
theorem dX0_init_31 : decode cX0_init 31 = .ok (.newarray .int, 2) := by decide +kernel
theorem dX0_init_33 : decode cX0_init 33 = .ok (.putfield 21, 3) := by decide +kernel
theorem dX0_init_36 : decode cX0_init 36 = .ok (.aload_n 0, 1) := by decide +kernel
theorem dX0_init_37 : decode cX0_init 37 = .ok (.bipush 24, 2) := by decide +kernel
theorem dX0_init_39 : decode cX0_init 39 = .ok (.newarray .int, 2) := by decide +kernel
theorem dX0_init_41 : decode cX0_init 41 = .ok (.putfield 24, 3) := by decide +kernel
theorem dX0_init_44 : decode cX0_init 44 = .ok (.aload_n 0, 1) := by decide +kernel
theorem dX0_init_45 : decode cX0_init 45 = .ok (.bipush 24, 2) := by decide +kernel
theorem dX0_init_47 : decode cX0_init 47 = .ok (.newarray .int, 2) := by decide +kernel
theorem dX0_init_49 : decode cX0_init 49 = .ok (.putfield 27, 3) := by decide +kernel
theorem dX0_init_52 : decode cX0_init 52 = .ok (.aload_n 0, 1) := by decide +kernel
theorem dX0_init_53 : decode cX0_init 53 = .ok (.bipush 24, 2) := by decide +kernel
theorem dX0_init_55 : decode cX0_init 55 = .ok (.newarray .int, 2) := by decide +kernel
theorem dX0_init_57 : decode cX0_init 57 = .ok (.putfield 30, 3) := by decide +kernel
theorem dX0_init_60 : decode cX0_init 60 = .ok (.aload_n 0, 1) := by decide +kernel
theorem dX0_init_61 : decode cX0_init 61 = .ok (.aload_n 1, 1) := by decide +kernel
theorem dX0_init_62 : decode cX0_init 62 = .ok (.putfield 33, 3) := by decide +kernel
theorem dX0_init_65 : decode cX0_init 65 = .ok (.aload_n 0, 1) := by decide +kernel
theorem dX0_init_66 : decode cX0_init 66 = .ok (.aload_n 2, 1) := by decide +kernel
theorem dX0_init_67 : decode cX0_init 67 = .ok (.putfield 37, 3) := by decide +kernel
theorem dX0_init_70 : decode cX0_init 70 = .ok (.aload_n 0, 1) := by decide +kernel
theorem dX0_init_71 : decode cX0_init 71 = .ok (.aload_n 3, 1) := by decide +kernel
theorem dX0_init_72 : decode cX0_init 72 = .ok (.putfield 41, 3) := by decide +kernel
theorem dX0_init_75 : decode cX0_init 75 = .ok (.return_, 1) := by decide +kernel
theorem dX0_build_0 : decode cX0_build 0 = .ok (.aload_n 0, 1) := by decide +kernel
theorem dX0_build_1 : decode cX0_build 1 = .ok (.iconst 0, 1) := by decide +kernel
theorem dX0_build_2 : decode cX0_build 2 = .ok (.putfield 45, 3) := by decide +kernel
theorem dX0_build_5 : decode cX0_build 5 = .ok (.iconst 0, 1) := by decide +kernel
theorem dX0_build_6 : decode cX0_build 6 = .ok (.istore_n 1, 1) := by decide +kernel
theorem dX0_build_7 : decode cX0_build 7 = .ok (.iload_n 1, 1) := by decide +kernel
theorem dX0_build_8 : decode cX0_build 8 = .ok (.aload_n 0, 1) := by decide +kernel
theorem dX0_build_9 : decode cX0_build 9 = .ok (.getfield 41, 3) := by decide +kernel
theorem dX0_build_12 : decode cX0_build 12 = .ok (.getfield 49, 3) := by decide +kernel
theorem dX0_build_15 : decode cX0_build 15 = .ok (.if_icmp .ge 44, 3) := by decide +kernel
theorem dX0_build_18 : decode cX0_build 18 = .ok (.aload_n 0, 1) := by decide +kernel
theorem dX0_build_19 : decode cX0_build 19 = .ok (.getfield 9, 3) := by decide +kernel
theorem dX0_build_22 : decode cX0_build 22 = .ok (.iload_n 1, 1) := by decide +kernel
theorem dX0_build_23 : decode cX0_build 23 = .ok (.aload_n 0, 1) := by decide +kernel
theorem dX0_build_24 : decode cX0_build 24 = .ok (.iload_n 1, 1) := by decide +kernel
theorem dX0_build_25 : decode cX0_build 25 = .ok (.invokevirtual 52, 3) := by decide +kernel
theorem dX0_build_28 : decode cX0_build 28 = .ok (.iastore, 1) := by decide +kernel
theorem dX0_build_29 : decode cX0_build 29 = .ok (.aload_n 0, 1) := by decide +kernel
theorem dX0_build_30 : decode cX0_build 30 = .ok (.getfield 15, 3) := by decide +kernel
theorem dX0_build_33 : decode cX0_build 33 = .ok (.iload_n 1, 1) := by decide +kernel
theorem dX0_build_34 : decode cX0_build 34 = .ok (.bipush (-9), 2) := by decide +kernel
theorem dX0_build_36 : decode cX0_build 36 = .ok (.iastore, 1) := by decide +kernel
theorem dX0_build_37 : decode cX0_build 37 = .ok (.aload_n 0, 1) := by decide +kernel
theorem dX0_build_38 : decode cX0_build 38 = .ok (.getfield 18, 3) := by decide +kernel
theorem dX0_build_41 : decode cX0_build 41 = .ok (.iload_n 1, 1) := by decide +kernel
theorem dX0_build_42 : decode cX0_build 42 = .ok (.bipush (-9), 2) := by decide +kernel
theorem dX0_build_44 : decode cX0_build 44 = .ok (.iastore, 1) := by decide +kernel
theorem dX0_build_45 : decode cX0_build 45 = .ok (.aload_n 0, 1) := by decide +kernel
theorem dX0_build_46 : decode cX0_build 46 = .ok (.getfield 21, 3) := by decide +kernel
theorem dX0_build_49 : decode cX0_build 49 = .ok (.iload_n 1, 1) := by decide +kernel
theorem dX0_build_50 : decode cX0_build 50 = .ok (.bipush (-9), 2) := by decide +kernel
theorem dX0_build_52 : decode cX0_build 52 = .ok (.iastore, 1) := by decide +kernel
theorem dX0_build_53 : decode cX0_build 53 = .ok (.iinc 1 1, 3) := by decide +kernel
theorem dX0_build_56 : decode cX0_build 56 = .ok (.goto (-49), 3) := by decide +kernel
theorem dX0_build_59 : decode cX0_build 59 = .ok (.iconst 0, 1) := by decide +kernel
theorem dX0_build_60 : decode cX0_build 60 = .ok (.istore_n 1, 1) := by decide +kernel
theorem dX0_build_61 : decode cX0_build 61 = .ok (.iload_n 1, 1) := by decide +kernel
theorem dX0_build_62 : decode cX0_build 62 = .ok (.aload_n 0, 1) := by decide +kernel
theorem dX0_build_63 : decode cX0_build 63 = .ok (.getfield 41, 3) := by decide +kernel
theorem dX0_build_66 : decode cX0_build 66 = .ok (.getfield 49, 3) := by decide +kernel
theorem dX0_build_69 : decode cX0_build 69 = .ok (.if_icmp .ge 14, 3) := by decide +kernel
theorem dX0_build_72 : decode cX0_build 72 = .ok (.aload_n 0, 1) := by decide +kernel
theorem dX0_build_73 : decode cX0_build 73 = .ok (.iload_n 1, 1) := by decide +kernel
theorem dX0_build_74 : decode cX0_build 74 = .ok (.invokevirtual 56, 3) := by decide +kernel
theorem dX0_build_77 : decode cX0_build 77 = .ok (.iinc 1 1, 3) := by decide +kernel
theorem dX0_build_80 : decode cX0_build 80 = .ok (.goto (-19), 3) := by decide +kernel
theorem dX0_build_83 : decode cX0_build 83 = .ok (.iconst 0, 1) := by decide +kernel
theorem dX0_build_84 : decode cX0_build 84 = .ok (.istore_n 1, 1) := by decide +kernel
theorem dX0_build_85 : decode cX0_build 85 = .ok (.iload_n 1, 1) := by decide +kernel
theorem dX0_build_86 : decode cX0_build 86 = .ok (.aload_n 0, 1) := by decide +kernel
theorem dX0_build_87 : decode cX0_build 87 = .ok (.getfield 41, 3) := by decide +kernel
theorem dX0_build_90 : decode cX0_build 90 = .ok (.getfield 49, 3) := by decide +kernel
theorem dX0_build_93 : decode cX0_build 93 = .ok (.if_icmp .ge 25, 3) := by decide +kernel
theorem dX0_build_96 : decode cX0_build 96 = .ok (.aload_n 0, 1) := by decide +kernel
theorem dX0_build_97 : decode cX0_build 97 = .ok (.getfield 18, 3) := by decide +kernel
theorem dX0_build_100 : decode cX0_build 100 = .ok (.iload_n 1, 1) := by decide +kernel
theorem dX0_build_101 : decode cX0_build 101 = .ok (.iaload, 1) := by decide +kernel
theorem dX0_build_102 : decode cX0_build 102 = .ok (.bipush (-9), 2) := by decide +kernel
theorem dX0_build_104 : decode cX0_build 104 = .ok (.if_icmp .ne 8, 3) := by decide +kernel
theorem dX0_build_107 : decode cX0_build 107 = .ok (.aload_n 0, 1) := by decide +kernel
theorem dX0_build_108 : decode cX0_build 108 = .ok (.iload_n 1, 1) := by decide +kernel
theorem dX0_build_109 : decode cX0_build 109 = .ok (.invokevirtual 60, 3) := by decide +kernel
theorem dX0_build_112 : decode cX0_build 112 = .ok (.iinc 1 1, 3) := by decide +kernel
theorem dX0_build_115 : decode cX0_build 115 = .ok (.goto (-30), 3) := by decide +kernel
theorem dX0_build_118 : decode cX0_build 118 = .ok (.iconst 0, 1) := by decide +kernel
theorem dX0_build_119 : decode cX0_build 119 = .ok (.istore_n 1, 1) := by decide +kernel
theorem dX0_build_120 : decode cX0_build 120 = .ok (.iload_n 1, 1) := by decide +kernel
theorem dX0_build_121 : decode cX0_build 121 = .ok (.aload_n 0, 1) := by decide +kernel
theorem dX0_build_122 : decode cX0_build 122 = .ok (.getfield 41, 3) := by decide +kernel
theorem dX0_build_125 : decode cX0_build 125 = .ok (.getfield 49, 3) := by decide +kernel
theorem dX0_build_128 : decode cX0_build 128 = .ok (.if_icmp .ge 25, 3) := by decide +kernel
theorem dX0_build_131 : decode cX0_build 131 = .ok (.aload_n 0, 1) := by decide +kernel
theorem dX0_build_132 : decode cX0_build 132 = .ok (.getfield 21, 3) := by decide +kernel
theorem dX0_build_135 : decode cX0_build 135 = .ok (.iload_n 1, 1) := by decide +kernel
theorem dX0_build_136 : decode cX0_build 136 = .ok (.iaload, 1) := by decide +kernel
theorem dX0_build_137 : decode cX0_build 137 = .ok (.bipush (-9), 2) := by decide +kernel
theorem dX0_build_139 : decode cX0_build 139 = .ok (.if_icmp .ne 8, 3) := by decide +kernel
theorem dX0_build_142 : decode cX0_build 142 = .ok (.aload_n 0, 1) := by decide +kernel
theorem dX0_build_143 : decode cX0_build 143 = .ok (.iload_n 1, 1) := by decide +kernel
theorem dX0_build_144 : decode cX0_build 144 = .ok (.invokevirtual 60, 3) := by decide +kernel
theorem dX0_build_147 : decode cX0_build 147 = .ok (.iinc 1 1, 3) := by decide +kernel
theorem dX0_build_150 : decode cX0_build 150 = .ok (.goto (-30), 3) := by decide +kernel
theorem dX0_build_153 : decode cX0_build 153 = .ok (.return_, 1) := by decide +kernel
theorem dX0_lastOnward_0 : decode cX0_lastOnward 0 = .ok (.bipush (-9), 2) := by decide +kernel
theorem dX0_lastOnward_2 : decode cX0_lastOnward 2 = .ok (.istore_n 2, 1) := by decide +kernel
theorem dX0_lastOnward_3 : decode cX0_lastOnward 3 = .ok (.iconst 0, 1) := by decide +kernel
theorem dX0_lastOnward_4 : decode cX0_lastOnward 4 = .ok (.istore_n 3, 1) := by decide +kernel
theorem dX0_lastOnward_5 : decode cX0_lastOnward 5 = .ok (.iload_n 3, 1) := by decide +kernel
theorem dX0_lastOnward_6 : decode cX0_lastOnward 6 = .ok (.aload_n 0, 1) := by decide +kernel
theorem dX0_lastOnward_7 : decode cX0_lastOnward 7 = .ok (.getfield 41, 3) := by decide +kernel
theorem dX0_lastOnward_10 : decode cX0_lastOnward 10 = .ok (.getfield 63, 3) := by decide +kernel
theorem dX0_lastOnward_13 : decode cX0_lastOnward 13 = .ok (.if_icmp .ge 50, 3) := by decide +kernel
theorem dX0_lastOnward_16 : decode cX0_lastOnward 16 = .ok (.aload_n 0, 1) := by decide +kernel
theorem dX0_lastOnward_17 : decode cX0_lastOnward 17 = .ok (.getfield 41, 3) := by decide +kernel
theorem dX0_lastOnward_20 : decode cX0_lastOnward 20 = .ok (.getfield 66, 3) := by decide +kernel
theorem dX0_lastOnward_23 : decode cX0_lastOnward 23 = .ok (.iload_n 3, 1) := by decide +kernel
theorem dX0_lastOnward_24 : decode cX0_lastOnward 24 = .ok (.iaload, 1) := by decide +kernel
theorem dX0_lastOnward_25 : decode cX0_lastOnward 25 = .ok (.istore 4, 2) := by decide +kernel
theorem dX0_lastOnward_27 : decode cX0_lastOnward 27 = .ok (.aload_n 0, 1) := by decide +kernel
theorem dX0_lastOnward_28 : decode cX0_lastOnward 28 = .ok (.getfield 41, 3) := by decide +kernel
theorem dX0_lastOnward_31 : decode cX0_lastOnward 31 = .ok (.getfield 69, 3) := by decide +kernel
theorem dX0_lastOnward_34 : decode cX0_lastOnward 34 = .ok (.iload 4, 2) := by decide +kernel
theorem dX0_lastOnward_36 : decode cX0_lastOnward 36 = .ok (.iaload, 1) := by decide +kernel
theorem dX0_lastOnward_37 : decode cX0_lastOnward 37 = .ok (.iload_n 1, 1) := by decide +kernel
theorem dX0_lastOnward_38 : decode cX0_lastOnward 38 = .ok (.if_icmp .ne 19, 3) := by decide +kernel
theorem dX0_lastOnward_41 : decode cX0_lastOnward 41 = .ok (.aload_n 0, 1) := by decide +kernel
theorem dX0_lastOnward_42 : decode cX0_lastOnward 42 = .ok (.getfield 37, 3) := by decide +kernel
theorem dX0_lastOnward_45 : decode cX0_lastOnward 45 = .ok (.iload 4, 2) := by decide +kernel
theorem dX0_lastOnward_47 : decode cX0_lastOnward 47 = .ok (.iconst 0, 1) := by decide +kernel
theorem dX0_lastOnward_48 : decode cX0_lastOnward 48 = .ok (.invokevirtual 72, 3) := by decide +kernel
theorem dX0_lastOnward_51 : decode cX0_lastOnward 51 = .ok (.ifCond .eq 6, 3) := by decide +kernel
theorem dX0_lastOnward_54 : decode cX0_lastOnward 54 = .ok (.iload 4, 2) := by decide +kernel
theorem dX0_lastOnward_56 : decode cX0_lastOnward 56 = .ok (.istore_n 2, 1) := by decide +kernel
theorem dX0_lastOnward_57 : decode cX0_lastOnward 57 = .ok (.iinc 3 1, 3) := by decide +kernel
theorem dX0_lastOnward_60 : decode cX0_lastOnward 60 = .ok (.goto (-55), 3) := by decide +kernel
theorem dX0_lastOnward_63 : decode cX0_lastOnward 63 = .ok (.iload_n 2, 1) := by decide +kernel
theorem dX0_lastOnward_64 : decode cX0_lastOnward 64 = .ok (.ireturn, 1) := by decide +kernel
theorem dX0_linkToAim_0 : decode cX0_linkToAim 0 = .ok (.aload_n 0, 1) := by decide +kernel
theorem dX0_linkToAim_1 : decode cX0_linkToAim 1 = .ok (.getfield 9, 3) := by decide +kernel
theorem dX0_linkToAim_4 : decode cX0_linkToAim 4 = .ok (.iload_n 1, 1) := by decide +kernel
theorem dX0_linkToAim_5 : decode cX0_linkToAim 5 = .ok (.iaload, 1) := by decide +kernel
theorem dX0_linkToAim_6 : decode cX0_linkToAim 6 = .ok (.bipush (-9), 2) := by decide +kernel
theorem dX0_linkToAim_8 : decode cX0_linkToAim 8 = .ok (.if_icmp .ne 8, 3) := by decide +kernel
theorem dX0_linkToAim_11 : decode cX0_linkToAim 11 = .ok (.bipush (-9), 2) := by decide +kernel
theorem dX0_linkToAim_13 : decode cX0_linkToAim 13 = .ok (.goto 13, 3) := by decide +kernel
theorem dX0_linkToAim_16 : decode cX0_linkToAim 16 = .ok (.aload_n 0, 1) := by decide +kernel
theorem dX0_linkToAim_17 : decode cX0_linkToAim 17 = .ok (.aload_n 0, 1) := by decide +kernel
theorem dX0_linkToAim_18 : decode cX0_linkToAim 18 = .ok (.getfield 9, 3) := by decide +kernel
theorem dX0_linkToAim_21 : decode cX0_linkToAim 21 = .ok (.iload_n 1, 1) := by decide +kernel
theorem dX0_linkToAim_22 : decode cX0_linkToAim 22 = .ok (.iaload, 1) := by decide +kernel
theorem dX0_linkToAim_23 : decode cX0_linkToAim 23 = .ok (.invokevirtual 78, 3) := by decide +kernel
theorem dX0_linkToAim_26 : decode cX0_linkToAim 26 = .ok (.istore_n 2, 1) := by decide +kernel
theorem dX0_linkToAim_27 : decode cX0_linkToAim 27 = .ok (.iload_n 2, 1) := by decide +kernel
theorem dX0_linkToAim_28 : decode cX0_linkToAim 28 = .ok (.bipush (-9), 2) := by decide +kernel
theorem dX0_linkToAim_30 : decode cX0_linkToAim 30 = .ok (.if_icmp .eq 33, 3) := by decide +kernel
theorem dX0_linkToAim_33 : decode cX0_linkToAim 33 = .ok (.iload_n 2, 1) := by decide +kernel
theorem dX0_linkToAim_34 : decode cX0_linkToAim 34 = .ok (.iload_n 1, 1) := by decide +kernel
theorem dX0_linkToAim_35 : decode cX0_linkToAim 35 = .ok (.if_icmp .eq 28, 3) := by decide +kernel
theorem dX0_linkToAim_38 : decode cX0_linkToAim 38 = .ok (.aload_n 0, 1) := by decide +kernel
theorem dX0_linkToAim_39 : decode cX0_linkToAim 39 = .ok (.getfield 18, 3) := by decide +kernel
theorem dX0_linkToAim_42 : decode cX0_linkToAim 42 = .ok (.iload_n 2, 1) := by decide +kernel
theorem dX0_linkToAim_43 : decode cX0_linkToAim 43 = .ok (.iaload, 1) := by decide +kernel
theorem dX0_linkToAim_44 : decode cX0_linkToAim 44 = .ok (.bipush (-9), 2) := by decide +kernel
theorem dX0_linkToAim_46 : decode cX0_linkToAim 46 = .ok (.if_icmp .ne 17, 3) := by decide +kernel
theorem dX0_linkToAim_49 : decode cX0_linkToAim 49 = .ok (.aload_n 0, 1) := by decide +kernel
theorem dX0_linkToAim_50 : decode cX0_linkToAim 50 = .ok (.getfield 15, 3) := by decide +kernel
theorem dX0_linkToAim_53 : decode cX0_linkToAim 53 = .ok (.iload_n 1, 1) := by decide +kernel
theorem dX0_linkToAim_54 : decode cX0_linkToAim 54 = .ok (.iload_n 2, 1) := by decide +kernel
theorem dX0_linkToAim_55 : decode cX0_linkToAim 55 = .ok (.iastore, 1) := by decide +kernel
theorem dX0_linkToAim_56 : decode cX0_linkToAim 56 = .ok (.aload_n 0, 1) := by decide +kernel
theorem dX0_linkToAim_57 : decode cX0_linkToAim 57 = .ok (.getfield 18, 3) := by decide +kernel
theorem dX0_linkToAim_60 : decode cX0_linkToAim 60 = .ok (.iload_n 2, 1) := by decide +kernel
theorem dX0_linkToAim_61 : decode cX0_linkToAim 61 = .ok (.iload_n 1, 1) := by decide +kernel
theorem dX0_linkToAim_62 : decode cX0_linkToAim 62 = .ok (.iastore, 1) := by decide +kernel
theorem dX0_linkToAim_63 : decode cX0_linkToAim 63 = .ok (.return_, 1) := by decide +kernel
theorem dX0_aimOf_0 : decode cX0_aimOf 0 = .ok (.aload_n 0, 1) := by decide +kernel
theorem dX0_aimOf_1 : decode cX0_aimOf 1 = .ok (.getfield 37, 3) := by decide +kernel
theorem dX0_aimOf_4 : decode cX0_aimOf 4 = .ok (.iload_n 1, 1) := by decide +kernel
theorem dX0_aimOf_5 : decode cX0_aimOf 5 = .ok (.iconst 0, 1) := by decide +kernel
theorem dX0_aimOf_6 : decode cX0_aimOf 6 = .ok (.invokevirtual 81, 3) := by decide +kernel
theorem dX0_aimOf_9 : decode cX0_aimOf 9 = .ok (.istore_n 2, 1) := by decide +kernel
theorem dX0_aimOf_10 : decode cX0_aimOf 10 = .ok (.aload_n 0, 1) := by decide +kernel
theorem dX0_aimOf_11 : decode cX0_aimOf 11 = .ok (.getfield 37, 3) := by decide +kernel
theorem dX0_aimOf_14 : decode cX0_aimOf 14 = .ok (.iload_n 1, 1) := by decide +kernel
theorem dX0_aimOf_15 : decode cX0_aimOf 15 = .ok (.iconst 0, 1) := by decide +kernel
theorem dX0_aimOf_16 : decode cX0_aimOf 16 = .ok (.invokevirtual 85, 3) := by decide +kernel
theorem dX0_aimOf_19 : decode cX0_aimOf 19 = .ok (.istore_n 3, 1) := by decide +kernel
theorem dX0_aimOf_20 : decode cX0_aimOf 20 = .ok (.iconst 0, 1) := by decide +kernel
theorem dX0_aimOf_21 : decode cX0_aimOf 21 = .ok (.istore 4, 2) := by decide +kernel
theorem dX0_aimOf_23 : decode cX0_aimOf 23 = .ok (.iload 4, 2) := by decide +kernel
theorem dX0_aimOf_25 : decode cX0_aimOf 25 = .ok (.aload_n 0, 1) := by decide +kernel
theorem dX0_aimOf_26 : decode cX0_aimOf 26 = .ok (.getfield 33, 3) := by decide +kernel
theorem dX0_aimOf_29 : decode cX0_aimOf 29 = .ok (.getfield 88, 3) := by decide +kernel
theorem dX0_aimOf_32 : decode cX0_aimOf 32 = .ok (.if_icmp .ge 82, 3) := by decide +kernel
theorem dX0_aimOf_35 : decode cX0_aimOf 35 = .ok (.aload_n 0, 1) := by decide +kernel
theorem dX0_aimOf_36 : decode cX0_aimOf 36 = .ok (.getfield 37, 3) := by decide +kernel
theorem dX0_aimOf_39 : decode cX0_aimOf 39 = .ok (.iload 4, 2) := by decide +kernel
theorem dX0_aimOf_41 : decode cX0_aimOf 41 = .ok (.iconst 1, 1) := by decide +kernel
theorem dX0_aimOf_42 : decode cX0_aimOf 42 = .ok (.invokevirtual 81, 3) := by decide +kernel
theorem dX0_aimOf_45 : decode cX0_aimOf 45 = .ok (.aload_n 0, 1) := by decide +kernel
theorem dX0_aimOf_46 : decode cX0_aimOf 46 = .ok (.getfield 33, 3) := by decide +kernel
theorem dX0_aimOf_49 : decode cX0_aimOf 49 = .ok (.getfield 91, 3) := by decide +kernel
theorem dX0_aimOf_52 : decode cX0_aimOf 52 = .ok (.iload_n 1, 1) := by decide +kernel
theorem dX0_aimOf_53 : decode cX0_aimOf 53 = .ok (.iaload, 1) := by decide +kernel
theorem dX0_aimOf_54 : decode cX0_aimOf 54 = .ok (.if_icmp .ne 21, 3) := by decide +kernel
theorem dX0_aimOf_57 : decode cX0_aimOf 57 = .ok (.aload_n 0, 1) := by decide +kernel
theorem dX0_aimOf_58 : decode cX0_aimOf 58 = .ok (.getfield 37, 3) := by decide +kernel
theorem dX0_aimOf_61 : decode cX0_aimOf 61 = .ok (.iload 4, 2) := by decide +kernel
theorem dX0_aimOf_63 : decode cX0_aimOf 63 = .ok (.iconst 1, 1) := by decide +kernel
theorem dX0_aimOf_64 : decode cX0_aimOf 64 = .ok (.invokevirtual 85, 3) := by decide +kernel
theorem dX0_aimOf_67 : decode cX0_aimOf 67 = .ok (.iload_n 3, 1) := by decide +kernel
theorem dX0_aimOf_68 : decode cX0_aimOf 68 = .ok (.if_icmp .ne 7, 3) := by decide +kernel
theorem dX0_aimOf_71 : decode cX0_aimOf 71 = .ok (.iconst 1, 1) := by decide +kernel
theorem dX0_aimOf_72 : decode cX0_aimOf 72 = .ok (.goto 4, 3) := by decide +kernel
theorem dX0_aimOf_75 : decode cX0_aimOf 75 = .ok (.iconst 0, 1) := by decide +kernel
theorem dX0_aimOf_76 : decode cX0_aimOf 76 = .ok (.istore 5, 2) := by decide +kernel
theorem dX0_aimOf_78 : decode cX0_aimOf 78 = .ok (.aload_n 0, 1) := by decide +kernel
theorem dX0_aimOf_79 : decode cX0_aimOf 79 = .ok (.getfield 33, 3) := by decide +kernel
theorem dX0_aimOf_82 : decode cX0_aimOf 82 = .ok (.getfield 91, 3) := by decide +kernel
theorem dX0_aimOf_85 : decode cX0_aimOf 85 = .ok (.iload 4, 2) := by decide +kernel
theorem dX0_aimOf_87 : decode cX0_aimOf 87 = .ok (.iaload, 1) := by decide +kernel
theorem dX0_aimOf_88 : decode cX0_aimOf 88 = .ok (.iload_n 2, 1) := by decide +kernel
theorem dX0_aimOf_89 : decode cX0_aimOf 89 = .ok (.if_icmp .ne 19, 3) := by decide +kernel
theorem dX0_aimOf_92 : decode cX0_aimOf 92 = .ok (.iload 5, 2) := by decide +kernel
theorem dX0_aimOf_94 : decode cX0_aimOf 94 = .ok (.ifCond .eq 14, 3) := by decide +kernel
theorem dX0_aimOf_97 : decode cX0_aimOf 97 = .ok (.aload_n 0, 1) := by decide +kernel
theorem dX0_aimOf_98 : decode cX0_aimOf 98 = .ok (.getfield 41, 3) := by decide +kernel
theorem dX0_aimOf_101 : decode cX0_aimOf 101 = .ok (.getfield 69, 3) := by decide +kernel
theorem dX0_aimOf_104 : decode cX0_aimOf 104 = .ok (.iload 4, 2) := by decide +kernel
theorem dX0_aimOf_106 : decode cX0_aimOf 106 = .ok (.iaload, 1) := by decide +kernel
theorem dX0_aimOf_107 : decode cX0_aimOf 107 = .ok (.ireturn, 1) := by decide +kernel
theorem dX0_aimOf_108 : decode cX0_aimOf 108 = .ok (.iinc 4 1, 3) := by decide +kernel
theorem dX0_aimOf_111 : decode cX0_aimOf 111 = .ok (.goto (-88), 3) := by decide +kernel
theorem dX0_aimOf_114 : decode cX0_aimOf 114 = .ok (.bipush (-9), 2) := by decide +kernel
theorem dX0_aimOf_116 : decode cX0_aimOf 116 = .ok (.ireturn, 1) := by decide +kernel
theorem dX0_addFrom_0 : decode cX0_addFrom 0 = .ok (.aload_n 0, 1) := by decide +kernel
theorem dX0_addFrom_1 : decode cX0_addFrom 1 = .ok (.getfield 45, 3) := by decide +kernel
theorem dX0_addFrom_4 : decode cX0_addFrom 4 = .ok (.istore_n 2, 1) := by decide +kernel
theorem dX0_addFrom_5 : decode cX0_addFrom 5 = .ok (.aload_n 0, 1) := by decide +kernel
theorem dX0_addFrom_6 : decode cX0_addFrom 6 = .ok (.getfield 24, 3) := by decide +kernel
theorem dX0_addFrom_9 : decode cX0_addFrom 9 = .ok (.iload_n 2, 1) := by decide +kernel
theorem dX0_addFrom_10 : decode cX0_addFrom 10 = .ok (.iload_n 1, 1) := by decide +kernel
theorem dX0_addFrom_11 : decode cX0_addFrom 11 = .ok (.iastore, 1) := by decide +kernel
theorem dX0_addFrom_12 : decode cX0_addFrom 12 = .ok (.aload_n 0, 1) := by decide +kernel
theorem dX0_addFrom_13 : decode cX0_addFrom 13 = .ok (.getfield 30, 3) := by decide +kernel
theorem dX0_addFrom_16 : decode cX0_addFrom 16 = .ok (.iload_n 2, 1) := by decide +kernel
theorem dX0_addFrom_17 : decode cX0_addFrom 17 = .ok (.iconst 0, 1) := by decide +kernel
theorem dX0_addFrom_18 : decode cX0_addFrom 18 = .ok (.iastore, 1) := by decide +kernel
theorem dX0_addFrom_19 : decode cX0_addFrom 19 = .ok (.iload_n 1, 1) := by decide +kernel
theorem dX0_addFrom_20 : decode cX0_addFrom 20 = .ok (.istore_n 3, 1) := by decide +kernel
theorem dX0_addFrom_21 : decode cX0_addFrom 21 = .ok (.iconst 0, 1) := by decide +kernel
theorem dX0_addFrom_22 : decode cX0_addFrom 22 = .ok (.istore 4, 2) := by decide +kernel
theorem dX0_addFrom_24 : decode cX0_addFrom 24 = .ok (.iload 4, 2) := by decide +kernel
theorem dX0_addFrom_26 : decode cX0_addFrom 26 = .ok (.aload_n 0, 1) := by decide +kernel
theorem dX0_addFrom_27 : decode cX0_addFrom 27 = .ok (.getfield 41, 3) := by decide +kernel
theorem dX0_addFrom_30 : decode cX0_addFrom 30 = .ok (.getfield 49, 3) := by decide +kernel
theorem dX0_addFrom_33 : decode cX0_addFrom 33 = .ok (.if_icmp .ge 60, 3) := by decide +kernel
theorem dX0_addFrom_36 : decode cX0_addFrom 36 = .ok (.iload_n 3, 1) := by decide +kernel
theorem dX0_addFrom_37 : decode cX0_addFrom 37 = .ok (.bipush (-9), 2) := by decide +kernel
theorem dX0_addFrom_39 : decode cX0_addFrom 39 = .ok (.if_icmp .eq 54, 3) := by decide +kernel
theorem dX0_addFrom_42 : decode cX0_addFrom 42 = .ok (.aload_n 0, 1) := by decide +kernel
theorem dX0_addFrom_43 : decode cX0_addFrom 43 = .ok (.getfield 21, 3) := by decide +kernel
theorem dX0_addFrom_46 : decode cX0_addFrom 46 = .ok (.iload_n 3, 1) := by decide +kernel
theorem dX0_addFrom_47 : decode cX0_addFrom 47 = .ok (.iaload, 1) := by decide +kernel
theorem dX0_addFrom_48 : decode cX0_addFrom 48 = .ok (.bipush (-9), 2) := by decide +kernel
theorem dX0_addFrom_50 : decode cX0_addFrom 50 = .ok (.if_icmp .eq 6, 3) := by decide +kernel
theorem dX0_addFrom_53 : decode cX0_addFrom 53 = .ok (.goto 40, 3) := by decide +kernel
theorem dX0_addFrom_56 : decode cX0_addFrom 56 = .ok (.aload_n 0, 1) := by decide +kernel
theorem dX0_addFrom_57 : decode cX0_addFrom 57 = .ok (.getfield 21, 3) := by decide +kernel
theorem dX0_addFrom_60 : decode cX0_addFrom 60 = .ok (.iload_n 3, 1) := by decide +kernel
theorem dX0_addFrom_61 : decode cX0_addFrom 61 = .ok (.iload_n 2, 1) := by decide +kernel
theorem dX0_addFrom_62 : decode cX0_addFrom 62 = .ok (.iastore, 1) := by decide +kernel
theorem dX0_addFrom_63 : decode cX0_addFrom 63 = .ok (.aload_n 0, 1) := by decide +kernel
theorem dX0_addFrom_64 : decode cX0_addFrom 64 = .ok (.getfield 27, 3) := by decide +kernel
theorem dX0_addFrom_67 : decode cX0_addFrom 67 = .ok (.iload_n 2, 1) := by decide +kernel
theorem dX0_addFrom_68 : decode cX0_addFrom 68 = .ok (.iload_n 3, 1) := by decide +kernel
theorem dX0_addFrom_69 : decode cX0_addFrom 69 = .ok (.iastore, 1) := by decide +kernel
theorem dX0_addFrom_70 : decode cX0_addFrom 70 = .ok (.aload_n 0, 1) := by decide +kernel
theorem dX0_addFrom_71 : decode cX0_addFrom 71 = .ok (.getfield 30, 3) := by decide +kernel
theorem dX0_addFrom_74 : decode cX0_addFrom 74 = .ok (.iload_n 2, 1) := by decide +kernel
theorem dX0_addFrom_75 : decode cX0_addFrom 75 = .ok (.dup2, 1) := by decide +kernel
theorem dX0_addFrom_76 : decode cX0_addFrom 76 = .ok (.iaload, 1) := by decide +kernel
theorem dX0_addFrom_77 : decode cX0_addFrom 77 = .ok (.iconst 1, 1) := by decide +kernel
theorem dX0_addFrom_78 : decode cX0_addFrom 78 = .ok (.iadd, 1) := by decide +kernel
theorem dX0_addFrom_79 : decode cX0_addFrom 79 = .ok (.iastore, 1) := by decide +kernel
theorem dX0_addFrom_80 : decode cX0_addFrom 80 = .ok (.aload_n 0, 1) := by decide +kernel
theorem dX0_addFrom_81 : decode cX0_addFrom 81 = .ok (.getfield 15, 3) := by decide +kernel
theorem dX0_addFrom_84 : decode cX0_addFrom 84 = .ok (.iload_n 3, 1) := by decide +kernel
theorem dX0_addFrom_85 : decode cX0_addFrom 85 = .ok (.iaload, 1) := by decide +kernel
theorem dX0_addFrom_86 : decode cX0_addFrom 86 = .ok (.istore_n 3, 1) := by decide +kernel
theorem dX0_addFrom_87 : decode cX0_addFrom 87 = .ok (.iinc 4 1, 3) := by decide +kernel
theorem dX0_addFrom_90 : decode cX0_addFrom 90 = .ok (.goto (-66), 3) := by decide +kernel
theorem dX0_addFrom_93 : decode cX0_addFrom 93 = .ok (.aload_n 0, 1) := by decide +kernel
theorem dX0_addFrom_94 : decode cX0_addFrom 94 = .ok (.dup, 1) := by decide +kernel
theorem dX0_addFrom_95 : decode cX0_addFrom 95 = .ok (.getfield 45, 3) := by decide +kernel
theorem dX0_addFrom_98 : decode cX0_addFrom 98 = .ok (.iconst 1, 1) := by decide +kernel
theorem dX0_addFrom_99 : decode cX0_addFrom 99 = .ok (.iadd, 1) := by decide +kernel
theorem dX0_addFrom_100 : decode cX0_addFrom 100 = .ok (.putfield 45, 3) := by decide +kernel
theorem dX0_addFrom_103 : decode cX0_addFrom 103 = .ok (.return_, 1) := by decide +kernel
theorem dX0_has_0 : decode cX0_has 0 = .ok (.iload_n 1, 1) := by decide +kernel
theorem dX0_has_1 : decode cX0_has 1 = .ok (.ifCond .lt 15, 3) := by decide +kernel
theorem dX0_has_4 : decode cX0_has 4 = .ok (.iload_n 1, 1) := by decide +kernel
theorem dX0_has_5 : decode cX0_has 5 = .ok (.aload_n 0, 1) := by decide +kernel
theorem dX0_has_6 : decode cX0_has 6 = .ok (.getfield 45, 3) := by decide +kernel
theorem dX0_has_9 : decode cX0_has 9 = .ok (.if_icmp .ge 7, 3) := by decide +kernel
theorem dX0_has_12 : decode cX0_has 12 = .ok (.iconst 1, 1) := by decide +kernel
theorem dX0_has_13 : decode cX0_has 13 = .ok (.goto 4, 3) := by decide +kernel
theorem dX0_has_16 : decode cX0_has 16 = .ok (.iconst 0, 1) := by decide +kernel
theorem dX0_has_17 : decode cX0_has 17 = .ok (.ireturn, 1) := by decide +kernel
theorem dX0_isBroken_0 : decode cX0_isBroken 0 = .ok (.aload_n 0, 1) := by decide +kernel
theorem dX0_isBroken_1 : decode cX0_isBroken 1 = .ok (.getfield 9, 3) := by decide +kernel
theorem dX0_isBroken_4 : decode cX0_isBroken 4 = .ok (.iload_n 1, 1) := by decide +kernel
theorem dX0_isBroken_5 : decode cX0_isBroken 5 = .ok (.iaload, 1) := by decide +kernel
theorem dX0_isBroken_6 : decode cX0_isBroken 6 = .ok (.bipush (-9), 2) := by decide +kernel
theorem dX0_isBroken_8 : decode cX0_isBroken 8 = .ok (.if_icmp .eq 18, 3) := by decide +kernel
theorem dX0_isBroken_11 : decode cX0_isBroken 11 = .ok (.aload_n 0, 1) := by decide +kernel
theorem dX0_isBroken_12 : decode cX0_isBroken 12 = .ok (.getfield 15, 3) := by decide +kernel
theorem dX0_isBroken_15 : decode cX0_isBroken 15 = .ok (.iload_n 1, 1) := by decide +kernel
theorem dX0_isBroken_16 : decode cX0_isBroken 16 = .ok (.iaload, 1) := by decide +kernel
theorem dX0_isBroken_17 : decode cX0_isBroken 17 = .ok (.bipush (-9), 2) := by decide +kernel
theorem dX0_isBroken_19 : decode cX0_isBroken 19 = .ok (.if_icmp .ne 7, 3) := by decide +kernel
theorem dX0_isBroken_22 : decode cX0_isBroken 22 = .ok (.iconst 1, 1) := by decide +kernel
theorem dX0_isBroken_23 : decode cX0_isBroken 23 = .ok (.goto 4, 3) := by decide +kernel
theorem dX0_isBroken_26 : decode cX0_isBroken 26 = .ok (.iconst 0, 1) := by decide +kernel
theorem dX0_isBroken_27 : decode cX0_isBroken 27 = .ok (.ireturn, 1) := by decide +kernel
theorem dX0_isRing_0 : decode cX0_isRing 0 = .ok (.aload_n 0, 1) := by decide +kernel
theorem dX0_isRing_1 : decode cX0_isRing 1 = .ok (.getfield 18, 3) := by decide +kernel
theorem dX0_isRing_4 : decode cX0_isRing 4 = .ok (.aload_n 0, 1) := by decide +kernel
theorem dX0_isRing_5 : decode cX0_isRing 5 = .ok (.getfield 24, 3) := by decide +kernel
theorem dX0_isRing_8 : decode cX0_isRing 8 = .ok (.iload_n 1, 1) := by decide +kernel
theorem dX0_isRing_9 : decode cX0_isRing 9 = .ok (.iaload, 1) := by decide +kernel
theorem dX0_isRing_10 : decode cX0_isRing 10 = .ok (.iaload, 1) := by decide +kernel
theorem dX0_isRing_11 : decode cX0_isRing 11 = .ok (.bipush (-9), 2) := by decide +kernel
theorem dX0_isRing_13 : decode cX0_isRing 13 = .ok (.if_icmp .eq 7, 3) := by decide +kernel
theorem dX0_isRing_16 : decode cX0_isRing 16 = .ok (.iconst 1, 1) := by decide +kernel
theorem dX0_isRing_17 : decode cX0_isRing 17 = .ok (.goto 4, 3) := by decide +kernel
theorem dX0_isRing_20 : decode cX0_isRing 20 = .ok (.iconst 0, 1) := by decide +kernel
theorem dX0_isRing_21 : decode cX0_isRing 21 = .ok (.ireturn, 1) := by decide +kernel
theorem dX0_isReadIn_0 : decode cX0_isReadIn 0 = .ok (.aload_n 0, 1) := by decide +kernel
theorem dX0_isReadIn_1 : decode cX0_isReadIn 1 = .ok (.getfield 41, 3) := by decide +kernel
theorem dX0_isReadIn_4 : decode cX0_isReadIn 4 = .ok (.getfield 69, 3) := by decide +kernel
theorem dX0_isReadIn_7 : decode cX0_isReadIn 7 = .ok (.iload_n 2, 1) := by decide +kernel
theorem dX0_isReadIn_8 : decode cX0_isReadIn 8 = .ok (.iaload, 1) := by decide +kernel
theorem dX0_isReadIn_9 : decode cX0_isReadIn 9 = .ok (.istore_n 3, 1) := by decide +kernel
theorem dX0_isReadIn_10 : decode cX0_isReadIn 10 = .ok (.aload_n 0, 1) := by decide +kernel
theorem dX0_isReadIn_11 : decode cX0_isReadIn 11 = .ok (.getfield 33, 3) := by decide +kernel
theorem dX0_isReadIn_14 : decode cX0_isReadIn 14 = .ok (.getfield 94, 3) := by decide +kernel
theorem dX0_isReadIn_17 : decode cX0_isReadIn 17 = .ok (.iload_n 2, 1) := by decide +kernel
theorem dX0_isReadIn_18 : decode cX0_isReadIn 18 = .ok (.iaload, 1) := by decide +kernel
theorem dX0_isReadIn_19 : decode cX0_isReadIn 19 = .ok (.iconst 2, 1) := by decide +kernel
theorem dX0_isReadIn_20 : decode cX0_isReadIn 20 = .ok (.if_icmp .eq 23, 3) := by decide +kernel
theorem dX0_isReadIn_23 : decode cX0_isReadIn 23 = .ok (.iload_n 3, 1) := by decide +kernel
theorem dX0_isReadIn_24 : decode cX0_isReadIn 24 = .ok (.bipush (-9), 2) := by decide +kernel
theorem dX0_isReadIn_26 : decode cX0_isReadIn 26 = .ok (.if_icmp .eq 17, 3) := by decide +kernel
theorem dX0_isReadIn_29 : decode cX0_isReadIn 29 = .ok (.aload_n 0, 1) := by decide +kernel
theorem dX0_isReadIn_30 : decode cX0_isReadIn 30 = .ok (.getfield 21, 3) := by decide +kernel
theorem dX0_isReadIn_33 : decode cX0_isReadIn 33 = .ok (.iload_n 3, 1) := by decide +kernel
theorem dX0_isReadIn_34 : decode cX0_isReadIn 34 = .ok (.iaload, 1) := by decide +kernel
theorem dX0_isReadIn_35 : decode cX0_isReadIn 35 = .ok (.iload_n 1, 1) := by decide +kernel
theorem dX0_isReadIn_36 : decode cX0_isReadIn 36 = .ok (.if_icmp .ne 7, 3) := by decide +kernel
theorem dX0_isReadIn_39 : decode cX0_isReadIn 39 = .ok (.iconst 1, 1) := by decide +kernel
theorem dX0_isReadIn_40 : decode cX0_isReadIn 40 = .ok (.goto 4, 3) := by decide +kernel
theorem dX0_isReadIn_43 : decode cX0_isReadIn 43 = .ok (.iconst 0, 1) := by decide +kernel
theorem dX0_isReadIn_44 : decode cX0_isReadIn 44 = .ok (.ireturn, 1) := by decide +kernel
theorem dX0_textsOf_0 : decode cX0_textsOf 0 = .ok (.iconst 0, 1) := by decide +kernel
theorem dX0_textsOf_1 : decode cX0_textsOf 1 = .ok (.istore_n 2, 1) := by decide +kernel
theorem dX0_textsOf_2 : decode cX0_textsOf 2 = .ok (.iconst 0, 1) := by decide +kernel
theorem dX0_textsOf_3 : decode cX0_textsOf 3 = .ok (.istore_n 3, 1) := by decide +kernel
theorem dX0_textsOf_4 : decode cX0_textsOf 4 = .ok (.iload_n 3, 1) := by decide +kernel
theorem dX0_textsOf_5 : decode cX0_textsOf 5 = .ok (.aload_n 0, 1) := by decide +kernel
theorem dX0_textsOf_6 : decode cX0_textsOf 6 = .ok (.getfield 33, 3) := by decide +kernel
theorem dX0_textsOf_9 : decode cX0_textsOf 9 = .ok (.getfield 88, 3) := by decide +kernel
theorem dX0_textsOf_12 : decode cX0_textsOf 12 = .ok (.if_icmp .ge 34, 3) := by decide +kernel
theorem dX0_textsOf_15 : decode cX0_textsOf 15 = .ok (.aload_n 0, 1) := by decide +kernel
theorem dX0_textsOf_16 : decode cX0_textsOf 16 = .ok (.getfield 33, 3) := by decide +kernel
theorem dX0_textsOf_19 : decode cX0_textsOf 19 = .ok (.getfield 94, 3) := by decide +kernel
theorem dX0_textsOf_22 : decode cX0_textsOf 22 = .ok (.iload_n 3, 1) := by decide +kernel
theorem dX0_textsOf_23 : decode cX0_textsOf 23 = .ok (.iaload, 1) := by decide +kernel
theorem dX0_textsOf_24 : decode cX0_textsOf 24 = .ok (.iconst 1, 1) := by decide +kernel
theorem dX0_textsOf_25 : decode cX0_textsOf 25 = .ok (.if_icmp .ne 15, 3) := by decide +kernel
theorem dX0_textsOf_28 : decode cX0_textsOf 28 = .ok (.aload_n 0, 1) := by decide +kernel
theorem dX0_textsOf_29 : decode cX0_textsOf 29 = .ok (.iload_n 1, 1) := by decide +kernel
theorem dX0_textsOf_30 : decode cX0_textsOf 30 = .ok (.iload_n 3, 1) := by decide +kernel
theorem dX0_textsOf_31 : decode cX0_textsOf 31 = .ok (.invokevirtual 97, 3) := by decide +kernel
theorem dX0_textsOf_34 : decode cX0_textsOf 34 = .ok (.ifCond .eq 6, 3) := by decide +kernel
theorem dX0_textsOf_37 : decode cX0_textsOf 37 = .ok (.iinc 2 1, 3) := by decide +kernel
theorem dX0_textsOf_40 : decode cX0_textsOf 40 = .ok (.iinc 3 1, 3) := by decide +kernel
theorem dX0_textsOf_43 : decode cX0_textsOf 43 = .ok (.goto (-39), 3) := by decide +kernel
theorem dX0_textsOf_46 : decode cX0_textsOf 46 = .ok (.iload_n 2, 1) := by decide +kernel
theorem dX0_textsOf_47 : decode cX0_textsOf 47 = .ok (.ireturn, 1) := by decide +kernel
theorem dX0_wordsOf_0 : decode cX0_wordsOf 0 = .ok (.iconst 0, 1) := by decide +kernel
theorem dX0_wordsOf_1 : decode cX0_wordsOf 1 = .ok (.istore_n 2, 1) := by decide +kernel
theorem dX0_wordsOf_2 : decode cX0_wordsOf 2 = .ok (.iconst 0, 1) := by decide +kernel
theorem dX0_wordsOf_3 : decode cX0_wordsOf 3 = .ok (.istore_n 3, 1) := by decide +kernel
theorem dX0_wordsOf_4 : decode cX0_wordsOf 4 = .ok (.iload_n 3, 1) := by decide +kernel
theorem dX0_wordsOf_5 : decode cX0_wordsOf 5 = .ok (.aload_n 0, 1) := by decide +kernel
theorem dX0_wordsOf_6 : decode cX0_wordsOf 6 = .ok (.getfield 33, 3) := by decide +kernel
theorem dX0_wordsOf_9 : decode cX0_wordsOf 9 = .ok (.getfield 88, 3) := by decide +kernel
theorem dX0_wordsOf_12 : decode cX0_wordsOf 12 = .ok (.if_icmp .ge 43, 3) := by decide +kernel
theorem dX0_wordsOf_15 : decode cX0_wordsOf 15 = .ok (.aload_n 0, 1) := by decide +kernel
theorem dX0_wordsOf_16 : decode cX0_wordsOf 16 = .ok (.getfield 33, 3) := by decide +kernel
theorem dX0_wordsOf_19 : decode cX0_wordsOf 19 = .ok (.getfield 94, 3) := by decide +kernel
theorem dX0_wordsOf_22 : decode cX0_wordsOf 22 = .ok (.iload_n 3, 1) := by decide +kernel
theorem dX0_wordsOf_23 : decode cX0_wordsOf 23 = .ok (.iaload, 1) := by decide +kernel
theorem dX0_wordsOf_24 : decode cX0_wordsOf 24 = .ok (.iconst 1, 1) := by decide +kernel
theorem dX0_wordsOf_25 : decode cX0_wordsOf 25 = .ok (.if_icmp .ne 24, 3) := by decide +kernel
theorem dX0_wordsOf_28 : decode cX0_wordsOf 28 = .ok (.aload_n 0, 1) := by decide +kernel
theorem dX0_wordsOf_29 : decode cX0_wordsOf 29 = .ok (.iload_n 1, 1) := by decide +kernel
theorem dX0_wordsOf_30 : decode cX0_wordsOf 30 = .ok (.iload_n 3, 1) := by decide +kernel
theorem dX0_wordsOf_31 : decode cX0_wordsOf 31 = .ok (.invokevirtual 97, 3) := by decide +kernel
theorem dX0_wordsOf_34 : decode cX0_wordsOf 34 = .ok (.ifCond .eq 15, 3) := by decide +kernel
theorem dX0_wordsOf_37 : decode cX0_wordsOf 37 = .ok (.iload_n 2, 1) := by decide +kernel
theorem dX0_wordsOf_38 : decode cX0_wordsOf 38 = .ok (.aload_n 0, 1) := by decide +kernel
theorem dX0_wordsOf_39 : decode cX0_wordsOf 39 = .ok (.getfield 33, 3) := by decide +kernel
theorem dX0_wordsOf_42 : decode cX0_wordsOf 42 = .ok (.getfield 100, 3) := by decide +kernel
theorem dX0_wordsOf_45 : decode cX0_wordsOf 45 = .ok (.iload_n 3, 1) := by decide +kernel
theorem dX0_wordsOf_46 : decode cX0_wordsOf 46 = .ok (.iaload, 1) := by decide +kernel
theorem dX0_wordsOf_47 : decode cX0_wordsOf 47 = .ok (.iadd, 1) := by decide +kernel
theorem dX0_wordsOf_48 : decode cX0_wordsOf 48 = .ok (.istore_n 2, 1) := by decide +kernel
theorem dX0_wordsOf_49 : decode cX0_wordsOf 49 = .ok (.iinc 3 1, 3) := by decide +kernel
theorem dX0_wordsOf_52 : decode cX0_wordsOf 52 = .ok (.goto (-48), 3) := by decide +kernel
theorem dX0_wordsOf_55 : decode cX0_wordsOf 55 = .ok (.iload_n 2, 1) := by decide +kernel
theorem dX0_wordsOf_56 : decode cX0_wordsOf 56 = .ok (.ireturn, 1) := by decide +kernel
theorem dX0_pagesOf_0 : decode cX0_pagesOf 0 = .ok (.iconst 0, 1) := by decide +kernel
theorem dX0_pagesOf_1 : decode cX0_pagesOf 1 = .ok (.istore_n 2, 1) := by decide +kernel
theorem dX0_pagesOf_2 : decode cX0_pagesOf 2 = .ok (.iconst 0, 1) := by decide +kernel
theorem dX0_pagesOf_3 : decode cX0_pagesOf 3 = .ok (.istore_n 3, 1) := by decide +kernel
theorem dX0_pagesOf_4 : decode cX0_pagesOf 4 = .ok (.iload_n 3, 1) := by decide +kernel
theorem dX0_pagesOf_5 : decode cX0_pagesOf 5 = .ok (.aload_n 0, 1) := by decide +kernel
theorem dX0_pagesOf_6 : decode cX0_pagesOf 6 = .ok (.getfield 33, 3) := by decide +kernel
theorem dX0_pagesOf_9 : decode cX0_pagesOf 9 = .ok (.getfield 88, 3) := by decide +kernel
theorem dX0_pagesOf_12 : decode cX0_pagesOf 12 = .ok (.if_icmp .ge 32, 3) := by decide +kernel
theorem dX0_pagesOf_15 : decode cX0_pagesOf 15 = .ok (.aload_n 0, 1) := by decide +kernel
theorem dX0_pagesOf_16 : decode cX0_pagesOf 16 = .ok (.iload_n 1, 1) := by decide +kernel
theorem dX0_pagesOf_17 : decode cX0_pagesOf 17 = .ok (.iload_n 3, 1) := by decide +kernel
theorem dX0_pagesOf_18 : decode cX0_pagesOf 18 = .ok (.invokevirtual 97, 3) := by decide +kernel
theorem dX0_pagesOf_21 : decode cX0_pagesOf 21 = .ok (.ifCond .eq 17, 3) := by decide +kernel
theorem dX0_pagesOf_24 : decode cX0_pagesOf 24 = .ok (.iload_n 2, 1) := by decide +kernel
theorem dX0_pagesOf_25 : decode cX0_pagesOf 25 = .ok (.iconst 1, 1) := by decide +kernel
theorem dX0_pagesOf_26 : decode cX0_pagesOf 26 = .ok (.aload_n 0, 1) := by decide +kernel
theorem dX0_pagesOf_27 : decode cX0_pagesOf 27 = .ok (.getfield 33, 3) := by decide +kernel
theorem dX0_pagesOf_30 : decode cX0_pagesOf 30 = .ok (.getfield 91, 3) := by decide +kernel
theorem dX0_pagesOf_33 : decode cX0_pagesOf 33 = .ok (.iload_n 3, 1) := by decide +kernel
theorem dX0_pagesOf_34 : decode cX0_pagesOf 34 = .ok (.iaload, 1) := by decide +kernel
theorem dX0_pagesOf_35 : decode cX0_pagesOf 35 = .ok (.ishl, 1) := by decide +kernel
theorem dX0_pagesOf_36 : decode cX0_pagesOf 36 = .ok (.ior, 1) := by decide +kernel
theorem dX0_pagesOf_37 : decode cX0_pagesOf 37 = .ok (.istore_n 2, 1) := by decide +kernel
theorem dX0_pagesOf_38 : decode cX0_pagesOf 38 = .ok (.iinc 3 1, 3) := by decide +kernel
theorem dX0_pagesOf_41 : decode cX0_pagesOf 41 = .ok (.goto (-37), 3) := by decide +kernel
theorem dX0_pagesOf_44 : decode cX0_pagesOf 44 = .ok (.iload_n 2, 1) := by decide +kernel
theorem dX0_pagesOf_45 : decode cX0_pagesOf 45 = .ok (.ireturn, 1) := by decide +kernel
theorem dX0_blockAt_0 : decode cX0_blockAt 0 = .ok (.iload_n 2, 1) := by decide +kernel
theorem dX0_blockAt_1 : decode cX0_blockAt 1 = .ok (.istore_n 3, 1) := by decide +kernel
theorem dX0_blockAt_2 : decode cX0_blockAt 2 = .ok (.aload_n 0, 1) := by decide +kernel
theorem dX0_blockAt_3 : decode cX0_blockAt 3 = .ok (.getfield 24, 3) := by decide +kernel
theorem dX0_blockAt_6 : decode cX0_blockAt 6 = .ok (.iload_n 1, 1) := by decide +kernel
theorem dX0_blockAt_7 : decode cX0_blockAt 7 = .ok (.iaload, 1) := by decide +kernel
theorem dX0_blockAt_8 : decode cX0_blockAt 8 = .ok (.istore 4, 2) := by decide +kernel
theorem dX0_blockAt_10 : decode cX0_blockAt 10 = .ok (.iconst 0, 1) := by decide +kernel
theorem dX0_blockAt_11 : decode cX0_blockAt 11 = .ok (.istore 5, 2) := by decide +kernel
theorem dX0_blockAt_13 : decode cX0_blockAt 13 = .ok (.iload 5, 2) := by decide +kernel
theorem dX0_blockAt_15 : decode cX0_blockAt 15 = .ok (.aload_n 0, 1) := by decide +kernel
theorem dX0_blockAt_16 : decode cX0_blockAt 16 = .ok (.getfield 30, 3) := by decide +kernel
theorem dX0_blockAt_19 : decode cX0_blockAt 19 = .ok (.iload_n 1, 1) := by decide +kernel
theorem dX0_blockAt_20 : decode cX0_blockAt 20 = .ok (.iaload, 1) := by decide +kernel
theorem dX0_blockAt_21 : decode cX0_blockAt 21 = .ok (.if_icmp .ge 87, 3) := by decide +kernel
theorem dX0_blockAt_24 : decode cX0_blockAt 24 = .ok (.iload 4, 2) := by decide +kernel
theorem dX0_blockAt_26 : decode cX0_blockAt 26 = .ok (.bipush (-9), 2) := by decide +kernel
theorem dX0_blockAt_28 : decode cX0_blockAt 28 = .ok (.if_icmp .eq 80, 3) := by decide +kernel
theorem dX0_blockAt_31 : decode cX0_blockAt 31 = .ok (.aload_n 0, 1) := by decide +kernel
theorem dX0_blockAt_32 : decode cX0_blockAt 32 = .ok (.getfield 41, 3) := by decide +kernel
theorem dX0_blockAt_35 : decode cX0_blockAt 35 = .ok (.iload 4, 2) := by decide +kernel
theorem dX0_blockAt_37 : decode cX0_blockAt 37 = .ok (.invokevirtual 103, 3) := by decide +kernel
theorem dX0_blockAt_40 : decode cX0_blockAt 40 = .ok (.istore 6, 2) := by decide +kernel
theorem dX0_blockAt_42 : decode cX0_blockAt 42 = .ok (.iload 6, 2) := by decide +kernel
theorem dX0_blockAt_44 : decode cX0_blockAt 44 = .ok (.bipush (-9), 2) := by decide +kernel
theorem dX0_blockAt_46 : decode cX0_blockAt 46 = .ok (.if_icmp .eq 13, 3) := by decide +kernel
theorem dX0_blockAt_49 : decode cX0_blockAt 49 = .ok (.iload_n 3, 1) := by decide +kernel
theorem dX0_blockAt_50 : decode cX0_blockAt 50 = .ok (.ifCond .ne 6, 3) := by decide +kernel
theorem dX0_blockAt_53 : decode cX0_blockAt 53 = .ok (.iload 6, 2) := by decide +kernel
theorem dX0_blockAt_55 : decode cX0_blockAt 55 = .ok (.ireturn, 1) := by decide +kernel
theorem dX0_blockAt_56 : decode cX0_blockAt 56 = .ok (.iinc 3 (-1), 3) := by decide +kernel
theorem dX0_blockAt_59 : decode cX0_blockAt 59 = .ok (.aload_n 0, 1) := by decide +kernel
theorem dX0_blockAt_60 : decode cX0_blockAt 60 = .ok (.getfield 41, 3) := by decide +kernel
theorem dX0_blockAt_63 : decode cX0_blockAt 63 = .ok (.iload 4, 2) := by decide +kernel
theorem dX0_blockAt_65 : decode cX0_blockAt 65 = .ok (.iload_n 3, 1) := by decide +kernel
theorem dX0_blockAt_66 : decode cX0_blockAt 66 = .ok (.invokevirtual 106, 3) := by decide +kernel
theorem dX0_blockAt_69 : decode cX0_blockAt 69 = .ok (.istore 7, 2) := by decide +kernel
theorem dX0_blockAt_71 : decode cX0_blockAt 71 = .ok (.iload 7, 2) := by decide +kernel
theorem dX0_blockAt_73 : decode cX0_blockAt 73 = .ok (.bipush (-9), 2) := by decide +kernel
theorem dX0_blockAt_75 : decode cX0_blockAt 75 = .ok (.if_icmp .eq 6, 3) := by decide +kernel
theorem dX0_blockAt_78 : decode cX0_blockAt 78 = .ok (.iload 7, 2) := by decide +kernel
theorem dX0_blockAt_80 : decode cX0_blockAt 80 = .ok (.ireturn, 1) := by decide +kernel
theorem dX0_blockAt_81 : decode cX0_blockAt 81 = .ok (.iload_n 3, 1) := by decide +kernel
theorem dX0_blockAt_82 : decode cX0_blockAt 82 = .ok (.aload_n 0, 1) := by decide +kernel
theorem dX0_blockAt_83 : decode cX0_blockAt 83 = .ok (.getfield 41, 3) := by decide +kernel
theorem dX0_blockAt_86 : decode cX0_blockAt 86 = .ok (.iload 4, 2) := by decide +kernel
theorem dX0_blockAt_88 : decode cX0_blockAt 88 = .ok (.invokevirtual 109, 3) := by decide +kernel
theorem dX0_blockAt_91 : decode cX0_blockAt 91 = .ok (.isub, 1) := by decide +kernel
theorem dX0_blockAt_92 : decode cX0_blockAt 92 = .ok (.istore_n 3, 1) := by decide +kernel
theorem dX0_blockAt_93 : decode cX0_blockAt 93 = .ok (.aload_n 0, 1) := by decide +kernel
theorem dX0_blockAt_94 : decode cX0_blockAt 94 = .ok (.getfield 15, 3) := by decide +kernel
theorem dX0_blockAt_97 : decode cX0_blockAt 97 = .ok (.iload 4, 2) := by decide +kernel
theorem dX0_blockAt_99 : decode cX0_blockAt 99 = .ok (.iaload, 1) := by decide +kernel
theorem dX0_blockAt_100 : decode cX0_blockAt 100 = .ok (.istore 4, 2) := by decide +kernel
theorem dX0_blockAt_102 : decode cX0_blockAt 102 = .ok (.iinc 5 1, 3) := by decide +kernel
theorem dX0_blockAt_105 : decode cX0_blockAt 105 = .ok (.goto (-92), 3) := by decide +kernel
theorem dX0_blockAt_108 : decode cX0_blockAt 108 = .ok (.bipush (-9), 2) := by decide +kernel
theorem dX0_blockAt_110 : decode cX0_blockAt 110 = .ok (.ireturn, 1) := by decide +kernel
theorem dX0_manyRings_0 : decode cX0_manyRings 0 = .ok (.iconst 0, 1) := by decide +kernel
theorem dX0_manyRings_1 : decode cX0_manyRings 1 = .ok (.istore_n 1, 1) := by decide +kernel
theorem dX0_manyRings_2 : decode cX0_manyRings 2 = .ok (.iconst 0, 1) := by decide +kernel
theorem dX0_manyRings_3 : decode cX0_manyRings 3 = .ok (.istore_n 2, 1) := by decide +kernel
theorem dX0_manyRings_4 : decode cX0_manyRings 4 = .ok (.iload_n 2, 1) := by decide +kernel
theorem dX0_manyRings_5 : decode cX0_manyRings 5 = .ok (.aload_n 0, 1) := by decide +kernel
theorem dX0_manyRings_6 : decode cX0_manyRings 6 = .ok (.getfield 45, 3) := by decide +kernel
theorem dX0_manyRings_9 : decode cX0_manyRings 9 = .ok (.if_icmp .ge 20, 3) := by decide +kernel
theorem dX0_manyRings_12 : decode cX0_manyRings 12 = .ok (.aload_n 0, 1) := by decide +kernel
theorem dX0_manyRings_13 : decode cX0_manyRings 13 = .ok (.iload_n 2, 1) := by decide +kernel
theorem dX0_manyRings_14 : decode cX0_manyRings 14 = .ok (.invokevirtual 112, 3) := by decide +kernel
theorem dX0_manyRings_17 : decode cX0_manyRings 17 = .ok (.ifCond .eq 6, 3) := by decide +kernel
theorem dX0_manyRings_20 : decode cX0_manyRings 20 = .ok (.iinc 1 1, 3) := by decide +kernel
theorem dX0_manyRings_23 : decode cX0_manyRings 23 = .ok (.iinc 2 1, 3) := by decide +kernel
theorem dX0_manyRings_26 : decode cX0_manyRings 26 = .ok (.goto (-22), 3) := by decide +kernel
theorem dX0_manyRings_29 : decode cX0_manyRings 29 = .ok (.iload_n 1, 1) := by decide +kernel
theorem dX0_manyRings_30 : decode cX0_manyRings 30 = .ok (.ireturn, 1) := by decide +kernel
theorem dX0_manyBroken_0 : decode cX0_manyBroken 0 = .ok (.iconst 0, 1) := by decide +kernel
theorem dX0_manyBroken_1 : decode cX0_manyBroken 1 = .ok (.istore_n 1, 1) := by decide +kernel
theorem dX0_manyBroken_2 : decode cX0_manyBroken 2 = .ok (.iconst 0, 1) := by decide +kernel
theorem dX0_manyBroken_3 : decode cX0_manyBroken 3 = .ok (.istore_n 2, 1) := by decide +kernel
theorem dX0_manyBroken_4 : decode cX0_manyBroken 4 = .ok (.iload_n 2, 1) := by decide +kernel
theorem dX0_manyBroken_5 : decode cX0_manyBroken 5 = .ok (.aload_n 0, 1) := by decide +kernel
theorem dX0_manyBroken_6 : decode cX0_manyBroken 6 = .ok (.getfield 41, 3) := by decide +kernel
theorem dX0_manyBroken_9 : decode cX0_manyBroken 9 = .ok (.getfield 49, 3) := by decide +kernel
theorem dX0_manyBroken_12 : decode cX0_manyBroken 12 = .ok (.if_icmp .ge 20, 3) := by decide +kernel
theorem dX0_manyBroken_15 : decode cX0_manyBroken 15 = .ok (.aload_n 0, 1) := by decide +kernel
theorem dX0_manyBroken_16 : decode cX0_manyBroken 16 = .ok (.iload_n 2, 1) := by decide +kernel
theorem dX0_manyBroken_17 : decode cX0_manyBroken 17 = .ok (.invokevirtual 116, 3) := by decide +kernel
theorem dX0_manyBroken_20 : decode cX0_manyBroken 20 = .ok (.ifCond .eq 6, 3) := by decide +kernel
theorem dX0_manyBroken_23 : decode cX0_manyBroken 23 = .ok (.iinc 1 1, 3) := by decide +kernel
theorem dX0_manyBroken_26 : decode cX0_manyBroken 26 = .ok (.iinc 2 1, 3) := by decide +kernel
theorem dX0_manyBroken_29 : decode cX0_manyBroken 29 = .ok (.goto (-25), 3) := by decide +kernel
theorem dX0_manyBroken_32 : decode cX0_manyBroken 32 = .ok (.iload_n 1, 1) := by decide +kernel
theorem dX0_manyBroken_33 : decode cX0_manyBroken 33 = .ok (.ireturn, 1) := by decide +kernel
theorem dX0_manyIdleFrom_0 : decode cX0_manyIdleFrom 0 = .ok (.iconst 0, 1) := by decide +kernel
theorem dX0_manyIdleFrom_1 : decode cX0_manyIdleFrom 1 = .ok (.istore_n 1, 1) := by decide +kernel
theorem dX0_manyIdleFrom_2 : decode cX0_manyIdleFrom 2 = .ok (.iconst 0, 1) := by decide +kernel
theorem dX0_manyIdleFrom_3 : decode cX0_manyIdleFrom 3 = .ok (.istore_n 2, 1) := by decide +kernel
theorem dX0_manyIdleFrom_4 : decode cX0_manyIdleFrom 4 = .ok (.iload_n 2, 1) := by decide +kernel
theorem dX0_manyIdleFrom_5 : decode cX0_manyIdleFrom 5 = .ok (.aload_n 0, 1) := by decide +kernel
theorem dX0_manyIdleFrom_6 : decode cX0_manyIdleFrom 6 = .ok (.getfield 33, 3) := by decide +kernel
theorem dX0_manyIdleFrom_9 : decode cX0_manyIdleFrom 9 = .ok (.getfield 88, 3) := by decide +kernel
theorem dX0_manyIdleFrom_12 : decode cX0_manyIdleFrom 12 = .ok (.if_icmp .ge 51, 3) := by decide +kernel
theorem dX0_manyIdleFrom_15 : decode cX0_manyIdleFrom 15 = .ok (.aload_n 0, 1) := by decide +kernel
theorem dX0_manyIdleFrom_16 : decode cX0_manyIdleFrom 16 = .ok (.getfield 41, 3) := by decide +kernel
theorem dX0_manyIdleFrom_19 : decode cX0_manyIdleFrom 19 = .ok (.getfield 69, 3) := by decide +kernel
theorem dX0_manyIdleFrom_22 : decode cX0_manyIdleFrom 22 = .ok (.iload_n 2, 1) := by decide +kernel
theorem dX0_manyIdleFrom_23 : decode cX0_manyIdleFrom 23 = .ok (.iaload, 1) := by decide +kernel
theorem dX0_manyIdleFrom_24 : decode cX0_manyIdleFrom 24 = .ok (.istore_n 3, 1) := by decide +kernel
theorem dX0_manyIdleFrom_25 : decode cX0_manyIdleFrom 25 = .ok (.aload_n 0, 1) := by decide +kernel
theorem dX0_manyIdleFrom_26 : decode cX0_manyIdleFrom 26 = .ok (.getfield 37, 3) := by decide +kernel
theorem dX0_manyIdleFrom_29 : decode cX0_manyIdleFrom 29 = .ok (.iload_n 2, 1) := by decide +kernel
theorem dX0_manyIdleFrom_30 : decode cX0_manyIdleFrom 30 = .ok (.iconst 1, 1) := by decide +kernel
theorem dX0_manyIdleFrom_31 : decode cX0_manyIdleFrom 31 = .ok (.invokevirtual 72, 3) := by decide +kernel
theorem dX0_manyIdleFrom_34 : decode cX0_manyIdleFrom 34 = .ok (.ifCond .eq 23, 3) := by decide +kernel
theorem dX0_manyIdleFrom_37 : decode cX0_manyIdleFrom 37 = .ok (.iload_n 3, 1) := by decide +kernel
theorem dX0_manyIdleFrom_38 : decode cX0_manyIdleFrom 38 = .ok (.bipush (-9), 2) := by decide +kernel
theorem dX0_manyIdleFrom_40 : decode cX0_manyIdleFrom 40 = .ok (.if_icmp .eq 17, 3) := by decide +kernel
theorem dX0_manyIdleFrom_43 : decode cX0_manyIdleFrom 43 = .ok (.aload_n 0, 1) := by decide +kernel
theorem dX0_manyIdleFrom_44 : decode cX0_manyIdleFrom 44 = .ok (.getfield 18, 3) := by decide +kernel
theorem dX0_manyIdleFrom_47 : decode cX0_manyIdleFrom 47 = .ok (.iload_n 3, 1) := by decide +kernel
theorem dX0_manyIdleFrom_48 : decode cX0_manyIdleFrom 48 = .ok (.iaload, 1) := by decide +kernel
theorem dX0_manyIdleFrom_49 : decode cX0_manyIdleFrom 49 = .ok (.bipush (-9), 2) := by decide +kernel
theorem dX0_manyIdleFrom_51 : decode cX0_manyIdleFrom 51 = .ok (.if_icmp .ne 6, 3) := by decide +kernel
theorem dX0_manyIdleFrom_54 : decode cX0_manyIdleFrom 54 = .ok (.iinc 1 1, 3) := by decide +kernel
theorem dX0_manyIdleFrom_57 : decode cX0_manyIdleFrom 57 = .ok (.iinc 2 1, 3) := by decide +kernel
theorem dX0_manyIdleFrom_60 : decode cX0_manyIdleFrom 60 = .ok (.goto (-56), 3) := by decide +kernel
theorem dX0_manyIdleFrom_63 : decode cX0_manyIdleFrom 63 = .ok (.iload_n 1, 1) := by decide +kernel
theorem dX0_manyIdleFrom_64 : decode cX0_manyIdleFrom 64 = .ok (.ireturn, 1) := by decide +kernel
theorem dX1_init_0 : decode cX1_init 0 = .ok (.aload_n 0, 1) := by decide +kernel
theorem dX1_init_1 : decode cX1_init 1 = .ok (.invokespecial 3, 3) := by decide +kernel
theorem dX1_init_4 : decode cX1_init 4 = .ok (.aload_n 0, 1) := by decide +kernel
theorem dX1_init_5 : decode cX1_init 5 = .ok (.bipush 24, 2) := by decide +kernel
theorem dX1_init_7 : decode cX1_init 7 = .ok (.newarray .int, 2) := by decide +kernel
theorem dX1_init_9 : decode cX1_init 9 = .ok (.putfield 9, 3) := by decide +kernel
theorem dX1_init_12 : decode cX1_init 12 = .ok (.aload_n 0, 1) := by decide +kernel
theorem dX1_init_13 : decode cX1_init 13 = .ok (.bipush 24, 2) := by decide +kernel
theorem dX1_init_15 : decode cX1_init 15 = .ok (.newarray .int, 2) := by decide +kernel
theorem dX1_init_17 : decode cX1_init 17 = .ok (.putfield 15, 3) := by decide +kernel
theorem dX1_init_20 : decode cX1_init 20 = .ok (.aload_n 0, 1) := by decide +kernel
theorem dX1_init_21 : decode cX1_init 21 = .ok (.bipush 24, 2) := by decide +kernel
theorem dX1_init_23 : decode cX1_init 23 = .ok (.newarray .int, 2) := by decide +kernel
theorem dX1_init_25 : decode cX1_init 25 = .ok (.putfield 18, 3) := by decide +kernel
theorem dX1_init_28 : decode cX1_init 28 = .ok (.aload_n 0, 1) := by decide +kernel
theorem dX1_init_29 : decode cX1_init 29 = .ok (.bipush 24, 2) := by decide +kernel
theorem dX1_init_31 : decode cX1_init 31 = .ok (.newarray .int, 2) := by decide +kernel
theorem dX1_init_33 : decode cX1_init 33 = .ok (.putfield 21, 3) := by decide +kernel
theorem dX1_init_36 : decode cX1_init 36 = .ok (.aload_n 0, 1) := by decide +kernel
theorem dX1_init_37 : decode cX1_init 37 = .ok (.bipush 24, 2) := by decide +kernel
theorem dX1_init_39 : decode cX1_init 39 = .ok (.newarray .int, 2) := by decide +kernel
theorem dX1_init_41 : decode cX1_init 41 = .ok (.putfield 24, 3) := by decide +kernel
theorem dX1_init_44 : decode cX1_init 44 = .ok (.aload_n 0, 1) := by decide +kernel
theorem dX1_init_45 : decode cX1_init 45 = .ok (.bipush 24, 2) := by decide +kernel
theorem dX1_init_47 : decode cX1_init 47 = .ok (.newarray .int, 2) := by decide +kernel
theorem dX1_init_49 : decode cX1_init 49 = .ok (.putfield 27, 3) := by decide +kernel
theorem dX1_init_52 : decode cX1_init 52 = .ok (.aload_n 0, 1) := by decide +kernel
theorem dX1_init_53 : decode cX1_init 53 = .ok (.bipush 24, 2) := by decide +kernel
theorem dX1_init_55 : decode cX1_init 55 = .ok (.newarray .int, 2) := by decide +kernel
theorem dX1_init_57 : decode cX1_init 57 = .ok (.putfield 30, 3) := by decide +kernel
theorem dX1_init_60 : decode cX1_init 60 = .ok (.return_, 1) := by decide +kernel
theorem dX1_has_0 : decode cX1_has 0 = .ok (.iload_n 1, 1) := by decide +kernel
theorem dX1_has_1 : decode cX1_has 1 = .ok (.ifCond .lt 15, 3) := by decide +kernel
theorem dX1_has_4 : decode cX1_has 4 = .ok (.iload_n 1, 1) := by decide +kernel
theorem dX1_has_5 : decode cX1_has 5 = .ok (.aload_n 0, 1) := by decide +kernel
theorem dX1_has_6 : decode cX1_has 6 = .ok (.getfield 33, 3) := by decide +kernel
theorem dX1_has_9 : decode cX1_has 9 = .ok (.if_icmp .ge 7, 3) := by decide +kernel
theorem dX1_has_12 : decode cX1_has 12 = .ok (.iconst 1, 1) := by decide +kernel
theorem dX1_has_13 : decode cX1_has 13 = .ok (.goto 4, 3) := by decide +kernel
theorem dX1_has_16 : decode cX1_has 16 = .ok (.iconst 0, 1) := by decide +kernel
theorem dX1_has_17 : decode cX1_has 17 = .ok (.ireturn, 1) := by decide +kernel
theorem dX1_add_0 : decode cX1_add 0 = .ok (.aload_n 0, 1) := by decide +kernel
theorem dX1_add_1 : decode cX1_add 1 = .ok (.getfield 33, 3) := by decide +kernel
theorem dX1_add_4 : decode cX1_add 4 = .ok (.istore 7, 2) := by decide +kernel
theorem dX1_add_6 : decode cX1_add 6 = .ok (.aload_n 0, 1) := by decide +kernel
theorem dX1_add_7 : decode cX1_add 7 = .ok (.getfield 9, 3) := by decide +kernel
theorem dX1_add_10 : decode cX1_add 10 = .ok (.iload 7, 2) := by decide +kernel
theorem dX1_add_12 : decode cX1_add 12 = .ok (.iload_n 1, 1) := by decide +kernel
theorem dX1_add_13 : decode cX1_add 13 = .ok (.iastore, 1) := by decide +kernel
theorem dX1_add_14 : decode cX1_add 14 = .ok (.aload_n 0, 1) := by decide +kernel
theorem dX1_add_15 : decode cX1_add 15 = .ok (.getfield 15, 3) := by decide +kernel
theorem dX1_add_18 : decode cX1_add 18 = .ok (.iload 7, 2) := by decide +kernel
theorem dX1_add_20 : decode cX1_add 20 = .ok (.iload_n 2, 1) := by decide +kernel
theorem dX1_add_21 : decode cX1_add 21 = .ok (.iastore, 1) := by decide +kernel
theorem dX1_add_22 : decode cX1_add 22 = .ok (.aload_n 0, 1) := by decide +kernel
theorem dX1_add_23 : decode cX1_add 23 = .ok (.getfield 18, 3) := by decide +kernel
theorem dX1_add_26 : decode cX1_add 26 = .ok (.iload 7, 2) := by decide +kernel
theorem dX1_add_28 : decode cX1_add 28 = .ok (.iload_n 3, 1) := by decide +kernel
theorem dX1_add_29 : decode cX1_add 29 = .ok (.iastore, 1) := by decide +kernel
theorem dX1_add_30 : decode cX1_add 30 = .ok (.aload_n 0, 1) := by decide +kernel
theorem dX1_add_31 : decode cX1_add 31 = .ok (.getfield 21, 3) := by decide +kernel
theorem dX1_add_34 : decode cX1_add 34 = .ok (.iload 7, 2) := by decide +kernel
theorem dX1_add_36 : decode cX1_add 36 = .ok (.iload 4, 2) := by decide +kernel
theorem dX1_add_38 : decode cX1_add 38 = .ok (.iastore, 1) := by decide +kernel
theorem dX1_add_39 : decode cX1_add 39 = .ok (.aload_n 0, 1) := by decide +kernel
theorem dX1_add_40 : decode cX1_add 40 = .ok (.getfield 24, 3) := by decide +kernel
theorem dX1_add_43 : decode cX1_add 43 = .ok (.iload 7, 2) := by decide +kernel
theorem dX1_add_45 : decode cX1_add 45 = .ok (.iload 5, 2) := by decide +kernel
theorem dX1_add_47 : decode cX1_add 47 = .ok (.iastore, 1) := by decide +kernel
theorem dX1_add_48 : decode cX1_add 48 = .ok (.aload_n 0, 1) := by decide +kernel
theorem dX1_add_49 : decode cX1_add 49 = .ok (.getfield 27, 3) := by decide +kernel
theorem dX1_add_52 : decode cX1_add 52 = .ok (.iload 7, 2) := by decide +kernel
theorem dX1_add_54 : decode cX1_add 54 = .ok (.iload 6, 2) := by decide +kernel
theorem dX1_add_56 : decode cX1_add 56 = .ok (.iastore, 1) := by decide +kernel
theorem dX1_add_57 : decode cX1_add 57 = .ok (.aload_n 0, 1) := by decide +kernel
theorem dX1_add_58 : decode cX1_add 58 = .ok (.getfield 30, 3) := by decide +kernel
theorem dX1_add_61 : decode cX1_add 61 = .ok (.iload 7, 2) := by decide +kernel
theorem dX1_add_63 : decode cX1_add 63 = .ok (.iconst 1, 1) := by decide +kernel
theorem dX1_add_64 : decode cX1_add 64 = .ok (.iastore, 1) := by decide +kernel
theorem dX1_add_65 : decode cX1_add 65 = .ok (.aload_n 0, 1) := by decide +kernel
theorem dX1_add_66 : decode cX1_add 66 = .ok (.dup, 1) := by decide +kernel
theorem dX1_add_67 : decode cX1_add 67 = .ok (.getfield 33, 3) := by decide +kernel
theorem dX1_add_70 : decode cX1_add 70 = .ok (.iconst 1, 1) := by decide +kernel
theorem dX1_add_71 : decode cX1_add 71 = .ok (.iadd, 1) := by decide +kernel
theorem dX1_add_72 : decode cX1_add 72 = .ok (.putfield 33, 3) := by decide +kernel
theorem dX1_add_75 : decode cX1_add 75 = .ok (.iload 7, 2) := by decide +kernel
theorem dX1_add_77 : decode cX1_add 77 = .ok (.ireturn, 1) := by decide +kernel
theorem dX1_meets_0 : decode cX1_meets 0 = .ok (.aload_n 0, 1) := by decide +kernel
theorem dX1_meets_1 : decode cX1_meets 1 = .ok (.iload_n 1, 1) := by decide +kernel
theorem dX1_meets_2 : decode cX1_meets 2 = .ok (.iload_n 2, 1) := by decide +kernel
theorem dX1_meets_3 : decode cX1_meets 3 = .ok (.iload_n 3, 1) := by decide +kernel
theorem dX1_meets_4 : decode cX1_meets 4 = .ok (.iload 4, 2) := by decide +kernel
theorem dX1_meets_6 : decode cX1_meets 6 = .ok (.iload 5, 2) := by decide +kernel
theorem dX1_meets_8 : decode cX1_meets 8 = .ok (.invokevirtual 37, 3) := by decide +kernel
theorem dX1_meets_11 : decode cX1_meets 11 = .ok (.bipush (-9), 2) := by decide +kernel
theorem dX1_meets_13 : decode cX1_meets 13 = .ok (.if_icmp .eq 7, 3) := by decide +kernel
theorem dX1_meets_16 : decode cX1_meets 16 = .ok (.iconst 1, 1) := by decide +kernel
theorem dX1_meets_17 : decode cX1_meets 17 = .ok (.goto 4, 3) := by decide +kernel
theorem dX1_meets_20 : decode cX1_meets 20 = .ok (.iconst 0, 1) := by decide +kernel
theorem dX1_meets_21 : decode cX1_meets 21 = .ok (.ireturn, 1) := by decide +kernel
theorem dX1_firstIn_0 : decode cX1_firstIn 0 = .ok (.iconst 0, 1) := by decide +kernel
theorem dX1_firstIn_1 : decode cX1_firstIn 1 = .ok (.istore 6, 2) := by decide +kernel
theorem dX1_firstIn_3 : decode cX1_firstIn 3 = .ok (.iload 6, 2) := by decide +kernel
theorem dX1_firstIn_5 : decode cX1_firstIn 5 = .ok (.aload_n 0, 1) := by decide +kernel
theorem dX1_firstIn_6 : decode cX1_firstIn 6 = .ok (.getfield 33, 3) := by decide +kernel
theorem dX1_firstIn_9 : decode cX1_firstIn 9 = .ok (.if_icmp .ge 93, 3) := by decide +kernel
theorem dX1_firstIn_12 : decode cX1_firstIn 12 = .ok (.aload_n 0, 1) := by decide +kernel
theorem dX1_firstIn_13 : decode cX1_firstIn 13 = .ok (.getfield 18, 3) := by decide +kernel
theorem dX1_firstIn_16 : decode cX1_firstIn 16 = .ok (.iload 6, 2) := by decide +kernel
theorem dX1_firstIn_18 : decode cX1_firstIn 18 = .ok (.iaload, 1) := by decide +kernel
theorem dX1_firstIn_19 : decode cX1_firstIn 19 = .ok (.iload_n 3, 1) := by decide +kernel
theorem dX1_firstIn_20 : decode cX1_firstIn 20 = .ok (.if_icmp .gt 18, 3) := by decide +kernel
theorem dX1_firstIn_23 : decode cX1_firstIn 23 = .ok (.aload_n 0, 1) := by decide +kernel
theorem dX1_firstIn_24 : decode cX1_firstIn 24 = .ok (.getfield 21, 3) := by decide +kernel
theorem dX1_firstIn_27 : decode cX1_firstIn 27 = .ok (.iload 6, 2) := by decide +kernel
theorem dX1_firstIn_29 : decode cX1_firstIn 29 = .ok (.iaload, 1) := by decide +kernel
theorem dX1_firstIn_30 : decode cX1_firstIn 30 = .ok (.iload_n 2, 1) := by decide +kernel
theorem dX1_firstIn_31 : decode cX1_firstIn 31 = .ok (.if_icmp .lt 7, 3) := by decide +kernel
theorem dX1_firstIn_34 : decode cX1_firstIn 34 = .ok (.iconst 1, 1) := by decide +kernel
theorem dX1_firstIn_35 : decode cX1_firstIn 35 = .ok (.goto 4, 3) := by decide +kernel
theorem dX1_firstIn_38 : decode cX1_firstIn 38 = .ok (.iconst 0, 1) := by decide +kernel
theorem dX1_firstIn_39 : decode cX1_firstIn 39 = .ok (.istore 7, 2) := by decide +kernel
theorem dX1_firstIn_41 : decode cX1_firstIn 41 = .ok (.aload_n 0, 1) := by decide +kernel
theorem dX1_firstIn_42 : decode cX1_firstIn 42 = .ok (.getfield 24, 3) := by decide +kernel
theorem dX1_firstIn_45 : decode cX1_firstIn 45 = .ok (.iload 6, 2) := by decide +kernel
theorem dX1_firstIn_47 : decode cX1_firstIn 47 = .ok (.iaload, 1) := by decide +kernel
theorem dX1_firstIn_48 : decode cX1_firstIn 48 = .ok (.iload 5, 2) := by decide +kernel
theorem dX1_firstIn_50 : decode cX1_firstIn 50 = .ok (.if_icmp .gt 19, 3) := by decide +kernel
theorem dX1_firstIn_53 : decode cX1_firstIn 53 = .ok (.aload_n 0, 1) := by decide +kernel
theorem dX1_firstIn_54 : decode cX1_firstIn 54 = .ok (.getfield 27, 3) := by decide +kernel
theorem dX1_firstIn_57 : decode cX1_firstIn 57 = .ok (.iload 6, 2) := by decide +kernel
theorem dX1_firstIn_59 : decode cX1_firstIn 59 = .ok (.iaload, 1) := by decide +kernel
theorem dX1_firstIn_60 : decode cX1_firstIn 60 = .ok (.iload 4, 2) := by decide +kernel
theorem dX1_firstIn_62 : decode cX1_firstIn 62 = .ok (.if_icmp .lt 7, 3) := by decide +kernel
theorem dX1_firstIn_65 : decode cX1_firstIn 65 = .ok (.iconst 1, 1) := by decide +kernel
theorem dX1_firstIn_66 : decode cX1_firstIn 66 = .ok (.goto 4, 3) := by decide +kernel
theorem dX1_firstIn_69 : decode cX1_firstIn 69 = .ok (.iconst 0, 1) := by decide +kernel
theorem dX1_firstIn_70 : decode cX1_firstIn 70 = .ok (.istore 8, 2) := by decide +kernel
theorem dX1_firstIn_72 : decode cX1_firstIn 72 = .ok (.aload_n 0, 1) := by decide +kernel
theorem dX1_firstIn_73 : decode cX1_firstIn 73 = .ok (.getfield 9, 3) := by decide +kernel
theorem dX1_firstIn_76 : decode cX1_firstIn 76 = .ok (.iload 6, 2) := by decide +kernel
theorem dX1_firstIn_78 : decode cX1_firstIn 78 = .ok (.iaload, 1) := by decide +kernel
theorem dX1_firstIn_79 : decode cX1_firstIn 79 = .ok (.iload_n 1, 1) := by decide +kernel
theorem dX1_firstIn_80 : decode cX1_firstIn 80 = .ok (.if_icmp .ne 16, 3) := by decide +kernel
theorem dX1_firstIn_83 : decode cX1_firstIn 83 = .ok (.iload 7, 2) := by decide +kernel
theorem dX1_firstIn_85 : decode cX1_firstIn 85 = .ok (.ifCond .eq 11, 3) := by decide +kernel
theorem dX1_firstIn_88 : decode cX1_firstIn 88 = .ok (.iload 8, 2) := by decide +kernel
theorem dX1_firstIn_90 : decode cX1_firstIn 90 = .ok (.ifCond .eq 6, 3) := by decide +kernel
theorem dX1_firstIn_93 : decode cX1_firstIn 93 = .ok (.iload 6, 2) := by decide +kernel
theorem dX1_firstIn_95 : decode cX1_firstIn 95 = .ok (.ireturn, 1) := by decide +kernel
theorem dX1_firstIn_96 : decode cX1_firstIn 96 = .ok (.iinc 6 1, 3) := by decide +kernel
theorem dX1_firstIn_99 : decode cX1_firstIn 99 = .ok (.goto (-96), 3) := by decide +kernel
theorem dX1_firstIn_102 : decode cX1_firstIn 102 = .ok (.bipush (-9), 2) := by decide +kernel
theorem dX1_firstIn_104 : decode cX1_firstIn 104 = .ok (.ireturn, 1) := by decide +kernel
theorem dX1_turnAbout_0 : decode cX1_turnAbout 0 = .ok (.iconst 0, 1) := by decide +kernel
theorem dX1_turnAbout_1 : decode cX1_turnAbout 1 = .ok (.istore_n 1, 1) := by decide +kernel
theorem dX1_turnAbout_2 : decode cX1_turnAbout 2 = .ok (.iconst 0, 1) := by decide +kernel
theorem dX1_turnAbout_3 : decode cX1_turnAbout 3 = .ok (.istore_n 2, 1) := by decide +kernel
theorem dX1_turnAbout_4 : decode cX1_turnAbout 4 = .ok (.iload_n 2, 1) := by decide +kernel
theorem dX1_turnAbout_5 : decode cX1_turnAbout 5 = .ok (.aload_n 0, 1) := by decide +kernel
theorem dX1_turnAbout_6 : decode cX1_turnAbout 6 = .ok (.getfield 33, 3) := by decide +kernel
theorem dX1_turnAbout_9 : decode cX1_turnAbout 9 = .ok (.if_icmp .ge 58, 3) := by decide +kernel
theorem dX1_turnAbout_12 : decode cX1_turnAbout 12 = .ok (.bipush 7, 2) := by decide +kernel
theorem dX1_turnAbout_14 : decode cX1_turnAbout 14 = .ok (.aload_n 0, 1) := by decide +kernel
theorem dX1_turnAbout_15 : decode cX1_turnAbout 15 = .ok (.getfield 21, 3) := by decide +kernel
theorem dX1_turnAbout_18 : decode cX1_turnAbout 18 = .ok (.iload_n 2, 1) := by decide +kernel
theorem dX1_turnAbout_19 : decode cX1_turnAbout 19 = .ok (.iaload, 1) := by decide +kernel
theorem dX1_turnAbout_20 : decode cX1_turnAbout 20 = .ok (.isub, 1) := by decide +kernel
theorem dX1_turnAbout_21 : decode cX1_turnAbout 21 = .ok (.istore_n 3, 1) := by decide +kernel
theorem dX1_turnAbout_22 : decode cX1_turnAbout 22 = .ok (.bipush 7, 2) := by decide +kernel
theorem dX1_turnAbout_24 : decode cX1_turnAbout 24 = .ok (.aload_n 0, 1) := by decide +kernel
theorem dX1_turnAbout_25 : decode cX1_turnAbout 25 = .ok (.getfield 18, 3) := by decide +kernel
theorem dX1_turnAbout_28 : decode cX1_turnAbout 28 = .ok (.iload_n 2, 1) := by decide +kernel
theorem dX1_turnAbout_29 : decode cX1_turnAbout 29 = .ok (.iaload, 1) := by decide +kernel
theorem dX1_turnAbout_30 : decode cX1_turnAbout 30 = .ok (.isub, 1) := by decide +kernel
theorem dX1_turnAbout_31 : decode cX1_turnAbout 31 = .ok (.istore 4, 2) := by decide +kernel
theorem dX1_turnAbout_33 : decode cX1_turnAbout 33 = .ok (.iload_n 3, 1) := by decide +kernel
theorem dX1_turnAbout_34 : decode cX1_turnAbout 34 = .ok (.aload_n 0, 1) := by decide +kernel
theorem dX1_turnAbout_35 : decode cX1_turnAbout 35 = .ok (.getfield 18, 3) := by decide +kernel
theorem dX1_turnAbout_38 : decode cX1_turnAbout 38 = .ok (.iload_n 2, 1) := by decide +kernel
theorem dX1_turnAbout_39 : decode cX1_turnAbout 39 = .ok (.iaload, 1) := by decide +kernel
theorem dX1_turnAbout_40 : decode cX1_turnAbout 40 = .ok (.if_icmp .eq 6, 3) := by decide +kernel
theorem dX1_turnAbout_43 : decode cX1_turnAbout 43 = .ok (.iinc 1 1, 3) := by decide +kernel
theorem dX1_turnAbout_46 : decode cX1_turnAbout 46 = .ok (.aload_n 0, 1) := by decide +kernel
theorem dX1_turnAbout_47 : decode cX1_turnAbout 47 = .ok (.getfield 18, 3) := by decide +kernel
theorem dX1_turnAbout_50 : decode cX1_turnAbout 50 = .ok (.iload_n 2, 1) := by decide +kernel
theorem dX1_turnAbout_51 : decode cX1_turnAbout 51 = .ok (.iload_n 3, 1) := by decide +kernel
theorem dX1_turnAbout_52 : decode cX1_turnAbout 52 = .ok (.iastore, 1) := by decide +kernel
theorem dX1_turnAbout_53 : decode cX1_turnAbout 53 = .ok (.aload_n 0, 1) := by decide +kernel
theorem dX1_turnAbout_54 : decode cX1_turnAbout 54 = .ok (.getfield 21, 3) := by decide +kernel
theorem dX1_turnAbout_57 : decode cX1_turnAbout 57 = .ok (.iload_n 2, 1) := by decide +kernel
theorem dX1_turnAbout_58 : decode cX1_turnAbout 58 = .ok (.iload 4, 2) := by decide +kernel
theorem dX1_turnAbout_60 : decode cX1_turnAbout 60 = .ok (.iastore, 1) := by decide +kernel
theorem dX1_turnAbout_61 : decode cX1_turnAbout 61 = .ok (.iinc 2 1, 3) := by decide +kernel
theorem dX1_turnAbout_64 : decode cX1_turnAbout 64 = .ok (.goto (-60), 3) := by decide +kernel
theorem dX1_turnAbout_67 : decode cX1_turnAbout 67 = .ok (.iload_n 1, 1) := by decide +kernel
theorem dX1_turnAbout_68 : decode cX1_turnAbout 68 = .ok (.ireturn, 1) := by decide +kernel
theorem dX1_manyOf_0 : decode cX1_manyOf 0 = .ok (.iconst 0, 1) := by decide +kernel
theorem dX1_manyOf_1 : decode cX1_manyOf 1 = .ok (.istore_n 2, 1) := by decide +kernel
theorem dX1_manyOf_2 : decode cX1_manyOf 2 = .ok (.iconst 0, 1) := by decide +kernel
theorem dX1_manyOf_3 : decode cX1_manyOf 3 = .ok (.istore_n 3, 1) := by decide +kernel
theorem dX1_manyOf_4 : decode cX1_manyOf 4 = .ok (.iload_n 3, 1) := by decide +kernel
theorem dX1_manyOf_5 : decode cX1_manyOf 5 = .ok (.aload_n 0, 1) := by decide +kernel
theorem dX1_manyOf_6 : decode cX1_manyOf 6 = .ok (.getfield 33, 3) := by decide +kernel
theorem dX1_manyOf_9 : decode cX1_manyOf 9 = .ok (.if_icmp .ge 22, 3) := by decide +kernel
theorem dX1_manyOf_12 : decode cX1_manyOf 12 = .ok (.aload_n 0, 1) := by decide +kernel
theorem dX1_manyOf_13 : decode cX1_manyOf 13 = .ok (.getfield 15, 3) := by decide +kernel
theorem dX1_manyOf_16 : decode cX1_manyOf 16 = .ok (.iload_n 3, 1) := by decide +kernel
theorem dX1_manyOf_17 : decode cX1_manyOf 17 = .ok (.iaload, 1) := by decide +kernel
theorem dX1_manyOf_18 : decode cX1_manyOf 18 = .ok (.iload_n 1, 1) := by decide +kernel
theorem dX1_manyOf_19 : decode cX1_manyOf 19 = .ok (.if_icmp .ne 6, 3) := by decide +kernel
theorem dX1_manyOf_22 : decode cX1_manyOf 22 = .ok (.iinc 2 1, 3) := by decide +kernel
theorem dX1_manyOf_25 : decode cX1_manyOf 25 = .ok (.iinc 3 1, 3) := by decide +kernel
theorem dX1_manyOf_28 : decode cX1_manyOf 28 = .ok (.goto (-24), 3) := by decide +kernel
theorem dX1_manyOf_31 : decode cX1_manyOf 31 = .ok (.iload_n 2, 1) := by decide +kernel
theorem dX1_manyOf_32 : decode cX1_manyOf 32 = .ok (.ireturn, 1) := by decide +kernel
theorem dX1_headBelow_0 : decode cX1_headBelow 0 = .ok (.bipush 30, 2) := by decide +kernel
theorem dX1_headBelow_2 : decode cX1_headBelow 2 = .ok (.istore 4, 2) := by decide +kernel
theorem dX1_headBelow_4 : decode cX1_headBelow 4 = .ok (.iconst 0, 1) := by decide +kernel
theorem dX1_headBelow_5 : decode cX1_headBelow 5 = .ok (.istore 5, 2) := by decide +kernel
theorem dX1_headBelow_7 : decode cX1_headBelow 7 = .ok (.iload 5, 2) := by decide +kernel
theorem dX1_headBelow_9 : decode cX1_headBelow 9 = .ok (.aload_n 0, 1) := by decide +kernel
theorem dX1_headBelow_10 : decode cX1_headBelow 10 = .ok (.getfield 33, 3) := by decide +kernel
theorem dX1_headBelow_13 : decode cX1_headBelow 13 = .ok (.if_icmp .ge 89, 3) := by decide +kernel
theorem dX1_headBelow_16 : decode cX1_headBelow 16 = .ok (.aload_n 0, 1) := by decide +kernel
theorem dX1_headBelow_17 : decode cX1_headBelow 17 = .ok (.getfield 18, 3) := by decide +kernel
theorem dX1_headBelow_20 : decode cX1_headBelow 20 = .ok (.iload 5, 2) := by decide +kernel
theorem dX1_headBelow_22 : decode cX1_headBelow 22 = .ok (.iaload, 1) := by decide +kernel
theorem dX1_headBelow_23 : decode cX1_headBelow 23 = .ok (.iload_n 2, 1) := by decide +kernel
theorem dX1_headBelow_24 : decode cX1_headBelow 24 = .ok (.if_icmp .gt 18, 3) := by decide +kernel
theorem dX1_headBelow_27 : decode cX1_headBelow 27 = .ok (.aload_n 0, 1) := by decide +kernel
theorem dX1_headBelow_28 : decode cX1_headBelow 28 = .ok (.getfield 21, 3) := by decide +kernel
theorem dX1_headBelow_31 : decode cX1_headBelow 31 = .ok (.iload 5, 2) := by decide +kernel
theorem dX1_headBelow_33 : decode cX1_headBelow 33 = .ok (.iaload, 1) := by decide +kernel
theorem dX1_headBelow_34 : decode cX1_headBelow 34 = .ok (.iload_n 2, 1) := by decide +kernel
theorem dX1_headBelow_35 : decode cX1_headBelow 35 = .ok (.if_icmp .lt 7, 3) := by decide +kernel
theorem dX1_headBelow_38 : decode cX1_headBelow 38 = .ok (.iconst 1, 1) := by decide +kernel
theorem dX1_headBelow_39 : decode cX1_headBelow 39 = .ok (.goto 4, 3) := by decide +kernel
theorem dX1_headBelow_42 : decode cX1_headBelow 42 = .ok (.iconst 0, 1) := by decide +kernel
theorem dX1_headBelow_43 : decode cX1_headBelow 43 = .ok (.istore 6, 2) := by decide +kernel
theorem dX1_headBelow_45 : decode cX1_headBelow 45 = .ok (.aload_n 0, 1) := by decide +kernel
theorem dX1_headBelow_46 : decode cX1_headBelow 46 = .ok (.getfield 15, 3) := by decide +kernel
theorem dX1_headBelow_49 : decode cX1_headBelow 49 = .ok (.iload 5, 2) := by decide +kernel
theorem dX1_headBelow_51 : decode cX1_headBelow 51 = .ok (.iaload, 1) := by decide +kernel
theorem dX1_headBelow_52 : decode cX1_headBelow 52 = .ok (.ifCond .ne 44, 3) := by decide +kernel
theorem dX1_headBelow_55 : decode cX1_headBelow 55 = .ok (.aload_n 0, 1) := by decide +kernel
theorem dX1_headBelow_56 : decode cX1_headBelow 56 = .ok (.getfield 9, 3) := by decide +kernel
theorem dX1_headBelow_59 : decode cX1_headBelow 59 = .ok (.iload 5, 2) := by decide +kernel
theorem dX1_headBelow_61 : decode cX1_headBelow 61 = .ok (.iaload, 1) := by decide +kernel
theorem dX1_headBelow_62 : decode cX1_headBelow 62 = .ok (.iload_n 1, 1) := by decide +kernel
theorem dX1_headBelow_63 : decode cX1_headBelow 63 = .ok (.if_icmp .ne 33, 3) := by decide +kernel
theorem dX1_headBelow_66 : decode cX1_headBelow 66 = .ok (.iload 6, 2) := by decide +kernel
theorem dX1_headBelow_68 : decode cX1_headBelow 68 = .ok (.ifCond .eq 28, 3) := by decide +kernel
theorem dX1_headBelow_71 : decode cX1_headBelow 71 = .ok (.aload_n 0, 1) := by decide +kernel
theorem dX1_headBelow_72 : decode cX1_headBelow 72 = .ok (.getfield 24, 3) := by decide +kernel
theorem dX1_headBelow_75 : decode cX1_headBelow 75 = .ok (.iload 5, 2) := by decide +kernel
theorem dX1_headBelow_77 : decode cX1_headBelow 77 = .ok (.iaload, 1) := by decide +kernel
theorem dX1_headBelow_78 : decode cX1_headBelow 78 = .ok (.iload_n 3, 1) := by decide +kernel
theorem dX1_headBelow_79 : decode cX1_headBelow 79 = .ok (.if_icmp .le 17, 3) := by decide +kernel
theorem dX1_headBelow_82 : decode cX1_headBelow 82 = .ok (.iload 4, 2) := by decide +kernel
theorem dX1_headBelow_84 : decode cX1_headBelow 84 = .ok (.aload_n 0, 1) := by decide +kernel
theorem dX1_headBelow_85 : decode cX1_headBelow 85 = .ok (.getfield 24, 3) := by decide +kernel
theorem dX1_headBelow_88 : decode cX1_headBelow 88 = .ok (.iload 5, 2) := by decide +kernel
theorem dX1_headBelow_90 : decode cX1_headBelow 90 = .ok (.iaload, 1) := by decide +kernel
theorem dX1_headBelow_91 : decode cX1_headBelow 91 = .ok (.invokestatic 41, 3) := by decide +kernel
theorem dX1_headBelow_94 : decode cX1_headBelow 94 = .ok (.istore 4, 2) := by decide +kernel
theorem dX1_headBelow_96 : decode cX1_headBelow 96 = .ok (.iinc 5 1, 3) := by decide +kernel
theorem dX1_headBelow_99 : decode cX1_headBelow 99 = .ok (.goto (-92), 3) := by decide +kernel
theorem dX1_headBelow_102 : decode cX1_headBelow 102 = .ok (.iload 4, 2) := by decide +kernel
theorem dX1_headBelow_104 : decode cX1_headBelow 104 = .ok (.ireturn, 1) := by decide +kernel
theorem dX1_isAhead_0 : decode cX1_isAhead 0 = .ok (.aload_n 0, 1) := by decide +kernel
theorem dX1_isAhead_1 : decode cX1_isAhead 1 = .ok (.getfield 18, 3) := by decide +kernel
theorem dX1_isAhead_4 : decode cX1_isAhead 4 = .ok (.iload_n 1, 1) := by decide +kernel
theorem dX1_isAhead_5 : decode cX1_isAhead 5 = .ok (.iaload, 1) := by decide +kernel
theorem dX1_isAhead_6 : decode cX1_isAhead 6 = .ok (.aload_n 0, 1) := by decide +kernel
theorem dX1_isAhead_7 : decode cX1_isAhead 7 = .ok (.getfield 18, 3) := by decide +kernel
theorem dX1_isAhead_10 : decode cX1_isAhead 10 = .ok (.iload_n 2, 1) := by decide +kernel
theorem dX1_isAhead_11 : decode cX1_isAhead 11 = .ok (.iaload, 1) := by decide +kernel
theorem dX1_isAhead_12 : decode cX1_isAhead 12 = .ok (.if_icmp .lt 33, 3) := by decide +kernel
theorem dX1_isAhead_15 : decode cX1_isAhead 15 = .ok (.aload_n 0, 1) := by decide +kernel
theorem dX1_isAhead_16 : decode cX1_isAhead 16 = .ok (.getfield 18, 3) := by decide +kernel
theorem dX1_isAhead_19 : decode cX1_isAhead 19 = .ok (.iload_n 1, 1) := by decide +kernel
theorem dX1_isAhead_20 : decode cX1_isAhead 20 = .ok (.iaload, 1) := by decide +kernel
theorem dX1_isAhead_21 : decode cX1_isAhead 21 = .ok (.aload_n 0, 1) := by decide +kernel
theorem dX1_isAhead_22 : decode cX1_isAhead 22 = .ok (.getfield 18, 3) := by decide +kernel
theorem dX1_isAhead_25 : decode cX1_isAhead 25 = .ok (.iload_n 2, 1) := by decide +kernel
theorem dX1_isAhead_26 : decode cX1_isAhead 26 = .ok (.iaload, 1) := by decide +kernel
theorem dX1_isAhead_27 : decode cX1_isAhead 27 = .ok (.if_icmp .ne 22, 3) := by decide +kernel
theorem dX1_isAhead_30 : decode cX1_isAhead 30 = .ok (.aload_n 0, 1) := by decide +kernel
theorem dX1_isAhead_31 : decode cX1_isAhead 31 = .ok (.getfield 24, 3) := by decide +kernel
theorem dX1_isAhead_34 : decode cX1_isAhead 34 = .ok (.iload_n 1, 1) := by decide +kernel
theorem dX1_isAhead_35 : decode cX1_isAhead 35 = .ok (.iaload, 1) := by decide +kernel
theorem dX1_isAhead_36 : decode cX1_isAhead 36 = .ok (.aload_n 0, 1) := by decide +kernel
theorem dX1_isAhead_37 : decode cX1_isAhead 37 = .ok (.getfield 24, 3) := by decide +kernel
theorem dX1_isAhead_40 : decode cX1_isAhead 40 = .ok (.iload_n 2, 1) := by decide +kernel
theorem dX1_isAhead_41 : decode cX1_isAhead 41 = .ok (.iaload, 1) := by decide +kernel
theorem dX1_isAhead_42 : decode cX1_isAhead 42 = .ok (.if_icmp .ge 7, 3) := by decide +kernel
theorem dX1_isAhead_45 : decode cX1_isAhead 45 = .ok (.iconst 1, 1) := by decide +kernel
theorem dX1_isAhead_46 : decode cX1_isAhead 46 = .ok (.goto 4, 3) := by decide +kernel
theorem dX1_isAhead_49 : decode cX1_isAhead 49 = .ok (.iconst 0, 1) := by decide +kernel
theorem dX1_isAhead_50 : decode cX1_isAhead 50 = .ok (.ireturn, 1) := by decide +kernel
theorem dX2_init_0 : decode cX2_init 0 = .ok (.aload_n 0, 1) := by decide +kernel
theorem dX2_init_1 : decode cX2_init 1 = .ok (.invokespecial 3, 3) := by decide +kernel
theorem dX2_init_4 : decode cX2_init 4 = .ok (.aload_n 0, 1) := by decide +kernel
theorem dX2_init_5 : decode cX2_init 5 = .ok (.bipush 12, 2) := by decide +kernel
theorem dX2_init_7 : decode cX2_init 7 = .ok (.newarray .int, 2) := by decide +kernel
theorem dX2_init_9 : decode cX2_init 9 = .ok (.putfield 9, 3) := by decide +kernel
theorem dX2_init_12 : decode cX2_init 12 = .ok (.aload_n 0, 1) := by decide +kernel
theorem dX2_init_13 : decode cX2_init 13 = .ok (.bipush 12, 2) := by decide +kernel
theorem dX2_init_15 : decode cX2_init 15 = .ok (.newarray .int, 2) := by decide +kernel
theorem dX2_init_17 : decode cX2_init 17 = .ok (.putfield 15, 3) := by decide +kernel
theorem dX2_init_20 : decode cX2_init 20 = .ok (.aload_n 0, 1) := by decide +kernel
theorem dX2_init_21 : decode cX2_init 21 = .ok (.bipush 12, 2) := by decide +kernel
theorem dX2_init_23 : decode cX2_init 23 = .ok (.newarray .int, 2) := by decide +kernel
theorem dX2_init_25 : decode cX2_init 25 = .ok (.putfield 18, 3) := by decide +kernel
theorem dX2_init_28 : decode cX2_init 28 = .ok (.aload_n 0, 1) := by decide +kernel
theorem dX2_init_29 : decode cX2_init 29 = .ok (.bipush 12, 2) := by decide +kernel
theorem dX2_init_31 : decode cX2_init 31 = .ok (.newarray .int, 2) := by decide +kernel
theorem dX2_init_33 : decode cX2_init 33 = .ok (.putfield 21, 3) := by decide +kernel
theorem dX2_init_36 : decode cX2_init 36 = .ok (.aload_n 0, 1) := by decide +kernel
theorem dX2_init_37 : decode cX2_init 37 = .ok (.bipush 12, 2) := by decide +kernel
theorem dX2_init_39 : decode cX2_init 39 = .ok (.newarray .int, 2) := by decide +kernel
theorem dX2_init_41 : decode cX2_init 41 = .ok (.putfield 24, 3) := by decide +kernel
theorem dX2_init_44 : decode cX2_init 44 = .ok (.return_, 1) := by decide +kernel
theorem dX2_has_0 : decode cX2_has 0 = .ok (.iload_n 1, 1) := by decide +kernel
theorem dX2_has_1 : decode cX2_has 1 = .ok (.ifCond .lt 15, 3) := by decide +kernel
theorem dX2_has_4 : decode cX2_has 4 = .ok (.iload_n 1, 1) := by decide +kernel
theorem dX2_has_5 : decode cX2_has 5 = .ok (.aload_n 0, 1) := by decide +kernel
theorem dX2_has_6 : decode cX2_has 6 = .ok (.getfield 27, 3) := by decide +kernel
theorem dX2_has_9 : decode cX2_has 9 = .ok (.if_icmp .ge 7, 3) := by decide +kernel
theorem dX2_has_12 : decode cX2_has 12 = .ok (.iconst 1, 1) := by decide +kernel
theorem dX2_has_13 : decode cX2_has 13 = .ok (.goto 4, 3) := by decide +kernel
theorem dX2_has_16 : decode cX2_has 16 = .ok (.iconst 0, 1) := by decide +kernel
theorem dX2_has_17 : decode cX2_has 17 = .ok (.ireturn, 1) := by decide +kernel
theorem dX2_add_0 : decode cX2_add 0 = .ok (.aload_n 0, 1) := by decide +kernel
theorem dX2_add_1 : decode cX2_add 1 = .ok (.getfield 27, 3) := by decide +kernel
theorem dX2_add_4 : decode cX2_add 4 = .ok (.istore 6, 2) := by decide +kernel
theorem dX2_add_6 : decode cX2_add 6 = .ok (.aload_n 0, 1) := by decide +kernel
theorem dX2_add_7 : decode cX2_add 7 = .ok (.getfield 9, 3) := by decide +kernel
theorem dX2_add_10 : decode cX2_add 10 = .ok (.iload 6, 2) := by decide +kernel
theorem dX2_add_12 : decode cX2_add 12 = .ok (.iload_n 1, 1) := by decide +kernel
theorem dX2_add_13 : decode cX2_add 13 = .ok (.iastore, 1) := by decide +kernel
theorem dX2_add_14 : decode cX2_add 14 = .ok (.aload_n 0, 1) := by decide +kernel
theorem dX2_add_15 : decode cX2_add 15 = .ok (.getfield 15, 3) := by decide +kernel
theorem dX2_add_18 : decode cX2_add 18 = .ok (.iload 6, 2) := by decide +kernel
theorem dX2_add_20 : decode cX2_add 20 = .ok (.iload_n 2, 1) := by decide +kernel
theorem dX2_add_21 : decode cX2_add 21 = .ok (.iastore, 1) := by decide +kernel
theorem dX2_add_22 : decode cX2_add 22 = .ok (.aload_n 0, 1) := by decide +kernel
theorem dX2_add_23 : decode cX2_add 23 = .ok (.getfield 18, 3) := by decide +kernel
theorem dX2_add_26 : decode cX2_add 26 = .ok (.iload 6, 2) := by decide +kernel
theorem dX2_add_28 : decode cX2_add 28 = .ok (.iload_n 3, 1) := by decide +kernel
theorem dX2_add_29 : decode cX2_add 29 = .ok (.iastore, 1) := by decide +kernel
theorem dX2_add_30 : decode cX2_add 30 = .ok (.aload_n 0, 1) := by decide +kernel
theorem dX2_add_31 : decode cX2_add 31 = .ok (.getfield 21, 3) := by decide +kernel
theorem dX2_add_34 : decode cX2_add 34 = .ok (.iload 6, 2) := by decide +kernel
theorem dX2_add_36 : decode cX2_add 36 = .ok (.iload 4, 2) := by decide +kernel
theorem dX2_add_38 : decode cX2_add 38 = .ok (.iastore, 1) := by decide +kernel
theorem dX2_add_39 : decode cX2_add 39 = .ok (.aload_n 0, 1) := by decide +kernel
theorem dX2_add_40 : decode cX2_add 40 = .ok (.getfield 24, 3) := by decide +kernel
theorem dX2_add_43 : decode cX2_add 43 = .ok (.iload 6, 2) := by decide +kernel
theorem dX2_add_45 : decode cX2_add 45 = .ok (.iload 5, 2) := by decide +kernel
theorem dX2_add_47 : decode cX2_add 47 = .ok (.iastore, 1) := by decide +kernel
theorem dX2_add_48 : decode cX2_add 48 = .ok (.aload_n 0, 1) := by decide +kernel
theorem dX2_add_49 : decode cX2_add 49 = .ok (.dup, 1) := by decide +kernel
theorem dX2_add_50 : decode cX2_add 50 = .ok (.getfield 27, 3) := by decide +kernel
theorem dX2_add_53 : decode cX2_add 53 = .ok (.iconst 1, 1) := by decide +kernel
theorem dX2_add_54 : decode cX2_add 54 = .ok (.iadd, 1) := by decide +kernel
theorem dX2_add_55 : decode cX2_add 55 = .ok (.putfield 27, 3) := by decide +kernel
theorem dX2_add_58 : decode cX2_add 58 = .ok (.iload 6, 2) := by decide +kernel
theorem dX2_add_60 : decode cX2_add 60 = .ok (.ireturn, 1) := by decide +kernel
theorem dX2_turnAbout_0 : decode cX2_turnAbout 0 = .ok (.iconst 0, 1) := by decide +kernel
theorem dX2_turnAbout_1 : decode cX2_turnAbout 1 = .ok (.istore_n 1, 1) := by decide +kernel
theorem dX2_turnAbout_2 : decode cX2_turnAbout 2 = .ok (.iload_n 1, 1) := by decide +kernel
theorem dX2_turnAbout_3 : decode cX2_turnAbout 3 = .ok (.aload_n 0, 1) := by decide +kernel
theorem dX2_turnAbout_4 : decode cX2_turnAbout 4 = .ok (.getfield 27, 3) := by decide +kernel
theorem dX2_turnAbout_7 : decode cX2_turnAbout 7 = .ok (.if_icmp .ge 68, 3) := by decide +kernel
theorem dX2_turnAbout_10 : decode cX2_turnAbout 10 = .ok (.aload_n 0, 1) := by decide +kernel
theorem dX2_turnAbout_11 : decode cX2_turnAbout 11 = .ok (.getfield 15, 3) := by decide +kernel
theorem dX2_turnAbout_14 : decode cX2_turnAbout 14 = .ok (.iload_n 1, 1) := by decide +kernel
theorem dX2_turnAbout_15 : decode cX2_turnAbout 15 = .ok (.iaload, 1) := by decide +kernel
theorem dX2_turnAbout_16 : decode cX2_turnAbout 16 = .ok (.ifCond .ne 21, 3) := by decide +kernel
theorem dX2_turnAbout_19 : decode cX2_turnAbout 19 = .ok (.aload_n 0, 1) := by decide +kernel
theorem dX2_turnAbout_20 : decode cX2_turnAbout 20 = .ok (.getfield 18, 3) := by decide +kernel
theorem dX2_turnAbout_23 : decode cX2_turnAbout 23 = .ok (.iload_n 1, 1) := by decide +kernel
theorem dX2_turnAbout_24 : decode cX2_turnAbout 24 = .ok (.bipush 8, 2) := by decide +kernel
theorem dX2_turnAbout_26 : decode cX2_turnAbout 26 = .ok (.aload_n 0, 1) := by decide +kernel
theorem dX2_turnAbout_27 : decode cX2_turnAbout 27 = .ok (.getfield 18, 3) := by decide +kernel
theorem dX2_turnAbout_30 : decode cX2_turnAbout 30 = .ok (.iload_n 1, 1) := by decide +kernel
theorem dX2_turnAbout_31 : decode cX2_turnAbout 31 = .ok (.iaload, 1) := by decide +kernel
theorem dX2_turnAbout_32 : decode cX2_turnAbout 32 = .ok (.isub, 1) := by decide +kernel
theorem dX2_turnAbout_33 : decode cX2_turnAbout 33 = .ok (.iastore, 1) := by decide +kernel
theorem dX2_turnAbout_34 : decode cX2_turnAbout 34 = .ok (.goto 35, 3) := by decide +kernel
theorem dX2_turnAbout_37 : decode cX2_turnAbout 37 = .ok (.bipush 7, 2) := by decide +kernel
theorem dX2_turnAbout_39 : decode cX2_turnAbout 39 = .ok (.aload_n 0, 1) := by decide +kernel
theorem dX2_turnAbout_40 : decode cX2_turnAbout 40 = .ok (.getfield 24, 3) := by decide +kernel
theorem dX2_turnAbout_43 : decode cX2_turnAbout 43 = .ok (.iload_n 1, 1) := by decide +kernel
theorem dX2_turnAbout_44 : decode cX2_turnAbout 44 = .ok (.iaload, 1) := by decide +kernel
theorem dX2_turnAbout_45 : decode cX2_turnAbout 45 = .ok (.isub, 1) := by decide +kernel
theorem dX2_turnAbout_46 : decode cX2_turnAbout 46 = .ok (.istore_n 2, 1) := by decide +kernel
theorem dX2_turnAbout_47 : decode cX2_turnAbout 47 = .ok (.aload_n 0, 1) := by decide +kernel
theorem dX2_turnAbout_48 : decode cX2_turnAbout 48 = .ok (.getfield 24, 3) := by decide +kernel
theorem dX2_turnAbout_51 : decode cX2_turnAbout 51 = .ok (.iload_n 1, 1) := by decide +kernel
theorem dX2_turnAbout_52 : decode cX2_turnAbout 52 = .ok (.bipush 7, 2) := by decide +kernel
theorem dX2_turnAbout_54 : decode cX2_turnAbout 54 = .ok (.aload_n 0, 1) := by decide +kernel
theorem dX2_turnAbout_55 : decode cX2_turnAbout 55 = .ok (.getfield 21, 3) := by decide +kernel
theorem dX2_turnAbout_58 : decode cX2_turnAbout 58 = .ok (.iload_n 1, 1) := by decide +kernel
theorem dX2_turnAbout_59 : decode cX2_turnAbout 59 = .ok (.iaload, 1) := by decide +kernel
theorem dX2_turnAbout_60 : decode cX2_turnAbout 60 = .ok (.isub, 1) := by decide +kernel
theorem dX2_turnAbout_61 : decode cX2_turnAbout 61 = .ok (.iastore, 1) := by decide +kernel
theorem dX2_turnAbout_62 : decode cX2_turnAbout 62 = .ok (.aload_n 0, 1) := by decide +kernel
theorem dX2_turnAbout_63 : decode cX2_turnAbout 63 = .ok (.getfield 21, 3) := by decide +kernel
theorem dX2_turnAbout_66 : decode cX2_turnAbout 66 = .ok (.iload_n 1, 1) := by decide +kernel
theorem dX2_turnAbout_67 : decode cX2_turnAbout 67 = .ok (.iload_n 2, 1) := by decide +kernel
theorem dX2_turnAbout_68 : decode cX2_turnAbout 68 = .ok (.iastore, 1) := by decide +kernel
theorem dX2_turnAbout_69 : decode cX2_turnAbout 69 = .ok (.iinc 1 1, 3) := by decide +kernel
theorem dX2_turnAbout_72 : decode cX2_turnAbout 72 = .ok (.goto (-70), 3) := by decide +kernel
theorem dX2_turnAbout_75 : decode cX2_turnAbout 75 = .ok (.return_, 1) := by decide +kernel
theorem dX2_hasUpright_0 : decode cX2_hasUpright 0 = .ok (.iconst 0, 1) := by decide +kernel
theorem dX2_hasUpright_1 : decode cX2_hasUpright 1 = .ok (.istore 5, 2) := by decide +kernel
theorem dX2_hasUpright_3 : decode cX2_hasUpright 3 = .ok (.iload 5, 2) := by decide +kernel
theorem dX2_hasUpright_5 : decode cX2_hasUpright 5 = .ok (.aload_n 0, 1) := by decide +kernel
theorem dX2_hasUpright_6 : decode cX2_hasUpright 6 = .ok (.getfield 27, 3) := by decide +kernel
theorem dX2_hasUpright_9 : decode cX2_hasUpright 9 = .ok (.if_icmp .ge 78, 3) := by decide +kernel
theorem dX2_hasUpright_12 : decode cX2_hasUpright 12 = .ok (.aload_n 0, 1) := by decide +kernel
theorem dX2_hasUpright_13 : decode cX2_hasUpright 13 = .ok (.getfield 15, 3) := by decide +kernel
theorem dX2_hasUpright_16 : decode cX2_hasUpright 16 = .ok (.iload 5, 2) := by decide +kernel
theorem dX2_hasUpright_18 : decode cX2_hasUpright 18 = .ok (.iaload, 1) := by decide +kernel
theorem dX2_hasUpright_19 : decode cX2_hasUpright 19 = .ok (.ifCond .ne 29, 3) := by decide +kernel
theorem dX2_hasUpright_22 : decode cX2_hasUpright 22 = .ok (.aload_n 0, 1) := by decide +kernel
theorem dX2_hasUpright_23 : decode cX2_hasUpright 23 = .ok (.getfield 9, 3) := by decide +kernel
theorem dX2_hasUpright_26 : decode cX2_hasUpright 26 = .ok (.iload 5, 2) := by decide +kernel
theorem dX2_hasUpright_28 : decode cX2_hasUpright 28 = .ok (.iaload, 1) := by decide +kernel
theorem dX2_hasUpright_29 : decode cX2_hasUpright 29 = .ok (.iload_n 1, 1) := by decide +kernel
theorem dX2_hasUpright_30 : decode cX2_hasUpright 30 = .ok (.if_icmp .ne 18, 3) := by decide +kernel
theorem dX2_hasUpright_33 : decode cX2_hasUpright 33 = .ok (.aload_n 0, 1) := by decide +kernel
theorem dX2_hasUpright_34 : decode cX2_hasUpright 34 = .ok (.getfield 18, 3) := by decide +kernel
theorem dX2_hasUpright_37 : decode cX2_hasUpright 37 = .ok (.iload 5, 2) := by decide +kernel
theorem dX2_hasUpright_39 : decode cX2_hasUpright 39 = .ok (.iaload, 1) := by decide +kernel
theorem dX2_hasUpright_40 : decode cX2_hasUpright 40 = .ok (.iload_n 2, 1) := by decide +kernel
theorem dX2_hasUpright_41 : decode cX2_hasUpright 41 = .ok (.if_icmp .ne 7, 3) := by decide +kernel
theorem dX2_hasUpright_44 : decode cX2_hasUpright 44 = .ok (.iconst 1, 1) := by decide +kernel
theorem dX2_hasUpright_45 : decode cX2_hasUpright 45 = .ok (.goto 4, 3) := by decide +kernel
theorem dX2_hasUpright_48 : decode cX2_hasUpright 48 = .ok (.iconst 0, 1) := by decide +kernel
theorem dX2_hasUpright_49 : decode cX2_hasUpright 49 = .ok (.istore 6, 2) := by decide +kernel
theorem dX2_hasUpright_51 : decode cX2_hasUpright 51 = .ok (.iload 6, 2) := by decide +kernel
theorem dX2_hasUpright_53 : decode cX2_hasUpright 53 = .ok (.ifCond .eq 28, 3) := by decide +kernel
theorem dX2_hasUpright_56 : decode cX2_hasUpright 56 = .ok (.aload_n 0, 1) := by decide +kernel
theorem dX2_hasUpright_57 : decode cX2_hasUpright 57 = .ok (.getfield 21, 3) := by decide +kernel
theorem dX2_hasUpright_60 : decode cX2_hasUpright 60 = .ok (.iload 5, 2) := by decide +kernel
theorem dX2_hasUpright_62 : decode cX2_hasUpright 62 = .ok (.iaload, 1) := by decide +kernel
theorem dX2_hasUpright_63 : decode cX2_hasUpright 63 = .ok (.iload 4, 2) := by decide +kernel
theorem dX2_hasUpright_65 : decode cX2_hasUpright 65 = .ok (.if_icmp .gt 16, 3) := by decide +kernel
theorem dX2_hasUpright_68 : decode cX2_hasUpright 68 = .ok (.aload_n 0, 1) := by decide +kernel
theorem dX2_hasUpright_69 : decode cX2_hasUpright 69 = .ok (.getfield 24, 3) := by decide +kernel
theorem dX2_hasUpright_72 : decode cX2_hasUpright 72 = .ok (.iload 5, 2) := by decide +kernel
theorem dX2_hasUpright_74 : decode cX2_hasUpright 74 = .ok (.iaload, 1) := by decide +kernel
theorem dX2_hasUpright_75 : decode cX2_hasUpright 75 = .ok (.iload_n 3, 1) := by decide +kernel
theorem dX2_hasUpright_76 : decode cX2_hasUpright 76 = .ok (.if_icmp .lt 5, 3) := by decide +kernel
theorem dX2_hasUpright_79 : decode cX2_hasUpright 79 = .ok (.iconst 1, 1) := by decide +kernel
theorem dX2_hasUpright_80 : decode cX2_hasUpright 80 = .ok (.ireturn, 1) := by decide +kernel
theorem dX2_hasUpright_81 : decode cX2_hasUpright 81 = .ok (.iinc 5 1, 3) := by decide +kernel
theorem dX2_hasUpright_84 : decode cX2_hasUpright 84 = .ok (.goto (-81), 3) := by decide +kernel
theorem dX2_hasUpright_87 : decode cX2_hasUpright 87 = .ok (.iconst 0, 1) := by decide +kernel
theorem dX2_hasUpright_88 : decode cX2_hasUpright 88 = .ok (.ireturn, 1) := by decide +kernel
theorem dX2_flatBelow_0 : decode cX2_flatBelow 0 = .ok (.bipush 30, 2) := by decide +kernel
theorem dX2_flatBelow_2 : decode cX2_flatBelow 2 = .ok (.istore 4, 2) := by decide +kernel
theorem dX2_flatBelow_4 : decode cX2_flatBelow 4 = .ok (.iconst 0, 1) := by decide +kernel
theorem dX2_flatBelow_5 : decode cX2_flatBelow 5 = .ok (.istore 5, 2) := by decide +kernel
theorem dX2_flatBelow_7 : decode cX2_flatBelow 7 = .ok (.iload 5, 2) := by decide +kernel
theorem dX2_flatBelow_9 : decode cX2_flatBelow 9 = .ok (.aload_n 0, 1) := by decide +kernel
theorem dX2_flatBelow_10 : decode cX2_flatBelow 10 = .ok (.getfield 27, 3) := by decide +kernel
theorem dX2_flatBelow_13 : decode cX2_flatBelow 13 = .ok (.if_icmp .ge 90, 3) := by decide +kernel
theorem dX2_flatBelow_16 : decode cX2_flatBelow 16 = .ok (.aload_n 0, 1) := by decide +kernel
theorem dX2_flatBelow_17 : decode cX2_flatBelow 17 = .ok (.getfield 15, 3) := by decide +kernel
theorem dX2_flatBelow_20 : decode cX2_flatBelow 20 = .ok (.iload 5, 2) := by decide +kernel
theorem dX2_flatBelow_22 : decode cX2_flatBelow 22 = .ok (.iaload, 1) := by decide +kernel
theorem dX2_flatBelow_23 : decode cX2_flatBelow 23 = .ok (.iconst 1, 1) := by decide +kernel
theorem dX2_flatBelow_24 : decode cX2_flatBelow 24 = .ok (.if_icmp .ne 29, 3) := by decide +kernel
theorem dX2_flatBelow_27 : decode cX2_flatBelow 27 = .ok (.aload_n 0, 1) := by decide +kernel
theorem dX2_flatBelow_28 : decode cX2_flatBelow 28 = .ok (.getfield 21, 3) := by decide +kernel
theorem dX2_flatBelow_31 : decode cX2_flatBelow 31 = .ok (.iload 5, 2) := by decide +kernel
theorem dX2_flatBelow_33 : decode cX2_flatBelow 33 = .ok (.iaload, 1) := by decide +kernel
theorem dX2_flatBelow_34 : decode cX2_flatBelow 34 = .ok (.iload_n 2, 1) := by decide +kernel
theorem dX2_flatBelow_35 : decode cX2_flatBelow 35 = .ok (.if_icmp .gt 18, 3) := by decide +kernel
theorem dX2_flatBelow_38 : decode cX2_flatBelow 38 = .ok (.aload_n 0, 1) := by decide +kernel
theorem dX2_flatBelow_39 : decode cX2_flatBelow 39 = .ok (.getfield 24, 3) := by decide +kernel
theorem dX2_flatBelow_42 : decode cX2_flatBelow 42 = .ok (.iload 5, 2) := by decide +kernel
theorem dX2_flatBelow_44 : decode cX2_flatBelow 44 = .ok (.iaload, 1) := by decide +kernel
theorem dX2_flatBelow_45 : decode cX2_flatBelow 45 = .ok (.iload_n 2, 1) := by decide +kernel
theorem dX2_flatBelow_46 : decode cX2_flatBelow 46 = .ok (.if_icmp .lt 7, 3) := by decide +kernel
theorem dX2_flatBelow_49 : decode cX2_flatBelow 49 = .ok (.iconst 1, 1) := by decide +kernel
theorem dX2_flatBelow_50 : decode cX2_flatBelow 50 = .ok (.goto 4, 3) := by decide +kernel
theorem dX2_flatBelow_53 : decode cX2_flatBelow 53 = .ok (.iconst 0, 1) := by decide +kernel
theorem dX2_flatBelow_54 : decode cX2_flatBelow 54 = .ok (.istore 6, 2) := by decide +kernel
theorem dX2_flatBelow_56 : decode cX2_flatBelow 56 = .ok (.iload 6, 2) := by decide +kernel
theorem dX2_flatBelow_58 : decode cX2_flatBelow 58 = .ok (.ifCond .eq 39, 3) := by decide +kernel
theorem dX2_flatBelow_61 : decode cX2_flatBelow 61 = .ok (.aload_n 0, 1) := by decide +kernel
theorem dX2_flatBelow_62 : decode cX2_flatBelow 62 = .ok (.getfield 9, 3) := by decide +kernel
theorem dX2_flatBelow_65 : decode cX2_flatBelow 65 = .ok (.iload 5, 2) := by decide +kernel
theorem dX2_flatBelow_67 : decode cX2_flatBelow 67 = .ok (.iaload, 1) := by decide +kernel
theorem dX2_flatBelow_68 : decode cX2_flatBelow 68 = .ok (.iload_n 1, 1) := by decide +kernel
theorem dX2_flatBelow_69 : decode cX2_flatBelow 69 = .ok (.if_icmp .ne 28, 3) := by decide +kernel
theorem dX2_flatBelow_72 : decode cX2_flatBelow 72 = .ok (.aload_n 0, 1) := by decide +kernel
theorem dX2_flatBelow_73 : decode cX2_flatBelow 73 = .ok (.getfield 18, 3) := by decide +kernel
theorem dX2_flatBelow_76 : decode cX2_flatBelow 76 = .ok (.iload 5, 2) := by decide +kernel
theorem dX2_flatBelow_78 : decode cX2_flatBelow 78 = .ok (.iaload, 1) := by decide +kernel
theorem dX2_flatBelow_79 : decode cX2_flatBelow 79 = .ok (.iload_n 3, 1) := by decide +kernel
theorem dX2_flatBelow_80 : decode cX2_flatBelow 80 = .ok (.if_icmp .le 17, 3) := by decide +kernel
theorem dX2_flatBelow_83 : decode cX2_flatBelow 83 = .ok (.iload 4, 2) := by decide +kernel
theorem dX2_flatBelow_85 : decode cX2_flatBelow 85 = .ok (.aload_n 0, 1) := by decide +kernel
theorem dX2_flatBelow_86 : decode cX2_flatBelow 86 = .ok (.getfield 18, 3) := by decide +kernel
theorem dX2_flatBelow_89 : decode cX2_flatBelow 89 = .ok (.iload 5, 2) := by decide +kernel
theorem dX2_flatBelow_91 : decode cX2_flatBelow 91 = .ok (.iaload, 1) := by decide +kernel
theorem dX2_flatBelow_92 : decode cX2_flatBelow 92 = .ok (.invokestatic 31, 3) := by decide +kernel
theorem dX2_flatBelow_95 : decode cX2_flatBelow 95 = .ok (.istore 4, 2) := by decide +kernel
theorem dX2_flatBelow_97 : decode cX2_flatBelow 97 = .ok (.iinc 5 1, 3) := by decide +kernel
theorem dX2_flatBelow_100 : decode cX2_flatBelow 100 = .ok (.goto (-93), 3) := by decide +kernel
theorem dX2_flatBelow_103 : decode cX2_flatBelow 103 = .ok (.iload 4, 2) := by decide +kernel
theorem dX2_flatBelow_105 : decode cX2_flatBelow 105 = .ok (.ireturn, 1) := by decide +kernel
theorem dX3_init_0 : decode cX3_init 0 = .ok (.aload_n 0, 1) := by decide +kernel
theorem dX3_init_1 : decode cX3_init 1 = .ok (.invokespecial 3, 3) := by decide +kernel
theorem dX3_init_4 : decode cX3_init 4 = .ok (.aload_n 0, 1) := by decide +kernel
theorem dX3_init_5 : decode cX3_init 5 = .ok (.bipush 48, 2) := by decide +kernel
theorem dX3_init_7 : decode cX3_init 7 = .ok (.newarray .int, 2) := by decide +kernel
theorem dX3_init_9 : decode cX3_init 9 = .ok (.putfield 9, 3) := by decide +kernel
theorem dX3_init_12 : decode cX3_init 12 = .ok (.aload_n 0, 1) := by decide +kernel
theorem dX3_init_13 : decode cX3_init 13 = .ok (.bipush 48, 2) := by decide +kernel
theorem dX3_init_15 : decode cX3_init 15 = .ok (.newarray .int, 2) := by decide +kernel
theorem dX3_init_17 : decode cX3_init 17 = .ok (.putfield 15, 3) := by decide +kernel
theorem dX3_init_20 : decode cX3_init 20 = .ok (.return_, 1) := by decide +kernel
theorem dX3_has_0 : decode cX3_has 0 = .ok (.aload_n 0, 1) := by decide +kernel
theorem dX3_has_1 : decode cX3_has 1 = .ok (.iload_n 1, 1) := by decide +kernel
theorem dX3_has_2 : decode cX3_has 2 = .ok (.iload_n 2, 1) := by decide +kernel
theorem dX3_has_3 : decode cX3_has 3 = .ok (.invokevirtual 18, 3) := by decide +kernel
theorem dX3_has_6 : decode cX3_has 6 = .ok (.bipush (-9), 2) := by decide +kernel
theorem dX3_has_8 : decode cX3_has 8 = .ok (.if_icmp .eq 7, 3) := by decide +kernel
theorem dX3_has_11 : decode cX3_has 11 = .ok (.iconst 1, 1) := by decide +kernel
theorem dX3_has_12 : decode cX3_has 12 = .ok (.goto 4, 3) := by decide +kernel
theorem dX3_has_15 : decode cX3_has 15 = .ok (.iconst 0, 1) := by decide +kernel
theorem dX3_has_16 : decode cX3_has 16 = .ok (.ireturn, 1) := by decide +kernel
theorem dX3_pageOf_0 : decode cX3_pageOf 0 = .ok (.aload_n 0, 1) := by decide +kernel
theorem dX3_pageOf_1 : decode cX3_pageOf 1 = .ok (.getfield 9, 3) := by decide +kernel
theorem dX3_pageOf_4 : decode cX3_pageOf 4 = .ok (.iconst 2, 1) := by decide +kernel
theorem dX3_pageOf_5 : decode cX3_pageOf 5 = .ok (.iload_n 1, 1) := by decide +kernel
theorem dX3_pageOf_6 : decode cX3_pageOf 6 = .ok (.imul, 1) := by decide +kernel
theorem dX3_pageOf_7 : decode cX3_pageOf 7 = .ok (.iload_n 2, 1) := by decide +kernel
theorem dX3_pageOf_8 : decode cX3_pageOf 8 = .ok (.iadd, 1) := by decide +kernel
theorem dX3_pageOf_9 : decode cX3_pageOf 9 = .ok (.iaload, 1) := by decide +kernel
theorem dX3_pageOf_10 : decode cX3_pageOf 10 = .ok (.ireturn, 1) := by decide +kernel
theorem dX3_wordOf_0 : decode cX3_wordOf 0 = .ok (.aload_n 0, 1) := by decide +kernel
theorem dX3_wordOf_1 : decode cX3_wordOf 1 = .ok (.getfield 15, 3) := by decide +kernel
theorem dX3_wordOf_4 : decode cX3_wordOf 4 = .ok (.iconst 2, 1) := by decide +kernel
theorem dX3_wordOf_5 : decode cX3_wordOf 5 = .ok (.iload_n 1, 1) := by decide +kernel
theorem dX3_wordOf_6 : decode cX3_wordOf 6 = .ok (.imul, 1) := by decide +kernel
theorem dX3_wordOf_7 : decode cX3_wordOf 7 = .ok (.iload_n 2, 1) := by decide +kernel
theorem dX3_wordOf_8 : decode cX3_wordOf 8 = .ok (.iadd, 1) := by decide +kernel
theorem dX3_wordOf_9 : decode cX3_wordOf 9 = .ok (.iaload, 1) := by decide +kernel
theorem dX3_wordOf_10 : decode cX3_wordOf 10 = .ok (.ireturn, 1) := by decide +kernel
theorem dX3_put_0 : decode cX3_put 0 = .ok (.aload_n 0, 1) := by decide +kernel
theorem dX3_put_1 : decode cX3_put 1 = .ok (.getfield 9, 3) := by decide +kernel
theorem dX3_put_4 : decode cX3_put 4 = .ok (.iconst 2, 1) := by decide +kernel
theorem dX3_put_5 : decode cX3_put 5 = .ok (.iload_n 1, 1) := by decide +kernel
theorem dX3_put_6 : decode cX3_put 6 = .ok (.imul, 1) := by decide +kernel
theorem dX3_put_7 : decode cX3_put 7 = .ok (.iload_n 2, 1) := by decide +kernel
theorem dX3_put_8 : decode cX3_put 8 = .ok (.iadd, 1) := by decide +kernel
theorem dX3_put_9 : decode cX3_put 9 = .ok (.iload_n 3, 1) := by decide +kernel
theorem dX3_put_10 : decode cX3_put 10 = .ok (.iastore, 1) := by decide +kernel
theorem dX3_put_11 : decode cX3_put 11 = .ok (.aload_n 0, 1) := by decide +kernel
theorem dX3_put_12 : decode cX3_put 12 = .ok (.getfield 15, 3) := by decide +kernel
theorem dX3_put_15 : decode cX3_put 15 = .ok (.iconst 2, 1) := by decide +kernel
theorem dX3_put_16 : decode cX3_put 16 = .ok (.iload_n 1, 1) := by decide +kernel
theorem dX3_put_17 : decode cX3_put 17 = .ok (.imul, 1) := by decide +kernel
theorem dX3_put_18 : decode cX3_put 18 = .ok (.iload_n 2, 1) := by decide +kernel
theorem dX3_put_19 : decode cX3_put 19 = .ok (.iadd, 1) := by decide +kernel
theorem dX3_put_20 : decode cX3_put 20 = .ok (.iload 4, 2) := by decide +kernel
theorem dX3_put_22 : decode cX3_put 22 = .ok (.iastore, 1) := by decide +kernel
theorem dX3_put_23 : decode cX3_put 23 = .ok (.return_, 1) := by decide +kernel
theorem dX3_forget_0 : decode cX3_forget 0 = .ok (.aload_n 0, 1) := by decide +kernel
theorem dX3_forget_1 : decode cX3_forget 1 = .ok (.iload_n 1, 1) := by decide +kernel
theorem dX3_forget_2 : decode cX3_forget 2 = .ok (.iload_n 2, 1) := by decide +kernel
theorem dX3_forget_3 : decode cX3_forget 3 = .ok (.bipush (-9), 2) := by decide +kernel
theorem dX3_forget_5 : decode cX3_forget 5 = .ok (.bipush (-9), 2) := by decide +kernel
theorem dX3_forget_7 : decode cX3_forget 7 = .ok (.invokevirtual 22, 3) := by decide +kernel
theorem dX3_forget_10 : decode cX3_forget 10 = .ok (.return_, 1) := by decide +kernel
theorem dX3_forgetAllOf_0 : decode cX3_forgetAllOf 0 = .ok (.aload_n 0, 1) := by decide +kernel
theorem dX3_forgetAllOf_1 : decode cX3_forgetAllOf 1 = .ok (.iload_n 1, 1) := by decide +kernel
theorem dX3_forgetAllOf_2 : decode cX3_forgetAllOf 2 = .ok (.iconst 0, 1) := by decide +kernel
theorem dX3_forgetAllOf_3 : decode cX3_forgetAllOf 3 = .ok (.invokevirtual 26, 3) := by decide +kernel
theorem dX3_forgetAllOf_6 : decode cX3_forgetAllOf 6 = .ok (.aload_n 0, 1) := by decide +kernel
theorem dX3_forgetAllOf_7 : decode cX3_forgetAllOf 7 = .ok (.iload_n 1, 1) := by decide +kernel
theorem dX3_forgetAllOf_8 : decode cX3_forgetAllOf 8 = .ok (.iconst 1, 1) := by decide +kernel
theorem dX3_forgetAllOf_9 : decode cX3_forgetAllOf 9 = .ok (.invokevirtual 26, 3) := by decide +kernel
theorem dX3_forgetAllOf_12 : decode cX3_forgetAllOf 12 = .ok (.return_, 1) := by decide +kernel
theorem dX4_init_0 : decode cX4_init 0 = .ok (.aload_n 0, 1) := by decide +kernel
theorem dX4_init_1 : decode cX4_init 1 = .ok (.invokespecial 3, 3) := by decide +kernel
theorem dX4_init_4 : decode cX4_init 4 = .ok (.aload_n 0, 1) := by decide +kernel
theorem dX4_init_5 : decode cX4_init 5 = .ok (.aload_n 1, 1) := by decide +kernel
theorem dX4_init_6 : decode cX4_init 6 = .ok (.putfield 9, 3) := by decide +kernel
theorem dX4_init_9 : decode cX4_init 9 = .ok (.aload_n 0, 1) := by decide +kernel
theorem dX4_init_10 : decode cX4_init 10 = .ok (.aload_n 2, 1) := by decide +kernel
theorem dX4_init_11 : decode cX4_init 11 = .ok (.putfield 15, 3) := by decide +kernel
theorem dX4_init_14 : decode cX4_init 14 = .ok (.return_, 1) := by decide +kernel
theorem dX4_lastColumn_0 : decode cX4_lastColumn 0 = .ok (.aload_n 0, 1) := by decide +kernel
theorem dX4_lastColumn_1 : decode cX4_lastColumn 1 = .ok (.getfield 9, 3) := by decide +kernel
theorem dX4_lastColumn_4 : decode cX4_lastColumn 4 = .ok (.getfield 19, 3) := by decide +kernel
theorem dX4_lastColumn_7 : decode cX4_lastColumn 7 = .ok (.iload_n 1, 1) := by decide +kernel
theorem dX4_lastColumn_8 : decode cX4_lastColumn 8 = .ok (.iaload, 1) := by decide +kernel
theorem dX4_lastColumn_9 : decode cX4_lastColumn 9 = .ok (.iconst 1, 1) := by decide +kernel
theorem dX4_lastColumn_10 : decode cX4_lastColumn 10 = .ok (.iadd, 1) := by decide +kernel
theorem dX4_lastColumn_11 : decode cX4_lastColumn 11 = .ok (.istore_n 2, 1) := by decide +kernel
theorem dX4_lastColumn_12 : decode cX4_lastColumn 12 = .ok (.aload_n 0, 1) := by decide +kernel
theorem dX4_lastColumn_13 : decode cX4_lastColumn 13 = .ok (.getfield 9, 3) := by decide +kernel
theorem dX4_lastColumn_16 : decode cX4_lastColumn 16 = .ok (.getfield 25, 3) := by decide +kernel
theorem dX4_lastColumn_19 : decode cX4_lastColumn 19 = .ok (.iload_n 1, 1) := by decide +kernel
theorem dX4_lastColumn_20 : decode cX4_lastColumn 20 = .ok (.iaload, 1) := by decide +kernel
theorem dX4_lastColumn_21 : decode cX4_lastColumn 21 = .ok (.iconst 1, 1) := by decide +kernel
theorem dX4_lastColumn_22 : decode cX4_lastColumn 22 = .ok (.iadd, 1) := by decide +kernel
theorem dX4_lastColumn_23 : decode cX4_lastColumn 23 = .ok (.istore_n 3, 1) := by decide +kernel
theorem dX4_lastColumn_24 : decode cX4_lastColumn 24 = .ok (.iload_n 3, 1) := by decide +kernel
theorem dX4_lastColumn_25 : decode cX4_lastColumn 25 = .ok (.aload_n 0, 1) := by decide +kernel
theorem dX4_lastColumn_26 : decode cX4_lastColumn 26 = .ok (.getfield 9, 3) := by decide +kernel
theorem dX4_lastColumn_29 : decode cX4_lastColumn 29 = .ok (.getfield 28, 3) := by decide +kernel
theorem dX4_lastColumn_32 : decode cX4_lastColumn 32 = .ok (.iload_n 1, 1) := by decide +kernel
theorem dX4_lastColumn_33 : decode cX4_lastColumn 33 = .ok (.iaload, 1) := by decide +kernel
theorem dX4_lastColumn_34 : decode cX4_lastColumn 34 = .ok (.if_icmp .gt 35, 3) := by decide +kernel
theorem dX4_lastColumn_37 : decode cX4_lastColumn 37 = .ok (.aload_n 0, 1) := by decide +kernel
theorem dX4_lastColumn_38 : decode cX4_lastColumn 38 = .ok (.getfield 15, 3) := by decide +kernel
theorem dX4_lastColumn_41 : decode cX4_lastColumn 41 = .ok (.aload_n 0, 1) := by decide +kernel
theorem dX4_lastColumn_42 : decode cX4_lastColumn 42 = .ok (.getfield 9, 3) := by decide +kernel
theorem dX4_lastColumn_45 : decode cX4_lastColumn 45 = .ok (.getfield 31, 3) := by decide +kernel
theorem dX4_lastColumn_48 : decode cX4_lastColumn 48 = .ok (.iload_n 1, 1) := by decide +kernel
theorem dX4_lastColumn_49 : decode cX4_lastColumn 49 = .ok (.iaload, 1) := by decide +kernel
theorem dX4_lastColumn_50 : decode cX4_lastColumn 50 = .ok (.iload_n 3, 1) := by decide +kernel
theorem dX4_lastColumn_51 : decode cX4_lastColumn 51 = .ok (.iload_n 2, 1) := by decide +kernel
theorem dX4_lastColumn_52 : decode cX4_lastColumn 52 = .ok (.iload_n 2, 1) := by decide +kernel
theorem dX4_lastColumn_53 : decode cX4_lastColumn 53 = .ok (.invokevirtual 34, 3) := by decide +kernel
theorem dX4_lastColumn_56 : decode cX4_lastColumn 56 = .ok (.ifCond .eq 7, 3) := by decide +kernel
theorem dX4_lastColumn_59 : decode cX4_lastColumn 59 = .ok (.iload_n 3, 1) := by decide +kernel
theorem dX4_lastColumn_60 : decode cX4_lastColumn 60 = .ok (.iconst 1, 1) := by decide +kernel
theorem dX4_lastColumn_61 : decode cX4_lastColumn 61 = .ok (.isub, 1) := by decide +kernel
theorem dX4_lastColumn_62 : decode cX4_lastColumn 62 = .ok (.ireturn, 1) := by decide +kernel
theorem dX4_lastColumn_63 : decode cX4_lastColumn 63 = .ok (.iinc 3 1, 3) := by decide +kernel
theorem dX4_lastColumn_66 : decode cX4_lastColumn 66 = .ok (.goto (-42), 3) := by decide +kernel
theorem dX4_lastColumn_69 : decode cX4_lastColumn 69 = .ok (.aload_n 0, 1) := by decide +kernel
theorem dX4_lastColumn_70 : decode cX4_lastColumn 70 = .ok (.getfield 9, 3) := by decide +kernel
theorem dX4_lastColumn_73 : decode cX4_lastColumn 73 = .ok (.getfield 28, 3) := by decide +kernel
theorem dX4_lastColumn_76 : decode cX4_lastColumn 76 = .ok (.iload_n 1, 1) := by decide +kernel
theorem dX4_lastColumn_77 : decode cX4_lastColumn 77 = .ok (.iaload, 1) := by decide +kernel
theorem dX4_lastColumn_78 : decode cX4_lastColumn 78 = .ok (.ireturn, 1) := by decide +kernel
theorem dX4_lastRow_0 : decode cX4_lastRow 0 = .ok (.iload_n 2, 1) := by decide +kernel
theorem dX4_lastRow_1 : decode cX4_lastRow 1 = .ok (.aload_n 0, 1) := by decide +kernel
theorem dX4_lastRow_2 : decode cX4_lastRow 2 = .ok (.getfield 9, 3) := by decide +kernel
theorem dX4_lastRow_5 : decode cX4_lastRow 5 = .ok (.getfield 25, 3) := by decide +kernel
theorem dX4_lastRow_8 : decode cX4_lastRow 8 = .ok (.iload_n 1, 1) := by decide +kernel
theorem dX4_lastRow_9 : decode cX4_lastRow 9 = .ok (.iaload, 1) := by decide +kernel
theorem dX4_lastRow_10 : decode cX4_lastRow 10 = .ok (.if_icmp .lt 12, 3) := by decide +kernel
theorem dX4_lastRow_13 : decode cX4_lastRow 13 = .ok (.iload_n 2, 1) := by decide +kernel
theorem dX4_lastRow_14 : decode cX4_lastRow 14 = .ok (.aload_n 0, 1) := by decide +kernel
theorem dX4_lastRow_15 : decode cX4_lastRow 15 = .ok (.iload_n 1, 1) := by decide +kernel
theorem dX4_lastRow_16 : decode cX4_lastRow 16 = .ok (.invokevirtual 40, 3) := by decide +kernel
theorem dX4_lastRow_19 : decode cX4_lastRow 19 = .ok (.if_icmp .le 6, 3) := by decide +kernel
theorem dX4_lastRow_22 : decode cX4_lastRow 22 = .ok (.bipush (-9), 2) := by decide +kernel
theorem dX4_lastRow_24 : decode cX4_lastRow 24 = .ok (.ireturn, 1) := by decide +kernel
theorem dX4_lastRow_25 : decode cX4_lastRow 25 = .ok (.aload_n 0, 1) := by decide +kernel
theorem dX4_lastRow_26 : decode cX4_lastRow 26 = .ok (.getfield 9, 3) := by decide +kernel
theorem dX4_lastRow_29 : decode cX4_lastRow 29 = .ok (.getfield 31, 3) := by decide +kernel
theorem dX4_lastRow_32 : decode cX4_lastRow 32 = .ok (.iload_n 1, 1) := by decide +kernel
theorem dX4_lastRow_33 : decode cX4_lastRow 33 = .ok (.iaload, 1) := by decide +kernel
theorem dX4_lastRow_34 : decode cX4_lastRow 34 = .ok (.istore_n 3, 1) := by decide +kernel
theorem dX4_lastRow_35 : decode cX4_lastRow 35 = .ok (.aload_n 0, 1) := by decide +kernel
theorem dX4_lastRow_36 : decode cX4_lastRow 36 = .ok (.getfield 9, 3) := by decide +kernel
theorem dX4_lastRow_39 : decode cX4_lastRow 39 = .ok (.getfield 19, 3) := by decide +kernel
theorem dX4_lastRow_42 : decode cX4_lastRow 42 = .ok (.iload_n 1, 1) := by decide +kernel
theorem dX4_lastRow_43 : decode cX4_lastRow 43 = .ok (.iaload, 1) := by decide +kernel
theorem dX4_lastRow_44 : decode cX4_lastRow 44 = .ok (.istore 4, 2) := by decide +kernel
theorem dX4_lastRow_46 : decode cX4_lastRow 46 = .ok (.aload_n 0, 1) := by decide +kernel
theorem dX4_lastRow_47 : decode cX4_lastRow 47 = .ok (.getfield 9, 3) := by decide +kernel
theorem dX4_lastRow_50 : decode cX4_lastRow 50 = .ok (.iload_n 3, 1) := by decide +kernel
theorem dX4_lastRow_51 : decode cX4_lastRow 51 = .ok (.iload_n 2, 1) := by decide +kernel
theorem dX4_lastRow_52 : decode cX4_lastRow 52 = .ok (.iload 4, 2) := by decide +kernel
theorem dX4_lastRow_54 : decode cX4_lastRow 54 = .ok (.invokevirtual 44, 3) := by decide +kernel
theorem dX4_lastRow_57 : decode cX4_lastRow 57 = .ok (.aload_n 0, 1) := by decide +kernel
theorem dX4_lastRow_58 : decode cX4_lastRow 58 = .ok (.getfield 15, 3) := by decide +kernel
theorem dX4_lastRow_61 : decode cX4_lastRow 61 = .ok (.iload_n 3, 1) := by decide +kernel
theorem dX4_lastRow_62 : decode cX4_lastRow 62 = .ok (.iload_n 2, 1) := by decide +kernel
theorem dX4_lastRow_63 : decode cX4_lastRow 63 = .ok (.iload 4, 2) := by decide +kernel
theorem dX4_lastRow_65 : decode cX4_lastRow 65 = .ok (.invokevirtual 48, 3) := by decide +kernel
theorem dX4_lastRow_68 : decode cX4_lastRow 68 = .ok (.invokestatic 51, 3) := by decide +kernel
theorem dX4_lastRow_71 : decode cX4_lastRow 71 = .ok (.istore 5, 2) := by decide +kernel
theorem dX4_lastRow_73 : decode cX4_lastRow 73 = .ok (.iload 5, 2) := by decide +kernel
theorem dX4_lastRow_75 : decode cX4_lastRow 75 = .ok (.iconst 1, 1) := by decide +kernel
theorem dX4_lastRow_76 : decode cX4_lastRow 76 = .ok (.isub, 1) := by decide +kernel
theorem dX4_lastRow_77 : decode cX4_lastRow 77 = .ok (.iload 4, 2) := by decide +kernel
theorem dX4_lastRow_79 : decode cX4_lastRow 79 = .ok (.if_icmp .le 10, 3) := by decide +kernel
theorem dX4_lastRow_82 : decode cX4_lastRow 82 = .ok (.iload 5, 2) := by decide +kernel
theorem dX4_lastRow_84 : decode cX4_lastRow 84 = .ok (.iconst 1, 1) := by decide +kernel
theorem dX4_lastRow_85 : decode cX4_lastRow 85 = .ok (.isub, 1) := by decide +kernel
theorem dX4_lastRow_86 : decode cX4_lastRow 86 = .ok (.goto 5, 3) := by decide +kernel
theorem dX4_lastRow_89 : decode cX4_lastRow 89 = .ok (.bipush (-9), 2) := by decide +kernel
theorem dX4_lastRow_91 : decode cX4_lastRow 91 = .ok (.ireturn, 1) := by decide +kernel
theorem dX4_headOver_0 : decode cX4_headOver 0 = .ok (.iconst 0, 1) := by decide +kernel
