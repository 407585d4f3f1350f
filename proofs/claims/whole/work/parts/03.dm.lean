theorem dX2_init_0 : decode cX2_init 0 = .ok (.aload_n 0, 1) := by decide +kernel
theorem dX2_init_1 : decode cX2_init 1 = .ok (.invokespecial 1, 3) := by decide +kernel
theorem dX2_init_4 : decode cX2_init 4 = .ok (.aload_n 0, 1) := by decide +kernel
theorem dX2_init_5 : decode cX2_init 5 = .ok (.bipush 10, 2) := by decide +kernel
theorem dX2_init_7 : decode cX2_init 7 = .ok (.newarray .int, 2) := by decide +kernel
theorem dX2_init_9 : decode cX2_init 9 = .ok (.putfield 7, 3) := by decide +kernel
theorem dX2_init_12 : decode cX2_init 12 = .ok (.aload_n 0, 1) := by decide +kernel
theorem dX2_init_13 : decode cX2_init 13 = .ok (.sipush 600, 3) := by decide +kernel
theorem dX2_init_16 : decode cX2_init 16 = .ok (.newarray .int, 2) := by decide +kernel
theorem dX2_init_18 : decode cX2_init 18 = .ok (.putfield 13, 3) := by decide +kernel
theorem dX2_init_21 : decode cX2_init 21 = .ok (.aload_n 0, 1) := by decide +kernel
theorem dX2_init_22 : decode cX2_init 22 = .ok (.sipush 3600, 3) := by decide +kernel
theorem dX2_init_25 : decode cX2_init 25 = .ok (.newarray .int, 2) := by decide +kernel
theorem dX2_init_27 : decode cX2_init 27 = .ok (.putfield 16, 3) := by decide +kernel
theorem dX2_init_30 : decode cX2_init 30 = .ok (.aload_n 0, 1) := by decide +kernel
theorem dX2_init_31 : decode cX2_init 31 = .ok (.iconst 3, 1) := by decide +kernel
theorem dX2_init_32 : decode cX2_init 32 = .ok (.newarray .int, 2) := by decide +kernel
theorem dX2_init_34 : decode cX2_init 34 = .ok (.putfield 19, 3) := by decide +kernel
theorem dX2_init_37 : decode cX2_init 37 = .ok (.aload_n 0, 1) := by decide +kernel
theorem dX2_init_38 : decode cX2_init 38 = .ok (.sipush 600, 3) := by decide +kernel
theorem dX2_init_41 : decode cX2_init 41 = .ok (.newarray .int, 2) := by decide +kernel
theorem dX2_init_43 : decode cX2_init 43 = .ok (.putfield 22, 3) := by decide +kernel
theorem dX2_init_46 : decode cX2_init 46 = .ok (.aload_n 0, 1) := by decide +kernel
theorem dX2_init_47 : decode cX2_init 47 = .ok (.sipush 600, 3) := by decide +kernel
theorem dX2_init_50 : decode cX2_init 50 = .ok (.newarray .int, 2) := by decide +kernel
theorem dX2_init_52 : decode cX2_init 52 = .ok (.putfield 25, 3) := by decide +kernel
theorem dX2_init_55 : decode cX2_init 55 = .ok (.aload_n 0, 1) := by decide +kernel
theorem dX2_init_56 : decode cX2_init 56 = .ok (.sipush 600, 3) := by decide +kernel
theorem dX2_init_59 : decode cX2_init 59 = .ok (.newarray .int, 2) := by decide +kernel
theorem dX2_init_61 : decode cX2_init 61 = .ok (.putfield 28, 3) := by decide +kernel
theorem dX2_init_64 : decode cX2_init 64 = .ok (.aload_n 0, 1) := by decide +kernel
theorem dX2_init_65 : decode cX2_init 65 = .ok (.sipush 600, 3) := by decide +kernel
theorem dX2_init_68 : decode cX2_init 68 = .ok (.newarray .int, 2) := by decide +kernel
theorem dX2_init_70 : decode cX2_init 70 = .ok (.putfield 31, 3) := by decide +kernel
theorem dX2_init_73 : decode cX2_init 73 = .ok (.aload_n 0, 1) := by decide +kernel
theorem dX2_init_74 : decode cX2_init 74 = .ok (.sipush 600, 3) := by decide +kernel
theorem dX2_init_77 : decode cX2_init 77 = .ok (.newarray .int, 2) := by decide +kernel
theorem dX2_init_79 : decode cX2_init 79 = .ok (.putfield 34, 3) := by decide +kernel
theorem dX2_init_82 : decode cX2_init 82 = .ok (.aload_n 0, 1) := by decide +kernel
theorem dX2_init_83 : decode cX2_init 83 = .ok (.bipush 20, 2) := by decide +kernel
theorem dX2_init_85 : decode cX2_init 85 = .ok (.newarray .int, 2) := by decide +kernel
theorem dX2_init_87 : decode cX2_init 87 = .ok (.putfield 37, 3) := by decide +kernel
theorem dX2_init_90 : decode cX2_init 90 = .ok (.aload_n 0, 1) := by decide +kernel
theorem dX2_init_91 : decode cX2_init 91 = .ok (.bipush 20, 2) := by decide +kernel
theorem dX2_init_93 : decode cX2_init 93 = .ok (.newarray .int, 2) := by decide +kernel
theorem dX2_init_95 : decode cX2_init 95 = .ok (.putfield 40, 3) := by decide +kernel
theorem dX2_init_98 : decode cX2_init 98 = .ok (.aload_n 0, 1) := by decide +kernel
theorem dX2_init_99 : decode cX2_init 99 = .ok (.bipush 12, 2) := by decide +kernel
theorem dX2_init_101 : decode cX2_init 101 = .ok (.newarray .int, 2) := by decide +kernel
theorem dX2_init_103 : decode cX2_init 103 = .ok (.putfield 43, 3) := by decide +kernel
theorem dX2_init_106 : decode cX2_init 106 = .ok (.aload_n 0, 1) := by decide +kernel
theorem dX2_init_107 : decode cX2_init 107 = .ok (.bipush 12, 2) := by decide +kernel
theorem dX2_init_109 : decode cX2_init 109 = .ok (.newarray .int, 2) := by decide +kernel
theorem dX2_init_111 : decode cX2_init 111 = .ok (.putfield 46, 3) := by decide +kernel
theorem dX2_init_114 : decode cX2_init 114 = .ok (.aload_n 0, 1) := by decide +kernel
theorem dX2_init_115 : decode cX2_init 115 = .ok (.bipush 16, 2) := by decide +kernel
theorem dX2_init_117 : decode cX2_init 117 = .ok (.newarray .int, 2) := by decide +kernel
theorem dX2_init_119 : decode cX2_init 119 = .ok (.putfield 49, 3) := by decide +kernel
theorem dX2_init_122 : decode cX2_init 122 = .ok (.aload_n 0, 1) := by decide +kernel
theorem dX2_init_123 : decode cX2_init 123 = .ok (.bipush 16, 2) := by decide +kernel
theorem dX2_init_125 : decode cX2_init 125 = .ok (.newarray .int, 2) := by decide +kernel
theorem dX2_init_127 : decode cX2_init 127 = .ok (.putfield 52, 3) := by decide +kernel
theorem dX2_init_130 : decode cX2_init 130 = .ok (.aload_n 0, 1) := by decide +kernel
theorem dX2_init_131 : decode cX2_init 131 = .ok (.bipush 16, 2) := by decide +kernel
theorem dX2_init_133 : decode cX2_init 133 = .ok (.newarray .int, 2) := by decide +kernel
theorem dX2_init_135 : decode cX2_init 135 = .ok (.putfield 55, 3) := by decide +kernel
theorem dX2_init_138 : decode cX2_init 138 = .ok (.aload_n 0, 1) := by decide +kernel
theorem dX2_init_139 : decode cX2_init 139 = .ok (.bipush 16, 2) := by decide +kernel
theorem dX2_init_141 : decode cX2_init 141 = .ok (.newarray .int, 2) := by decide +kernel
theorem dX2_init_143 : decode cX2_init 143 = .ok (.putfield 58, 3) := by decide +kernel
theorem dX2_init_146 : decode cX2_init 146 = .ok (.aload_n 0, 1) := by decide +kernel
theorem dX2_init_147 : decode cX2_init 147 = .ok (.invokevirtual 61, 3) := by decide +kernel
theorem dX2_init_150 : decode cX2_init 150 = .ok (.return_, 1) := by decide +kernel
theorem dX2_reset_0 : decode cX2_reset 0 = .ok (.iconst 0, 1) := by decide +kernel
theorem dX2_reset_1 : decode cX2_reset 1 = .ok (.istore_n 1, 1) := by decide +kernel
theorem dX2_reset_2 : decode cX2_reset 2 = .ok (.iload_n 1, 1) := by decide +kernel
theorem dX2_reset_3 : decode cX2_reset 3 = .ok (.bipush 10, 2) := by decide +kernel
theorem dX2_reset_5 : decode cX2_reset 5 = .ok (.if_icmp .ge 16, 3) := by decide +kernel
theorem dX2_reset_8 : decode cX2_reset 8 = .ok (.aload_n 0, 1) := by decide +kernel
theorem dX2_reset_9 : decode cX2_reset 9 = .ok (.getfield 7, 3) := by decide +kernel
theorem dX2_reset_12 : decode cX2_reset 12 = .ok (.iload_n 1, 1) := by decide +kernel
theorem dX2_reset_13 : decode cX2_reset 13 = .ok (.iconst 0, 1) := by decide +kernel
theorem dX2_reset_14 : decode cX2_reset 14 = .ok (.iastore, 1) := by decide +kernel
theorem dX2_reset_15 : decode cX2_reset 15 = .ok (.iinc 1 1, 3) := by decide +kernel
theorem dX2_reset_18 : decode cX2_reset 18 = .ok (.goto (-16), 3) := by decide +kernel
theorem dX2_reset_21 : decode cX2_reset 21 = .ok (.aload_n 0, 1) := by decide +kernel
theorem dX2_reset_22 : decode cX2_reset 22 = .ok (.iconst 1, 1) := by decide +kernel
theorem dX2_reset_23 : decode cX2_reset 23 = .ok (.putfield 64, 3) := by decide +kernel
theorem dX2_reset_26 : decode cX2_reset 26 = .ok (.aload_n 0, 1) := by decide +kernel
theorem dX2_reset_27 : decode cX2_reset 27 = .ok (.getfield 13, 3) := by decide +kernel
theorem dX2_reset_30 : decode cX2_reset 30 = .ok (.iconst 0, 1) := by decide +kernel
theorem dX2_reset_31 : decode cX2_reset 31 = .ok (.iconst 0, 1) := by decide +kernel
theorem dX2_reset_32 : decode cX2_reset 32 = .ok (.iastore, 1) := by decide +kernel
theorem dX2_reset_33 : decode cX2_reset 33 = .ok (.iconst 0, 1) := by decide +kernel
theorem dX2_reset_34 : decode cX2_reset 34 = .ok (.istore_n 1, 1) := by decide +kernel
theorem dX2_reset_35 : decode cX2_reset 35 = .ok (.iload_n 1, 1) := by decide +kernel
theorem dX2_reset_36 : decode cX2_reset 36 = .ok (.iconst 3, 1) := by decide +kernel
theorem dX2_reset_37 : decode cX2_reset 37 = .ok (.if_icmp .ge 16, 3) := by decide +kernel
theorem dX2_reset_40 : decode cX2_reset 40 = .ok (.aload_n 0, 1) := by decide +kernel
theorem dX2_reset_41 : decode cX2_reset 41 = .ok (.getfield 19, 3) := by decide +kernel
theorem dX2_reset_44 : decode cX2_reset 44 = .ok (.iload_n 1, 1) := by decide +kernel
theorem dX2_reset_45 : decode cX2_reset 45 = .ok (.iconst 0, 1) := by decide +kernel
theorem dX2_reset_46 : decode cX2_reset 46 = .ok (.iastore, 1) := by decide +kernel
theorem dX2_reset_47 : decode cX2_reset 47 = .ok (.iinc 1 1, 3) := by decide +kernel
theorem dX2_reset_50 : decode cX2_reset 50 = .ok (.goto (-15), 3) := by decide +kernel
theorem dX2_reset_53 : decode cX2_reset 53 = .ok (.aload_n 0, 1) := by decide +kernel
theorem dX2_reset_54 : decode cX2_reset 54 = .ok (.iconst 0, 1) := by decide +kernel
theorem dX2_reset_55 : decode cX2_reset 55 = .ok (.putfield 68, 3) := by decide +kernel
theorem dX2_reset_58 : decode cX2_reset 58 = .ok (.iconst 0, 1) := by decide +kernel
theorem dX2_reset_59 : decode cX2_reset 59 = .ok (.istore_n 1, 1) := by decide +kernel
theorem dX2_reset_60 : decode cX2_reset 60 = .ok (.iload_n 1, 1) := by decide +kernel
theorem dX2_reset_61 : decode cX2_reset 61 = .ok (.bipush 20, 2) := by decide +kernel
theorem dX2_reset_63 : decode cX2_reset 63 = .ok (.if_icmp .ge 25, 3) := by decide +kernel
theorem dX2_reset_66 : decode cX2_reset 66 = .ok (.aload_n 0, 1) := by decide +kernel
theorem dX2_reset_67 : decode cX2_reset 67 = .ok (.getfield 37, 3) := by decide +kernel
theorem dX2_reset_70 : decode cX2_reset 70 = .ok (.iload_n 1, 1) := by decide +kernel
theorem dX2_reset_71 : decode cX2_reset 71 = .ok (.bipush (-2), 2) := by decide +kernel
theorem dX2_reset_73 : decode cX2_reset 73 = .ok (.iastore, 1) := by decide +kernel
theorem dX2_reset_74 : decode cX2_reset 74 = .ok (.aload_n 0, 1) := by decide +kernel
theorem dX2_reset_75 : decode cX2_reset 75 = .ok (.getfield 40, 3) := by decide +kernel
theorem dX2_reset_78 : decode cX2_reset 78 = .ok (.iload_n 1, 1) := by decide +kernel
theorem dX2_reset_79 : decode cX2_reset 79 = .ok (.bipush (-2), 2) := by decide +kernel
theorem dX2_reset_81 : decode cX2_reset 81 = .ok (.iastore, 1) := by decide +kernel
theorem dX2_reset_82 : decode cX2_reset 82 = .ok (.iinc 1 1, 3) := by decide +kernel
theorem dX2_reset_85 : decode cX2_reset 85 = .ok (.goto (-25), 3) := by decide +kernel
theorem dX2_reset_88 : decode cX2_reset 88 = .ok (.aload_n 0, 1) := by decide +kernel
theorem dX2_reset_89 : decode cX2_reset 89 = .ok (.iconst 0, 1) := by decide +kernel
theorem dX2_reset_90 : decode cX2_reset 90 = .ok (.putfield 71, 3) := by decide +kernel
theorem dX2_reset_93 : decode cX2_reset 93 = .ok (.aload_n 0, 1) := by decide +kernel
theorem dX2_reset_94 : decode cX2_reset 94 = .ok (.iconst 0, 1) := by decide +kernel
theorem dX2_reset_95 : decode cX2_reset 95 = .ok (.putfield 74, 3) := by decide +kernel
theorem dX2_reset_98 : decode cX2_reset 98 = .ok (.aload_n 0, 1) := by decide +kernel
theorem dX2_reset_99 : decode cX2_reset 99 = .ok (.iconst 0, 1) := by decide +kernel
theorem dX2_reset_100 : decode cX2_reset 100 = .ok (.putfield 77, 3) := by decide +kernel
theorem dX2_reset_103 : decode cX2_reset 103 = .ok (.aload_n 0, 1) := by decide +kernel
theorem dX2_reset_104 : decode cX2_reset 104 = .ok (.iconst 0, 1) := by decide +kernel
theorem dX2_reset_105 : decode cX2_reset 105 = .ok (.putfield 80, 3) := by decide +kernel
theorem dX2_reset_108 : decode cX2_reset 108 = .ok (.return_, 1) := by decide +kernel
theorem dX2_isIn_0 : decode cX2_isIn 0 = .ok (.iload_n 0, 1) := by decide +kernel
theorem dX2_isIn_1 : decode cX2_isIn 1 = .ok (.iload_n 1, 1) := by decide +kernel
theorem dX2_isIn_2 : decode cX2_isIn 2 = .ok (.if_icmp .lt 12, 3) := by decide +kernel
theorem dX2_isIn_5 : decode cX2_isIn 5 = .ok (.iload_n 0, 1) := by decide +kernel
theorem dX2_isIn_6 : decode cX2_isIn 6 = .ok (.iload_n 2, 1) := by decide +kernel
theorem dX2_isIn_7 : decode cX2_isIn 7 = .ok (.if_icmp .gt 7, 3) := by decide +kernel
theorem dX2_isIn_10 : decode cX2_isIn 10 = .ok (.iconst 1, 1) := by decide +kernel
theorem dX2_isIn_11 : decode cX2_isIn 11 = .ok (.goto 4, 3) := by decide +kernel
theorem dX2_isIn_14 : decode cX2_isIn 14 = .ok (.iconst 0, 1) := by decide +kernel
theorem dX2_isIn_15 : decode cX2_isIn 15 = .ok (.ireturn, 1) := by decide +kernel
theorem dX2_isBasin_0 : decode cX2_isBasin 0 = .ok (.iload_n 0, 1) := by decide +kernel
theorem dX2_isBasin_1 : decode cX2_isBasin 1 = .ok (.iconst 0, 1) := by decide +kernel
theorem dX2_isBasin_2 : decode cX2_isBasin 2 = .ok (.bipush 9, 2) := by decide +kernel
theorem dX2_isBasin_4 : decode cX2_isBasin 4 = .ok (.invokestatic 83, 3) := by decide +kernel
theorem dX2_isBasin_7 : decode cX2_isBasin 7 = .ok (.ireturn, 1) := by decide +kernel
theorem dX2_isSlot_0 : decode cX2_isSlot 0 = .ok (.iload_n 0, 1) := by decide +kernel
theorem dX2_isSlot_1 : decode cX2_isSlot 1 = .ok (.iconst 0, 1) := by decide +kernel
theorem dX2_isSlot_2 : decode cX2_isSlot 2 = .ok (.bipush 19, 2) := by decide +kernel
theorem dX2_isSlot_4 : decode cX2_isSlot 4 = .ok (.invokestatic 83, 3) := by decide +kernel
theorem dX2_isSlot_7 : decode cX2_isSlot 7 = .ok (.ireturn, 1) := by decide +kernel
theorem dX2_fill_0 : decode cX2_fill 0 = .ok (.iload_n 1, 1) := by decide +kernel
theorem dX2_fill_1 : decode cX2_fill 1 = .ok (.invokestatic 87, 3) := by decide +kernel
theorem dX2_fill_4 : decode cX2_fill 4 = .ok (.ifCond .ne 5, 3) := by decide +kernel
theorem dX2_fill_7 : decode cX2_fill 7 = .ok (.iconst 0, 1) := by decide +kernel
theorem dX2_fill_8 : decode cX2_fill 8 = .ok (.ireturn, 1) := by decide +kernel
theorem dX2_fill_9 : decode cX2_fill 9 = .ok (.aload_n 0, 1) := by decide +kernel
theorem dX2_fill_10 : decode cX2_fill 10 = .ok (.getfield 7, 3) := by decide +kernel
theorem dX2_fill_13 : decode cX2_fill 13 = .ok (.iload_n 1, 1) := by decide +kernel
theorem dX2_fill_14 : decode cX2_fill 14 = .ok (.iaload, 1) := by decide +kernel
theorem dX2_fill_15 : decode cX2_fill 15 = .ok (.istore_n 3, 1) := by decide +kernel
theorem dX2_fill_16 : decode cX2_fill 16 = .ok (.aload_n 0, 1) := by decide +kernel
theorem dX2_fill_17 : decode cX2_fill 17 = .ok (.getfield 7, 3) := by decide +kernel
theorem dX2_fill_20 : decode cX2_fill 20 = .ok (.iload_n 1, 1) := by decide +kernel
theorem dX2_fill_21 : decode cX2_fill 21 = .ok (.iload_n 2, 1) := by decide +kernel
theorem dX2_fill_22 : decode cX2_fill 22 = .ok (.iastore, 1) := by decide +kernel
theorem dX2_fill_23 : decode cX2_fill 23 = .ok (.iload_n 3, 1) := by decide +kernel
theorem dX2_fill_24 : decode cX2_fill 24 = .ok (.ireturn, 1) := by decide +kernel
theorem dX2_basin_0 : decode cX2_basin 0 = .ok (.iload_n 1, 1) := by decide +kernel
theorem dX2_basin_1 : decode cX2_basin 1 = .ok (.invokestatic 87, 3) := by decide +kernel
theorem dX2_basin_4 : decode cX2_basin 4 = .ok (.ifCond .eq 12, 3) := by decide +kernel
theorem dX2_basin_7 : decode cX2_basin 7 = .ok (.aload_n 0, 1) := by decide +kernel
theorem dX2_basin_8 : decode cX2_basin 8 = .ok (.getfield 7, 3) := by decide +kernel
theorem dX2_basin_11 : decode cX2_basin 11 = .ok (.iload_n 1, 1) := by decide +kernel
theorem dX2_basin_12 : decode cX2_basin 12 = .ok (.iaload, 1) := by decide +kernel
theorem dX2_basin_13 : decode cX2_basin 13 = .ok (.goto 4, 3) := by decide +kernel
theorem dX2_basin_16 : decode cX2_basin 16 = .ok (.iconst 0, 1) := by decide +kernel
theorem dX2_basin_17 : decode cX2_basin 17 = .ok (.ireturn, 1) := by decide +kernel
theorem dX2_gauge_0 : decode cX2_gauge 0 = .ok (.iload_n 1, 1) := by decide +kernel
theorem dX2_gauge_1 : decode cX2_gauge 1 = .ok (.iconst 0, 1) := by decide +kernel
theorem dX2_gauge_2 : decode cX2_gauge 2 = .ok (.iconst 2, 1) := by decide +kernel
theorem dX2_gauge_3 : decode cX2_gauge 3 = .ok (.invokestatic 83, 3) := by decide +kernel
theorem dX2_gauge_6 : decode cX2_gauge 6 = .ok (.ifCond .eq 13, 3) := by decide +kernel
theorem dX2_gauge_9 : decode cX2_gauge 9 = .ok (.iload_n 2, 1) := by decide +kernel
theorem dX2_gauge_10 : decode cX2_gauge 10 = .ok (.iconst 0, 1) := by decide +kernel
theorem dX2_gauge_11 : decode cX2_gauge 11 = .ok (.bipush 6, 2) := by decide +kernel
theorem dX2_gauge_13 : decode cX2_gauge 13 = .ok (.invokestatic 83, 3) := by decide +kernel
theorem dX2_gauge_16 : decode cX2_gauge 16 = .ok (.ifCond .ne 5, 3) := by decide +kernel
theorem dX2_gauge_19 : decode cX2_gauge 19 = .ok (.iconst (-1), 1) := by decide +kernel
theorem dX2_gauge_20 : decode cX2_gauge 20 = .ok (.ireturn, 1) := by decide +kernel
theorem dX2_gauge_21 : decode cX2_gauge 21 = .ok (.aload_n 0, 1) := by decide +kernel
theorem dX2_gauge_22 : decode cX2_gauge 22 = .ok (.getfield 13, 3) := by decide +kernel
theorem dX2_gauge_25 : decode cX2_gauge 25 = .ok (.aload_n 0, 1) := by decide +kernel
theorem dX2_gauge_26 : decode cX2_gauge 26 = .ok (.getfield 64, 3) := by decide +kernel
theorem dX2_gauge_29 : decode cX2_gauge 29 = .ok (.iload_n 2, 1) := by decide +kernel
theorem dX2_gauge_30 : decode cX2_gauge 30 = .ok (.iastore, 1) := by decide +kernel
theorem dX2_gauge_31 : decode cX2_gauge 31 = .ok (.iconst 0, 1) := by decide +kernel
theorem dX2_gauge_32 : decode cX2_gauge 32 = .ok (.istore_n 3, 1) := by decide +kernel
theorem dX2_gauge_33 : decode cX2_gauge 33 = .ok (.iload_n 3, 1) := by decide +kernel
theorem dX2_gauge_34 : decode cX2_gauge 34 = .ok (.bipush 6, 2) := by decide +kernel
theorem dX2_gauge_36 : decode cX2_gauge 36 = .ok (.if_icmp .ge 24, 3) := by decide +kernel
theorem dX2_gauge_39 : decode cX2_gauge 39 = .ok (.aload_n 0, 1) := by decide +kernel
theorem dX2_gauge_40 : decode cX2_gauge 40 = .ok (.getfield 16, 3) := by decide +kernel
theorem dX2_gauge_43 : decode cX2_gauge 43 = .ok (.bipush 6, 2) := by decide +kernel
theorem dX2_gauge_45 : decode cX2_gauge 45 = .ok (.aload_n 0, 1) := by decide +kernel
theorem dX2_gauge_46 : decode cX2_gauge 46 = .ok (.getfield 64, 3) := by decide +kernel
theorem dX2_gauge_49 : decode cX2_gauge 49 = .ok (.imul, 1) := by decide +kernel
theorem dX2_gauge_50 : decode cX2_gauge 50 = .ok (.iload_n 3, 1) := by decide +kernel
theorem dX2_gauge_51 : decode cX2_gauge 51 = .ok (.iadd, 1) := by decide +kernel
theorem dX2_gauge_52 : decode cX2_gauge 52 = .ok (.iconst 0, 1) := by decide +kernel
theorem dX2_gauge_53 : decode cX2_gauge 53 = .ok (.iastore, 1) := by decide +kernel
theorem dX2_gauge_54 : decode cX2_gauge 54 = .ok (.iinc 3 1, 3) := by decide +kernel
theorem dX2_gauge_57 : decode cX2_gauge 57 = .ok (.goto (-24), 3) := by decide +kernel
theorem dX2_gauge_60 : decode cX2_gauge 60 = .ok (.aload_n 0, 1) := by decide +kernel
theorem dX2_gauge_61 : decode cX2_gauge 61 = .ok (.getfield 19, 3) := by decide +kernel
theorem dX2_gauge_64 : decode cX2_gauge 64 = .ok (.iload_n 1, 1) := by decide +kernel
theorem dX2_gauge_65 : decode cX2_gauge 65 = .ok (.aload_n 0, 1) := by decide +kernel
theorem dX2_gauge_66 : decode cX2_gauge 66 = .ok (.getfield 64, 3) := by decide +kernel
theorem dX2_gauge_69 : decode cX2_gauge 69 = .ok (.iastore, 1) := by decide +kernel
theorem dX2_gauge_70 : decode cX2_gauge 70 = .ok (.aload_n 0, 1) := by decide +kernel
theorem dX2_gauge_71 : decode cX2_gauge 71 = .ok (.dup, 1) := by decide +kernel
theorem dX2_gauge_72 : decode cX2_gauge 72 = .ok (.getfield 64, 3) := by decide +kernel
theorem dX2_gauge_75 : decode cX2_gauge 75 = .ok (.iconst 1, 1) := by decide +kernel
theorem dX2_gauge_76 : decode cX2_gauge 76 = .ok (.iadd, 1) := by decide +kernel
theorem dX2_gauge_77 : decode cX2_gauge 77 = .ok (.putfield 64, 3) := by decide +kernel
theorem dX2_gauge_80 : decode cX2_gauge 80 = .ok (.iconst 1, 1) := by decide +kernel
theorem dX2_gauge_81 : decode cX2_gauge 81 = .ok (.ireturn, 1) := by decide +kernel
theorem dX2_mark_0 : decode cX2_mark 0 = .ok (.iload_n 1, 1) := by decide +kernel
theorem dX2_mark_1 : decode cX2_mark 1 = .ok (.iconst 0, 1) := by decide +kernel
theorem dX2_mark_2 : decode cX2_mark 2 = .ok (.iconst 2, 1) := by decide +kernel
theorem dX2_mark_3 : decode cX2_mark 3 = .ok (.invokestatic 83, 3) := by decide +kernel
theorem dX2_mark_6 : decode cX2_mark 6 = .ok (.ifCond .eq 43, 3) := by decide +kernel
theorem dX2_mark_9 : decode cX2_mark 9 = .ok (.iload_n 2, 1) := by decide +kernel
theorem dX2_mark_10 : decode cX2_mark 10 = .ok (.iconst 0, 1) := by decide +kernel
theorem dX2_mark_11 : decode cX2_mark 11 = .ok (.aload_n 0, 1) := by decide +kernel
theorem dX2_mark_12 : decode cX2_mark 12 = .ok (.getfield 13, 3) := by decide +kernel
theorem dX2_mark_15 : decode cX2_mark 15 = .ok (.aload_n 0, 1) := by decide +kernel
theorem dX2_mark_16 : decode cX2_mark 16 = .ok (.getfield 19, 3) := by decide +kernel
theorem dX2_mark_19 : decode cX2_mark 19 = .ok (.iload_n 1, 1) := by decide +kernel
theorem dX2_mark_20 : decode cX2_mark 20 = .ok (.iaload, 1) := by decide +kernel
theorem dX2_mark_21 : decode cX2_mark 21 = .ok (.iaload, 1) := by decide +kernel
theorem dX2_mark_22 : decode cX2_mark 22 = .ok (.iconst 1, 1) := by decide +kernel
theorem dX2_mark_23 : decode cX2_mark 23 = .ok (.isub, 1) := by decide +kernel
theorem dX2_mark_24 : decode cX2_mark 24 = .ok (.invokestatic 83, 3) := by decide +kernel
theorem dX2_mark_27 : decode cX2_mark 27 = .ok (.ifCond .eq 22, 3) := by decide +kernel
theorem dX2_mark_30 : decode cX2_mark 30 = .ok (.aload_n 0, 1) := by decide +kernel
theorem dX2_mark_31 : decode cX2_mark 31 = .ok (.getfield 16, 3) := by decide +kernel
theorem dX2_mark_34 : decode cX2_mark 34 = .ok (.bipush 6, 2) := by decide +kernel
theorem dX2_mark_36 : decode cX2_mark 36 = .ok (.aload_n 0, 1) := by decide +kernel
theorem dX2_mark_37 : decode cX2_mark 37 = .ok (.getfield 19, 3) := by decide +kernel
theorem dX2_mark_40 : decode cX2_mark 40 = .ok (.iload_n 1, 1) := by decide +kernel
theorem dX2_mark_41 : decode cX2_mark 41 = .ok (.iaload, 1) := by decide +kernel
theorem dX2_mark_42 : decode cX2_mark 42 = .ok (.imul, 1) := by decide +kernel
theorem dX2_mark_43 : decode cX2_mark 43 = .ok (.iload_n 2, 1) := by decide +kernel
theorem dX2_mark_44 : decode cX2_mark 44 = .ok (.iadd, 1) := by decide +kernel
theorem dX2_mark_45 : decode cX2_mark 45 = .ok (.iaload, 1) := by decide +kernel
theorem dX2_mark_46 : decode cX2_mark 46 = .ok (.goto 4, 3) := by decide +kernel
theorem dX2_mark_49 : decode cX2_mark 49 = .ok (.iconst 0, 1) := by decide +kernel
theorem dX2_mark_50 : decode cX2_mark 50 = .ok (.ireturn, 1) := by decide +kernel
theorem dX2_isRight_0 : decode cX2_isRight 0 = .ok (.iload_n 0, 1) := by decide +kernel
theorem dX2_isRight_1 : decode cX2_isRight 1 = .ok (.tableswitch 184 1 14 #[71, 71, 76, 96, 184, 71, 103, 123, 150, 103, 172, 172, 177, 172], 71) := by decide +kernel
theorem dX2_isRight_72 : decode cX2_isRight 72 = .ok (.iload_n 1, 1) := by decide +kernel
theorem dX2_isRight_73 : decode cX2_isRight 73 = .ok (.invokestatic 87, 3) := by decide +kernel
theorem dX2_isRight_76 : decode cX2_isRight 76 = .ok (.ireturn, 1) := by decide +kernel
theorem dX2_isRight_77 : decode cX2_isRight 77 = .ok (.iload_n 1, 1) := by decide +kernel
theorem dX2_isRight_78 : decode cX2_isRight 78 = .ok (.invokestatic 87, 3) := by decide +kernel
theorem dX2_isRight_81 : decode cX2_isRight 81 = .ok (.ifCond .eq 14, 3) := by decide +kernel
theorem dX2_isRight_84 : decode cX2_isRight 84 = .ok (.iload_n 2, 1) := by decide +kernel
theorem dX2_isRight_85 : decode cX2_isRight 85 = .ok (.invokestatic 87, 3) := by decide +kernel
theorem dX2_isRight_88 : decode cX2_isRight 88 = .ok (.ifCond .eq 7, 3) := by decide +kernel
theorem dX2_isRight_91 : decode cX2_isRight 91 = .ok (.iconst 1, 1) := by decide +kernel
theorem dX2_isRight_92 : decode cX2_isRight 92 = .ok (.goto 4, 3) := by decide +kernel
theorem dX2_isRight_95 : decode cX2_isRight 95 = .ok (.iconst 0, 1) := by decide +kernel
theorem dX2_isRight_96 : decode cX2_isRight 96 = .ok (.ireturn, 1) := by decide +kernel
theorem dX2_isRight_97 : decode cX2_isRight 97 = .ok (.iload_n 1, 1) := by decide +kernel
theorem dX2_isRight_98 : decode cX2_isRight 98 = .ok (.iconst 0, 1) := by decide +kernel
theorem dX2_isRight_99 : decode cX2_isRight 99 = .ok (.iconst 2, 1) := by decide +kernel
theorem dX2_isRight_100 : decode cX2_isRight 100 = .ok (.invokestatic 83, 3) := by decide +kernel
theorem dX2_isRight_103 : decode cX2_isRight 103 = .ok (.ireturn, 1) := by decide +kernel
theorem dX2_isRight_104 : decode cX2_isRight 104 = .ok (.iload_n 1, 1) := by decide +kernel
theorem dX2_isRight_105 : decode cX2_isRight 105 = .ok (.invokestatic 91, 3) := by decide +kernel
theorem dX2_isRight_108 : decode cX2_isRight 108 = .ok (.ifCond .eq 14, 3) := by decide +kernel
theorem dX2_isRight_111 : decode cX2_isRight 111 = .ok (.iload_n 2, 1) := by decide +kernel
theorem dX2_isRight_112 : decode cX2_isRight 112 = .ok (.invokestatic 91, 3) := by decide +kernel
theorem dX2_isRight_115 : decode cX2_isRight 115 = .ok (.ifCond .eq 7, 3) := by decide +kernel
theorem dX2_isRight_118 : decode cX2_isRight 118 = .ok (.iconst 1, 1) := by decide +kernel
theorem dX2_isRight_119 : decode cX2_isRight 119 = .ok (.goto 4, 3) := by decide +kernel
theorem dX2_isRight_122 : decode cX2_isRight 122 = .ok (.iconst 0, 1) := by decide +kernel
theorem dX2_isRight_123 : decode cX2_isRight 123 = .ok (.ireturn, 1) := by decide +kernel
theorem dX2_isRight_124 : decode cX2_isRight 124 = .ok (.iload_n 1, 1) := by decide +kernel
theorem dX2_isRight_125 : decode cX2_isRight 125 = .ok (.invokestatic 91, 3) := by decide +kernel
theorem dX2_isRight_128 : decode cX2_isRight 128 = .ok (.ifCond .eq 21, 3) := by decide +kernel
theorem dX2_isRight_131 : decode cX2_isRight 131 = .ok (.iload_n 2, 1) := by decide +kernel
theorem dX2_isRight_132 : decode cX2_isRight 132 = .ok (.invokestatic 91, 3) := by decide +kernel
theorem dX2_isRight_135 : decode cX2_isRight 135 = .ok (.ifCond .eq 14, 3) := by decide +kernel
theorem dX2_isRight_138 : decode cX2_isRight 138 = .ok (.iload_n 3, 1) := by decide +kernel
theorem dX2_isRight_139 : decode cX2_isRight 139 = .ok (.invokestatic 87, 3) := by decide +kernel
theorem dX2_isRight_142 : decode cX2_isRight 142 = .ok (.ifCond .eq 7, 3) := by decide +kernel
theorem dX2_isRight_145 : decode cX2_isRight 145 = .ok (.iconst 1, 1) := by decide +kernel
theorem dX2_isRight_146 : decode cX2_isRight 146 = .ok (.goto 4, 3) := by decide +kernel
theorem dX2_isRight_149 : decode cX2_isRight 149 = .ok (.iconst 0, 1) := by decide +kernel
theorem dX2_isRight_150 : decode cX2_isRight 150 = .ok (.ireturn, 1) := by decide +kernel
theorem dX2_isRight_151 : decode cX2_isRight 151 = .ok (.iload_n 1, 1) := by decide +kernel
theorem dX2_isRight_152 : decode cX2_isRight 152 = .ok (.invokestatic 91, 3) := by decide +kernel
theorem dX2_isRight_155 : decode cX2_isRight 155 = .ok (.ifCond .eq 16, 3) := by decide +kernel
theorem dX2_isRight_158 : decode cX2_isRight 158 = .ok (.iload_n 2, 1) := by decide +kernel
theorem dX2_isRight_159 : decode cX2_isRight 159 = .ok (.iconst 0, 1) := by decide +kernel
theorem dX2_isRight_160 : decode cX2_isRight 160 = .ok (.iconst 5, 1) := by decide +kernel
theorem dX2_isRight_161 : decode cX2_isRight 161 = .ok (.invokestatic 83, 3) := by decide +kernel
theorem dX2_isRight_164 : decode cX2_isRight 164 = .ok (.ifCond .eq 7, 3) := by decide +kernel
theorem dX2_isRight_167 : decode cX2_isRight 167 = .ok (.iconst 1, 1) := by decide +kernel
theorem dX2_isRight_168 : decode cX2_isRight 168 = .ok (.goto 4, 3) := by decide +kernel
theorem dX2_isRight_171 : decode cX2_isRight 171 = .ok (.iconst 0, 1) := by decide +kernel
theorem dX2_isRight_172 : decode cX2_isRight 172 = .ok (.ireturn, 1) := by decide +kernel
theorem dX2_isRight_173 : decode cX2_isRight 173 = .ok (.iload_n 1, 1) := by decide +kernel
theorem dX2_isRight_174 : decode cX2_isRight 174 = .ok (.invokestatic 91, 3) := by decide +kernel
theorem dX2_isRight_177 : decode cX2_isRight 177 = .ok (.ireturn, 1) := by decide +kernel
theorem dX2_isRight_178 : decode cX2_isRight 178 = .ok (.iload_n 1, 1) := by decide +kernel
theorem dX2_isRight_179 : decode cX2_isRight 179 = .ok (.iconst 0, 1) := by decide +kernel
theorem dX2_isRight_180 : decode cX2_isRight 180 = .ok (.iconst 4, 1) := by decide +kernel
theorem dX2_isRight_181 : decode cX2_isRight 181 = .ok (.invokestatic 83, 3) := by decide +kernel
theorem dX2_isRight_184 : decode cX2_isRight 184 = .ok (.ireturn, 1) := by decide +kernel
theorem dX2_isRight_185 : decode cX2_isRight 185 = .ok (.iload_n 0, 1) := by decide +kernel
theorem dX2_isRight_186 : decode cX2_isRight 186 = .ok (.ifCond .eq 8, 3) := by decide +kernel
theorem dX2_isRight_189 : decode cX2_isRight 189 = .ok (.iload_n 0, 1) := by decide +kernel
theorem dX2_isRight_190 : decode cX2_isRight 190 = .ok (.iconst 5, 1) := by decide +kernel
theorem dX2_isRight_191 : decode cX2_isRight 191 = .ok (.if_icmp .ne 7, 3) := by decide +kernel
theorem dX2_isRight_194 : decode cX2_isRight 194 = .ok (.iconst 1, 1) := by decide +kernel
theorem dX2_isRight_195 : decode cX2_isRight 195 = .ok (.goto 4, 3) := by decide +kernel
theorem dX2_isRight_198 : decode cX2_isRight 198 = .ok (.iconst 0, 1) := by decide +kernel
theorem dX2_isRight_199 : decode cX2_isRight 199 = .ok (.ireturn, 1) := by decide +kernel
theorem dX2_holdsOne_0 : decode cX2_holdsOne 0 = .ok (.iload_n 0, 1) := by decide +kernel
theorem dX2_holdsOne_1 : decode cX2_holdsOne 1 = .ok (.bipush 7, 2) := by decide +kernel
theorem dX2_holdsOne_3 : decode cX2_holdsOne 3 = .ok (.bipush 12, 2) := by decide +kernel
theorem dX2_holdsOne_5 : decode cX2_holdsOne 5 = .ok (.invokestatic 83, 3) := by decide +kernel
theorem dX2_holdsOne_8 : decode cX2_holdsOne 8 = .ok (.ireturn, 1) := by decide +kernel
theorem dX2_holdsTwo_0 : decode cX2_holdsTwo 0 = .ok (.iload_n 0, 1) := by decide +kernel
theorem dX2_holdsTwo_1 : decode cX2_holdsTwo 1 = .ok (.bipush 7, 2) := by decide +kernel
theorem dX2_holdsTwo_3 : decode cX2_holdsTwo 3 = .ok (.if_icmp .eq 15, 3) := by decide +kernel
theorem dX2_holdsTwo_6 : decode cX2_holdsTwo 6 = .ok (.iload_n 0, 1) := by decide +kernel
theorem dX2_holdsTwo_7 : decode cX2_holdsTwo 7 = .ok (.bipush 8, 2) := by decide +kernel
theorem dX2_holdsTwo_9 : decode cX2_holdsTwo 9 = .ok (.if_icmp .eq 9, 3) := by decide +kernel
theorem dX2_holdsTwo_12 : decode cX2_holdsTwo 12 = .ok (.iload_n 0, 1) := by decide +kernel
theorem dX2_holdsTwo_13 : decode cX2_holdsTwo 13 = .ok (.bipush 10, 2) := by decide +kernel
theorem dX2_holdsTwo_15 : decode cX2_holdsTwo 15 = .ok (.if_icmp .ne 7, 3) := by decide +kernel
theorem dX2_holdsTwo_18 : decode cX2_holdsTwo 18 = .ok (.iconst 1, 1) := by decide +kernel
theorem dX2_holdsTwo_19 : decode cX2_holdsTwo 19 = .ok (.goto 4, 3) := by decide +kernel
theorem dX2_holdsTwo_22 : decode cX2_holdsTwo 22 = .ok (.iconst 0, 1) := by decide +kernel
theorem dX2_holdsTwo_23 : decode cX2_holdsTwo 23 = .ok (.ireturn, 1) := by decide +kernel
theorem dX2_deed_0 : decode cX2_deed 0 = .ok (.iload_n 1, 1) := by decide +kernel
theorem dX2_deed_1 : decode cX2_deed 1 = .ok (.invokestatic 91, 3) := by decide +kernel
theorem dX2_deed_4 : decode cX2_deed 4 = .ok (.ifCond .eq 15, 3) := by decide +kernel
theorem dX2_deed_7 : decode cX2_deed 7 = .ok (.iload_n 2, 1) := by decide +kernel
theorem dX2_deed_8 : decode cX2_deed 8 = .ok (.iload_n 3, 1) := by decide +kernel
theorem dX2_deed_9 : decode cX2_deed 9 = .ok (.iload 4, 2) := by decide +kernel
theorem dX2_deed_11 : decode cX2_deed 11 = .ok (.iload 5, 2) := by decide +kernel
theorem dX2_deed_13 : decode cX2_deed 13 = .ok (.invokestatic 94, 3) := by decide +kernel
theorem dX2_deed_16 : decode cX2_deed 16 = .ok (.ifCond .ne 5, 3) := by decide +kernel
theorem dX2_deed_19 : decode cX2_deed 19 = .ok (.iconst (-1), 1) := by decide +kernel
theorem dX2_deed_20 : decode cX2_deed 20 = .ok (.ireturn, 1) := by decide +kernel
theorem dX2_deed_21 : decode cX2_deed 21 = .ok (.iload_n 2, 1) := by decide +kernel
theorem dX2_deed_22 : decode cX2_deed 22 = .ok (.invokestatic 98, 3) := by decide +kernel
theorem dX2_deed_25 : decode cX2_deed 25 = .ok (.ifCond .eq 14, 3) := by decide +kernel
theorem dX2_deed_28 : decode cX2_deed 28 = .ok (.aload_n 0, 1) := by decide +kernel
theorem dX2_deed_29 : decode cX2_deed 29 = .ok (.getfield 37, 3) := by decide +kernel
theorem dX2_deed_32 : decode cX2_deed 32 = .ok (.iload_n 3, 1) := by decide +kernel
theorem dX2_deed_33 : decode cX2_deed 33 = .ok (.iaload, 1) := by decide +kernel
theorem dX2_deed_34 : decode cX2_deed 34 = .ok (.bipush (-2), 2) := by decide +kernel
theorem dX2_deed_36 : decode cX2_deed 36 = .ok (.if_icmp .eq 22, 3) := by decide +kernel
theorem dX2_deed_39 : decode cX2_deed 39 = .ok (.iload_n 2, 1) := by decide +kernel
theorem dX2_deed_40 : decode cX2_deed 40 = .ok (.invokestatic 101, 3) := by decide +kernel
theorem dX2_deed_43 : decode cX2_deed 43 = .ok (.ifCond .eq 18, 3) := by decide +kernel
theorem dX2_deed_46 : decode cX2_deed 46 = .ok (.aload_n 0, 1) := by decide +kernel
theorem dX2_deed_47 : decode cX2_deed 47 = .ok (.getfield 37, 3) := by decide +kernel
theorem dX2_deed_50 : decode cX2_deed 50 = .ok (.iload 4, 2) := by decide +kernel
theorem dX2_deed_52 : decode cX2_deed 52 = .ok (.iaload, 1) := by decide +kernel
theorem dX2_deed_53 : decode cX2_deed 53 = .ok (.bipush (-2), 2) := by decide +kernel
theorem dX2_deed_55 : decode cX2_deed 55 = .ok (.if_icmp .ne 6, 3) := by decide +kernel
theorem dX2_deed_58 : decode cX2_deed 58 = .ok (.bipush (-2), 2) := by decide +kernel
theorem dX2_deed_60 : decode cX2_deed 60 = .ok (.ireturn, 1) := by decide +kernel
theorem dX2_deed_61 : decode cX2_deed 61 = .ok (.aload_n 0, 1) := by decide +kernel
theorem dX2_deed_62 : decode cX2_deed 62 = .ok (.getfield 22, 3) := by decide +kernel
theorem dX2_deed_65 : decode cX2_deed 65 = .ok (.aload_n 0, 1) := by decide +kernel
theorem dX2_deed_66 : decode cX2_deed 66 = .ok (.getfield 68, 3) := by decide +kernel
theorem dX2_deed_69 : decode cX2_deed 69 = .ok (.iload_n 2, 1) := by decide +kernel
theorem dX2_deed_70 : decode cX2_deed 70 = .ok (.iastore, 1) := by decide +kernel
theorem dX2_deed_71 : decode cX2_deed 71 = .ok (.aload_n 0, 1) := by decide +kernel
theorem dX2_deed_72 : decode cX2_deed 72 = .ok (.getfield 25, 3) := by decide +kernel
theorem dX2_deed_75 : decode cX2_deed 75 = .ok (.aload_n 0, 1) := by decide +kernel
theorem dX2_deed_76 : decode cX2_deed 76 = .ok (.getfield 68, 3) := by decide +kernel
theorem dX2_deed_79 : decode cX2_deed 79 = .ok (.iload_n 2, 1) := by decide +kernel
theorem dX2_deed_80 : decode cX2_deed 80 = .ok (.invokestatic 98, 3) := by decide +kernel
theorem dX2_deed_83 : decode cX2_deed 83 = .ok (.ifCond .eq 12, 3) := by decide +kernel
theorem dX2_deed_86 : decode cX2_deed 86 = .ok (.aload_n 0, 1) := by decide +kernel
theorem dX2_deed_87 : decode cX2_deed 87 = .ok (.getfield 37, 3) := by decide +kernel
theorem dX2_deed_90 : decode cX2_deed 90 = .ok (.iload_n 3, 1) := by decide +kernel
theorem dX2_deed_91 : decode cX2_deed 91 = .ok (.iaload, 1) := by decide +kernel
theorem dX2_deed_92 : decode cX2_deed 92 = .ok (.goto 33, 3) := by decide +kernel
theorem dX2_deed_95 : decode cX2_deed 95 = .ok (.iload_n 2, 1) := by decide +kernel
theorem dX2_deed_96 : decode cX2_deed 96 = .ok (.iconst 4, 1) := by decide +kernel
theorem dX2_deed_97 : decode cX2_deed 97 = .ok (.if_icmp .ne 12, 3) := by decide +kernel
theorem dX2_deed_100 : decode cX2_deed 100 = .ok (.aload_n 0, 1) := by decide +kernel
theorem dX2_deed_101 : decode cX2_deed 101 = .ok (.getfield 19, 3) := by decide +kernel
theorem dX2_deed_104 : decode cX2_deed 104 = .ok (.iload_n 3, 1) := by decide +kernel
theorem dX2_deed_105 : decode cX2_deed 105 = .ok (.iaload, 1) := by decide +kernel
theorem dX2_deed_106 : decode cX2_deed 106 = .ok (.goto 19, 3) := by decide +kernel
theorem dX2_deed_109 : decode cX2_deed 109 = .ok (.iload_n 2, 1) := by decide +kernel
theorem dX2_deed_110 : decode cX2_deed 110 = .ok (.bipush 6, 2) := by decide +kernel
theorem dX2_deed_112 : decode cX2_deed 112 = .ok (.if_icmp .ne 12, 3) := by decide +kernel
theorem dX2_deed_115 : decode cX2_deed 115 = .ok (.aload_n 0, 1) := by decide +kernel
theorem dX2_deed_116 : decode cX2_deed 116 = .ok (.getfield 7, 3) := by decide +kernel
theorem dX2_deed_119 : decode cX2_deed 119 = .ok (.iload_n 3, 1) := by decide +kernel
theorem dX2_deed_120 : decode cX2_deed 120 = .ok (.iaload, 1) := by decide +kernel
theorem dX2_deed_121 : decode cX2_deed 121 = .ok (.goto 4, 3) := by decide +kernel
theorem dX2_deed_124 : decode cX2_deed 124 = .ok (.iload_n 3, 1) := by decide +kernel
theorem dX2_deed_125 : decode cX2_deed 125 = .ok (.iastore, 1) := by decide +kernel
theorem dX2_deed_126 : decode cX2_deed 126 = .ok (.aload_n 0, 1) := by decide +kernel
theorem dX2_deed_127 : decode cX2_deed 127 = .ok (.getfield 28, 3) := by decide +kernel
theorem dX2_deed_130 : decode cX2_deed 130 = .ok (.aload_n 0, 1) := by decide +kernel
theorem dX2_deed_131 : decode cX2_deed 131 = .ok (.getfield 68, 3) := by decide +kernel
theorem dX2_deed_134 : decode cX2_deed 134 = .ok (.iload_n 2, 1) := by decide +kernel
theorem dX2_deed_135 : decode cX2_deed 135 = .ok (.invokestatic 101, 3) := by decide +kernel
theorem dX2_deed_138 : decode cX2_deed 138 = .ok (.ifCond .eq 13, 3) := by decide +kernel
theorem dX2_deed_141 : decode cX2_deed 141 = .ok (.aload_n 0, 1) := by decide +kernel
theorem dX2_deed_142 : decode cX2_deed 142 = .ok (.getfield 37, 3) := by decide +kernel
theorem dX2_deed_145 : decode cX2_deed 145 = .ok (.iload 4, 2) := by decide +kernel
theorem dX2_deed_147 : decode cX2_deed 147 = .ok (.iaload, 1) := by decide +kernel
theorem dX2_deed_148 : decode cX2_deed 148 = .ok (.goto 5, 3) := by decide +kernel
theorem dX2_deed_151 : decode cX2_deed 151 = .ok (.iload 4, 2) := by decide +kernel
theorem dX2_deed_153 : decode cX2_deed 153 = .ok (.iastore, 1) := by decide +kernel
theorem dX2_deed_154 : decode cX2_deed 154 = .ok (.aload_n 0, 1) := by decide +kernel
theorem dX2_deed_155 : decode cX2_deed 155 = .ok (.getfield 31, 3) := by decide +kernel
theorem dX2_deed_158 : decode cX2_deed 158 = .ok (.aload_n 0, 1) := by decide +kernel
theorem dX2_deed_159 : decode cX2_deed 159 = .ok (.getfield 68, 3) := by decide +kernel
theorem dX2_deed_162 : decode cX2_deed 162 = .ok (.iload 5, 2) := by decide +kernel
theorem dX2_deed_164 : decode cX2_deed 164 = .ok (.iastore, 1) := by decide +kernel
theorem dX2_deed_165 : decode cX2_deed 165 = .ok (.aload_n 0, 1) := by decide +kernel
theorem dX2_deed_166 : decode cX2_deed 166 = .ok (.getfield 34, 3) := by decide +kernel
theorem dX2_deed_169 : decode cX2_deed 169 = .ok (.aload_n 0, 1) := by decide +kernel
theorem dX2_deed_170 : decode cX2_deed 170 = .ok (.getfield 68, 3) := by decide +kernel
theorem dX2_deed_173 : decode cX2_deed 173 = .ok (.iconst 0, 1) := by decide +kernel
theorem dX2_deed_174 : decode cX2_deed 174 = .ok (.iastore, 1) := by decide +kernel
theorem dX2_deed_175 : decode cX2_deed 175 = .ok (.aload_n 0, 1) := by decide +kernel
theorem dX2_deed_176 : decode cX2_deed 176 = .ok (.getfield 37, 3) := by decide +kernel
theorem dX2_deed_179 : decode cX2_deed 179 = .ok (.iload_n 1, 1) := by decide +kernel
theorem dX2_deed_180 : decode cX2_deed 180 = .ok (.aload_n 0, 1) := by decide +kernel
theorem dX2_deed_181 : decode cX2_deed 181 = .ok (.getfield 68, 3) := by decide +kernel
theorem dX2_deed_184 : decode cX2_deed 184 = .ok (.iastore, 1) := by decide +kernel
theorem dX2_deed_185 : decode cX2_deed 185 = .ok (.aload_n 0, 1) := by decide +kernel
theorem dX2_deed_186 : decode cX2_deed 186 = .ok (.dup, 1) := by decide +kernel
theorem dX2_deed_187 : decode cX2_deed 187 = .ok (.getfield 68, 3) := by decide +kernel
theorem dX2_deed_190 : decode cX2_deed 190 = .ok (.iconst 1, 1) := by decide +kernel
theorem dX2_deed_191 : decode cX2_deed 191 = .ok (.iadd, 1) := by decide +kernel
theorem dX2_deed_192 : decode cX2_deed 192 = .ok (.putfield 68, 3) := by decide +kernel
theorem dX2_deed_195 : decode cX2_deed 195 = .ok (.aload_n 0, 1) := by decide +kernel
theorem dX2_deed_196 : decode cX2_deed 196 = .ok (.getfield 68, 3) := by decide +kernel
theorem dX2_deed_199 : decode cX2_deed 199 = .ok (.ireturn, 1) := by decide +kernel
theorem dX2_copy_0 : decode cX2_copy 0 = .ok (.iload_n 1, 1) := by decide +kernel
theorem dX2_copy_1 : decode cX2_copy 1 = .ok (.invokestatic 91, 3) := by decide +kernel
theorem dX2_copy_4 : decode cX2_copy 4 = .ok (.ifCond .eq 10, 3) := by decide +kernel
theorem dX2_copy_7 : decode cX2_copy 7 = .ok (.iload_n 2, 1) := by decide +kernel
theorem dX2_copy_8 : decode cX2_copy 8 = .ok (.invokestatic 91, 3) := by decide +kernel
theorem dX2_copy_11 : decode cX2_copy 11 = .ok (.ifCond .ne 5, 3) := by decide +kernel
theorem dX2_copy_14 : decode cX2_copy 14 = .ok (.iconst (-1), 1) := by decide +kernel
theorem dX2_copy_15 : decode cX2_copy 15 = .ok (.ireturn, 1) := by decide +kernel
theorem dX2_copy_16 : decode cX2_copy 16 = .ok (.aload_n 0, 1) := by decide +kernel
theorem dX2_copy_17 : decode cX2_copy 17 = .ok (.getfield 37, 3) := by decide +kernel
theorem dX2_copy_20 : decode cX2_copy 20 = .ok (.iload_n 1, 1) := by decide +kernel
theorem dX2_copy_21 : decode cX2_copy 21 = .ok (.iaload, 1) := by decide +kernel
theorem dX2_copy_22 : decode cX2_copy 22 = .ok (.bipush (-2), 2) := by decide +kernel
theorem dX2_copy_24 : decode cX2_copy 24 = .ok (.if_icmp .ne 6, 3) := by decide +kernel
theorem dX2_copy_27 : decode cX2_copy 27 = .ok (.bipush (-2), 2) := by decide +kernel
theorem dX2_copy_29 : decode cX2_copy 29 = .ok (.ireturn, 1) := by decide +kernel
theorem dX2_copy_30 : decode cX2_copy 30 = .ok (.aload_n 0, 1) := by decide +kernel
theorem dX2_copy_31 : decode cX2_copy 31 = .ok (.getfield 37, 3) := by decide +kernel
theorem dX2_copy_34 : decode cX2_copy 34 = .ok (.iload_n 2, 1) := by decide +kernel
theorem dX2_copy_35 : decode cX2_copy 35 = .ok (.aload_n 0, 1) := by decide +kernel
theorem dX2_copy_36 : decode cX2_copy 36 = .ok (.getfield 37, 3) := by decide +kernel
theorem dX2_copy_39 : decode cX2_copy 39 = .ok (.iload_n 1, 1) := by decide +kernel
theorem dX2_copy_40 : decode cX2_copy 40 = .ok (.iaload, 1) := by decide +kernel
theorem dX2_copy_41 : decode cX2_copy 41 = .ok (.iastore, 1) := by decide +kernel
theorem dX2_copy_42 : decode cX2_copy 42 = .ok (.iconst 1, 1) := by decide +kernel
theorem dX2_copy_43 : decode cX2_copy 43 = .ok (.ireturn, 1) := by decide +kernel
theorem dX2_drop_0 : decode cX2_drop 0 = .ok (.iload_n 1, 1) := by decide +kernel
theorem dX2_drop_1 : decode cX2_drop 1 = .ok (.invokestatic 91, 3) := by decide +kernel
theorem dX2_drop_4 : decode cX2_drop 4 = .ok (.ifCond .ne 5, 3) := by decide +kernel
theorem dX2_drop_7 : decode cX2_drop 7 = .ok (.iconst (-1), 1) := by decide +kernel
theorem dX2_drop_8 : decode cX2_drop 8 = .ok (.ireturn, 1) := by decide +kernel
theorem dX2_drop_9 : decode cX2_drop 9 = .ok (.aload_n 0, 1) := by decide +kernel
theorem dX2_drop_10 : decode cX2_drop 10 = .ok (.getfield 37, 3) := by decide +kernel
theorem dX2_drop_13 : decode cX2_drop 13 = .ok (.iload_n 1, 1) := by decide +kernel
theorem dX2_drop_14 : decode cX2_drop 14 = .ok (.iaload, 1) := by decide +kernel
theorem dX2_drop_15 : decode cX2_drop 15 = .ok (.bipush (-2), 2) := by decide +kernel
theorem dX2_drop_17 : decode cX2_drop 17 = .ok (.if_icmp .ne 6, 3) := by decide +kernel
theorem dX2_drop_20 : decode cX2_drop 20 = .ok (.bipush (-2), 2) := by decide +kernel
theorem dX2_drop_22 : decode cX2_drop 22 = .ok (.ireturn, 1) := by decide +kernel
theorem dX2_drop_23 : decode cX2_drop 23 = .ok (.aload_n 0, 1) := by decide +kernel
theorem dX2_drop_24 : decode cX2_drop 24 = .ok (.getfield 37, 3) := by decide +kernel
theorem dX2_drop_27 : decode cX2_drop 27 = .ok (.iload_n 1, 1) := by decide +kernel
theorem dX2_drop_28 : decode cX2_drop 28 = .ok (.bipush (-2), 2) := by decide +kernel
theorem dX2_drop_30 : decode cX2_drop 30 = .ok (.iastore, 1) := by decide +kernel
theorem dX2_drop_31 : decode cX2_drop 31 = .ok (.iconst 1, 1) := by decide +kernel
theorem dX2_drop_32 : decode cX2_drop 32 = .ok (.ireturn, 1) := by decide +kernel
theorem dX2_lever_0 : decode cX2_lever 0 = .ok (.iload_n 1, 1) := by decide +kernel
theorem dX2_lever_1 : decode cX2_lever 1 = .ok (.iconst 0, 1) := by decide +kernel
theorem dX2_lever_2 : decode cX2_lever 2 = .ok (.iconst 4, 1) := by decide +kernel
theorem dX2_lever_3 : decode cX2_lever 3 = .ok (.invokestatic 83, 3) := by decide +kernel
theorem dX2_lever_6 : decode cX2_lever 6 = .ok (.ifCond .eq 22, 3) := by decide +kernel
theorem dX2_lever_9 : decode cX2_lever 9 = .ok (.iload_n 2, 1) := by decide +kernel
theorem dX2_lever_10 : decode cX2_lever 10 = .ok (.iconst 0, 1) := by decide +kernel
theorem dX2_lever_11 : decode cX2_lever 11 = .ok (.iconst 3, 1) := by decide +kernel
theorem dX2_lever_12 : decode cX2_lever 12 = .ok (.invokestatic 83, 3) := by decide +kernel
theorem dX2_lever_15 : decode cX2_lever 15 = .ok (.ifCond .eq 13, 3) := by decide +kernel
theorem dX2_lever_18 : decode cX2_lever 18 = .ok (.iload_n 3, 1) := by decide +kernel
theorem dX2_lever_19 : decode cX2_lever 19 = .ok (.iconst (-1), 1) := by decide +kernel
theorem dX2_lever_20 : decode cX2_lever 20 = .ok (.bipush 19, 2) := by decide +kernel
theorem dX2_lever_22 : decode cX2_lever 22 = .ok (.invokestatic 83, 3) := by decide +kernel
theorem dX2_lever_25 : decode cX2_lever 25 = .ok (.ifCond .ne 5, 3) := by decide +kernel
theorem dX2_lever_28 : decode cX2_lever 28 = .ok (.iconst (-1), 1) := by decide +kernel
theorem dX2_lever_29 : decode cX2_lever 29 = .ok (.ireturn, 1) := by decide +kernel
theorem dX2_lever_30 : decode cX2_lever 30 = .ok (.iload_n 3, 1) := by decide +kernel
theorem dX2_lever_31 : decode cX2_lever 31 = .ok (.ifCond .lt 17, 3) := by decide +kernel
theorem dX2_lever_34 : decode cX2_lever 34 = .ok (.aload_n 0, 1) := by decide +kernel
theorem dX2_lever_35 : decode cX2_lever 35 = .ok (.getfield 37, 3) := by decide +kernel
theorem dX2_lever_38 : decode cX2_lever 38 = .ok (.iload_n 3, 1) := by decide +kernel
theorem dX2_lever_39 : decode cX2_lever 39 = .ok (.iaload, 1) := by decide +kernel
theorem dX2_lever_40 : decode cX2_lever 40 = .ok (.bipush (-2), 2) := by decide +kernel
theorem dX2_lever_42 : decode cX2_lever 42 = .ok (.if_icmp .ne 6, 3) := by decide +kernel
theorem dX2_lever_45 : decode cX2_lever 45 = .ok (.bipush (-2), 2) := by decide +kernel
theorem dX2_lever_47 : decode cX2_lever 47 = .ok (.ireturn, 1) := by decide +kernel
theorem dX2_lever_48 : decode cX2_lever 48 = .ok (.aload_n 0, 1) := by decide +kernel
theorem dX2_lever_49 : decode cX2_lever 49 = .ok (.getfield 40, 3) := by decide +kernel
theorem dX2_lever_52 : decode cX2_lever 52 = .ok (.iconst 4, 1) := by decide +kernel
theorem dX2_lever_53 : decode cX2_lever 53 = .ok (.iload_n 1, 1) := by decide +kernel
theorem dX2_lever_54 : decode cX2_lever 54 = .ok (.imul, 1) := by decide +kernel
theorem dX2_lever_55 : decode cX2_lever 55 = .ok (.iload_n 2, 1) := by decide +kernel
theorem dX2_lever_56 : decode cX2_lever 56 = .ok (.iadd, 1) := by decide +kernel
theorem dX2_lever_57 : decode cX2_lever 57 = .ok (.iload_n 3, 1) := by decide +kernel
theorem dX2_lever_58 : decode cX2_lever 58 = .ok (.ifCond .ge 8, 3) := by decide +kernel
theorem dX2_lever_61 : decode cX2_lever 61 = .ok (.bipush (-2), 2) := by decide +kernel
theorem dX2_lever_63 : decode cX2_lever 63 = .ok (.goto 9, 3) := by decide +kernel
theorem dX2_lever_66 : decode cX2_lever 66 = .ok (.aload_n 0, 1) := by decide +kernel
theorem dX2_lever_67 : decode cX2_lever 67 = .ok (.getfield 37, 3) := by decide +kernel
theorem dX2_lever_70 : decode cX2_lever 70 = .ok (.iload_n 3, 1) := by decide +kernel
theorem dX2_lever_71 : decode cX2_lever 71 = .ok (.iaload, 1) := by decide +kernel
theorem dX2_lever_72 : decode cX2_lever 72 = .ok (.iastore, 1) := by decide +kernel
theorem dX2_lever_73 : decode cX2_lever 73 = .ok (.iconst 1, 1) := by decide +kernel
theorem dX2_lever_74 : decode cX2_lever 74 = .ok (.ireturn, 1) := by decide +kernel
theorem dX2_same_0 : decode cX2_same 0 = .ok (.iload_n 1, 1) := by decide +kernel
theorem dX2_same_1 : decode cX2_same 1 = .ok (.invokestatic 91, 3) := by decide +kernel
theorem dX2_same_4 : decode cX2_same 4 = .ok (.ifCond .eq 10, 3) := by decide +kernel
theorem dX2_same_7 : decode cX2_same 7 = .ok (.iload_n 2, 1) := by decide +kernel
theorem dX2_same_8 : decode cX2_same 8 = .ok (.invokestatic 91, 3) := by decide +kernel
theorem dX2_same_11 : decode cX2_same 11 = .ok (.ifCond .ne 5, 3) := by decide +kernel
theorem dX2_same_14 : decode cX2_same 14 = .ok (.iconst (-1), 1) := by decide +kernel
theorem dX2_same_15 : decode cX2_same 15 = .ok (.ireturn, 1) := by decide +kernel
theorem dX2_same_16 : decode cX2_same 16 = .ok (.aload_n 0, 1) := by decide +kernel
theorem dX2_same_17 : decode cX2_same 17 = .ok (.getfield 37, 3) := by decide +kernel
theorem dX2_same_20 : decode cX2_same 20 = .ok (.iload_n 1, 1) := by decide +kernel
theorem dX2_same_21 : decode cX2_same 21 = .ok (.iaload, 1) := by decide +kernel
theorem dX2_same_22 : decode cX2_same 22 = .ok (.bipush (-2), 2) := by decide +kernel
theorem dX2_same_24 : decode cX2_same 24 = .ok (.if_icmp .eq 22, 3) := by decide +kernel
theorem dX2_same_27 : decode cX2_same 27 = .ok (.aload_n 0, 1) := by decide +kernel
theorem dX2_same_28 : decode cX2_same 28 = .ok (.getfield 37, 3) := by decide +kernel
theorem dX2_same_31 : decode cX2_same 31 = .ok (.iload_n 1, 1) := by decide +kernel
theorem dX2_same_32 : decode cX2_same 32 = .ok (.iaload, 1) := by decide +kernel
theorem dX2_same_33 : decode cX2_same 33 = .ok (.aload_n 0, 1) := by decide +kernel
theorem dX2_same_34 : decode cX2_same 34 = .ok (.getfield 37, 3) := by decide +kernel
theorem dX2_same_37 : decode cX2_same 37 = .ok (.iload_n 2, 1) := by decide +kernel
theorem dX2_same_38 : decode cX2_same 38 = .ok (.iaload, 1) := by decide +kernel
theorem dX2_same_39 : decode cX2_same 39 = .ok (.if_icmp .ne 7, 3) := by decide +kernel
theorem dX2_same_42 : decode cX2_same 42 = .ok (.iconst 1, 1) := by decide +kernel
theorem dX2_same_43 : decode cX2_same 43 = .ok (.goto 4, 3) := by decide +kernel
theorem dX2_same_46 : decode cX2_same 46 = .ok (.iconst 0, 1) := by decide +kernel
theorem dX2_same_47 : decode cX2_same 47 = .ok (.ireturn, 1) := by decide +kernel
theorem dX2_count_0 : decode cX2_count 0 = .ok (.iload_n 1, 1) := by decide +kernel
theorem dX2_count_1 : decode cX2_count 1 = .ok (.invokestatic 91, 3) := by decide +kernel
theorem dX2_count_4 : decode cX2_count 4 = .ok (.ifCond .ne 5, 3) := by decide +kernel
theorem dX2_count_7 : decode cX2_count 7 = .ok (.iconst (-1), 1) := by decide +kernel
theorem dX2_count_8 : decode cX2_count 8 = .ok (.ireturn, 1) := by decide +kernel
theorem dX2_count_9 : decode cX2_count 9 = .ok (.aload_n 0, 1) := by decide +kernel
theorem dX2_count_10 : decode cX2_count 10 = .ok (.getfield 37, 3) := by decide +kernel
theorem dX2_count_13 : decode cX2_count 13 = .ok (.iload_n 1, 1) := by decide +kernel
theorem dX2_count_14 : decode cX2_count 14 = .ok (.iaload, 1) := by decide +kernel
theorem dX2_count_15 : decode cX2_count 15 = .ok (.bipush (-2), 2) := by decide +kernel
theorem dX2_count_17 : decode cX2_count 17 = .ok (.if_icmp .eq 19, 3) := by decide +kernel
theorem dX2_count_20 : decode cX2_count 20 = .ok (.aload_n 0, 1) := by decide +kernel
theorem dX2_count_21 : decode cX2_count 21 = .ok (.getfield 22, 3) := by decide +kernel
theorem dX2_count_24 : decode cX2_count 24 = .ok (.aload_n 0, 1) := by decide +kernel
theorem dX2_count_25 : decode cX2_count 25 = .ok (.getfield 37, 3) := by decide +kernel
theorem dX2_count_28 : decode cX2_count 28 = .ok (.iload_n 1, 1) := by decide +kernel
theorem dX2_count_29 : decode cX2_count 29 = .ok (.iaload, 1) := by decide +kernel
theorem dX2_count_30 : decode cX2_count 30 = .ok (.iaload, 1) := by decide +kernel
theorem dX2_count_31 : decode cX2_count 31 = .ok (.bipush 12, 2) := by decide +kernel
theorem dX2_count_33 : decode cX2_count 33 = .ok (.if_icmp .eq 8, 3) := by decide +kernel
theorem dX2_count_36 : decode cX2_count 36 = .ok (.bipush (-2), 2) := by decide +kernel
theorem dX2_count_38 : decode cX2_count 38 = .ok (.goto 14, 3) := by decide +kernel
theorem dX2_count_41 : decode cX2_count 41 = .ok (.aload_n 0, 1) := by decide +kernel
theorem dX2_count_42 : decode cX2_count 42 = .ok (.getfield 34, 3) := by decide +kernel
theorem dX2_count_45 : decode cX2_count 45 = .ok (.aload_n 0, 1) := by decide +kernel
theorem dX2_count_46 : decode cX2_count 46 = .ok (.getfield 37, 3) := by decide +kernel
theorem dX2_count_49 : decode cX2_count 49 = .ok (.iload_n 1, 1) := by decide +kernel
theorem dX2_count_50 : decode cX2_count 50 = .ok (.iaload, 1) := by decide +kernel
theorem dX2_count_51 : decode cX2_count 51 = .ok (.iaload, 1) := by decide +kernel
theorem dX2_count_52 : decode cX2_count 52 = .ok (.ireturn, 1) := by decide +kernel
theorem dX2_enter_0 : decode cX2_enter 0 = .ok (.aload_n 0, 1) := by decide +kernel
theorem dX2_enter_1 : decode cX2_enter 1 = .ok (.getfield 74, 3) := by decide +kernel
theorem dX2_enter_4 : decode cX2_enter 4 = .ok (.bipush 60, 2) := by decide +kernel
theorem dX2_enter_6 : decode cX2_enter 6 = .ok (.if_icmp .ne 10, 3) := by decide +kernel
theorem dX2_enter_9 : decode cX2_enter 9 = .ok (.aload_n 0, 1) := by decide +kernel
theorem dX2_enter_10 : decode cX2_enter 10 = .ok (.bipush (-8), 2) := by decide +kernel
theorem dX2_enter_12 : decode cX2_enter 12 = .ok (.putfield 104, 3) := by decide +kernel
theorem dX2_enter_15 : decode cX2_enter 15 = .ok (.return_, 1) := by decide +kernel
theorem dX2_enter_16 : decode cX2_enter 16 = .ok (.aload_n 0, 1) := by decide +kernel
theorem dX2_enter_17 : decode cX2_enter 17 = .ok (.dup, 1) := by decide +kernel
theorem dX2_enter_18 : decode cX2_enter 18 = .ok (.getfield 74, 3) := by decide +kernel
theorem dX2_enter_21 : decode cX2_enter 21 = .ok (.iconst 1, 1) := by decide +kernel
theorem dX2_enter_22 : decode cX2_enter 22 = .ok (.iadd, 1) := by decide +kernel
theorem dX2_enter_23 : decode cX2_enter 23 = .ok (.putfield 74, 3) := by decide +kernel
theorem dX2_enter_26 : decode cX2_enter 26 = .ok (.aload_n 0, 1) := by decide +kernel
theorem dX2_enter_27 : decode cX2_enter 27 = .ok (.getfield 107, 3) := by decide +kernel
theorem dX2_enter_30 : decode cX2_enter 30 = .ok (.bipush 16, 2) := by decide +kernel
theorem dX2_enter_32 : decode cX2_enter 32 = .ok (.if_icmp .ne 12, 3) := by decide +kernel
theorem dX2_enter_35 : decode cX2_enter 35 = .ok (.aload_n 0, 1) := by decide +kernel
theorem dX2_enter_36 : decode cX2_enter 36 = .ok (.bipush (-9), 2) := by decide +kernel
theorem dX2_enter_38 : decode cX2_enter 38 = .ok (.putfield 104, 3) := by decide +kernel
theorem dX2_enter_41 : decode cX2_enter 41 = .ok (.goto 68, 3) := by decide +kernel
theorem dX2_enter_44 : decode cX2_enter 44 = .ok (.iload_n 1, 1) := by decide +kernel
theorem dX2_enter_45 : decode cX2_enter 45 = .ok (.bipush (-2), 2) := by decide +kernel
theorem dX2_enter_47 : decode cX2_enter 47 = .ok (.if_icmp .ne 12, 3) := by decide +kernel
theorem dX2_enter_50 : decode cX2_enter 50 = .ok (.aload_n 0, 1) := by decide +kernel
theorem dX2_enter_51 : decode cX2_enter 51 = .ok (.bipush (-6), 2) := by decide +kernel
theorem dX2_enter_53 : decode cX2_enter 53 = .ok (.putfield 104, 3) := by decide +kernel
theorem dX2_enter_56 : decode cX2_enter 56 = .ok (.goto 53, 3) := by decide +kernel
theorem dX2_enter_59 : decode cX2_enter 59 = .ok (.aload_n 0, 1) := by decide +kernel
theorem dX2_enter_60 : decode cX2_enter 60 = .ok (.getfield 49, 3) := by decide +kernel
theorem dX2_enter_63 : decode cX2_enter 63 = .ok (.aload_n 0, 1) := by decide +kernel
theorem dX2_enter_64 : decode cX2_enter 64 = .ok (.getfield 107, 3) := by decide +kernel
theorem dX2_enter_67 : decode cX2_enter 67 = .ok (.iload_n 1, 1) := by decide +kernel
theorem dX2_enter_68 : decode cX2_enter 68 = .ok (.iastore, 1) := by decide +kernel
theorem dX2_enter_69 : decode cX2_enter 69 = .ok (.aload_n 0, 1) := by decide +kernel
theorem dX2_enter_70 : decode cX2_enter 70 = .ok (.getfield 52, 3) := by decide +kernel
theorem dX2_enter_73 : decode cX2_enter 73 = .ok (.aload_n 0, 1) := by decide +kernel
theorem dX2_enter_74 : decode cX2_enter 74 = .ok (.getfield 107, 3) := by decide +kernel
theorem dX2_enter_77 : decode cX2_enter 77 = .ok (.iload_n 2, 1) := by decide +kernel
theorem dX2_enter_78 : decode cX2_enter 78 = .ok (.iastore, 1) := by decide +kernel
theorem dX2_enter_79 : decode cX2_enter 79 = .ok (.aload_n 0, 1) := by decide +kernel
theorem dX2_enter_80 : decode cX2_enter 80 = .ok (.getfield 55, 3) := by decide +kernel
theorem dX2_enter_83 : decode cX2_enter 83 = .ok (.aload_n 0, 1) := by decide +kernel
theorem dX2_enter_84 : decode cX2_enter 84 = .ok (.getfield 107, 3) := by decide +kernel
theorem dX2_enter_87 : decode cX2_enter 87 = .ok (.iconst 0, 1) := by decide +kernel
theorem dX2_enter_88 : decode cX2_enter 88 = .ok (.iastore, 1) := by decide +kernel
theorem dX2_enter_89 : decode cX2_enter 89 = .ok (.aload_n 0, 1) := by decide +kernel
theorem dX2_enter_90 : decode cX2_enter 90 = .ok (.getfield 58, 3) := by decide +kernel
theorem dX2_enter_93 : decode cX2_enter 93 = .ok (.aload_n 0, 1) := by decide +kernel
theorem dX2_enter_94 : decode cX2_enter 94 = .ok (.getfield 107, 3) := by decide +kernel
theorem dX2_enter_97 : decode cX2_enter 97 = .ok (.iload_n 2, 1) := by decide +kernel
theorem dX2_enter_98 : decode cX2_enter 98 = .ok (.iastore, 1) := by decide +kernel
theorem dX2_enter_99 : decode cX2_enter 99 = .ok (.aload_n 0, 1) := by decide +kernel
theorem dX2_enter_100 : decode cX2_enter 100 = .ok (.dup, 1) := by decide +kernel
theorem dX2_enter_101 : decode cX2_enter 101 = .ok (.getfield 107, 3) := by decide +kernel
theorem dX2_enter_104 : decode cX2_enter 104 = .ok (.iconst 1, 1) := by decide +kernel
theorem dX2_enter_105 : decode cX2_enter 105 = .ok (.iadd, 1) := by decide +kernel
theorem dX2_enter_106 : decode cX2_enter 106 = .ok (.putfield 107, 3) := by decide +kernel
theorem dX2_enter_109 : decode cX2_enter 109 = .ok (.return_, 1) := by decide +kernel
theorem dX2_give_0 : decode cX2_give 0 = .ok (.aload_n 0, 1) := by decide +kernel
theorem dX2_give_1 : decode cX2_give 1 = .ok (.dup, 1) := by decide +kernel
theorem dX2_give_2 : decode cX2_give 2 = .ok (.getfield 107, 3) := by decide +kernel
theorem dX2_give_5 : decode cX2_give 5 = .ok (.iconst 1, 1) := by decide +kernel
theorem dX2_give_6 : decode cX2_give 6 = .ok (.isub, 1) := by decide +kernel
theorem dX2_give_7 : decode cX2_give 7 = .ok (.putfield 107, 3) := by decide +kernel
theorem dX2_give_10 : decode cX2_give 10 = .ok (.aload_n 0, 1) := by decide +kernel
theorem dX2_give_11 : decode cX2_give 11 = .ok (.iload_n 1, 1) := by decide +kernel
theorem dX2_give_12 : decode cX2_give 12 = .ok (.putfield 110, 3) := by decide +kernel
theorem dX2_give_15 : decode cX2_give 15 = .ok (.aload_n 0, 1) := by decide +kernel
theorem dX2_give_16 : decode cX2_give 16 = .ok (.getfield 107, 3) := by decide +kernel
theorem dX2_give_19 : decode cX2_give 19 = .ok (.ifCond .le 15, 3) := by decide +kernel
theorem dX2_give_22 : decode cX2_give 22 = .ok (.aload_n 0, 1) := by decide +kernel
theorem dX2_give_23 : decode cX2_give 23 = .ok (.getfield 58, 3) := by decide +kernel
theorem dX2_give_26 : decode cX2_give 26 = .ok (.aload_n 0, 1) := by decide +kernel
theorem dX2_give_27 : decode cX2_give 27 = .ok (.getfield 107, 3) := by decide +kernel
theorem dX2_give_30 : decode cX2_give 30 = .ok (.iconst 1, 1) := by decide +kernel
theorem dX2_give_31 : decode cX2_give 31 = .ok (.isub, 1) := by decide +kernel
theorem dX2_give_32 : decode cX2_give 32 = .ok (.iload_n 1, 1) := by decide +kernel
theorem dX2_give_33 : decode cX2_give 33 = .ok (.iastore, 1) := by decide +kernel
theorem dX2_give_34 : decode cX2_give 34 = .ok (.return_, 1) := by decide +kernel
theorem dX2_fall_0 : decode cX2_fall 0 = .ok (.aload_n 0, 1) := by decide +kernel
theorem dX2_fall_1 : decode cX2_fall 1 = .ok (.getfield 107, 3) := by decide +kernel
theorem dX2_fall_4 : decode cX2_fall 4 = .ok (.iconst 1, 1) := by decide +kernel
theorem dX2_fall_5 : decode cX2_fall 5 = .ok (.isub, 1) := by decide +kernel
theorem dX2_fall_6 : decode cX2_fall 6 = .ok (.istore_n 1, 1) := by decide +kernel
theorem dX2_fall_7 : decode cX2_fall 7 = .ok (.aload_n 0, 1) := by decide +kernel
theorem dX2_fall_8 : decode cX2_fall 8 = .ok (.getfield 22, 3) := by decide +kernel
theorem dX2_fall_11 : decode cX2_fall 11 = .ok (.aload_n 0, 1) := by decide +kernel
theorem dX2_fall_12 : decode cX2_fall 12 = .ok (.getfield 49, 3) := by decide +kernel
theorem dX2_fall_15 : decode cX2_fall 15 = .ok (.iload_n 1, 1) := by decide +kernel
theorem dX2_fall_16 : decode cX2_fall 16 = .ok (.iaload, 1) := by decide +kernel
theorem dX2_fall_17 : decode cX2_fall 17 = .ok (.iaload, 1) := by decide +kernel
theorem dX2_fall_18 : decode cX2_fall 18 = .ok (.bipush 10, 2) := by decide +kernel
theorem dX2_fall_20 : decode cX2_fall 20 = .ok (.if_icmp .ne 35, 3) := by decide +kernel
theorem dX2_fall_23 : decode cX2_fall 23 = .ok (.aload_n 0, 1) := by decide +kernel
theorem dX2_fall_24 : decode cX2_fall 24 = .ok (.getfield 55, 3) := by decide +kernel
theorem dX2_fall_27 : decode cX2_fall 27 = .ok (.iload_n 1, 1) := by decide +kernel
theorem dX2_fall_28 : decode cX2_fall 28 = .ok (.iaload, 1) := by decide +kernel
theorem dX2_fall_29 : decode cX2_fall 29 = .ok (.iconst 1, 1) := by decide +kernel
theorem dX2_fall_30 : decode cX2_fall 30 = .ok (.if_icmp .ne 25, 3) := by decide +kernel
theorem dX2_fall_33 : decode cX2_fall 33 = .ok (.aload_n 0, 1) := by decide +kernel
theorem dX2_fall_34 : decode cX2_fall 34 = .ok (.getfield 104, 3) := by decide +kernel
theorem dX2_fall_37 : decode cX2_fall 37 = .ok (.bipush (-8), 2) := by decide +kernel
theorem dX2_fall_39 : decode cX2_fall 39 = .ok (.if_icmp .eq 16, 3) := by decide +kernel
theorem dX2_fall_42 : decode cX2_fall 42 = .ok (.aload_n 0, 1) := by decide +kernel
theorem dX2_fall_43 : decode cX2_fall 43 = .ok (.getfield 104, 3) := by decide +kernel
theorem dX2_fall_46 : decode cX2_fall 46 = .ok (.bipush (-9), 2) := by decide +kernel
theorem dX2_fall_48 : decode cX2_fall 48 = .ok (.if_icmp .eq 7, 3) := by decide +kernel
theorem dX2_fall_51 : decode cX2_fall 51 = .ok (.iconst 1, 1) := by decide +kernel
theorem dX2_fall_52 : decode cX2_fall 52 = .ok (.goto 4, 3) := by decide +kernel
theorem dX2_fall_55 : decode cX2_fall 55 = .ok (.iconst 0, 1) := by decide +kernel
theorem dX2_fall_56 : decode cX2_fall 56 = .ok (.istore_n 2, 1) := by decide +kernel
theorem dX2_fall_57 : decode cX2_fall 57 = .ok (.iload_n 2, 1) := by decide +kernel
theorem dX2_fall_58 : decode cX2_fall 58 = .ok (.ifCond .eq 39, 3) := by decide +kernel
theorem dX2_fall_61 : decode cX2_fall 61 = .ok (.aload_n 0, 1) := by decide +kernel
theorem dX2_fall_62 : decode cX2_fall 62 = .ok (.iconst 0, 1) := by decide +kernel
theorem dX2_fall_63 : decode cX2_fall 63 = .ok (.putfield 104, 3) := by decide +kernel
theorem dX2_fall_66 : decode cX2_fall 66 = .ok (.aload_n 0, 1) := by decide +kernel
theorem dX2_fall_67 : decode cX2_fall 67 = .ok (.getfield 55, 3) := by decide +kernel
theorem dX2_fall_70 : decode cX2_fall 70 = .ok (.iload_n 1, 1) := by decide +kernel
theorem dX2_fall_71 : decode cX2_fall 71 = .ok (.iconst 2, 1) := by decide +kernel
theorem dX2_fall_72 : decode cX2_fall 72 = .ok (.iastore, 1) := by decide +kernel
theorem dX2_fall_73 : decode cX2_fall 73 = .ok (.aload_n 0, 1) := by decide +kernel
theorem dX2_fall_74 : decode cX2_fall 74 = .ok (.aload_n 0, 1) := by decide +kernel
theorem dX2_fall_75 : decode cX2_fall 75 = .ok (.getfield 28, 3) := by decide +kernel
theorem dX2_fall_78 : decode cX2_fall 78 = .ok (.aload_n 0, 1) := by decide +kernel
theorem dX2_fall_79 : decode cX2_fall 79 = .ok (.getfield 49, 3) := by decide +kernel
theorem dX2_fall_82 : decode cX2_fall 82 = .ok (.iload_n 1, 1) := by decide +kernel
theorem dX2_fall_83 : decode cX2_fall 83 = .ok (.iaload, 1) := by decide +kernel
theorem dX2_fall_84 : decode cX2_fall 84 = .ok (.iaload, 1) := by decide +kernel
theorem dX2_fall_85 : decode cX2_fall 85 = .ok (.aload_n 0, 1) := by decide +kernel
theorem dX2_fall_86 : decode cX2_fall 86 = .ok (.getfield 52, 3) := by decide +kernel
theorem dX2_fall_89 : decode cX2_fall 89 = .ok (.iload_n 1, 1) := by decide +kernel
theorem dX2_fall_90 : decode cX2_fall 90 = .ok (.iaload, 1) := by decide +kernel
theorem dX2_fall_91 : decode cX2_fall 91 = .ok (.invokevirtual 113, 3) := by decide +kernel
theorem dX2_fall_94 : decode cX2_fall 94 = .ok (.goto 13, 3) := by decide +kernel
theorem dX2_fall_97 : decode cX2_fall 97 = .ok (.aload_n 0, 1) := by decide +kernel
theorem dX2_fall_98 : decode cX2_fall 98 = .ok (.dup, 1) := by decide +kernel
theorem dX2_fall_99 : decode cX2_fall 99 = .ok (.getfield 107, 3) := by decide +kernel
theorem dX2_fall_102 : decode cX2_fall 102 = .ok (.iconst 1, 1) := by decide +kernel
theorem dX2_fall_103 : decode cX2_fall 103 = .ok (.isub, 1) := by decide +kernel
theorem dX2_fall_104 : decode cX2_fall 104 = .ok (.putfield 107, 3) := by decide +kernel
theorem dX2_fall_107 : decode cX2_fall 107 = .ok (.return_, 1) := by decide +kernel
theorem dX2_draw_0 : decode cX2_draw 0 = .ok (.iload_n 3, 1) := by decide +kernel
theorem dX2_draw_1 : decode cX2_draw 1 = .ok (.ifCond .lt 13, 3) := by decide +kernel
theorem dX2_draw_4 : decode cX2_draw 4 = .ok (.iload_n 3, 1) := by decide +kernel
theorem dX2_draw_5 : decode cX2_draw 5 = .ok (.aload_n 0, 1) := by decide +kernel
theorem dX2_draw_6 : decode cX2_draw 6 = .ok (.getfield 7, 3) := by decide +kernel
theorem dX2_draw_9 : decode cX2_draw 9 = .ok (.iload_n 1, 1) := by decide +kernel
theorem dX2_draw_10 : decode cX2_draw 10 = .ok (.iaload, 1) := by decide +kernel
theorem dX2_draw_11 : decode cX2_draw 11 = .ok (.if_icmp .le 10, 3) := by decide +kernel
theorem dX2_draw_14 : decode cX2_draw 14 = .ok (.aload_n 0, 1) := by decide +kernel
theorem dX2_draw_15 : decode cX2_draw 15 = .ok (.bipush (-3), 2) := by decide +kernel
theorem dX2_draw_17 : decode cX2_draw 17 = .ok (.putfield 104, 3) := by decide +kernel
theorem dX2_draw_20 : decode cX2_draw 20 = .ok (.return_, 1) := by decide +kernel
theorem dX2_draw_21 : decode cX2_draw 21 = .ok (.aload_n 0, 1) := by decide +kernel
theorem dX2_draw_22 : decode cX2_draw 22 = .ok (.getfield 7, 3) := by decide +kernel
theorem dX2_draw_25 : decode cX2_draw 25 = .ok (.iload_n 1, 1) := by decide +kernel
theorem dX2_draw_26 : decode cX2_draw 26 = .ok (.dup2, 1) := by decide +kernel
theorem dX2_draw_27 : decode cX2_draw 27 = .ok (.iaload, 1) := by decide +kernel
theorem dX2_draw_28 : decode cX2_draw 28 = .ok (.iload_n 3, 1) := by decide +kernel
theorem dX2_draw_29 : decode cX2_draw 29 = .ok (.isub, 1) := by decide +kernel
theorem dX2_draw_30 : decode cX2_draw 30 = .ok (.iastore, 1) := by decide +kernel
theorem dX2_draw_31 : decode cX2_draw 31 = .ok (.aload_n 0, 1) := by decide +kernel
theorem dX2_draw_32 : decode cX2_draw 32 = .ok (.getfield 7, 3) := by decide +kernel
theorem dX2_draw_35 : decode cX2_draw 35 = .ok (.iload_n 2, 1) := by decide +kernel
theorem dX2_draw_36 : decode cX2_draw 36 = .ok (.dup2, 1) := by decide +kernel
theorem dX2_draw_37 : decode cX2_draw 37 = .ok (.iaload, 1) := by decide +kernel
theorem dX2_draw_38 : decode cX2_draw 38 = .ok (.iload_n 3, 1) := by decide +kernel
theorem dX2_draw_39 : decode cX2_draw 39 = .ok (.iadd, 1) := by decide +kernel
theorem dX2_draw_40 : decode cX2_draw 40 = .ok (.iastore, 1) := by decide +kernel
theorem dX2_draw_41 : decode cX2_draw 41 = .ok (.aload_n 0, 1) := by decide +kernel
theorem dX2_draw_42 : decode cX2_draw 42 = .ok (.aload_n 0, 1) := by decide +kernel
theorem dX2_draw_43 : decode cX2_draw 43 = .ok (.getfield 7, 3) := by decide +kernel
theorem dX2_draw_46 : decode cX2_draw 46 = .ok (.iload_n 1, 1) := by decide +kernel
theorem dX2_draw_47 : decode cX2_draw 47 = .ok (.iaload, 1) := by decide +kernel
theorem dX2_draw_48 : decode cX2_draw 48 = .ok (.invokevirtual 117, 3) := by decide +kernel
theorem dX2_draw_51 : decode cX2_draw 51 = .ok (.return_, 1) := by decide +kernel
theorem dX2_alone_0 : decode cX2_alone 0 = .ok (.aload_n 0, 1) := by decide +kernel
theorem dX2_alone_1 : decode cX2_alone 1 = .ok (.getfield 25, 3) := by decide +kernel
theorem dX2_alone_4 : decode cX2_alone 4 = .ok (.iload_n 1, 1) := by decide +kernel
theorem dX2_alone_5 : decode cX2_alone 5 = .ok (.iaload, 1) := by decide +kernel
theorem dX2_alone_6 : decode cX2_alone 6 = .ok (.istore_n 3, 1) := by decide +kernel
theorem dX2_alone_7 : decode cX2_alone 7 = .ok (.aload_n 0, 1) := by decide +kernel
theorem dX2_alone_8 : decode cX2_alone 8 = .ok (.getfield 28, 3) := by decide +kernel
theorem dX2_alone_11 : decode cX2_alone 11 = .ok (.iload_n 1, 1) := by decide +kernel
theorem dX2_alone_12 : decode cX2_alone 12 = .ok (.iaload, 1) := by decide +kernel
theorem dX2_alone_13 : decode cX2_alone 13 = .ok (.istore 4, 2) := by decide +kernel
theorem dX2_alone_15 : decode cX2_alone 15 = .ok (.aload_n 0, 1) := by decide +kernel
theorem dX2_alone_16 : decode cX2_alone 16 = .ok (.getfield 22, 3) := by decide +kernel
theorem dX2_alone_19 : decode cX2_alone 19 = .ok (.iload_n 1, 1) := by decide +kernel
theorem dX2_alone_20 : decode cX2_alone 20 = .ok (.iaload, 1) := by decide +kernel
theorem dX2_alone_21 : decode cX2_alone 21 = .ok (.tableswitch 206 0 6 #[43, 51, 75, 101, 112, 173, 196], 43) := by decide +kernel
theorem dX2_alone_64 : decode cX2_alone 64 = .ok (.aload_n 0, 1) := by decide +kernel
theorem dX2_alone_65 : decode cX2_alone 65 = .ok (.iload_n 3, 1) := by decide +kernel
theorem dX2_alone_66 : decode cX2_alone 66 = .ok (.invokevirtual 117, 3) := by decide +kernel
theorem dX2_alone_69 : decode cX2_alone 69 = .ok (.goto 164, 3) := by decide +kernel
theorem dX2_alone_72 : decode cX2_alone 72 = .ok (.aload_n 0, 1) := by decide +kernel
theorem dX2_alone_73 : decode cX2_alone 73 = .ok (.getfield 7, 3) := by decide +kernel
theorem dX2_alone_76 : decode cX2_alone 76 = .ok (.iload_n 3, 1) := by decide +kernel
theorem dX2_alone_77 : decode cX2_alone 77 = .ok (.iaload, 1) := by decide +kernel
theorem dX2_alone_78 : decode cX2_alone 78 = .ok (.istore 5, 2) := by decide +kernel
theorem dX2_alone_80 : decode cX2_alone 80 = .ok (.aload_n 0, 1) := by decide +kernel
theorem dX2_alone_81 : decode cX2_alone 81 = .ok (.getfield 7, 3) := by decide +kernel
theorem dX2_alone_84 : decode cX2_alone 84 = .ok (.iload_n 3, 1) := by decide +kernel
theorem dX2_alone_85 : decode cX2_alone 85 = .ok (.iload_n 2, 1) := by decide +kernel
theorem dX2_alone_86 : decode cX2_alone 86 = .ok (.iastore, 1) := by decide +kernel
theorem dX2_alone_87 : decode cX2_alone 87 = .ok (.aload_n 0, 1) := by decide +kernel
theorem dX2_alone_88 : decode cX2_alone 88 = .ok (.iload 5, 2) := by decide +kernel
theorem dX2_alone_90 : decode cX2_alone 90 = .ok (.invokevirtual 117, 3) := by decide +kernel
theorem dX2_alone_93 : decode cX2_alone 93 = .ok (.goto 140, 3) := by decide +kernel
theorem dX2_alone_96 : decode cX2_alone 96 = .ok (.aload_n 0, 1) := by decide +kernel
theorem dX2_alone_97 : decode cX2_alone 97 = .ok (.getfield 7, 3) := by decide +kernel
theorem dX2_alone_100 : decode cX2_alone 100 = .ok (.iload_n 3, 1) := by decide +kernel
theorem dX2_alone_101 : decode cX2_alone 101 = .ok (.dup2, 1) := by decide +kernel
theorem dX2_alone_102 : decode cX2_alone 102 = .ok (.iaload, 1) := by decide +kernel
theorem dX2_alone_103 : decode cX2_alone 103 = .ok (.iload_n 2, 1) := by decide +kernel
theorem dX2_alone_104 : decode cX2_alone 104 = .ok (.iload 4, 2) := by decide +kernel
theorem dX2_alone_106 : decode cX2_alone 106 = .ok (.imul, 1) := by decide +kernel
theorem dX2_alone_107 : decode cX2_alone 107 = .ok (.iadd, 1) := by decide +kernel
theorem dX2_alone_108 : decode cX2_alone 108 = .ok (.iastore, 1) := by decide +kernel
theorem dX2_alone_109 : decode cX2_alone 109 = .ok (.aload_n 0, 1) := by decide +kernel
theorem dX2_alone_110 : decode cX2_alone 110 = .ok (.aload_n 0, 1) := by decide +kernel
theorem dX2_alone_111 : decode cX2_alone 111 = .ok (.getfield 7, 3) := by decide +kernel
theorem dX2_alone_114 : decode cX2_alone 114 = .ok (.iload_n 3, 1) := by decide +kernel
theorem dX2_alone_115 : decode cX2_alone 115 = .ok (.iaload, 1) := by decide +kernel
theorem dX2_alone_116 : decode cX2_alone 116 = .ok (.invokevirtual 117, 3) := by decide +kernel
theorem dX2_alone_119 : decode cX2_alone 119 = .ok (.goto 114, 3) := by decide +kernel
theorem dX2_alone_122 : decode cX2_alone 122 = .ok (.aload_n 0, 1) := by decide +kernel
theorem dX2_alone_123 : decode cX2_alone 123 = .ok (.iload_n 3, 1) := by decide +kernel
theorem dX2_alone_124 : decode cX2_alone 124 = .ok (.iload 4, 2) := by decide +kernel
theorem dX2_alone_126 : decode cX2_alone 126 = .ok (.iload_n 2, 1) := by decide +kernel
theorem dX2_alone_127 : decode cX2_alone 127 = .ok (.invokevirtual 121, 3) := by decide +kernel
theorem dX2_alone_130 : decode cX2_alone 130 = .ok (.goto 103, 3) := by decide +kernel
theorem dX2_alone_133 : decode cX2_alone 133 = .ok (.iload 4, 2) := by decide +kernel
theorem dX2_alone_135 : decode cX2_alone 135 = .ok (.iconst 0, 1) := by decide +kernel
theorem dX2_alone_136 : decode cX2_alone 136 = .ok (.aload_n 0, 1) := by decide +kernel
theorem dX2_alone_137 : decode cX2_alone 137 = .ok (.getfield 13, 3) := by decide +kernel
theorem dX2_alone_140 : decode cX2_alone 140 = .ok (.iload_n 3, 1) := by decide +kernel
theorem dX2_alone_141 : decode cX2_alone 141 = .ok (.iaload, 1) := by decide +kernel
theorem dX2_alone_142 : decode cX2_alone 142 = .ok (.iconst 1, 1) := by decide +kernel
theorem dX2_alone_143 : decode cX2_alone 143 = .ok (.isub, 1) := by decide +kernel
theorem dX2_alone_144 : decode cX2_alone 144 = .ok (.invokestatic 83, 3) := by decide +kernel
theorem dX2_alone_147 : decode cX2_alone 147 = .ok (.ifCond .eq 38, 3) := by decide +kernel
theorem dX2_alone_150 : decode cX2_alone 150 = .ok (.aload_n 0, 1) := by decide +kernel
theorem dX2_alone_151 : decode cX2_alone 151 = .ok (.getfield 16, 3) := by decide +kernel
theorem dX2_alone_154 : decode cX2_alone 154 = .ok (.bipush 6, 2) := by decide +kernel
theorem dX2_alone_156 : decode cX2_alone 156 = .ok (.iload_n 3, 1) := by decide +kernel
theorem dX2_alone_157 : decode cX2_alone 157 = .ok (.imul, 1) := by decide +kernel
theorem dX2_alone_158 : decode cX2_alone 158 = .ok (.iload 4, 2) := by decide +kernel
theorem dX2_alone_160 : decode cX2_alone 160 = .ok (.iadd, 1) := by decide +kernel
theorem dX2_alone_161 : decode cX2_alone 161 = .ok (.dup2, 1) := by decide +kernel
theorem dX2_alone_162 : decode cX2_alone 162 = .ok (.iaload, 1) := by decide +kernel
theorem dX2_alone_163 : decode cX2_alone 163 = .ok (.iload_n 2, 1) := by decide +kernel
theorem dX2_alone_164 : decode cX2_alone 164 = .ok (.iadd, 1) := by decide +kernel
theorem dX2_alone_165 : decode cX2_alone 165 = .ok (.iastore, 1) := by decide +kernel
theorem dX2_alone_166 : decode cX2_alone 166 = .ok (.aload_n 0, 1) := by decide +kernel
theorem dX2_alone_167 : decode cX2_alone 167 = .ok (.aload_n 0, 1) := by decide +kernel
theorem dX2_alone_168 : decode cX2_alone 168 = .ok (.getfield 16, 3) := by decide +kernel
theorem dX2_alone_171 : decode cX2_alone 171 = .ok (.bipush 6, 2) := by decide +kernel
theorem dX2_alone_173 : decode cX2_alone 173 = .ok (.iload_n 3, 1) := by decide +kernel
theorem dX2_alone_174 : decode cX2_alone 174 = .ok (.imul, 1) := by decide +kernel
theorem dX2_alone_175 : decode cX2_alone 175 = .ok (.iload 4, 2) := by decide +kernel
theorem dX2_alone_177 : decode cX2_alone 177 = .ok (.iadd, 1) := by decide +kernel
theorem dX2_alone_178 : decode cX2_alone 178 = .ok (.iaload, 1) := by decide +kernel
theorem dX2_alone_179 : decode cX2_alone 179 = .ok (.invokevirtual 117, 3) := by decide +kernel
theorem dX2_alone_182 : decode cX2_alone 182 = .ok (.goto 51, 3) := by decide +kernel
theorem dX2_alone_185 : decode cX2_alone 185 = .ok (.aload_n 0, 1) := by decide +kernel
theorem dX2_alone_186 : decode cX2_alone 186 = .ok (.bipush (-4), 2) := by decide +kernel
theorem dX2_alone_188 : decode cX2_alone 188 = .ok (.putfield 104, 3) := by decide +kernel
theorem dX2_alone_191 : decode cX2_alone 191 = .ok (.goto 42, 3) := by decide +kernel
theorem dX2_alone_194 : decode cX2_alone 194 = .ok (.iload_n 3, 1) := by decide +kernel
theorem dX2_alone_195 : decode cX2_alone 195 = .ok (.ifCond .ne 12, 3) := by decide +kernel
theorem dX2_alone_198 : decode cX2_alone 198 = .ok (.aload_n 0, 1) := by decide +kernel
theorem dX2_alone_199 : decode cX2_alone 199 = .ok (.bipush (-5), 2) := by decide +kernel
theorem dX2_alone_201 : decode cX2_alone 201 = .ok (.putfield 104, 3) := by decide +kernel
theorem dX2_alone_204 : decode cX2_alone 204 = .ok (.goto 29, 3) := by decide +kernel
theorem dX2_alone_207 : decode cX2_alone 207 = .ok (.aload_n 0, 1) := by decide +kernel
theorem dX2_alone_208 : decode cX2_alone 208 = .ok (.iload_n 2, 1) := by decide +kernel
theorem dX2_alone_209 : decode cX2_alone 209 = .ok (.iload_n 3, 1) := by decide +kernel
theorem dX2_alone_210 : decode cX2_alone 210 = .ok (.idiv, 1) := by decide +kernel
theorem dX2_alone_211 : decode cX2_alone 211 = .ok (.invokevirtual 117, 3) := by decide +kernel
theorem dX2_alone_214 : decode cX2_alone 214 = .ok (.goto 19, 3) := by decide +kernel
theorem dX2_alone_217 : decode cX2_alone 217 = .ok (.aload_n 0, 1) := by decide +kernel
theorem dX2_alone_218 : decode cX2_alone 218 = .ok (.iload_n 2, 1) := by decide +kernel
theorem dX2_alone_219 : decode cX2_alone 219 = .ok (.iload_n 3, 1) := by decide +kernel
theorem dX2_alone_220 : decode cX2_alone 220 = .ok (.iadd, 1) := by decide +kernel
theorem dX2_alone_221 : decode cX2_alone 221 = .ok (.invokevirtual 117, 3) := by decide +kernel
theorem dX2_alone_224 : decode cX2_alone 224 = .ok (.goto 9, 3) := by decide +kernel
theorem dX2_alone_227 : decode cX2_alone 227 = .ok (.aload_n 0, 1) := by decide +kernel
theorem dX2_alone_228 : decode cX2_alone 228 = .ok (.iload_n 3, 1) := by decide +kernel
theorem dX2_alone_229 : decode cX2_alone 229 = .ok (.iload_n 2, 1) := by decide +kernel
theorem dX2_alone_230 : decode cX2_alone 230 = .ok (.invokevirtual 125, 3) := by decide +kernel
theorem dX2_alone_233 : decode cX2_alone 233 = .ok (.return_, 1) := by decide +kernel
theorem dX2_later_0 : decode cX2_later 0 = .ok (.aload_n 0, 1) := by decide +kernel
theorem dX2_later_1 : decode cX2_later 1 = .ok (.getfield 71, 3) := by decide +kernel
theorem dX2_later_4 : decode cX2_later 4 = .ok (.bipush 12, 2) := by decide +kernel
theorem dX2_later_6 : decode cX2_later 6 = .ok (.if_icmp .ne 10, 3) := by decide +kernel
theorem dX2_later_9 : decode cX2_later 9 = .ok (.aload_n 0, 1) := by decide +kernel
theorem dX2_later_10 : decode cX2_later 10 = .ok (.bipush (-7), 2) := by decide +kernel
theorem dX2_later_12 : decode cX2_later 12 = .ok (.putfield 104, 3) := by decide +kernel
theorem dX2_later_15 : decode cX2_later 15 = .ok (.return_, 1) := by decide +kernel
theorem dX2_later_16 : decode cX2_later 16 = .ok (.aload_n 0, 1) := by decide +kernel
theorem dX2_later_17 : decode cX2_later 17 = .ok (.getfield 43, 3) := by decide +kernel
theorem dX2_later_20 : decode cX2_later 20 = .ok (.aload_n 0, 1) := by decide +kernel
theorem dX2_later_21 : decode cX2_later 21 = .ok (.getfield 71, 3) := by decide +kernel
theorem dX2_later_24 : decode cX2_later 24 = .ok (.iload_n 1, 1) := by decide +kernel
theorem dX2_later_25 : decode cX2_later 25 = .ok (.iastore, 1) := by decide +kernel
theorem dX2_later_26 : decode cX2_later 26 = .ok (.aload_n 0, 1) := by decide +kernel
theorem dX2_later_27 : decode cX2_later 27 = .ok (.getfield 46, 3) := by decide +kernel
theorem dX2_later_30 : decode cX2_later 30 = .ok (.aload_n 0, 1) := by decide +kernel
theorem dX2_later_31 : decode cX2_later 31 = .ok (.getfield 71, 3) := by decide +kernel
theorem dX2_later_34 : decode cX2_later 34 = .ok (.iload_n 2, 1) := by decide +kernel
theorem dX2_later_35 : decode cX2_later 35 = .ok (.iastore, 1) := by decide +kernel
theorem dX2_later_36 : decode cX2_later 36 = .ok (.aload_n 0, 1) := by decide +kernel
theorem dX2_later_37 : decode cX2_later 37 = .ok (.dup, 1) := by decide +kernel
theorem dX2_later_38 : decode cX2_later 38 = .ok (.getfield 71, 3) := by decide +kernel
theorem dX2_later_41 : decode cX2_later 41 = .ok (.iconst 1, 1) := by decide +kernel
theorem dX2_later_42 : decode cX2_later 42 = .ok (.iadd, 1) := by decide +kernel
theorem dX2_later_43 : decode cX2_later 43 = .ok (.putfield 71, 3) := by decide +kernel
theorem dX2_later_46 : decode cX2_later 46 = .ok (.aload_n 0, 1) := by decide +kernel
theorem dX2_later_47 : decode cX2_later 47 = .ok (.aload_n 0, 1) := by decide +kernel
theorem dX2_later_48 : decode cX2_later 48 = .ok (.getfield 71, 3) := by decide +kernel
theorem dX2_later_51 : decode cX2_later 51 = .ok (.invokevirtual 117, 3) := by decide +kernel
theorem dX2_later_54 : decode cX2_later 54 = .ok (.return_, 1) := by decide +kernel
theorem dX2_goOn_0 : decode cX2_goOn 0 = .ok (.aload_n 0, 1) := by decide +kernel
theorem dX2_goOn_1 : decode cX2_goOn 1 = .ok (.getfield 107, 3) := by decide +kernel
theorem dX2_goOn_4 : decode cX2_goOn 4 = .ok (.iconst 1, 1) := by decide +kernel
theorem dX2_goOn_5 : decode cX2_goOn 5 = .ok (.isub, 1) := by decide +kernel
theorem dX2_goOn_6 : decode cX2_goOn 6 = .ok (.istore_n 1, 1) := by decide +kernel
theorem dX2_goOn_7 : decode cX2_goOn 7 = .ok (.aload_n 0, 1) := by decide +kernel
theorem dX2_goOn_8 : decode cX2_goOn 8 = .ok (.getfield 49, 3) := by decide +kernel
theorem dX2_goOn_11 : decode cX2_goOn 11 = .ok (.iload_n 1, 1) := by decide +kernel
theorem dX2_goOn_12 : decode cX2_goOn 12 = .ok (.iaload, 1) := by decide +kernel
theorem dX2_goOn_13 : decode cX2_goOn 13 = .ok (.istore_n 2, 1) := by decide +kernel
theorem dX2_goOn_14 : decode cX2_goOn 14 = .ok (.aload_n 0, 1) := by decide +kernel
theorem dX2_goOn_15 : decode cX2_goOn 15 = .ok (.getfield 52, 3) := by decide +kernel
theorem dX2_goOn_18 : decode cX2_goOn 18 = .ok (.iload_n 1, 1) := by decide +kernel
theorem dX2_goOn_19 : decode cX2_goOn 19 = .ok (.iaload, 1) := by decide +kernel
theorem dX2_goOn_20 : decode cX2_goOn 20 = .ok (.istore_n 3, 1) := by decide +kernel
theorem dX2_goOn_21 : decode cX2_goOn 21 = .ok (.aload_n 0, 1) := by decide +kernel
theorem dX2_goOn_22 : decode cX2_goOn 22 = .ok (.getfield 58, 3) := by decide +kernel
theorem dX2_goOn_25 : decode cX2_goOn 25 = .ok (.iload_n 1, 1) := by decide +kernel
theorem dX2_goOn_26 : decode cX2_goOn 26 = .ok (.iaload, 1) := by decide +kernel
theorem dX2_goOn_27 : decode cX2_goOn 27 = .ok (.istore 4, 2) := by decide +kernel
theorem dX2_goOn_29 : decode cX2_goOn 29 = .ok (.aload_n 0, 1) := by decide +kernel
theorem dX2_goOn_30 : decode cX2_goOn 30 = .ok (.getfield 55, 3) := by decide +kernel
theorem dX2_goOn_33 : decode cX2_goOn 33 = .ok (.iload_n 1, 1) := by decide +kernel
theorem dX2_goOn_34 : decode cX2_goOn 34 = .ok (.iaload, 1) := by decide +kernel
theorem dX2_goOn_35 : decode cX2_goOn 35 = .ok (.istore 5, 2) := by decide +kernel
theorem dX2_goOn_37 : decode cX2_goOn 37 = .ok (.aload_n 0, 1) := by decide +kernel
theorem dX2_goOn_38 : decode cX2_goOn 38 = .ok (.getfield 55, 3) := by decide +kernel
theorem dX2_goOn_41 : decode cX2_goOn 41 = .ok (.iload_n 1, 1) := by decide +kernel
theorem dX2_goOn_42 : decode cX2_goOn 42 = .ok (.dup2, 1) := by decide +kernel
theorem dX2_goOn_43 : decode cX2_goOn 43 = .ok (.iaload, 1) := by decide +kernel
theorem dX2_goOn_44 : decode cX2_goOn 44 = .ok (.iconst 1, 1) := by decide +kernel
theorem dX2_goOn_45 : decode cX2_goOn 45 = .ok (.iadd, 1) := by decide +kernel
theorem dX2_goOn_46 : decode cX2_goOn 46 = .ok (.iastore, 1) := by decide +kernel
theorem dX2_goOn_47 : decode cX2_goOn 47 = .ok (.aload_n 0, 1) := by decide +kernel
theorem dX2_goOn_48 : decode cX2_goOn 48 = .ok (.getfield 22, 3) := by decide +kernel
theorem dX2_goOn_51 : decode cX2_goOn 51 = .ok (.iload_n 2, 1) := by decide +kernel
theorem dX2_goOn_52 : decode cX2_goOn 52 = .ok (.iaload, 1) := by decide +kernel
theorem dX2_goOn_53 : decode cX2_goOn 53 = .ok (.tableswitch 313 7 14 #[47, 91, 143, 178, 313, 231, 273, 178], 47) := by decide +kernel
theorem dX2_goOn_100 : decode cX2_goOn 100 = .ok (.iload 5, 2) := by decide +kernel
theorem dX2_goOn_102 : decode cX2_goOn 102 = .ok (.iconst 2, 1) := by decide +kernel
theorem dX2_goOn_103 : decode cX2_goOn 103 = .ok (.if_icmp .ge 32, 3) := by decide +kernel
theorem dX2_goOn_106 : decode cX2_goOn 106 = .ok (.aload_n 0, 1) := by decide +kernel
theorem dX2_goOn_107 : decode cX2_goOn 107 = .ok (.iload 5, 2) := by decide +kernel
theorem dX2_goOn_109 : decode cX2_goOn 109 = .ok (.ifCond .ne 12, 3) := by decide +kernel
theorem dX2_goOn_112 : decode cX2_goOn 112 = .ok (.aload_n 0, 1) := by decide +kernel
theorem dX2_goOn_113 : decode cX2_goOn 113 = .ok (.getfield 25, 3) := by decide +kernel
theorem dX2_goOn_116 : decode cX2_goOn 116 = .ok (.iload_n 2, 1) := by decide +kernel
theorem dX2_goOn_117 : decode cX2_goOn 117 = .ok (.iaload, 1) := by decide +kernel
theorem dX2_goOn_118 : decode cX2_goOn 118 = .ok (.goto 9, 3) := by decide +kernel
theorem dX2_goOn_121 : decode cX2_goOn 121 = .ok (.aload_n 0, 1) := by decide +kernel
theorem dX2_goOn_122 : decode cX2_goOn 122 = .ok (.getfield 28, 3) := by decide +kernel
theorem dX2_goOn_125 : decode cX2_goOn 125 = .ok (.iload_n 2, 1) := by decide +kernel
theorem dX2_goOn_126 : decode cX2_goOn 126 = .ok (.iaload, 1) := by decide +kernel
theorem dX2_goOn_127 : decode cX2_goOn 127 = .ok (.iload 4, 2) := by decide +kernel
theorem dX2_goOn_129 : decode cX2_goOn 129 = .ok (.invokevirtual 113, 3) := by decide +kernel
theorem dX2_goOn_132 : decode cX2_goOn 132 = .ok (.goto 240, 3) := by decide +kernel
theorem dX2_goOn_135 : decode cX2_goOn 135 = .ok (.aload_n 0, 1) := by decide +kernel
theorem dX2_goOn_136 : decode cX2_goOn 136 = .ok (.iload 4, 2) := by decide +kernel
theorem dX2_goOn_138 : decode cX2_goOn 138 = .ok (.invokevirtual 117, 3) := by decide +kernel
theorem dX2_goOn_141 : decode cX2_goOn 141 = .ok (.goto 231, 3) := by decide +kernel
theorem dX2_goOn_144 : decode cX2_goOn 144 = .ok (.iload 5, 2) := by decide +kernel
theorem dX2_goOn_146 : decode cX2_goOn 146 = .ok (.ifCond .ne 41, 3) := by decide +kernel
theorem dX2_goOn_149 : decode cX2_goOn 149 = .ok (.aload_n 0, 1) := by decide +kernel
theorem dX2_goOn_150 : decode cX2_goOn 150 = .ok (.aload_n 0, 1) := by decide +kernel
theorem dX2_goOn_151 : decode cX2_goOn 151 = .ok (.getfield 7, 3) := by decide +kernel
theorem dX2_goOn_154 : decode cX2_goOn 154 = .ok (.aload_n 0, 1) := by decide +kernel
theorem dX2_goOn_155 : decode cX2_goOn 155 = .ok (.getfield 31, 3) := by decide +kernel
theorem dX2_goOn_158 : decode cX2_goOn 158 = .ok (.iload_n 2, 1) := by decide +kernel
theorem dX2_goOn_159 : decode cX2_goOn 159 = .ok (.iaload, 1) := by decide +kernel
theorem dX2_goOn_160 : decode cX2_goOn 160 = .ok (.iaload, 1) := by decide +kernel
theorem dX2_goOn_161 : decode cX2_goOn 161 = .ok (.iload_n 3, 1) := by decide +kernel
theorem dX2_goOn_162 : decode cX2_goOn 162 = .ok (.if_icmp .le 12, 3) := by decide +kernel
theorem dX2_goOn_165 : decode cX2_goOn 165 = .ok (.aload_n 0, 1) := by decide +kernel
theorem dX2_goOn_166 : decode cX2_goOn 166 = .ok (.getfield 28, 3) := by decide +kernel
theorem dX2_goOn_169 : decode cX2_goOn 169 = .ok (.iload_n 2, 1) := by decide +kernel
theorem dX2_goOn_170 : decode cX2_goOn 170 = .ok (.iaload, 1) := by decide +kernel
theorem dX2_goOn_171 : decode cX2_goOn 171 = .ok (.goto 9, 3) := by decide +kernel
theorem dX2_goOn_174 : decode cX2_goOn 174 = .ok (.aload_n 0, 1) := by decide +kernel
theorem dX2_goOn_175 : decode cX2_goOn 175 = .ok (.getfield 25, 3) := by decide +kernel
theorem dX2_goOn_178 : decode cX2_goOn 178 = .ok (.iload_n 2, 1) := by decide +kernel
theorem dX2_goOn_179 : decode cX2_goOn 179 = .ok (.iaload, 1) := by decide +kernel
theorem dX2_goOn_180 : decode cX2_goOn 180 = .ok (.iload_n 3, 1) := by decide +kernel
theorem dX2_goOn_181 : decode cX2_goOn 181 = .ok (.invokevirtual 113, 3) := by decide +kernel
theorem dX2_goOn_184 : decode cX2_goOn 184 = .ok (.goto 188, 3) := by decide +kernel
theorem dX2_goOn_187 : decode cX2_goOn 187 = .ok (.aload_n 0, 1) := by decide +kernel
theorem dX2_goOn_188 : decode cX2_goOn 188 = .ok (.iload 4, 2) := by decide +kernel
theorem dX2_goOn_190 : decode cX2_goOn 190 = .ok (.invokevirtual 117, 3) := by decide +kernel
theorem dX2_goOn_193 : decode cX2_goOn 193 = .ok (.goto 179, 3) := by decide +kernel
theorem dX2_goOn_196 : decode cX2_goOn 196 = .ok (.iload 5, 2) := by decide +kernel
theorem dX2_goOn_198 : decode cX2_goOn 198 = .ok (.aload_n 0, 1) := by decide +kernel
theorem dX2_goOn_199 : decode cX2_goOn 199 = .ok (.getfield 28, 3) := by decide +kernel
theorem dX2_goOn_202 : decode cX2_goOn 202 = .ok (.iload_n 2, 1) := by decide +kernel
theorem dX2_goOn_203 : decode cX2_goOn 203 = .ok (.iaload, 1) := by decide +kernel
theorem dX2_goOn_204 : decode cX2_goOn 204 = .ok (.if_icmp .ge 18, 3) := by decide +kernel
theorem dX2_goOn_207 : decode cX2_goOn 207 = .ok (.aload_n 0, 1) := by decide +kernel
theorem dX2_goOn_208 : decode cX2_goOn 208 = .ok (.aload_n 0, 1) := by decide +kernel
theorem dX2_goOn_209 : decode cX2_goOn 209 = .ok (.getfield 25, 3) := by decide +kernel
theorem dX2_goOn_212 : decode cX2_goOn 212 = .ok (.iload_n 2, 1) := by decide +kernel
theorem dX2_goOn_213 : decode cX2_goOn 213 = .ok (.iaload, 1) := by decide +kernel
theorem dX2_goOn_214 : decode cX2_goOn 214 = .ok (.iload 4, 2) := by decide +kernel
theorem dX2_goOn_216 : decode cX2_goOn 216 = .ok (.invokevirtual 113, 3) := by decide +kernel
theorem dX2_goOn_219 : decode cX2_goOn 219 = .ok (.goto 153, 3) := by decide +kernel
theorem dX2_goOn_222 : decode cX2_goOn 222 = .ok (.aload_n 0, 1) := by decide +kernel
theorem dX2_goOn_223 : decode cX2_goOn 223 = .ok (.iload 4, 2) := by decide +kernel
theorem dX2_goOn_225 : decode cX2_goOn 225 = .ok (.invokevirtual 117, 3) := by decide +kernel
theorem dX2_goOn_228 : decode cX2_goOn 228 = .ok (.goto 144, 3) := by decide +kernel
theorem dX2_goOn_231 : decode cX2_goOn 231 = .ok (.iload 5, 2) := by decide +kernel
theorem dX2_goOn_233 : decode cX2_goOn 233 = .ok (.ifCond .ne 42, 3) := by decide +kernel
theorem dX2_goOn_236 : decode cX2_goOn 236 = .ok (.aload_n 0, 1) := by decide +kernel
theorem dX2_goOn_237 : decode cX2_goOn 237 = .ok (.aload_n 0, 1) := by decide +kernel
theorem dX2_goOn_238 : decode cX2_goOn 238 = .ok (.getfield 22, 3) := by decide +kernel
theorem dX2_goOn_241 : decode cX2_goOn 241 = .ok (.iload_n 2, 1) := by decide +kernel
theorem dX2_goOn_242 : decode cX2_goOn 242 = .ok (.iaload, 1) := by decide +kernel
theorem dX2_goOn_243 : decode cX2_goOn 243 = .ok (.bipush 10, 2) := by decide +kernel
theorem dX2_goOn_245 : decode cX2_goOn 245 = .ok (.if_icmp .ne 12, 3) := by decide +kernel
theorem dX2_goOn_248 : decode cX2_goOn 248 = .ok (.aload_n 0, 1) := by decide +kernel
theorem dX2_goOn_249 : decode cX2_goOn 249 = .ok (.getfield 25, 3) := by decide +kernel
theorem dX2_goOn_252 : decode cX2_goOn 252 = .ok (.iload_n 2, 1) := by decide +kernel
theorem dX2_goOn_253 : decode cX2_goOn 253 = .ok (.iaload, 1) := by decide +kernel
theorem dX2_goOn_254 : decode cX2_goOn 254 = .ok (.goto 14, 3) := by decide +kernel
theorem dX2_goOn_257 : decode cX2_goOn 257 = .ok (.aload_n 0, 1) := by decide +kernel
theorem dX2_goOn_258 : decode cX2_goOn 258 = .ok (.getfield 37, 3) := by decide +kernel
theorem dX2_goOn_261 : decode cX2_goOn 261 = .ok (.aload_n 0, 1) := by decide +kernel
theorem dX2_goOn_262 : decode cX2_goOn 262 = .ok (.getfield 25, 3) := by decide +kernel
theorem dX2_goOn_265 : decode cX2_goOn 265 = .ok (.iload_n 2, 1) := by decide +kernel
theorem dX2_goOn_266 : decode cX2_goOn 266 = .ok (.iaload, 1) := by decide +kernel
theorem dX2_goOn_267 : decode cX2_goOn 267 = .ok (.iaload, 1) := by decide +kernel
theorem dX2_goOn_268 : decode cX2_goOn 268 = .ok (.iload_n 3, 1) := by decide +kernel
theorem dX2_goOn_269 : decode cX2_goOn 269 = .ok (.invokevirtual 113, 3) := by decide +kernel
theorem dX2_goOn_272 : decode cX2_goOn 272 = .ok (.goto 100, 3) := by decide +kernel
theorem dX2_goOn_275 : decode cX2_goOn 275 = .ok (.aload_n 0, 1) := by decide +kernel
theorem dX2_goOn_276 : decode cX2_goOn 276 = .ok (.iload 4, 2) := by decide +kernel
theorem dX2_goOn_278 : decode cX2_goOn 278 = .ok (.invokevirtual 117, 3) := by decide +kernel
theorem dX2_goOn_281 : decode cX2_goOn 281 = .ok (.goto 91, 3) := by decide +kernel
theorem dX2_goOn_284 : decode cX2_goOn 284 = .ok (.iload 5, 2) := by decide +kernel
theorem dX2_goOn_286 : decode cX2_goOn 286 = .ok (.ifCond .ne 17, 3) := by decide +kernel
theorem dX2_goOn_289 : decode cX2_goOn 289 = .ok (.aload_n 0, 1) := by decide +kernel
theorem dX2_goOn_290 : decode cX2_goOn 290 = .ok (.aload_n 0, 1) := by decide +kernel
theorem dX2_goOn_291 : decode cX2_goOn 291 = .ok (.getfield 25, 3) := by decide +kernel
theorem dX2_goOn_294 : decode cX2_goOn 294 = .ok (.iload_n 2, 1) := by decide +kernel
theorem dX2_goOn_295 : decode cX2_goOn 295 = .ok (.iaload, 1) := by decide +kernel
theorem dX2_goOn_296 : decode cX2_goOn 296 = .ok (.iload_n 3, 1) := by decide +kernel
theorem dX2_goOn_297 : decode cX2_goOn 297 = .ok (.invokevirtual 113, 3) := by decide +kernel
theorem dX2_goOn_300 : decode cX2_goOn 300 = .ok (.goto 72, 3) := by decide +kernel
theorem dX2_goOn_303 : decode cX2_goOn 303 = .ok (.aload_n 0, 1) := by decide +kernel
theorem dX2_goOn_304 : decode cX2_goOn 304 = .ok (.getfield 34, 3) := by decide +kernel
theorem dX2_goOn_307 : decode cX2_goOn 307 = .ok (.iload_n 2, 1) := by decide +kernel
theorem dX2_goOn_308 : decode cX2_goOn 308 = .ok (.dup2, 1) := by decide +kernel
theorem dX2_goOn_309 : decode cX2_goOn 309 = .ok (.iaload, 1) := by decide +kernel
theorem dX2_goOn_310 : decode cX2_goOn 310 = .ok (.iconst 1, 1) := by decide +kernel
theorem dX2_goOn_311 : decode cX2_goOn 311 = .ok (.iadd, 1) := by decide +kernel
theorem dX2_goOn_312 : decode cX2_goOn 312 = .ok (.iastore, 1) := by decide +kernel
theorem dX2_goOn_313 : decode cX2_goOn 313 = .ok (.aload_n 0, 1) := by decide +kernel
theorem dX2_goOn_314 : decode cX2_goOn 314 = .ok (.aload_n 0, 1) := by decide +kernel
theorem dX2_goOn_315 : decode cX2_goOn 315 = .ok (.getfield 34, 3) := by decide +kernel
theorem dX2_goOn_318 : decode cX2_goOn 318 = .ok (.iload_n 2, 1) := by decide +kernel
theorem dX2_goOn_319 : decode cX2_goOn 319 = .ok (.iaload, 1) := by decide +kernel
theorem dX2_goOn_320 : decode cX2_goOn 320 = .ok (.invokevirtual 117, 3) := by decide +kernel
theorem dX2_goOn_323 : decode cX2_goOn 323 = .ok (.goto 49, 3) := by decide +kernel
theorem dX2_goOn_326 : decode cX2_goOn 326 = .ok (.iload 5, 2) := by decide +kernel
theorem dX2_goOn_328 : decode cX2_goOn 328 = .ok (.iconst 4, 1) := by decide +kernel
theorem dX2_goOn_329 : decode cX2_goOn 329 = .ok (.if_icmp .ge 28, 3) := by decide +kernel
theorem dX2_goOn_332 : decode cX2_goOn 332 = .ok (.aload_n 0, 1) := by decide +kernel
theorem dX2_goOn_333 : decode cX2_goOn 333 = .ok (.aload_n 0, 1) := by decide +kernel
theorem dX2_goOn_334 : decode cX2_goOn 334 = .ok (.getfield 40, 3) := by decide +kernel
theorem dX2_goOn_337 : decode cX2_goOn 337 = .ok (.iconst 4, 1) := by decide +kernel
theorem dX2_goOn_338 : decode cX2_goOn 338 = .ok (.aload_n 0, 1) := by decide +kernel
theorem dX2_goOn_339 : decode cX2_goOn 339 = .ok (.getfield 25, 3) := by decide +kernel
theorem dX2_goOn_342 : decode cX2_goOn 342 = .ok (.iload_n 2, 1) := by decide +kernel
theorem dX2_goOn_343 : decode cX2_goOn 343 = .ok (.iaload, 1) := by decide +kernel
theorem dX2_goOn_344 : decode cX2_goOn 344 = .ok (.imul, 1) := by decide +kernel
theorem dX2_goOn_345 : decode cX2_goOn 345 = .ok (.iload 5, 2) := by decide +kernel
theorem dX2_goOn_347 : decode cX2_goOn 347 = .ok (.iadd, 1) := by decide +kernel
theorem dX2_goOn_348 : decode cX2_goOn 348 = .ok (.iaload, 1) := by decide +kernel
theorem dX2_goOn_349 : decode cX2_goOn 349 = .ok (.iload 4, 2) := by decide +kernel
theorem dX2_goOn_351 : decode cX2_goOn 351 = .ok (.invokevirtual 113, 3) := by decide +kernel
theorem dX2_goOn_354 : decode cX2_goOn 354 = .ok (.goto 18, 3) := by decide +kernel
theorem dX2_goOn_357 : decode cX2_goOn 357 = .ok (.aload_n 0, 1) := by decide +kernel
theorem dX2_goOn_358 : decode cX2_goOn 358 = .ok (.iload 4, 2) := by decide +kernel
theorem dX2_goOn_360 : decode cX2_goOn 360 = .ok (.invokevirtual 117, 3) := by decide +kernel
theorem dX2_goOn_363 : decode cX2_goOn 363 = .ok (.goto 9, 3) := by decide +kernel
theorem dX2_goOn_366 : decode cX2_goOn 366 = .ok (.aload_n 0, 1) := by decide +kernel
theorem dX2_goOn_367 : decode cX2_goOn 367 = .ok (.iload_n 2, 1) := by decide +kernel
theorem dX2_goOn_368 : decode cX2_goOn 368 = .ok (.iload_n 3, 1) := by decide +kernel
theorem dX2_goOn_369 : decode cX2_goOn 369 = .ok (.invokevirtual 128, 3) := by decide +kernel
theorem dX2_goOn_372 : decode cX2_goOn 372 = .ok (.return_, 1) := by decide +kernel
theorem dX2_doing_0 : decode cX2_doing 0 = .ok (.aload_n 0, 1) := by decide +kernel
theorem dX2_doing_1 : decode cX2_doing 1 = .ok (.iconst 0, 1) := by decide +kernel
theorem dX2_doing_2 : decode cX2_doing 2 = .ok (.putfield 107, 3) := by decide +kernel
theorem dX2_doing_5 : decode cX2_doing 5 = .ok (.aload_n 0, 1) := by decide +kernel
theorem dX2_doing_6 : decode cX2_doing 6 = .ok (.iconst 0, 1) := by decide +kernel
theorem dX2_doing_7 : decode cX2_doing 7 = .ok (.putfield 104, 3) := by decide +kernel
theorem dX2_doing_10 : decode cX2_doing 10 = .ok (.aload_n 0, 1) := by decide +kernel
theorem dX2_doing_11 : decode cX2_doing 11 = .ok (.iconst 0, 1) := by decide +kernel
theorem dX2_doing_12 : decode cX2_doing 12 = .ok (.putfield 110, 3) := by decide +kernel
theorem dX2_doing_15 : decode cX2_doing 15 = .ok (.aload_n 0, 1) := by decide +kernel
theorem dX2_doing_16 : decode cX2_doing 16 = .ok (.iload_n 1, 1) := by decide +kernel
theorem dX2_doing_17 : decode cX2_doing 17 = .ok (.iload_n 2, 1) := by decide +kernel
theorem dX2_doing_18 : decode cX2_doing 18 = .ok (.invokevirtual 113, 3) := by decide +kernel
theorem dX2_doing_21 : decode cX2_doing 21 = .ok (.aload_n 0, 1) := by decide +kernel
theorem dX2_doing_22 : decode cX2_doing 22 = .ok (.getfield 107, 3) := by decide +kernel
theorem dX2_doing_25 : decode cX2_doing 25 = .ok (.ifCond .le 24, 3) := by decide +kernel
theorem dX2_doing_28 : decode cX2_doing 28 = .ok (.aload_n 0, 1) := by decide +kernel
theorem dX2_doing_29 : decode cX2_doing 29 = .ok (.getfield 104, 3) := by decide +kernel
theorem dX2_doing_32 : decode cX2_doing 32 = .ok (.ifCond .eq 10, 3) := by decide +kernel
theorem dX2_doing_35 : decode cX2_doing 35 = .ok (.aload_n 0, 1) := by decide +kernel
theorem dX2_doing_36 : decode cX2_doing 36 = .ok (.invokevirtual 131, 3) := by decide +kernel
theorem dX2_doing_39 : decode cX2_doing 39 = .ok (.goto (-18), 3) := by decide +kernel
theorem dX2_doing_42 : decode cX2_doing 42 = .ok (.aload_n 0, 1) := by decide +kernel
theorem dX2_doing_43 : decode cX2_doing 43 = .ok (.invokevirtual 134, 3) := by decide +kernel
theorem dX2_doing_46 : decode cX2_doing 46 = .ok (.goto (-25), 3) := by decide +kernel
theorem dX2_doing_49 : decode cX2_doing 49 = .ok (.aload_n 0, 1) := by decide +kernel
theorem dX2_doing_50 : decode cX2_doing 50 = .ok (.getfield 104, 3) := by decide +kernel
theorem dX2_doing_53 : decode cX2_doing 53 = .ok (.ireturn, 1) := by decide +kernel
theorem dX2_refuse_0 : decode cX2_refuse 0 = .ok (.aload_n 0, 1) := by decide +kernel
theorem dX2_refuse_1 : decode cX2_refuse 1 = .ok (.iload_n 1, 1) := by decide +kernel
theorem dX2_refuse_2 : decode cX2_refuse 2 = .ok (.putfield 77, 3) := by decide +kernel
theorem dX2_refuse_5 : decode cX2_refuse 5 = .ok (.aload_n 0, 1) := by decide +kernel
theorem dX2_refuse_6 : decode cX2_refuse 6 = .ok (.iconst 0, 1) := by decide +kernel
theorem dX2_refuse_7 : decode cX2_refuse 7 = .ok (.putfield 74, 3) := by decide +kernel
theorem dX2_refuse_10 : decode cX2_refuse 10 = .ok (.iconst 0, 1) := by decide +kernel
theorem dX2_refuse_11 : decode cX2_refuse 11 = .ok (.ireturn, 1) := by decide +kernel
theorem dX2_act_0 : decode cX2_act 0 = .ok (.iload_n 1, 1) := by decide +kernel
theorem dX2_act_1 : decode cX2_act 1 = .ok (.invokestatic 91, 3) := by decide +kernel
theorem dX2_act_4 : decode cX2_act 4 = .ok (.ifCond .ne 9, 3) := by decide +kernel
theorem dX2_act_7 : decode cX2_act 7 = .ok (.aload_n 0, 1) := by decide +kernel
theorem dX2_act_8 : decode cX2_act 8 = .ok (.iconst (-1), 1) := by decide +kernel
theorem dX2_act_9 : decode cX2_act 9 = .ok (.invokevirtual 137, 3) := by decide +kernel
theorem dX2_act_12 : decode cX2_act 12 = .ok (.ireturn, 1) := by decide +kernel
theorem dX2_act_13 : decode cX2_act 13 = .ok (.aload_n 0, 1) := by decide +kernel
theorem dX2_act_14 : decode cX2_act 14 = .ok (.getfield 37, 3) := by decide +kernel
theorem dX2_act_17 : decode cX2_act 17 = .ok (.iload_n 1, 1) := by decide +kernel
theorem dX2_act_18 : decode cX2_act 18 = .ok (.iaload, 1) := by decide +kernel
theorem dX2_act_19 : decode cX2_act 19 = .ok (.bipush (-2), 2) := by decide +kernel
theorem dX2_act_21 : decode cX2_act 21 = .ok (.if_icmp .ne 10, 3) := by decide +kernel
theorem dX2_act_24 : decode cX2_act 24 = .ok (.aload_n 0, 1) := by decide +kernel
theorem dX2_act_25 : decode cX2_act 25 = .ok (.bipush (-2), 2) := by decide +kernel
theorem dX2_act_27 : decode cX2_act 27 = .ok (.invokevirtual 137, 3) := by decide +kernel
theorem dX2_act_30 : decode cX2_act 30 = .ok (.ireturn, 1) := by decide +kernel
theorem dX2_act_31 : decode cX2_act 31 = .ok (.aload_n 0, 1) := by decide +kernel
theorem dX2_act_32 : decode cX2_act 32 = .ok (.iconst 0, 1) := by decide +kernel
theorem dX2_act_33 : decode cX2_act 33 = .ok (.putfield 74, 3) := by decide +kernel
theorem dX2_act_36 : decode cX2_act 36 = .ok (.aload_n 0, 1) := by decide +kernel
theorem dX2_act_37 : decode cX2_act 37 = .ok (.aload_n 0, 1) := by decide +kernel
theorem dX2_act_38 : decode cX2_act 38 = .ok (.aload_n 0, 1) := by decide +kernel
theorem dX2_act_39 : decode cX2_act 39 = .ok (.getfield 37, 3) := by decide +kernel
theorem dX2_act_42 : decode cX2_act 42 = .ok (.iload_n 1, 1) := by decide +kernel
theorem dX2_act_43 : decode cX2_act 43 = .ok (.iaload, 1) := by decide +kernel
theorem dX2_act_44 : decode cX2_act 44 = .ok (.iload_n 2, 1) := by decide +kernel
theorem dX2_act_45 : decode cX2_act 45 = .ok (.invokevirtual 141, 3) := by decide +kernel
theorem dX2_act_48 : decode cX2_act 48 = .ok (.putfield 77, 3) := by decide +kernel
theorem dX2_act_51 : decode cX2_act 51 = .ok (.aload_n 0, 1) := by decide +kernel
theorem dX2_act_52 : decode cX2_act 52 = .ok (.dup, 1) := by decide +kernel
theorem dX2_act_53 : decode cX2_act 53 = .ok (.getfield 80, 3) := by decide +kernel
theorem dX2_act_56 : decode cX2_act 56 = .ok (.aload_n 0, 1) := by decide +kernel
theorem dX2_act_57 : decode cX2_act 57 = .ok (.getfield 77, 3) := by decide +kernel
theorem dX2_act_60 : decode cX2_act 60 = .ok (.ifCond .ne 7, 3) := by decide +kernel
theorem dX2_act_63 : decode cX2_act 63 = .ok (.iconst 0, 1) := by decide +kernel
theorem dX2_act_64 : decode cX2_act 64 = .ok (.goto 4, 3) := by decide +kernel
theorem dX2_act_67 : decode cX2_act 67 = .ok (.iconst 1, 1) := by decide +kernel
theorem dX2_act_68 : decode cX2_act 68 = .ok (.iadd, 1) := by decide +kernel
theorem dX2_act_69 : decode cX2_act 69 = .ok (.putfield 80, 3) := by decide +kernel
theorem dX2_act_72 : decode cX2_act 72 = .ok (.aload_n 0, 1) := by decide +kernel
theorem dX2_act_73 : decode cX2_act 73 = .ok (.getfield 77, 3) := by decide +kernel
theorem dX2_act_76 : decode cX2_act 76 = .ok (.ifCond .ne 10, 3) := by decide +kernel
theorem dX2_act_79 : decode cX2_act 79 = .ok (.aload_n 0, 1) := by decide +kernel
theorem dX2_act_80 : decode cX2_act 80 = .ok (.getfield 110, 3) := by decide +kernel
theorem dX2_act_83 : decode cX2_act 83 = .ok (.goto 4, 3) := by decide +kernel
theorem dX2_act_86 : decode cX2_act 86 = .ok (.iconst 0, 1) := by decide +kernel
theorem dX2_act_87 : decode cX2_act 87 = .ok (.ireturn, 1) := by decide +kernel
theorem dX2_pull_0 : decode cX2_pull 0 = .ok (.iload_n 1, 1) := by decide +kernel
theorem dX2_pull_1 : decode cX2_pull 1 = .ok (.iconst 0, 1) := by decide +kernel
theorem dX2_pull_2 : decode cX2_pull 2 = .ok (.iconst 4, 1) := by decide +kernel
theorem dX2_pull_3 : decode cX2_pull 3 = .ok (.invokestatic 83, 3) := by decide +kernel
theorem dX2_pull_6 : decode cX2_pull 6 = .ok (.ifCond .ne 9, 3) := by decide +kernel
theorem dX2_pull_9 : decode cX2_pull 9 = .ok (.aload_n 0, 1) := by decide +kernel
theorem dX2_pull_10 : decode cX2_pull 10 = .ok (.iconst (-1), 1) := by decide +kernel
theorem dX2_pull_11 : decode cX2_pull 11 = .ok (.invokevirtual 137, 3) := by decide +kernel
theorem dX2_pull_14 : decode cX2_pull 14 = .ok (.ireturn, 1) := by decide +kernel
theorem dX2_pull_15 : decode cX2_pull 15 = .ok (.aload_n 0, 1) := by decide +kernel
theorem dX2_pull_16 : decode cX2_pull 16 = .ok (.iconst 0, 1) := by decide +kernel
theorem dX2_pull_17 : decode cX2_pull 17 = .ok (.putfield 74, 3) := by decide +kernel
theorem dX2_pull_20 : decode cX2_pull 20 = .ok (.aload_n 0, 1) := by decide +kernel
theorem dX2_pull_21 : decode cX2_pull 21 = .ok (.iconst 0, 1) := by decide +kernel
theorem dX2_pull_22 : decode cX2_pull 22 = .ok (.putfield 77, 3) := by decide +kernel
theorem dX2_pull_25 : decode cX2_pull 25 = .ok (.iload_n 2, 1) := by decide +kernel
theorem dX2_pull_26 : decode cX2_pull 26 = .ok (.istore_n 3, 1) := by decide +kernel
theorem dX2_pull_27 : decode cX2_pull 27 = .ok (.iconst 0, 1) := by decide +kernel
theorem dX2_pull_28 : decode cX2_pull 28 = .ok (.istore 4, 2) := by decide +kernel
theorem dX2_pull_30 : decode cX2_pull 30 = .ok (.iload 4, 2) := by decide +kernel
theorem dX2_pull_32 : decode cX2_pull 32 = .ok (.iconst 4, 1) := by decide +kernel
theorem dX2_pull_33 : decode cX2_pull 33 = .ok (.if_icmp .ge 41, 3) := by decide +kernel
theorem dX2_pull_36 : decode cX2_pull 36 = .ok (.aload_n 0, 1) := by decide +kernel
theorem dX2_pull_37 : decode cX2_pull 37 = .ok (.getfield 77, 3) := by decide +kernel
theorem dX2_pull_40 : decode cX2_pull 40 = .ok (.ifCond .ne 34, 3) := by decide +kernel
theorem dX2_pull_43 : decode cX2_pull 43 = .ok (.aload_n 0, 1) := by decide +kernel
theorem dX2_pull_44 : decode cX2_pull 44 = .ok (.aload_n 0, 1) := by decide +kernel
theorem dX2_pull_45 : decode cX2_pull 45 = .ok (.aload_n 0, 1) := by decide +kernel
theorem dX2_pull_46 : decode cX2_pull 46 = .ok (.getfield 40, 3) := by decide +kernel
theorem dX2_pull_49 : decode cX2_pull 49 = .ok (.iconst 4, 1) := by decide +kernel
theorem dX2_pull_50 : decode cX2_pull 50 = .ok (.iload_n 1, 1) := by decide +kernel
theorem dX2_pull_51 : decode cX2_pull 51 = .ok (.imul, 1) := by decide +kernel
theorem dX2_pull_52 : decode cX2_pull 52 = .ok (.iload 4, 2) := by decide +kernel
theorem dX2_pull_54 : decode cX2_pull 54 = .ok (.iadd, 1) := by decide +kernel
theorem dX2_pull_55 : decode cX2_pull 55 = .ok (.iaload, 1) := by decide +kernel
theorem dX2_pull_56 : decode cX2_pull 56 = .ok (.iload_n 3, 1) := by decide +kernel
theorem dX2_pull_57 : decode cX2_pull 57 = .ok (.invokevirtual 141, 3) := by decide +kernel
theorem dX2_pull_60 : decode cX2_pull 60 = .ok (.putfield 77, 3) := by decide +kernel
theorem dX2_pull_63 : decode cX2_pull 63 = .ok (.aload_n 0, 1) := by decide +kernel
theorem dX2_pull_64 : decode cX2_pull 64 = .ok (.getfield 110, 3) := by decide +kernel
theorem dX2_pull_67 : decode cX2_pull 67 = .ok (.istore_n 3, 1) := by decide +kernel
theorem dX2_pull_68 : decode cX2_pull 68 = .ok (.iinc 4 1, 3) := by decide +kernel
theorem dX2_pull_71 : decode cX2_pull 71 = .ok (.goto (-41), 3) := by decide +kernel
theorem dX2_pull_74 : decode cX2_pull 74 = .ok (.aload_n 0, 1) := by decide +kernel
theorem dX2_pull_75 : decode cX2_pull 75 = .ok (.dup, 1) := by decide +kernel
theorem dX2_pull_76 : decode cX2_pull 76 = .ok (.getfield 80, 3) := by decide +kernel
theorem dX2_pull_79 : decode cX2_pull 79 = .ok (.aload_n 0, 1) := by decide +kernel
theorem dX2_pull_80 : decode cX2_pull 80 = .ok (.getfield 77, 3) := by decide +kernel
theorem dX2_pull_83 : decode cX2_pull 83 = .ok (.ifCond .ne 7, 3) := by decide +kernel
theorem dX2_pull_86 : decode cX2_pull 86 = .ok (.iconst 0, 1) := by decide +kernel
theorem dX2_pull_87 : decode cX2_pull 87 = .ok (.goto 4, 3) := by decide +kernel
theorem dX2_pull_90 : decode cX2_pull 90 = .ok (.iconst 1, 1) := by decide +kernel
theorem dX2_pull_91 : decode cX2_pull 91 = .ok (.iadd, 1) := by decide +kernel
theorem dX2_pull_92 : decode cX2_pull 92 = .ok (.putfield 80, 3) := by decide +kernel
theorem dX2_pull_95 : decode cX2_pull 95 = .ok (.aload_n 0, 1) := by decide +kernel
theorem dX2_pull_96 : decode cX2_pull 96 = .ok (.getfield 77, 3) := by decide +kernel
theorem dX2_pull_99 : decode cX2_pull 99 = .ok (.ifCond .ne 7, 3) := by decide +kernel
theorem dX2_pull_102 : decode cX2_pull 102 = .ok (.iload_n 3, 1) := by decide +kernel
theorem dX2_pull_103 : decode cX2_pull 103 = .ok (.goto 4, 3) := by decide +kernel
theorem dX2_pull_106 : decode cX2_pull 106 = .ok (.iconst 0, 1) := by decide +kernel
theorem dX2_pull_107 : decode cX2_pull 107 = .ok (.ireturn, 1) := by decide +kernel
theorem dX2_tick_0 : decode cX2_tick 0 = .ok (.aload_n 0, 1) := by decide +kernel
theorem dX2_tick_1 : decode cX2_tick 1 = .ok (.iconst 0, 1) := by decide +kernel
theorem dX2_tick_2 : decode cX2_tick 2 = .ok (.putfield 74, 3) := by decide +kernel
theorem dX2_tick_5 : decode cX2_tick 5 = .ok (.aload_n 0, 1) := by decide +kernel
theorem dX2_tick_6 : decode cX2_tick 6 = .ok (.iconst 0, 1) := by decide +kernel
theorem dX2_tick_7 : decode cX2_tick 7 = .ok (.putfield 77, 3) := by decide +kernel
theorem dX2_tick_10 : decode cX2_tick 10 = .ok (.aload_n 0, 1) := by decide +kernel
theorem dX2_tick_11 : decode cX2_tick 11 = .ok (.getfield 71, 3) := by decide +kernel
theorem dX2_tick_14 : decode cX2_tick 14 = .ok (.istore_n 1, 1) := by decide +kernel
theorem dX2_tick_15 : decode cX2_tick 15 = .ok (.iconst 0, 1) := by decide +kernel
theorem dX2_tick_16 : decode cX2_tick 16 = .ok (.istore_n 2, 1) := by decide +kernel
theorem dX2_tick_17 : decode cX2_tick 17 = .ok (.iconst 0, 1) := by decide +kernel
theorem dX2_tick_18 : decode cX2_tick 18 = .ok (.istore_n 3, 1) := by decide +kernel
theorem dX2_tick_19 : decode cX2_tick 19 = .ok (.iload_n 3, 1) := by decide +kernel
theorem dX2_tick_20 : decode cX2_tick 20 = .ok (.iload_n 1, 1) := by decide +kernel
theorem dX2_tick_21 : decode cX2_tick 21 = .ok (.if_icmp .ge 145, 3) := by decide +kernel
theorem dX2_tick_24 : decode cX2_tick 24 = .ok (.aload_n 0, 1) := by decide +kernel
theorem dX2_tick_25 : decode cX2_tick 25 = .ok (.getfield 43, 3) := by decide +kernel
theorem dX2_tick_28 : decode cX2_tick 28 = .ok (.iconst 0, 1) := by decide +kernel
theorem dX2_tick_29 : decode cX2_tick 29 = .ok (.iaload, 1) := by decide +kernel
theorem dX2_tick_30 : decode cX2_tick 30 = .ok (.istore 4, 2) := by decide +kernel
theorem dX2_tick_32 : decode cX2_tick 32 = .ok (.aload_n 0, 1) := by decide +kernel
theorem dX2_tick_33 : decode cX2_tick 33 = .ok (.getfield 46, 3) := by decide +kernel
theorem dX2_tick_36 : decode cX2_tick 36 = .ok (.iconst 0, 1) := by decide +kernel
theorem dX2_tick_37 : decode cX2_tick 37 = .ok (.iaload, 1) := by decide +kernel
theorem dX2_tick_38 : decode cX2_tick 38 = .ok (.istore 5, 2) := by decide +kernel
theorem dX2_tick_40 : decode cX2_tick 40 = .ok (.aload_n 0, 1) := by decide +kernel
theorem dX2_tick_41 : decode cX2_tick 41 = .ok (.dup, 1) := by decide +kernel
theorem dX2_tick_42 : decode cX2_tick 42 = .ok (.getfield 71, 3) := by decide +kernel
theorem dX2_tick_45 : decode cX2_tick 45 = .ok (.iconst 1, 1) := by decide +kernel
theorem dX2_tick_46 : decode cX2_tick 46 = .ok (.isub, 1) := by decide +kernel
theorem dX2_tick_47 : decode cX2_tick 47 = .ok (.putfield 71, 3) := by decide +kernel
theorem dX2_tick_50 : decode cX2_tick 50 = .ok (.iconst 0, 1) := by decide +kernel
theorem dX2_tick_51 : decode cX2_tick 51 = .ok (.istore 6, 2) := by decide +kernel
theorem dX2_tick_53 : decode cX2_tick 53 = .ok (.iload 6, 2) := by decide +kernel
theorem dX2_tick_55 : decode cX2_tick 55 = .ok (.aload_n 0, 1) := by decide +kernel
theorem dX2_tick_56 : decode cX2_tick 56 = .ok (.getfield 71, 3) := by decide +kernel
theorem dX2_tick_59 : decode cX2_tick 59 = .ok (.if_icmp .ge 41, 3) := by decide +kernel
theorem dX2_tick_62 : decode cX2_tick 62 = .ok (.aload_n 0, 1) := by decide +kernel
theorem dX2_tick_63 : decode cX2_tick 63 = .ok (.getfield 43, 3) := by decide +kernel
theorem dX2_tick_66 : decode cX2_tick 66 = .ok (.iload 6, 2) := by decide +kernel
theorem dX2_tick_68 : decode cX2_tick 68 = .ok (.aload_n 0, 1) := by decide +kernel
theorem dX2_tick_69 : decode cX2_tick 69 = .ok (.getfield 43, 3) := by decide +kernel
theorem dX2_tick_72 : decode cX2_tick 72 = .ok (.iload 6, 2) := by decide +kernel
theorem dX2_tick_74 : decode cX2_tick 74 = .ok (.iconst 1, 1) := by decide +kernel
theorem dX2_tick_75 : decode cX2_tick 75 = .ok (.iadd, 1) := by decide +kernel
theorem dX2_tick_76 : decode cX2_tick 76 = .ok (.iaload, 1) := by decide +kernel
theorem dX2_tick_77 : decode cX2_tick 77 = .ok (.iastore, 1) := by decide +kernel
theorem dX2_tick_78 : decode cX2_tick 78 = .ok (.aload_n 0, 1) := by decide +kernel
theorem dX2_tick_79 : decode cX2_tick 79 = .ok (.getfield 46, 3) := by decide +kernel
theorem dX2_tick_82 : decode cX2_tick 82 = .ok (.iload 6, 2) := by decide +kernel
theorem dX2_tick_84 : decode cX2_tick 84 = .ok (.aload_n 0, 1) := by decide +kernel
theorem dX2_tick_85 : decode cX2_tick 85 = .ok (.getfield 46, 3) := by decide +kernel
theorem dX2_tick_88 : decode cX2_tick 88 = .ok (.iload 6, 2) := by decide +kernel
theorem dX2_tick_90 : decode cX2_tick 90 = .ok (.iconst 1, 1) := by decide +kernel
theorem dX2_tick_91 : decode cX2_tick 91 = .ok (.iadd, 1) := by decide +kernel
theorem dX2_tick_92 : decode cX2_tick 92 = .ok (.iaload, 1) := by decide +kernel
theorem dX2_tick_93 : decode cX2_tick 93 = .ok (.iastore, 1) := by decide +kernel
theorem dX2_tick_94 : decode cX2_tick 94 = .ok (.iinc 6 1, 3) := by decide +kernel
theorem dX2_tick_97 : decode cX2_tick 97 = .ok (.goto (-44), 3) := by decide +kernel
theorem dX2_tick_100 : decode cX2_tick 100 = .ok (.aload_n 0, 1) := by decide +kernel
theorem dX2_tick_101 : decode cX2_tick 101 = .ok (.iload 4, 2) := by decide +kernel
theorem dX2_tick_103 : decode cX2_tick 103 = .ok (.iload 5, 2) := by decide +kernel
theorem dX2_tick_105 : decode cX2_tick 105 = .ok (.invokevirtual 141, 3) := by decide +kernel
theorem dX2_tick_108 : decode cX2_tick 108 = .ok (.istore 6, 2) := by decide +kernel
theorem dX2_tick_110 : decode cX2_tick 110 = .ok (.iload_n 2, 1) := by decide +kernel
theorem dX2_tick_111 : decode cX2_tick 111 = .ok (.iload 6, 2) := by decide +kernel
theorem dX2_tick_113 : decode cX2_tick 113 = .ok (.ifCond .ne 7, 3) := by decide +kernel
theorem dX2_tick_116 : decode cX2_tick 116 = .ok (.iconst 1, 1) := by decide +kernel
theorem dX2_tick_117 : decode cX2_tick 117 = .ok (.goto 4, 3) := by decide +kernel
theorem dX2_tick_120 : decode cX2_tick 120 = .ok (.iconst 0, 1) := by decide +kernel
theorem dX2_tick_121 : decode cX2_tick 121 = .ok (.iadd, 1) := by decide +kernel
theorem dX2_tick_122 : decode cX2_tick 122 = .ok (.istore_n 2, 1) := by decide +kernel
theorem dX2_tick_123 : decode cX2_tick 123 = .ok (.aload_n 0, 1) := by decide +kernel
theorem dX2_tick_124 : decode cX2_tick 124 = .ok (.dup, 1) := by decide +kernel
theorem dX2_tick_125 : decode cX2_tick 125 = .ok (.getfield 80, 3) := by decide +kernel
theorem dX2_tick_128 : decode cX2_tick 128 = .ok (.iload 6, 2) := by decide +kernel
theorem dX2_tick_130 : decode cX2_tick 130 = .ok (.ifCond .ne 7, 3) := by decide +kernel
theorem dX2_tick_133 : decode cX2_tick 133 = .ok (.iconst 0, 1) := by decide +kernel
theorem dX2_tick_134 : decode cX2_tick 134 = .ok (.goto 4, 3) := by decide +kernel
theorem dX2_tick_137 : decode cX2_tick 137 = .ok (.iconst 1, 1) := by decide +kernel
theorem dX2_tick_138 : decode cX2_tick 138 = .ok (.iadd, 1) := by decide +kernel
theorem dX2_tick_139 : decode cX2_tick 139 = .ok (.putfield 80, 3) := by decide +kernel
theorem dX2_tick_142 : decode cX2_tick 142 = .ok (.aload_n 0, 1) := by decide +kernel
theorem dX2_tick_143 : decode cX2_tick 143 = .ok (.iload 6, 2) := by decide +kernel
theorem dX2_tick_145 : decode cX2_tick 145 = .ok (.ifCond .ne 10, 3) := by decide +kernel
theorem dX2_tick_148 : decode cX2_tick 148 = .ok (.aload_n 0, 1) := by decide +kernel
theorem dX2_tick_149 : decode cX2_tick 149 = .ok (.getfield 77, 3) := by decide +kernel
theorem dX2_tick_152 : decode cX2_tick 152 = .ok (.goto 5, 3) := by decide +kernel
theorem dX2_tick_155 : decode cX2_tick 155 = .ok (.iload 6, 2) := by decide +kernel
theorem dX2_tick_157 : decode cX2_tick 157 = .ok (.putfield 77, 3) := by decide +kernel
theorem dX2_tick_160 : decode cX2_tick 160 = .ok (.iinc 3 1, 3) := by decide +kernel
theorem dX2_tick_163 : decode cX2_tick 163 = .ok (.goto (-144), 3) := by decide +kernel
theorem dX2_tick_166 : decode cX2_tick 166 = .ok (.iload_n 2, 1) := by decide +kernel
theorem dX2_tick_167 : decode cX2_tick 167 = .ok (.ireturn, 1) := by decide +kernel
theorem dX2_failed_0 : decode cX2_failed 0 = .ok (.aload_n 0, 1) := by decide +kernel
theorem dX2_failed_1 : decode cX2_failed 1 = .ok (.getfield 77, 3) := by decide +kernel
theorem dX2_failed_4 : decode cX2_failed 4 = .ok (.ireturn, 1) := by decide +kernel
theorem dX2_told_0 : decode cX2_told 0 = .ok (.iconst 0, 1) := by decide +kernel
theorem dX2_told_1 : decode cX2_told 1 = .ok (.istore_n 2, 1) := by decide +kernel
theorem dX2_told_2 : decode cX2_told 2 = .ok (.iconst 0, 1) := by decide +kernel
theorem dX2_told_3 : decode cX2_told 3 = .ok (.istore_n 3, 1) := by decide +kernel
theorem dX2_told_4 : decode cX2_told 4 = .ok (.iload_n 3, 1) := by decide +kernel
theorem dX2_told_5 : decode cX2_told 5 = .ok (.bipush 20, 2) := by decide +kernel
theorem dX2_told_7 : decode cX2_told 7 = .ok (.if_icmp .ge 28, 3) := by decide +kernel
theorem dX2_told_10 : decode cX2_told 10 = .ok (.iload_n 2, 1) := by decide +kernel
theorem dX2_told_11 : decode cX2_told 11 = .ok (.aload_n 0, 1) := by decide +kernel
theorem dX2_told_12 : decode cX2_told 12 = .ok (.getfield 37, 3) := by decide +kernel
theorem dX2_told_15 : decode cX2_told 15 = .ok (.iload_n 3, 1) := by decide +kernel
theorem dX2_told_16 : decode cX2_told 16 = .ok (.iaload, 1) := by decide +kernel
theorem dX2_told_17 : decode cX2_told 17 = .ok (.bipush (-2), 2) := by decide +kernel
theorem dX2_told_19 : decode cX2_told 19 = .ok (.if_icmp .ne 7, 3) := by decide +kernel
theorem dX2_told_22 : decode cX2_told 22 = .ok (.iconst 0, 1) := by decide +kernel
theorem dX2_told_23 : decode cX2_told 23 = .ok (.goto 4, 3) := by decide +kernel
theorem dX2_told_26 : decode cX2_told 26 = .ok (.iconst 1, 1) := by decide +kernel
theorem dX2_told_27 : decode cX2_told 27 = .ok (.iadd, 1) := by decide +kernel
theorem dX2_told_28 : decode cX2_told 28 = .ok (.istore_n 2, 1) := by decide +kernel
theorem dX2_told_29 : decode cX2_told 29 = .ok (.iinc 3 1, 3) := by decide +kernel
theorem dX2_told_32 : decode cX2_told 32 = .ok (.goto (-28), 3) := by decide +kernel
theorem dX2_told_35 : decode cX2_told 35 = .ok (.iload_n 1, 1) := by decide +kernel
theorem dX2_told_36 : decode cX2_told 36 = .ok (.ifCond .ne 10, 3) := by decide +kernel
theorem dX2_told_39 : decode cX2_told 39 = .ok (.aload_n 0, 1) := by decide +kernel
theorem dX2_told_40 : decode cX2_told 40 = .ok (.getfield 68, 3) := by decide +kernel
theorem dX2_told_43 : decode cX2_told 43 = .ok (.goto 49, 3) := by decide +kernel
theorem dX2_told_46 : decode cX2_told 46 = .ok (.iload_n 1, 1) := by decide +kernel
theorem dX2_told_47 : decode cX2_told 47 = .ok (.iconst 1, 1) := by decide +kernel
theorem dX2_told_48 : decode cX2_told 48 = .ok (.if_icmp .ne 10, 3) := by decide +kernel
theorem dX2_told_51 : decode cX2_told 51 = .ok (.aload_n 0, 1) := by decide +kernel
theorem dX2_told_52 : decode cX2_told 52 = .ok (.getfield 71, 3) := by decide +kernel
theorem dX2_told_55 : decode cX2_told 55 = .ok (.goto 37, 3) := by decide +kernel
theorem dX2_told_58 : decode cX2_told 58 = .ok (.iload_n 1, 1) := by decide +kernel
theorem dX2_told_59 : decode cX2_told 59 = .ok (.iconst 2, 1) := by decide +kernel
theorem dX2_told_60 : decode cX2_told 60 = .ok (.if_icmp .ne 10, 3) := by decide +kernel
theorem dX2_told_63 : decode cX2_told 63 = .ok (.aload_n 0, 1) := by decide +kernel
theorem dX2_told_64 : decode cX2_told 64 = .ok (.getfield 74, 3) := by decide +kernel
theorem dX2_told_67 : decode cX2_told 67 = .ok (.goto 25, 3) := by decide +kernel
theorem dX2_told_70 : decode cX2_told 70 = .ok (.iload_n 1, 1) := by decide +kernel
theorem dX2_told_71 : decode cX2_told 71 = .ok (.iconst 3, 1) := by decide +kernel
theorem dX2_told_72 : decode cX2_told 72 = .ok (.if_icmp .ne 10, 3) := by decide +kernel
theorem dX2_told_75 : decode cX2_told 75 = .ok (.aload_n 0, 1) := by decide +kernel
theorem dX2_told_76 : decode cX2_told 76 = .ok (.getfield 80, 3) := by decide +kernel
theorem dX2_told_79 : decode cX2_told 79 = .ok (.goto 13, 3) := by decide +kernel
theorem dX2_told_82 : decode cX2_told 82 = .ok (.iload_n 1, 1) := by decide +kernel
theorem dX2_told_83 : decode cX2_told 83 = .ok (.iconst 4, 1) := by decide +kernel
theorem dX2_told_84 : decode cX2_told 84 = .ok (.if_icmp .ne 7, 3) := by decide +kernel
theorem dX2_told_87 : decode cX2_told 87 = .ok (.iload_n 2, 1) := by decide +kernel
theorem dX2_told_88 : decode cX2_told 88 = .ok (.goto 4, 3) := by decide +kernel
theorem dX2_told_91 : decode cX2_told 91 = .ok (.iconst (-1), 1) := by decide +kernel
theorem dX2_told_92 : decode cX2_told 92 = .ok (.ireturn, 1) := by decide +kernel
theorem dX2_clear_0 : decode cX2_clear 0 = .ok (.aload_n 0, 1) := by decide +kernel
theorem dX2_clear_1 : decode cX2_clear 1 = .ok (.getfield 68, 3) := by decide +kernel
theorem dX2_clear_4 : decode cX2_clear 4 = .ok (.istore_n 1, 1) := by decide +kernel
theorem dX2_clear_5 : decode cX2_clear 5 = .ok (.aload_n 0, 1) := by decide +kernel
theorem dX2_clear_6 : decode cX2_clear 6 = .ok (.invokevirtual 61, 3) := by decide +kernel
theorem dX2_clear_9 : decode cX2_clear 9 = .ok (.iload_n 1, 1) := by decide +kernel
theorem dX2_clear_10 : decode cX2_clear 10 = .ok (.ireturn, 1) := by decide +kernel
