theorem dX0_init_0 : decode cX0_init 0 = .ok (.aload_n 0, 1) := by decide +kernel
theorem dX0_init_1 : decode cX0_init 1 = .ok (.invokespecial 1, 3) := by decide +kernel
theorem dX0_init_4 : decode cX0_init 4 = .ok (.aload_n 0, 1) := by decide +kernel
theorem dX0_init_5 : decode cX0_init 5 = .ok (.iconst 0, 1) := by decide +kernel
theorem dX0_init_6 : decode cX0_init 6 = .ok (.putfield 7, 3) := by decide +kernel
theorem dX0_init_9 : decode cX0_init 9 = .ok (.aload_n 0, 1) := by decide +kernel
theorem dX0_init_10 : decode cX0_init 10 = .ok (.iload_n 1, 1) := by decide +kernel
theorem dX0_init_11 : decode cX0_init 11 = .ok (.putfield 13, 3) := by decide +kernel
theorem dX0_init_14 : decode cX0_init 14 = .ok (.aload_n 0, 1) := by decide +kernel
theorem dX0_init_15 : decode cX0_init 15 = .ok (.iload_n 2, 1) := by decide +kernel
theorem dX0_init_16 : decode cX0_init 16 = .ok (.putfield 16, 3) := by decide +kernel
theorem dX0_init_19 : decode cX0_init 19 = .ok (.aload_n 0, 1) := by decide +kernel
theorem dX0_init_20 : decode cX0_init 20 = .ok (.iload_n 3, 1) := by decide +kernel
theorem dX0_init_21 : decode cX0_init 21 = .ok (.putfield 19, 3) := by decide +kernel
theorem dX0_init_24 : decode cX0_init 24 = .ok (.aload_n 0, 1) := by decide +kernel
theorem dX0_init_25 : decode cX0_init 25 = .ok (.iload 4, 2) := by decide +kernel
theorem dX0_init_27 : decode cX0_init 27 = .ok (.putfield 22, 3) := by decide +kernel
theorem dX0_init_30 : decode cX0_init 30 = .ok (.aload_n 0, 1) := by decide +kernel
theorem dX0_init_31 : decode cX0_init 31 = .ok (.aload 5, 2) := by decide +kernel
theorem dX0_init_33 : decode cX0_init 33 = .ok (.putfield 25, 3) := by decide +kernel
theorem dX0_init_36 : decode cX0_init 36 = .ok (.aload_n 0, 1) := by decide +kernel
theorem dX0_init_37 : decode cX0_init 37 = .ok (.aload 6, 2) := by decide +kernel
theorem dX0_init_39 : decode cX0_init 39 = .ok (.putfield 29, 3) := by decide +kernel
theorem dX0_init_42 : decode cX0_init 42 = .ok (.aload_n 0, 1) := by decide +kernel
theorem dX0_init_43 : decode cX0_init 43 = .ok (.aload 7, 2) := by decide +kernel
theorem dX0_init_45 : decode cX0_init 45 = .ok (.putfield 32, 3) := by decide +kernel
theorem dX0_init_48 : decode cX0_init 48 = .ok (.return_, 1) := by decide +kernel
theorem dX1_init_0 : decode cX1_init 0 = .ok (.aload_n 0, 1) := by decide +kernel
theorem dX1_init_1 : decode cX1_init 1 = .ok (.invokespecial 1, 3) := by decide +kernel
theorem dX1_init_4 : decode cX1_init 4 = .ok (.aload_n 0, 1) := by decide +kernel
theorem dX1_init_5 : decode cX1_init 5 = .ok (.bipush 10, 2) := by decide +kernel
theorem dX1_init_7 : decode cX1_init 7 = .ok (.newarray .int, 2) := by decide +kernel
theorem dX1_init_9 : decode cX1_init 9 = .ok (.putfield 9, 3) := by decide +kernel
theorem dX1_init_12 : decode cX1_init 12 = .ok (.aload_n 0, 1) := by decide +kernel
theorem dX1_init_13 : decode cX1_init 13 = .ok (.iconst 3, 1) := by decide +kernel
theorem dX1_init_14 : decode cX1_init 14 = .ok (.anewarray 13, 3) := by decide +kernel
theorem dX1_init_17 : decode cX1_init 17 = .ok (.putfield 14, 3) := by decide +kernel
theorem dX1_init_20 : decode cX1_init 20 = .ok (.aload_n 0, 1) := by decide +kernel
theorem dX1_init_21 : decode cX1_init 21 = .ok (.bipush 20, 2) := by decide +kernel
theorem dX1_init_23 : decode cX1_init 23 = .ok (.anewarray 18, 3) := by decide +kernel
theorem dX1_init_26 : decode cX1_init 26 = .ok (.putfield 20, 3) := by decide +kernel
theorem dX1_init_29 : decode cX1_init 29 = .ok (.aload_n 0, 1) := by decide +kernel
theorem dX1_init_30 : decode cX1_init 30 = .ok (.bipush 20, 2) := by decide +kernel
theorem dX1_init_32 : decode cX1_init 32 = .ok (.anewarray 18, 3) := by decide +kernel
theorem dX1_init_35 : decode cX1_init 35 = .ok (.putfield 24, 3) := by decide +kernel
theorem dX1_init_38 : decode cX1_init 38 = .ok (.aload_n 0, 1) := by decide +kernel
theorem dX1_init_39 : decode cX1_init 39 = .ok (.bipush 12, 2) := by decide +kernel
theorem dX1_init_41 : decode cX1_init 41 = .ok (.anewarray 18, 3) := by decide +kernel
theorem dX1_init_44 : decode cX1_init 44 = .ok (.putfield 27, 3) := by decide +kernel
theorem dX1_init_47 : decode cX1_init 47 = .ok (.aload_n 0, 1) := by decide +kernel
theorem dX1_init_48 : decode cX1_init 48 = .ok (.bipush 12, 2) := by decide +kernel
theorem dX1_init_50 : decode cX1_init 50 = .ok (.newarray .int, 2) := by decide +kernel
theorem dX1_init_52 : decode cX1_init 52 = .ok (.putfield 30, 3) := by decide +kernel
theorem dX1_init_55 : decode cX1_init 55 = .ok (.aload_n 0, 1) := by decide +kernel
theorem dX1_init_56 : decode cX1_init 56 = .ok (.iconst 0, 1) := by decide +kernel
theorem dX1_init_57 : decode cX1_init 57 = .ok (.putfield 33, 3) := by decide +kernel
theorem dX1_init_60 : decode cX1_init 60 = .ok (.aload_n 0, 1) := by decide +kernel
theorem dX1_init_61 : decode cX1_init 61 = .ok (.iconst 0, 1) := by decide +kernel
theorem dX1_init_62 : decode cX1_init 62 = .ok (.putfield 37, 3) := by decide +kernel
theorem dX1_init_65 : decode cX1_init 65 = .ok (.aload_n 0, 1) := by decide +kernel
theorem dX1_init_66 : decode cX1_init 66 = .ok (.iconst 0, 1) := by decide +kernel
theorem dX1_init_67 : decode cX1_init 67 = .ok (.putfield 40, 3) := by decide +kernel
theorem dX1_init_70 : decode cX1_init 70 = .ok (.aload_n 0, 1) := by decide +kernel
theorem dX1_init_71 : decode cX1_init 71 = .ok (.iconst 0, 1) := by decide +kernel
theorem dX1_init_72 : decode cX1_init 72 = .ok (.putfield 43, 3) := by decide +kernel
theorem dX1_init_75 : decode cX1_init 75 = .ok (.aload_n 0, 1) := by decide +kernel
theorem dX1_init_76 : decode cX1_init 76 = .ok (.iconst 0, 1) := by decide +kernel
theorem dX1_init_77 : decode cX1_init 77 = .ok (.putfield 46, 3) := by decide +kernel
theorem dX1_init_80 : decode cX1_init 80 = .ok (.aload_n 0, 1) := by decide +kernel
theorem dX1_init_81 : decode cX1_init 81 = .ok (.iconst 0, 1) := by decide +kernel
theorem dX1_init_82 : decode cX1_init 82 = .ok (.putfield 49, 3) := by decide +kernel
theorem dX1_init_85 : decode cX1_init 85 = .ok (.aload_n 0, 1) := by decide +kernel
theorem dX1_init_86 : decode cX1_init 86 = .ok (.iconst 0, 1) := by decide +kernel
theorem dX1_init_87 : decode cX1_init 87 = .ok (.putfield 52, 3) := by decide +kernel
theorem dX1_init_90 : decode cX1_init 90 = .ok (.return_, 1) := by decide +kernel
theorem dX1_fill_0 : decode cX1_fill 0 = .ok (.aload_n 0, 1) := by decide +kernel
theorem dX1_fill_1 : decode cX1_fill 1 = .ok (.iload_n 1, 1) := by decide +kernel
theorem dX1_fill_2 : decode cX1_fill 2 = .ok (.invokevirtual 55, 3) := by decide +kernel
theorem dX1_fill_5 : decode cX1_fill 5 = .ok (.istore_n 3, 1) := by decide +kernel
theorem dX1_fill_6 : decode cX1_fill 6 = .ok (.aload_n 0, 1) := by decide +kernel
theorem dX1_fill_7 : decode cX1_fill 7 = .ok (.iload_n 1, 1) := by decide +kernel
theorem dX1_fill_8 : decode cX1_fill 8 = .ok (.iload_n 2, 1) := by decide +kernel
theorem dX1_fill_9 : decode cX1_fill 9 = .ok (.invokevirtual 59, 3) := by decide +kernel
theorem dX1_fill_12 : decode cX1_fill 12 = .ok (.iload_n 3, 1) := by decide +kernel
theorem dX1_fill_13 : decode cX1_fill 13 = .ok (.ireturn, 1) := by decide +kernel
theorem dX1_basin_0 : decode cX1_basin 0 = .ok (.aload_n 0, 1) := by decide +kernel
theorem dX1_basin_1 : decode cX1_basin 1 = .ok (.iload_n 1, 1) := by decide +kernel
theorem dX1_basin_2 : decode cX1_basin 2 = .ok (.invokevirtual 55, 3) := by decide +kernel
theorem dX1_basin_5 : decode cX1_basin 5 = .ok (.ireturn, 1) := by decide +kernel
theorem dX1_gauge_0 : decode cX1_gauge 0 = .ok (.iload_n 1, 1) := by decide +kernel
theorem dX1_gauge_1 : decode cX1_gauge 1 = .ok (.invokestatic 63, 3) := by decide +kernel
theorem dX1_gauge_4 : decode cX1_gauge 4 = .ok (.ifCond .eq 13, 3) := by decide +kernel
theorem dX1_gauge_7 : decode cX1_gauge 7 = .ok (.iload_n 2, 1) := by decide +kernel
theorem dX1_gauge_8 : decode cX1_gauge 8 = .ok (.ifCond .lt 9, 3) := by decide +kernel
theorem dX1_gauge_11 : decode cX1_gauge 11 = .ok (.iload_n 2, 1) := by decide +kernel
theorem dX1_gauge_12 : decode cX1_gauge 12 = .ok (.bipush 6, 2) := by decide +kernel
theorem dX1_gauge_14 : decode cX1_gauge 14 = .ok (.if_icmp .le 5, 3) := by decide +kernel
theorem dX1_gauge_17 : decode cX1_gauge 17 = .ok (.iconst (-1), 1) := by decide +kernel
theorem dX1_gauge_18 : decode cX1_gauge 18 = .ok (.ireturn, 1) := by decide +kernel
theorem dX1_gauge_19 : decode cX1_gauge 19 = .ok (.aload_n 0, 1) := by decide +kernel
theorem dX1_gauge_20 : decode cX1_gauge 20 = .ok (.getfield 14, 3) := by decide +kernel
theorem dX1_gauge_23 : decode cX1_gauge 23 = .ok (.iload_n 1, 1) := by decide +kernel
theorem dX1_gauge_24 : decode cX1_gauge 24 = .ok (.iload_n 2, 1) := by decide +kernel
theorem dX1_gauge_25 : decode cX1_gauge 25 = .ok (.newarray .int, 2) := by decide +kernel
theorem dX1_gauge_27 : decode cX1_gauge 27 = .ok (.aastore, 1) := by decide +kernel
theorem dX1_gauge_28 : decode cX1_gauge 28 = .ok (.iconst 1, 1) := by decide +kernel
theorem dX1_gauge_29 : decode cX1_gauge 29 = .ok (.ireturn, 1) := by decide +kernel
theorem dX1_mark_0 : decode cX1_mark 0 = .ok (.aload_n 0, 1) := by decide +kernel
theorem dX1_mark_1 : decode cX1_mark 1 = .ok (.iload_n 1, 1) := by decide +kernel
theorem dX1_mark_2 : decode cX1_mark 2 = .ok (.invokevirtual 67, 3) := by decide +kernel
theorem dX1_mark_5 : decode cX1_mark 5 = .ok (.astore_n 3, 1) := by decide +kernel
theorem dX1_mark_6 : decode cX1_mark 6 = .ok (.aload_n 3, 1) := by decide +kernel
theorem dX1_mark_7 : decode cX1_mark 7 = .ok (.iload_n 2, 1) := by decide +kernel
theorem dX1_mark_8 : decode cX1_mark 8 = .ok (.invokestatic 71, 3) := by decide +kernel
theorem dX1_mark_11 : decode cX1_mark 11 = .ok (.ifCond .eq 9, 3) := by decide +kernel
theorem dX1_mark_14 : decode cX1_mark 14 = .ok (.aload_n 3, 1) := by decide +kernel
theorem dX1_mark_15 : decode cX1_mark 15 = .ok (.iload_n 2, 1) := by decide +kernel
theorem dX1_mark_16 : decode cX1_mark 16 = .ok (.iaload, 1) := by decide +kernel
theorem dX1_mark_17 : decode cX1_mark 17 = .ok (.goto 4, 3) := by decide +kernel
theorem dX1_mark_20 : decode cX1_mark 20 = .ok (.iconst 0, 1) := by decide +kernel
theorem dX1_mark_21 : decode cX1_mark 21 = .ok (.ireturn, 1) := by decide +kernel
theorem dX1_deed_0 : decode cX1_deed 0 = .ok (.iload_n 1, 1) := by decide +kernel
theorem dX1_deed_1 : decode cX1_deed 1 = .ok (.invokestatic 75, 3) := by decide +kernel
theorem dX1_deed_4 : decode cX1_deed 4 = .ok (.ifCond .eq 15, 3) := by decide +kernel
theorem dX1_deed_7 : decode cX1_deed 7 = .ok (.iload_n 2, 1) := by decide +kernel
theorem dX1_deed_8 : decode cX1_deed 8 = .ok (.iload_n 3, 1) := by decide +kernel
theorem dX1_deed_9 : decode cX1_deed 9 = .ok (.iload 4, 2) := by decide +kernel
theorem dX1_deed_11 : decode cX1_deed 11 = .ok (.iload 5, 2) := by decide +kernel
theorem dX1_deed_13 : decode cX1_deed 13 = .ok (.invokestatic 78, 3) := by decide +kernel
theorem dX1_deed_16 : decode cX1_deed 16 = .ok (.ifCond .ne 5, 3) := by decide +kernel
theorem dX1_deed_19 : decode cX1_deed 19 = .ok (.iconst (-1), 1) := by decide +kernel
theorem dX1_deed_20 : decode cX1_deed 20 = .ok (.ireturn, 1) := by decide +kernel
theorem dX1_deed_21 : decode cX1_deed 21 = .ok (.iload_n 2, 1) := by decide +kernel
theorem dX1_deed_22 : decode cX1_deed 22 = .ok (.invokestatic 82, 3) := by decide +kernel
theorem dX1_deed_25 : decode cX1_deed 25 = .ok (.ifCond .eq 11, 3) := by decide +kernel
theorem dX1_deed_28 : decode cX1_deed 28 = .ok (.aload_n 0, 1) := by decide +kernel
theorem dX1_deed_29 : decode cX1_deed 29 = .ok (.iload_n 3, 1) := by decide +kernel
theorem dX1_deed_30 : decode cX1_deed 30 = .ok (.invokevirtual 85, 3) := by decide +kernel
theorem dX1_deed_33 : decode cX1_deed 33 = .ok (.goto 4, 3) := by decide +kernel
theorem dX1_deed_36 : decode cX1_deed 36 = .ok (.aconst_null, 1) := by decide +kernel
theorem dX1_deed_37 : decode cX1_deed 37 = .ok (.astore 6, 2) := by decide +kernel
theorem dX1_deed_39 : decode cX1_deed 39 = .ok (.iload_n 2, 1) := by decide +kernel
theorem dX1_deed_40 : decode cX1_deed 40 = .ok (.invokestatic 89, 3) := by decide +kernel
theorem dX1_deed_43 : decode cX1_deed 43 = .ok (.ifCond .eq 12, 3) := by decide +kernel
theorem dX1_deed_46 : decode cX1_deed 46 = .ok (.aload_n 0, 1) := by decide +kernel
theorem dX1_deed_47 : decode cX1_deed 47 = .ok (.iload 4, 2) := by decide +kernel
theorem dX1_deed_49 : decode cX1_deed 49 = .ok (.invokevirtual 85, 3) := by decide +kernel
theorem dX1_deed_52 : decode cX1_deed 52 = .ok (.goto 4, 3) := by decide +kernel
theorem dX1_deed_55 : decode cX1_deed 55 = .ok (.aconst_null, 1) := by decide +kernel
theorem dX1_deed_56 : decode cX1_deed 56 = .ok (.astore 7, 2) := by decide +kernel
theorem dX1_deed_58 : decode cX1_deed 58 = .ok (.iload_n 2, 1) := by decide +kernel
theorem dX1_deed_59 : decode cX1_deed 59 = .ok (.invokestatic 82, 3) := by decide +kernel
theorem dX1_deed_62 : decode cX1_deed 62 = .ok (.ifCond .eq 8, 3) := by decide +kernel
theorem dX1_deed_65 : decode cX1_deed 65 = .ok (.aload 6, 2) := by decide +kernel
theorem dX1_deed_67 : decode cX1_deed 67 = .ok (.ifnull 15, 3) := by decide +kernel
theorem dX1_deed_70 : decode cX1_deed 70 = .ok (.iload_n 2, 1) := by decide +kernel
theorem dX1_deed_71 : decode cX1_deed 71 = .ok (.invokestatic 89, 3) := by decide +kernel
theorem dX1_deed_74 : decode cX1_deed 74 = .ok (.ifCond .eq 11, 3) := by decide +kernel
theorem dX1_deed_77 : decode cX1_deed 77 = .ok (.aload 7, 2) := by decide +kernel
theorem dX1_deed_79 : decode cX1_deed 79 = .ok (.ifnonnull 6, 3) := by decide +kernel
theorem dX1_deed_82 : decode cX1_deed 82 = .ok (.bipush (-2), 2) := by decide +kernel
theorem dX1_deed_84 : decode cX1_deed 84 = .ok (.ireturn, 1) := by decide +kernel
theorem dX1_deed_85 : decode cX1_deed 85 = .ok (.iload_n 2, 1) := by decide +kernel
theorem dX1_deed_86 : decode cX1_deed 86 = .ok (.iconst 4, 1) := by decide +kernel
theorem dX1_deed_87 : decode cX1_deed 87 = .ok (.if_icmp .ne 11, 3) := by decide +kernel
theorem dX1_deed_90 : decode cX1_deed 90 = .ok (.aload_n 0, 1) := by decide +kernel
theorem dX1_deed_91 : decode cX1_deed 91 = .ok (.iload_n 3, 1) := by decide +kernel
theorem dX1_deed_92 : decode cX1_deed 92 = .ok (.invokevirtual 67, 3) := by decide +kernel
theorem dX1_deed_95 : decode cX1_deed 95 = .ok (.goto 4, 3) := by decide +kernel
theorem dX1_deed_98 : decode cX1_deed 98 = .ok (.aconst_null, 1) := by decide +kernel
theorem dX1_deed_99 : decode cX1_deed 99 = .ok (.astore 8, 2) := by decide +kernel
theorem dX1_deed_101 : decode cX1_deed 101 = .ok (.iload_n 2, 1) := by decide +kernel
theorem dX1_deed_102 : decode cX1_deed 102 = .ok (.bipush 6, 2) := by decide +kernel
theorem dX1_deed_104 : decode cX1_deed 104 = .ok (.if_icmp .ne 11, 3) := by decide +kernel
theorem dX1_deed_107 : decode cX1_deed 107 = .ok (.aload_n 0, 1) := by decide +kernel
theorem dX1_deed_108 : decode cX1_deed 108 = .ok (.iload_n 3, 1) := by decide +kernel
theorem dX1_deed_109 : decode cX1_deed 109 = .ok (.invokevirtual 55, 3) := by decide +kernel
theorem dX1_deed_112 : decode cX1_deed 112 = .ok (.goto 4, 3) := by decide +kernel
theorem dX1_deed_115 : decode cX1_deed 115 = .ok (.iload_n 3, 1) := by decide +kernel
theorem dX1_deed_116 : decode cX1_deed 116 = .ok (.istore 9, 2) := by decide +kernel
theorem dX1_deed_118 : decode cX1_deed 118 = .ok (.aload_n 0, 1) := by decide +kernel
theorem dX1_deed_119 : decode cX1_deed 119 = .ok (.getfield 20, 3) := by decide +kernel
theorem dX1_deed_122 : decode cX1_deed 122 = .ok (.iload_n 1, 1) := by decide +kernel
theorem dX1_deed_123 : decode cX1_deed 123 = .ok (.new 18, 3) := by decide +kernel
theorem dX1_deed_126 : decode cX1_deed 126 = .ok (.dup, 1) := by decide +kernel
theorem dX1_deed_127 : decode cX1_deed 127 = .ok (.iload_n 2, 1) := by decide +kernel
theorem dX1_deed_128 : decode cX1_deed 128 = .ok (.iload 9, 2) := by decide +kernel
theorem dX1_deed_130 : decode cX1_deed 130 = .ok (.iload 4, 2) := by decide +kernel
theorem dX1_deed_132 : decode cX1_deed 132 = .ok (.iload 5, 2) := by decide +kernel
theorem dX1_deed_134 : decode cX1_deed 134 = .ok (.aload 6, 2) := by decide +kernel
theorem dX1_deed_136 : decode cX1_deed 136 = .ok (.aload 7, 2) := by decide +kernel
theorem dX1_deed_138 : decode cX1_deed 138 = .ok (.aload 8, 2) := by decide +kernel
theorem dX1_deed_140 : decode cX1_deed 140 = .ok (.invokespecial 92, 3) := by decide +kernel
theorem dX1_deed_143 : decode cX1_deed 143 = .ok (.aastore, 1) := by decide +kernel
theorem dX1_deed_144 : decode cX1_deed 144 = .ok (.aload_n 0, 1) := by decide +kernel
theorem dX1_deed_145 : decode cX1_deed 145 = .ok (.dup, 1) := by decide +kernel
theorem dX1_deed_146 : decode cX1_deed 146 = .ok (.getfield 40, 3) := by decide +kernel
theorem dX1_deed_149 : decode cX1_deed 149 = .ok (.iconst 1, 1) := by decide +kernel
theorem dX1_deed_150 : decode cX1_deed 150 = .ok (.iadd, 1) := by decide +kernel
theorem dX1_deed_151 : decode cX1_deed 151 = .ok (.putfield 40, 3) := by decide +kernel
theorem dX1_deed_154 : decode cX1_deed 154 = .ok (.aload_n 0, 1) := by decide +kernel
theorem dX1_deed_155 : decode cX1_deed 155 = .ok (.getfield 40, 3) := by decide +kernel
theorem dX1_deed_158 : decode cX1_deed 158 = .ok (.ireturn, 1) := by decide +kernel
theorem dX1_copy_0 : decode cX1_copy 0 = .ok (.iload_n 1, 1) := by decide +kernel
theorem dX1_copy_1 : decode cX1_copy 1 = .ok (.invokestatic 75, 3) := by decide +kernel
theorem dX1_copy_4 : decode cX1_copy 4 = .ok (.ifCond .eq 10, 3) := by decide +kernel
theorem dX1_copy_7 : decode cX1_copy 7 = .ok (.iload_n 2, 1) := by decide +kernel
theorem dX1_copy_8 : decode cX1_copy 8 = .ok (.invokestatic 75, 3) := by decide +kernel
theorem dX1_copy_11 : decode cX1_copy 11 = .ok (.ifCond .ne 5, 3) := by decide +kernel
theorem dX1_copy_14 : decode cX1_copy 14 = .ok (.iconst (-1), 1) := by decide +kernel
theorem dX1_copy_15 : decode cX1_copy 15 = .ok (.ireturn, 1) := by decide +kernel
theorem dX1_copy_16 : decode cX1_copy 16 = .ok (.aload_n 0, 1) := by decide +kernel
theorem dX1_copy_17 : decode cX1_copy 17 = .ok (.getfield 20, 3) := by decide +kernel
theorem dX1_copy_20 : decode cX1_copy 20 = .ok (.iload_n 1, 1) := by decide +kernel
theorem dX1_copy_21 : decode cX1_copy 21 = .ok (.aaload, 1) := by decide +kernel
theorem dX1_copy_22 : decode cX1_copy 22 = .ok (.ifnonnull 6, 3) := by decide +kernel
theorem dX1_copy_25 : decode cX1_copy 25 = .ok (.bipush (-2), 2) := by decide +kernel
theorem dX1_copy_27 : decode cX1_copy 27 = .ok (.ireturn, 1) := by decide +kernel
theorem dX1_copy_28 : decode cX1_copy 28 = .ok (.aload_n 0, 1) := by decide +kernel
theorem dX1_copy_29 : decode cX1_copy 29 = .ok (.getfield 20, 3) := by decide +kernel
theorem dX1_copy_32 : decode cX1_copy 32 = .ok (.iload_n 2, 1) := by decide +kernel
theorem dX1_copy_33 : decode cX1_copy 33 = .ok (.aload_n 0, 1) := by decide +kernel
theorem dX1_copy_34 : decode cX1_copy 34 = .ok (.getfield 20, 3) := by decide +kernel
theorem dX1_copy_37 : decode cX1_copy 37 = .ok (.iload_n 1, 1) := by decide +kernel
theorem dX1_copy_38 : decode cX1_copy 38 = .ok (.aaload, 1) := by decide +kernel
theorem dX1_copy_39 : decode cX1_copy 39 = .ok (.aastore, 1) := by decide +kernel
theorem dX1_copy_40 : decode cX1_copy 40 = .ok (.iconst 1, 1) := by decide +kernel
theorem dX1_copy_41 : decode cX1_copy 41 = .ok (.ireturn, 1) := by decide +kernel
theorem dX1_drop_0 : decode cX1_drop 0 = .ok (.iload_n 1, 1) := by decide +kernel
theorem dX1_drop_1 : decode cX1_drop 1 = .ok (.invokestatic 75, 3) := by decide +kernel
theorem dX1_drop_4 : decode cX1_drop 4 = .ok (.ifCond .ne 5, 3) := by decide +kernel
theorem dX1_drop_7 : decode cX1_drop 7 = .ok (.iconst (-1), 1) := by decide +kernel
theorem dX1_drop_8 : decode cX1_drop 8 = .ok (.ireturn, 1) := by decide +kernel
theorem dX1_drop_9 : decode cX1_drop 9 = .ok (.aload_n 0, 1) := by decide +kernel
theorem dX1_drop_10 : decode cX1_drop 10 = .ok (.getfield 20, 3) := by decide +kernel
theorem dX1_drop_13 : decode cX1_drop 13 = .ok (.iload_n 1, 1) := by decide +kernel
theorem dX1_drop_14 : decode cX1_drop 14 = .ok (.aaload, 1) := by decide +kernel
theorem dX1_drop_15 : decode cX1_drop 15 = .ok (.ifnonnull 6, 3) := by decide +kernel
theorem dX1_drop_18 : decode cX1_drop 18 = .ok (.bipush (-2), 2) := by decide +kernel
theorem dX1_drop_20 : decode cX1_drop 20 = .ok (.ireturn, 1) := by decide +kernel
theorem dX1_drop_21 : decode cX1_drop 21 = .ok (.aload_n 0, 1) := by decide +kernel
theorem dX1_drop_22 : decode cX1_drop 22 = .ok (.getfield 20, 3) := by decide +kernel
theorem dX1_drop_25 : decode cX1_drop 25 = .ok (.iload_n 1, 1) := by decide +kernel
theorem dX1_drop_26 : decode cX1_drop 26 = .ok (.aconst_null, 1) := by decide +kernel
theorem dX1_drop_27 : decode cX1_drop 27 = .ok (.aastore, 1) := by decide +kernel
theorem dX1_drop_28 : decode cX1_drop 28 = .ok (.iconst 1, 1) := by decide +kernel
theorem dX1_drop_29 : decode cX1_drop 29 = .ok (.ireturn, 1) := by decide +kernel
theorem dX1_lever_0 : decode cX1_lever 0 = .ok (.iload_n 1, 1) := by decide +kernel
theorem dX1_lever_1 : decode cX1_lever 1 = .ok (.invokestatic 95, 3) := by decide +kernel
theorem dX1_lever_4 : decode cX1_lever 4 = .ok (.ifCond .eq 24, 3) := by decide +kernel
theorem dX1_lever_7 : decode cX1_lever 7 = .ok (.iload_n 2, 1) := by decide +kernel
theorem dX1_lever_8 : decode cX1_lever 8 = .ok (.ifCond .lt 20, 3) := by decide +kernel
theorem dX1_lever_11 : decode cX1_lever 11 = .ok (.iload_n 2, 1) := by decide +kernel
theorem dX1_lever_12 : decode cX1_lever 12 = .ok (.iconst 4, 1) := by decide +kernel
theorem dX1_lever_13 : decode cX1_lever 13 = .ok (.if_icmp .ge 15, 3) := by decide +kernel
theorem dX1_lever_16 : decode cX1_lever 16 = .ok (.iload_n 3, 1) := by decide +kernel
theorem dX1_lever_17 : decode cX1_lever 17 = .ok (.iconst (-1), 1) := by decide +kernel
theorem dX1_lever_18 : decode cX1_lever 18 = .ok (.if_icmp .eq 12, 3) := by decide +kernel
theorem dX1_lever_21 : decode cX1_lever 21 = .ok (.iload_n 3, 1) := by decide +kernel
theorem dX1_lever_22 : decode cX1_lever 22 = .ok (.invokestatic 75, 3) := by decide +kernel
theorem dX1_lever_25 : decode cX1_lever 25 = .ok (.ifCond .ne 5, 3) := by decide +kernel
theorem dX1_lever_28 : decode cX1_lever 28 = .ok (.iconst (-1), 1) := by decide +kernel
theorem dX1_lever_29 : decode cX1_lever 29 = .ok (.ireturn, 1) := by decide +kernel
theorem dX1_lever_30 : decode cX1_lever 30 = .ok (.aload_n 0, 1) := by decide +kernel
theorem dX1_lever_31 : decode cX1_lever 31 = .ok (.iload_n 3, 1) := by decide +kernel
theorem dX1_lever_32 : decode cX1_lever 32 = .ok (.invokevirtual 85, 3) := by decide +kernel
theorem dX1_lever_35 : decode cX1_lever 35 = .ok (.astore 4, 2) := by decide +kernel
theorem dX1_lever_37 : decode cX1_lever 37 = .ok (.iload_n 3, 1) := by decide +kernel
theorem dX1_lever_38 : decode cX1_lever 38 = .ok (.iconst (-1), 1) := by decide +kernel
theorem dX1_lever_39 : decode cX1_lever 39 = .ok (.if_icmp .eq 11, 3) := by decide +kernel
theorem dX1_lever_42 : decode cX1_lever 42 = .ok (.aload 4, 2) := by decide +kernel
theorem dX1_lever_44 : decode cX1_lever 44 = .ok (.ifnonnull 6, 3) := by decide +kernel
theorem dX1_lever_47 : decode cX1_lever 47 = .ok (.bipush (-2), 2) := by decide +kernel
theorem dX1_lever_49 : decode cX1_lever 49 = .ok (.ireturn, 1) := by decide +kernel
theorem dX1_lever_50 : decode cX1_lever 50 = .ok (.aload_n 0, 1) := by decide +kernel
theorem dX1_lever_51 : decode cX1_lever 51 = .ok (.getfield 24, 3) := by decide +kernel
theorem dX1_lever_54 : decode cX1_lever 54 = .ok (.iload_n 1, 1) := by decide +kernel
theorem dX1_lever_55 : decode cX1_lever 55 = .ok (.iconst 4, 1) := by decide +kernel
theorem dX1_lever_56 : decode cX1_lever 56 = .ok (.imul, 1) := by decide +kernel
theorem dX1_lever_57 : decode cX1_lever 57 = .ok (.iload_n 2, 1) := by decide +kernel
theorem dX1_lever_58 : decode cX1_lever 58 = .ok (.iadd, 1) := by decide +kernel
theorem dX1_lever_59 : decode cX1_lever 59 = .ok (.aload 4, 2) := by decide +kernel
theorem dX1_lever_61 : decode cX1_lever 61 = .ok (.aastore, 1) := by decide +kernel
theorem dX1_lever_62 : decode cX1_lever 62 = .ok (.iconst 1, 1) := by decide +kernel
theorem dX1_lever_63 : decode cX1_lever 63 = .ok (.ireturn, 1) := by decide +kernel
theorem dX1_same_0 : decode cX1_same 0 = .ok (.iload_n 1, 1) := by decide +kernel
theorem dX1_same_1 : decode cX1_same 1 = .ok (.invokestatic 75, 3) := by decide +kernel
theorem dX1_same_4 : decode cX1_same 4 = .ok (.ifCond .eq 10, 3) := by decide +kernel
theorem dX1_same_7 : decode cX1_same 7 = .ok (.iload_n 2, 1) := by decide +kernel
theorem dX1_same_8 : decode cX1_same 8 = .ok (.invokestatic 75, 3) := by decide +kernel
theorem dX1_same_11 : decode cX1_same 11 = .ok (.ifCond .ne 5, 3) := by decide +kernel
theorem dX1_same_14 : decode cX1_same 14 = .ok (.iconst (-1), 1) := by decide +kernel
theorem dX1_same_15 : decode cX1_same 15 = .ok (.ireturn, 1) := by decide +kernel
theorem dX1_same_16 : decode cX1_same 16 = .ok (.aload_n 0, 1) := by decide +kernel
theorem dX1_same_17 : decode cX1_same 17 = .ok (.getfield 20, 3) := by decide +kernel
theorem dX1_same_20 : decode cX1_same 20 = .ok (.iload_n 1, 1) := by decide +kernel
theorem dX1_same_21 : decode cX1_same 21 = .ok (.aaload, 1) := by decide +kernel
theorem dX1_same_22 : decode cX1_same 22 = .ok (.ifnull 22, 3) := by decide +kernel
theorem dX1_same_25 : decode cX1_same 25 = .ok (.aload_n 0, 1) := by decide +kernel
theorem dX1_same_26 : decode cX1_same 26 = .ok (.getfield 20, 3) := by decide +kernel
theorem dX1_same_29 : decode cX1_same 29 = .ok (.iload_n 1, 1) := by decide +kernel
theorem dX1_same_30 : decode cX1_same 30 = .ok (.aaload, 1) := by decide +kernel
theorem dX1_same_31 : decode cX1_same 31 = .ok (.aload_n 0, 1) := by decide +kernel
theorem dX1_same_32 : decode cX1_same 32 = .ok (.getfield 20, 3) := by decide +kernel
theorem dX1_same_35 : decode cX1_same 35 = .ok (.iload_n 2, 1) := by decide +kernel
theorem dX1_same_36 : decode cX1_same 36 = .ok (.aaload, 1) := by decide +kernel
theorem dX1_same_37 : decode cX1_same 37 = .ok (.if_acmp .ne 7, 3) := by decide +kernel
theorem dX1_same_40 : decode cX1_same 40 = .ok (.iconst 1, 1) := by decide +kernel
theorem dX1_same_41 : decode cX1_same 41 = .ok (.goto 4, 3) := by decide +kernel
theorem dX1_same_44 : decode cX1_same 44 = .ok (.iconst 0, 1) := by decide +kernel
theorem dX1_same_45 : decode cX1_same 45 = .ok (.ireturn, 1) := by decide +kernel
theorem dX1_count_0 : decode cX1_count 0 = .ok (.iload_n 1, 1) := by decide +kernel
theorem dX1_count_1 : decode cX1_count 1 = .ok (.invokestatic 75, 3) := by decide +kernel
theorem dX1_count_4 : decode cX1_count 4 = .ok (.ifCond .ne 5, 3) := by decide +kernel
theorem dX1_count_7 : decode cX1_count 7 = .ok (.iconst (-1), 1) := by decide +kernel
theorem dX1_count_8 : decode cX1_count 8 = .ok (.ireturn, 1) := by decide +kernel
theorem dX1_count_9 : decode cX1_count 9 = .ok (.aload_n 0, 1) := by decide +kernel
theorem dX1_count_10 : decode cX1_count 10 = .ok (.getfield 20, 3) := by decide +kernel
theorem dX1_count_13 : decode cX1_count 13 = .ok (.iload_n 1, 1) := by decide +kernel
theorem dX1_count_14 : decode cX1_count 14 = .ok (.aaload, 1) := by decide +kernel
theorem dX1_count_15 : decode cX1_count 15 = .ok (.astore_n 2, 1) := by decide +kernel
theorem dX1_count_16 : decode cX1_count 16 = .ok (.aload_n 2, 1) := by decide +kernel
theorem dX1_count_17 : decode cX1_count 17 = .ok (.ifnull 19, 3) := by decide +kernel
theorem dX1_count_20 : decode cX1_count 20 = .ok (.aload_n 2, 1) := by decide +kernel
theorem dX1_count_21 : decode cX1_count 21 = .ok (.getfield 98, 3) := by decide +kernel
theorem dX1_count_24 : decode cX1_count 24 = .ok (.bipush 12, 2) := by decide +kernel
theorem dX1_count_26 : decode cX1_count 26 = .ok (.if_icmp .ne 10, 3) := by decide +kernel
theorem dX1_count_29 : decode cX1_count 29 = .ok (.aload_n 2, 1) := by decide +kernel
theorem dX1_count_30 : decode cX1_count 30 = .ok (.getfield 101, 3) := by decide +kernel
theorem dX1_count_33 : decode cX1_count 33 = .ok (.goto 5, 3) := by decide +kernel
theorem dX1_count_36 : decode cX1_count 36 = .ok (.bipush (-2), 2) := by decide +kernel
theorem dX1_count_38 : decode cX1_count 38 = .ok (.ireturn, 1) := by decide +kernel
theorem dX1_act_0 : decode cX1_act 0 = .ok (.iload_n 1, 1) := by decide +kernel
theorem dX1_act_1 : decode cX1_act 1 = .ok (.invokestatic 75, 3) := by decide +kernel
theorem dX1_act_4 : decode cX1_act 4 = .ok (.ifCond .ne 9, 3) := by decide +kernel
theorem dX1_act_7 : decode cX1_act 7 = .ok (.aload_n 0, 1) := by decide +kernel
theorem dX1_act_8 : decode cX1_act 8 = .ok (.iconst (-1), 1) := by decide +kernel
theorem dX1_act_9 : decode cX1_act 9 = .ok (.invokevirtual 104, 3) := by decide +kernel
theorem dX1_act_12 : decode cX1_act 12 = .ok (.ireturn, 1) := by decide +kernel
theorem dX1_act_13 : decode cX1_act 13 = .ok (.aload_n 0, 1) := by decide +kernel
theorem dX1_act_14 : decode cX1_act 14 = .ok (.getfield 20, 3) := by decide +kernel
theorem dX1_act_17 : decode cX1_act 17 = .ok (.iload_n 1, 1) := by decide +kernel
theorem dX1_act_18 : decode cX1_act 18 = .ok (.aaload, 1) := by decide +kernel
theorem dX1_act_19 : decode cX1_act 19 = .ok (.ifnonnull 10, 3) := by decide +kernel
theorem dX1_act_22 : decode cX1_act 22 = .ok (.aload_n 0, 1) := by decide +kernel
theorem dX1_act_23 : decode cX1_act 23 = .ok (.bipush (-2), 2) := by decide +kernel
theorem dX1_act_25 : decode cX1_act 25 = .ok (.invokevirtual 104, 3) := by decide +kernel
theorem dX1_act_28 : decode cX1_act 28 = .ok (.ireturn, 1) := by decide +kernel
theorem dX1_act_29 : decode cX1_act 29 = .ok (.aload_n 0, 1) := by decide +kernel
theorem dX1_act_30 : decode cX1_act 30 = .ok (.invokevirtual 107, 3) := by decide +kernel
theorem dX1_act_33 : decode cX1_act 33 = .ok (.aload_n 0, 1) := by decide +kernel
theorem dX1_act_34 : decode cX1_act 34 = .ok (.aload_n 0, 1) := by decide +kernel
theorem dX1_act_35 : decode cX1_act 35 = .ok (.getfield 20, 3) := by decide +kernel
theorem dX1_act_38 : decode cX1_act 38 = .ok (.iload_n 1, 1) := by decide +kernel
theorem dX1_act_39 : decode cX1_act 39 = .ok (.aaload, 1) := by decide +kernel
theorem dX1_act_40 : decode cX1_act 40 = .ok (.iload_n 2, 1) := by decide +kernel
theorem dX1_act_41 : decode cX1_act 41 = .ok (.iconst 0, 1) := by decide +kernel
theorem dX1_act_42 : decode cX1_act 42 = .ok (.invokevirtual 110, 3) := by decide +kernel
theorem dX1_act_45 : decode cX1_act 45 = .ok (.istore_n 3, 1) := by decide +kernel
theorem dX1_act_46 : decode cX1_act 46 = .ok (.aload_n 0, 1) := by decide +kernel
theorem dX1_act_47 : decode cX1_act 47 = .ok (.invokevirtual 114, 3) := by decide +kernel
theorem dX1_act_50 : decode cX1_act 50 = .ok (.iload_n 3, 1) := by decide +kernel
theorem dX1_act_51 : decode cX1_act 51 = .ok (.ireturn, 1) := by decide +kernel
theorem dX1_pull_0 : decode cX1_pull 0 = .ok (.iload_n 1, 1) := by decide +kernel
theorem dX1_pull_1 : decode cX1_pull 1 = .ok (.invokestatic 95, 3) := by decide +kernel
theorem dX1_pull_4 : decode cX1_pull 4 = .ok (.ifCond .ne 9, 3) := by decide +kernel
theorem dX1_pull_7 : decode cX1_pull 7 = .ok (.aload_n 0, 1) := by decide +kernel
theorem dX1_pull_8 : decode cX1_pull 8 = .ok (.iconst (-1), 1) := by decide +kernel
theorem dX1_pull_9 : decode cX1_pull 9 = .ok (.invokevirtual 104, 3) := by decide +kernel
theorem dX1_pull_12 : decode cX1_pull 12 = .ok (.ireturn, 1) := by decide +kernel
theorem dX1_pull_13 : decode cX1_pull 13 = .ok (.aload_n 0, 1) := by decide +kernel
theorem dX1_pull_14 : decode cX1_pull 14 = .ok (.invokevirtual 107, 3) := by decide +kernel
theorem dX1_pull_17 : decode cX1_pull 17 = .ok (.aload_n 0, 1) := by decide +kernel
theorem dX1_pull_18 : decode cX1_pull 18 = .ok (.iload_n 1, 1) := by decide +kernel
theorem dX1_pull_19 : decode cX1_pull 19 = .ok (.iload_n 2, 1) := by decide +kernel
theorem dX1_pull_20 : decode cX1_pull 20 = .ok (.iconst 0, 1) := by decide +kernel
theorem dX1_pull_21 : decode cX1_pull 21 = .ok (.invokevirtual 117, 3) := by decide +kernel
theorem dX1_pull_24 : decode cX1_pull 24 = .ok (.istore_n 3, 1) := by decide +kernel
theorem dX1_pull_25 : decode cX1_pull 25 = .ok (.aload_n 0, 1) := by decide +kernel
theorem dX1_pull_26 : decode cX1_pull 26 = .ok (.invokevirtual 114, 3) := by decide +kernel
theorem dX1_pull_29 : decode cX1_pull 29 = .ok (.iload_n 3, 1) := by decide +kernel
theorem dX1_pull_30 : decode cX1_pull 30 = .ok (.ireturn, 1) := by decide +kernel
theorem dX1_tick_0 : decode cX1_tick 0 = .ok (.aload_n 0, 1) := by decide +kernel
theorem dX1_tick_1 : decode cX1_tick 1 = .ok (.invokevirtual 107, 3) := by decide +kernel
theorem dX1_tick_4 : decode cX1_tick 4 = .ok (.aload_n 0, 1) := by decide +kernel
theorem dX1_tick_5 : decode cX1_tick 5 = .ok (.getfield 37, 3) := by decide +kernel
theorem dX1_tick_8 : decode cX1_tick 8 = .ok (.istore_n 1, 1) := by decide +kernel
theorem dX1_tick_9 : decode cX1_tick 9 = .ok (.iconst 0, 1) := by decide +kernel
theorem dX1_tick_10 : decode cX1_tick 10 = .ok (.istore_n 2, 1) := by decide +kernel
theorem dX1_tick_11 : decode cX1_tick 11 = .ok (.iconst 0, 1) := by decide +kernel
theorem dX1_tick_12 : decode cX1_tick 12 = .ok (.istore_n 3, 1) := by decide +kernel
theorem dX1_tick_13 : decode cX1_tick 13 = .ok (.iload_n 3, 1) := by decide +kernel
theorem dX1_tick_14 : decode cX1_tick 14 = .ok (.iload_n 1, 1) := by decide +kernel
theorem dX1_tick_15 : decode cX1_tick 15 = .ok (.if_icmp .ge 32, 3) := by decide +kernel
theorem dX1_tick_18 : decode cX1_tick 18 = .ok (.aload_n 0, 1) := by decide +kernel
theorem dX1_tick_19 : decode cX1_tick 19 = .ok (.iconst 0, 1) := by decide +kernel
theorem dX1_tick_20 : decode cX1_tick 20 = .ok (.putfield 49, 3) := by decide +kernel
theorem dX1_tick_23 : decode cX1_tick 23 = .ok (.aload_n 0, 1) := by decide +kernel
theorem dX1_tick_24 : decode cX1_tick 24 = .ok (.invokevirtual 121, 3) := by decide +kernel
theorem dX1_tick_27 : decode cX1_tick 27 = .ok (.aload_n 0, 1) := by decide +kernel
theorem dX1_tick_28 : decode cX1_tick 28 = .ok (.invokevirtual 114, 3) := by decide +kernel
theorem dX1_tick_31 : decode cX1_tick 31 = .ok (.aload_n 0, 1) := by decide +kernel
theorem dX1_tick_32 : decode cX1_tick 32 = .ok (.getfield 49, 3) := by decide +kernel
theorem dX1_tick_35 : decode cX1_tick 35 = .ok (.ifCond .ne 6, 3) := by decide +kernel
theorem dX1_tick_38 : decode cX1_tick 38 = .ok (.iinc 2 1, 3) := by decide +kernel
theorem dX1_tick_41 : decode cX1_tick 41 = .ok (.iinc 3 1, 3) := by decide +kernel
theorem dX1_tick_44 : decode cX1_tick 44 = .ok (.goto (-31), 3) := by decide +kernel
theorem dX1_tick_47 : decode cX1_tick 47 = .ok (.iload_n 2, 1) := by decide +kernel
theorem dX1_tick_48 : decode cX1_tick 48 = .ok (.ireturn, 1) := by decide +kernel
theorem dX1_failed_0 : decode cX1_failed 0 = .ok (.aload_n 0, 1) := by decide +kernel
theorem dX1_failed_1 : decode cX1_failed 1 = .ok (.getfield 52, 3) := by decide +kernel
theorem dX1_failed_4 : decode cX1_failed 4 = .ok (.ireturn, 1) := by decide +kernel
theorem dX1_told_0 : decode cX1_told 0 = .ok (.iload_n 1, 1) := by decide +kernel
theorem dX1_told_1 : decode cX1_told 1 = .ok (.tableswitch 60 0 4 #[35, 40, 45, 50, 55], 35) := by decide +kernel
theorem dX1_told_36 : decode cX1_told 36 = .ok (.aload_n 0, 1) := by decide +kernel
theorem dX1_told_37 : decode cX1_told 37 = .ok (.getfield 40, 3) := by decide +kernel
theorem dX1_told_40 : decode cX1_told 40 = .ok (.ireturn, 1) := by decide +kernel
theorem dX1_told_41 : decode cX1_told 41 = .ok (.aload_n 0, 1) := by decide +kernel
theorem dX1_told_42 : decode cX1_told 42 = .ok (.getfield 37, 3) := by decide +kernel
theorem dX1_told_45 : decode cX1_told 45 = .ok (.ireturn, 1) := by decide +kernel
theorem dX1_told_46 : decode cX1_told 46 = .ok (.aload_n 0, 1) := by decide +kernel
theorem dX1_told_47 : decode cX1_told 47 = .ok (.getfield 43, 3) := by decide +kernel
theorem dX1_told_50 : decode cX1_told 50 = .ok (.ireturn, 1) := by decide +kernel
theorem dX1_told_51 : decode cX1_told 51 = .ok (.aload_n 0, 1) := by decide +kernel
theorem dX1_told_52 : decode cX1_told 52 = .ok (.getfield 46, 3) := by decide +kernel
theorem dX1_told_55 : decode cX1_told 55 = .ok (.ireturn, 1) := by decide +kernel
theorem dX1_told_56 : decode cX1_told 56 = .ok (.aload_n 0, 1) := by decide +kernel
theorem dX1_told_57 : decode cX1_told 57 = .ok (.invokevirtual 124, 3) := by decide +kernel
theorem dX1_told_60 : decode cX1_told 60 = .ok (.ireturn, 1) := by decide +kernel
theorem dX1_told_61 : decode cX1_told 61 = .ok (.iconst (-1), 1) := by decide +kernel
theorem dX1_told_62 : decode cX1_told 62 = .ok (.ireturn, 1) := by decide +kernel
theorem dX1_clear_0 : decode cX1_clear 0 = .ok (.aload_n 0, 1) := by decide +kernel
theorem dX1_clear_1 : decode cX1_clear 1 = .ok (.getfield 40, 3) := by decide +kernel
theorem dX1_clear_4 : decode cX1_clear 4 = .ok (.istore_n 1, 1) := by decide +kernel
theorem dX1_clear_5 : decode cX1_clear 5 = .ok (.aload_n 0, 1) := by decide +kernel
theorem dX1_clear_6 : decode cX1_clear 6 = .ok (.invokevirtual 128, 3) := by decide +kernel
theorem dX1_clear_9 : decode cX1_clear 9 = .ok (.aload_n 0, 1) := by decide +kernel
theorem dX1_clear_10 : decode cX1_clear 10 = .ok (.invokevirtual 131, 3) := by decide +kernel
theorem dX1_clear_13 : decode cX1_clear 13 = .ok (.aload_n 0, 1) := by decide +kernel
theorem dX1_clear_14 : decode cX1_clear 14 = .ok (.iconst 0, 1) := by decide +kernel
theorem dX1_clear_15 : decode cX1_clear 15 = .ok (.putfield 33, 3) := by decide +kernel
theorem dX1_clear_18 : decode cX1_clear 18 = .ok (.aload_n 0, 1) := by decide +kernel
theorem dX1_clear_19 : decode cX1_clear 19 = .ok (.iconst 0, 1) := by decide +kernel
theorem dX1_clear_20 : decode cX1_clear 20 = .ok (.putfield 37, 3) := by decide +kernel
theorem dX1_clear_23 : decode cX1_clear 23 = .ok (.aload_n 0, 1) := by decide +kernel
theorem dX1_clear_24 : decode cX1_clear 24 = .ok (.iconst 0, 1) := by decide +kernel
theorem dX1_clear_25 : decode cX1_clear 25 = .ok (.putfield 40, 3) := by decide +kernel
theorem dX1_clear_28 : decode cX1_clear 28 = .ok (.aload_n 0, 1) := by decide +kernel
theorem dX1_clear_29 : decode cX1_clear 29 = .ok (.iconst 0, 1) := by decide +kernel
theorem dX1_clear_30 : decode cX1_clear 30 = .ok (.putfield 46, 3) := by decide +kernel
theorem dX1_clear_33 : decode cX1_clear 33 = .ok (.aload_n 0, 1) := by decide +kernel
theorem dX1_clear_34 : decode cX1_clear 34 = .ok (.invokevirtual 107, 3) := by decide +kernel
theorem dX1_clear_37 : decode cX1_clear 37 = .ok (.iload_n 1, 1) := by decide +kernel
theorem dX1_clear_38 : decode cX1_clear 38 = .ok (.ireturn, 1) := by decide +kernel
theorem dX1_isBasin_0 : decode cX1_isBasin 0 = .ok (.iload_n 0, 1) := by decide +kernel
theorem dX1_isBasin_1 : decode cX1_isBasin 1 = .ok (.ifCond .lt 13, 3) := by decide +kernel
theorem dX1_isBasin_4 : decode cX1_isBasin 4 = .ok (.iload_n 0, 1) := by decide +kernel
theorem dX1_isBasin_5 : decode cX1_isBasin 5 = .ok (.bipush 10, 2) := by decide +kernel
theorem dX1_isBasin_7 : decode cX1_isBasin 7 = .ok (.if_icmp .ge 7, 3) := by decide +kernel
theorem dX1_isBasin_10 : decode cX1_isBasin 10 = .ok (.iconst 1, 1) := by decide +kernel
theorem dX1_isBasin_11 : decode cX1_isBasin 11 = .ok (.goto 4, 3) := by decide +kernel
theorem dX1_isBasin_14 : decode cX1_isBasin 14 = .ok (.iconst 0, 1) := by decide +kernel
theorem dX1_isBasin_15 : decode cX1_isBasin 15 = .ok (.ireturn, 1) := by decide +kernel
theorem dX1_isGauge_0 : decode cX1_isGauge 0 = .ok (.iload_n 0, 1) := by decide +kernel
theorem dX1_isGauge_1 : decode cX1_isGauge 1 = .ok (.ifCond .lt 12, 3) := by decide +kernel
theorem dX1_isGauge_4 : decode cX1_isGauge 4 = .ok (.iload_n 0, 1) := by decide +kernel
theorem dX1_isGauge_5 : decode cX1_isGauge 5 = .ok (.iconst 3, 1) := by decide +kernel
theorem dX1_isGauge_6 : decode cX1_isGauge 6 = .ok (.if_icmp .ge 7, 3) := by decide +kernel
theorem dX1_isGauge_9 : decode cX1_isGauge 9 = .ok (.iconst 1, 1) := by decide +kernel
theorem dX1_isGauge_10 : decode cX1_isGauge 10 = .ok (.goto 4, 3) := by decide +kernel
theorem dX1_isGauge_13 : decode cX1_isGauge 13 = .ok (.iconst 0, 1) := by decide +kernel
theorem dX1_isGauge_14 : decode cX1_isGauge 14 = .ok (.ireturn, 1) := by decide +kernel
theorem dX1_isSlot_0 : decode cX1_isSlot 0 = .ok (.iload_n 0, 1) := by decide +kernel
theorem dX1_isSlot_1 : decode cX1_isSlot 1 = .ok (.ifCond .lt 13, 3) := by decide +kernel
theorem dX1_isSlot_4 : decode cX1_isSlot 4 = .ok (.iload_n 0, 1) := by decide +kernel
theorem dX1_isSlot_5 : decode cX1_isSlot 5 = .ok (.bipush 20, 2) := by decide +kernel
theorem dX1_isSlot_7 : decode cX1_isSlot 7 = .ok (.if_icmp .ge 7, 3) := by decide +kernel
theorem dX1_isSlot_10 : decode cX1_isSlot 10 = .ok (.iconst 1, 1) := by decide +kernel
theorem dX1_isSlot_11 : decode cX1_isSlot 11 = .ok (.goto 4, 3) := by decide +kernel
theorem dX1_isSlot_14 : decode cX1_isSlot 14 = .ok (.iconst 0, 1) := by decide +kernel
theorem dX1_isSlot_15 : decode cX1_isSlot 15 = .ok (.ireturn, 1) := by decide +kernel
theorem dX1_isLever_0 : decode cX1_isLever 0 = .ok (.iload_n 0, 1) := by decide +kernel
theorem dX1_isLever_1 : decode cX1_isLever 1 = .ok (.ifCond .lt 12, 3) := by decide +kernel
theorem dX1_isLever_4 : decode cX1_isLever 4 = .ok (.iload_n 0, 1) := by decide +kernel
theorem dX1_isLever_5 : decode cX1_isLever 5 = .ok (.iconst 5, 1) := by decide +kernel
theorem dX1_isLever_6 : decode cX1_isLever 6 = .ok (.if_icmp .ge 7, 3) := by decide +kernel
theorem dX1_isLever_9 : decode cX1_isLever 9 = .ok (.iconst 1, 1) := by decide +kernel
theorem dX1_isLever_10 : decode cX1_isLever 10 = .ok (.goto 4, 3) := by decide +kernel
theorem dX1_isLever_13 : decode cX1_isLever 13 = .ok (.iconst 0, 1) := by decide +kernel
theorem dX1_isLever_14 : decode cX1_isLever 14 = .ok (.ireturn, 1) := by decide +kernel
theorem dX1_hasMark_0 : decode cX1_hasMark 0 = .ok (.aload_n 0, 1) := by decide +kernel
theorem dX1_hasMark_1 : decode cX1_hasMark 1 = .ok (.ifnull 17, 3) := by decide +kernel
theorem dX1_hasMark_4 : decode cX1_hasMark 4 = .ok (.iload_n 1, 1) := by decide +kernel
theorem dX1_hasMark_5 : decode cX1_hasMark 5 = .ok (.ifCond .lt 13, 3) := by decide +kernel
theorem dX1_hasMark_8 : decode cX1_hasMark 8 = .ok (.iload_n 1, 1) := by decide +kernel
theorem dX1_hasMark_9 : decode cX1_hasMark 9 = .ok (.aload_n 0, 1) := by decide +kernel
theorem dX1_hasMark_10 : decode cX1_hasMark 10 = .ok (.arraylength, 1) := by decide +kernel
theorem dX1_hasMark_11 : decode cX1_hasMark 11 = .ok (.if_icmp .ge 7, 3) := by decide +kernel
theorem dX1_hasMark_14 : decode cX1_hasMark 14 = .ok (.iconst 1, 1) := by decide +kernel
theorem dX1_hasMark_15 : decode cX1_hasMark 15 = .ok (.goto 4, 3) := by decide +kernel
theorem dX1_hasMark_18 : decode cX1_hasMark 18 = .ok (.iconst 0, 1) := by decide +kernel
theorem dX1_hasMark_19 : decode cX1_hasMark 19 = .ok (.ireturn, 1) := by decide +kernel
theorem dX1_heldBy_0 : decode cX1_heldBy 0 = .ok (.iload_n 1, 1) := by decide +kernel
theorem dX1_heldBy_1 : decode cX1_heldBy 1 = .ok (.invokestatic 134, 3) := by decide +kernel
theorem dX1_heldBy_4 : decode cX1_heldBy 4 = .ok (.ifCond .eq 12, 3) := by decide +kernel
theorem dX1_heldBy_7 : decode cX1_heldBy 7 = .ok (.aload_n 0, 1) := by decide +kernel
theorem dX1_heldBy_8 : decode cX1_heldBy 8 = .ok (.getfield 9, 3) := by decide +kernel
theorem dX1_heldBy_11 : decode cX1_heldBy 11 = .ok (.iload_n 1, 1) := by decide +kernel
theorem dX1_heldBy_12 : decode cX1_heldBy 12 = .ok (.iaload, 1) := by decide +kernel
theorem dX1_heldBy_13 : decode cX1_heldBy 13 = .ok (.goto 4, 3) := by decide +kernel
theorem dX1_heldBy_16 : decode cX1_heldBy 16 = .ok (.iconst 0, 1) := by decide +kernel
theorem dX1_heldBy_17 : decode cX1_heldBy 17 = .ok (.ireturn, 1) := by decide +kernel
theorem dX1_pour_0 : decode cX1_pour 0 = .ok (.iload_n 1, 1) := by decide +kernel
theorem dX1_pour_1 : decode cX1_pour 1 = .ok (.invokestatic 134, 3) := by decide +kernel
theorem dX1_pour_4 : decode cX1_pour 4 = .ok (.ifCond .eq 10, 3) := by decide +kernel
theorem dX1_pour_7 : decode cX1_pour 7 = .ok (.aload_n 0, 1) := by decide +kernel
theorem dX1_pour_8 : decode cX1_pour 8 = .ok (.getfield 9, 3) := by decide +kernel
theorem dX1_pour_11 : decode cX1_pour 11 = .ok (.iload_n 1, 1) := by decide +kernel
theorem dX1_pour_12 : decode cX1_pour 12 = .ok (.iload_n 2, 1) := by decide +kernel
theorem dX1_pour_13 : decode cX1_pour 13 = .ok (.iastore, 1) := by decide +kernel
theorem dX1_pour_14 : decode cX1_pour 14 = .ok (.return_, 1) := by decide +kernel
theorem dX1_gaugeNow_0 : decode cX1_gaugeNow 0 = .ok (.iload_n 1, 1) := by decide +kernel
theorem dX1_gaugeNow_1 : decode cX1_gaugeNow 1 = .ok (.invokestatic 63, 3) := by decide +kernel
theorem dX1_gaugeNow_4 : decode cX1_gaugeNow 4 = .ok (.ifCond .eq 12, 3) := by decide +kernel
theorem dX1_gaugeNow_7 : decode cX1_gaugeNow 7 = .ok (.aload_n 0, 1) := by decide +kernel
theorem dX1_gaugeNow_8 : decode cX1_gaugeNow 8 = .ok (.getfield 14, 3) := by decide +kernel
theorem dX1_gaugeNow_11 : decode cX1_gaugeNow 11 = .ok (.iload_n 1, 1) := by decide +kernel
theorem dX1_gaugeNow_12 : decode cX1_gaugeNow 12 = .ok (.aaload, 1) := by decide +kernel
theorem dX1_gaugeNow_13 : decode cX1_gaugeNow 13 = .ok (.goto 4, 3) := by decide +kernel
theorem dX1_gaugeNow_16 : decode cX1_gaugeNow 16 = .ok (.aconst_null, 1) := by decide +kernel
theorem dX1_gaugeNow_17 : decode cX1_gaugeNow 17 = .ok (.areturn, 1) := by decide +kernel
theorem dX1_inSlot_0 : decode cX1_inSlot 0 = .ok (.iload_n 1, 1) := by decide +kernel
theorem dX1_inSlot_1 : decode cX1_inSlot 1 = .ok (.invokestatic 75, 3) := by decide +kernel
theorem dX1_inSlot_4 : decode cX1_inSlot 4 = .ok (.ifCond .eq 12, 3) := by decide +kernel
theorem dX1_inSlot_7 : decode cX1_inSlot 7 = .ok (.aload_n 0, 1) := by decide +kernel
theorem dX1_inSlot_8 : decode cX1_inSlot 8 = .ok (.getfield 20, 3) := by decide +kernel
theorem dX1_inSlot_11 : decode cX1_inSlot 11 = .ok (.iload_n 1, 1) := by decide +kernel
theorem dX1_inSlot_12 : decode cX1_inSlot 12 = .ok (.aaload, 1) := by decide +kernel
theorem dX1_inSlot_13 : decode cX1_inSlot 13 = .ok (.goto 4, 3) := by decide +kernel
theorem dX1_inSlot_16 : decode cX1_inSlot 16 = .ok (.aconst_null, 1) := by decide +kernel
theorem dX1_inSlot_17 : decode cX1_inSlot 17 = .ok (.areturn, 1) := by decide +kernel
theorem dX1_atPlace_0 : decode cX1_atPlace 0 = .ok (.iload_n 1, 1) := by decide +kernel
theorem dX1_atPlace_1 : decode cX1_atPlace 1 = .ok (.invokestatic 95, 3) := by decide +kernel
theorem dX1_atPlace_4 : decode cX1_atPlace 4 = .ok (.ifCond .eq 25, 3) := by decide +kernel
theorem dX1_atPlace_7 : decode cX1_atPlace 7 = .ok (.iload_n 2, 1) := by decide +kernel
theorem dX1_atPlace_8 : decode cX1_atPlace 8 = .ok (.ifCond .lt 21, 3) := by decide +kernel
theorem dX1_atPlace_11 : decode cX1_atPlace 11 = .ok (.iload_n 2, 1) := by decide +kernel
theorem dX1_atPlace_12 : decode cX1_atPlace 12 = .ok (.iconst 4, 1) := by decide +kernel
theorem dX1_atPlace_13 : decode cX1_atPlace 13 = .ok (.if_icmp .ge 16, 3) := by decide +kernel
theorem dX1_atPlace_16 : decode cX1_atPlace 16 = .ok (.aload_n 0, 1) := by decide +kernel
theorem dX1_atPlace_17 : decode cX1_atPlace 17 = .ok (.getfield 24, 3) := by decide +kernel
theorem dX1_atPlace_20 : decode cX1_atPlace 20 = .ok (.iload_n 1, 1) := by decide +kernel
theorem dX1_atPlace_21 : decode cX1_atPlace 21 = .ok (.iconst 4, 1) := by decide +kernel
theorem dX1_atPlace_22 : decode cX1_atPlace 22 = .ok (.imul, 1) := by decide +kernel
theorem dX1_atPlace_23 : decode cX1_atPlace 23 = .ok (.iload_n 2, 1) := by decide +kernel
theorem dX1_atPlace_24 : decode cX1_atPlace 24 = .ok (.iadd, 1) := by decide +kernel
theorem dX1_atPlace_25 : decode cX1_atPlace 25 = .ok (.aaload, 1) := by decide +kernel
theorem dX1_atPlace_26 : decode cX1_atPlace 26 = .ok (.goto 4, 3) := by decide +kernel
theorem dX1_atPlace_29 : decode cX1_atPlace 29 = .ok (.aconst_null, 1) := by decide +kernel
theorem dX1_atPlace_30 : decode cX1_atPlace 30 = .ok (.areturn, 1) := by decide +kernel
theorem dX1_slotsInUse_0 : decode cX1_slotsInUse 0 = .ok (.iconst 0, 1) := by decide +kernel
theorem dX1_slotsInUse_1 : decode cX1_slotsInUse 1 = .ok (.istore_n 1, 1) := by decide +kernel
theorem dX1_slotsInUse_2 : decode cX1_slotsInUse 2 = .ok (.iconst 0, 1) := by decide +kernel
theorem dX1_slotsInUse_3 : decode cX1_slotsInUse 3 = .ok (.istore_n 2, 1) := by decide +kernel
theorem dX1_slotsInUse_4 : decode cX1_slotsInUse 4 = .ok (.iload_n 2, 1) := by decide +kernel
theorem dX1_slotsInUse_5 : decode cX1_slotsInUse 5 = .ok (.bipush 20, 2) := by decide +kernel
theorem dX1_slotsInUse_7 : decode cX1_slotsInUse 7 = .ok (.if_icmp .ge 21, 3) := by decide +kernel
theorem dX1_slotsInUse_10 : decode cX1_slotsInUse 10 = .ok (.aload_n 0, 1) := by decide +kernel
theorem dX1_slotsInUse_11 : decode cX1_slotsInUse 11 = .ok (.getfield 20, 3) := by decide +kernel
theorem dX1_slotsInUse_14 : decode cX1_slotsInUse 14 = .ok (.iload_n 2, 1) := by decide +kernel
theorem dX1_slotsInUse_15 : decode cX1_slotsInUse 15 = .ok (.aaload, 1) := by decide +kernel
theorem dX1_slotsInUse_16 : decode cX1_slotsInUse 16 = .ok (.ifnull 6, 3) := by decide +kernel
theorem dX1_slotsInUse_19 : decode cX1_slotsInUse 19 = .ok (.iinc 1 1, 3) := by decide +kernel
theorem dX1_slotsInUse_22 : decode cX1_slotsInUse 22 = .ok (.iinc 2 1, 3) := by decide +kernel
theorem dX1_slotsInUse_25 : decode cX1_slotsInUse 25 = .ok (.goto (-21), 3) := by decide +kernel
theorem dX1_slotsInUse_28 : decode cX1_slotsInUse 28 = .ok (.iload_n 1, 1) := by decide +kernel
theorem dX1_slotsInUse_29 : decode cX1_slotsInUse 29 = .ok (.ireturn, 1) := by decide +kernel
theorem dX1_emptyHall_0 : decode cX1_emptyHall 0 = .ok (.iconst 0, 1) := by decide +kernel
theorem dX1_emptyHall_1 : decode cX1_emptyHall 1 = .ok (.istore_n 1, 1) := by decide +kernel
theorem dX1_emptyHall_2 : decode cX1_emptyHall 2 = .ok (.iload_n 1, 1) := by decide +kernel
theorem dX1_emptyHall_3 : decode cX1_emptyHall 3 = .ok (.bipush 10, 2) := by decide +kernel
theorem dX1_emptyHall_5 : decode cX1_emptyHall 5 = .ok (.if_icmp .ge 16, 3) := by decide +kernel
theorem dX1_emptyHall_8 : decode cX1_emptyHall 8 = .ok (.aload_n 0, 1) := by decide +kernel
theorem dX1_emptyHall_9 : decode cX1_emptyHall 9 = .ok (.getfield 9, 3) := by decide +kernel
theorem dX1_emptyHall_12 : decode cX1_emptyHall 12 = .ok (.iload_n 1, 1) := by decide +kernel
theorem dX1_emptyHall_13 : decode cX1_emptyHall 13 = .ok (.iconst 0, 1) := by decide +kernel
theorem dX1_emptyHall_14 : decode cX1_emptyHall 14 = .ok (.iastore, 1) := by decide +kernel
theorem dX1_emptyHall_15 : decode cX1_emptyHall 15 = .ok (.iinc 1 1, 3) := by decide +kernel
theorem dX1_emptyHall_18 : decode cX1_emptyHall 18 = .ok (.goto (-16), 3) := by decide +kernel
theorem dX1_emptyHall_21 : decode cX1_emptyHall 21 = .ok (.iconst 0, 1) := by decide +kernel
theorem dX1_emptyHall_22 : decode cX1_emptyHall 22 = .ok (.istore_n 1, 1) := by decide +kernel
theorem dX1_emptyHall_23 : decode cX1_emptyHall 23 = .ok (.iload_n 1, 1) := by decide +kernel
theorem dX1_emptyHall_24 : decode cX1_emptyHall 24 = .ok (.iconst 3, 1) := by decide +kernel
theorem dX1_emptyHall_25 : decode cX1_emptyHall 25 = .ok (.if_icmp .ge 16, 3) := by decide +kernel
theorem dX1_emptyHall_28 : decode cX1_emptyHall 28 = .ok (.aload_n 0, 1) := by decide +kernel
theorem dX1_emptyHall_29 : decode cX1_emptyHall 29 = .ok (.getfield 14, 3) := by decide +kernel
theorem dX1_emptyHall_32 : decode cX1_emptyHall 32 = .ok (.iload_n 1, 1) := by decide +kernel
theorem dX1_emptyHall_33 : decode cX1_emptyHall 33 = .ok (.aconst_null, 1) := by decide +kernel
theorem dX1_emptyHall_34 : decode cX1_emptyHall 34 = .ok (.aastore, 1) := by decide +kernel
theorem dX1_emptyHall_35 : decode cX1_emptyHall 35 = .ok (.iinc 1 1, 3) := by decide +kernel
theorem dX1_emptyHall_38 : decode cX1_emptyHall 38 = .ok (.goto (-15), 3) := by decide +kernel
theorem dX1_emptyHall_41 : decode cX1_emptyHall 41 = .ok (.return_, 1) := by decide +kernel
theorem dX1_emptyDeeds_0 : decode cX1_emptyDeeds 0 = .ok (.iconst 0, 1) := by decide +kernel
theorem dX1_emptyDeeds_1 : decode cX1_emptyDeeds 1 = .ok (.istore_n 1, 1) := by decide +kernel
theorem dX1_emptyDeeds_2 : decode cX1_emptyDeeds 2 = .ok (.iload_n 1, 1) := by decide +kernel
theorem dX1_emptyDeeds_3 : decode cX1_emptyDeeds 3 = .ok (.bipush 20, 2) := by decide +kernel
theorem dX1_emptyDeeds_5 : decode cX1_emptyDeeds 5 = .ok (.if_icmp .ge 16, 3) := by decide +kernel
theorem dX1_emptyDeeds_8 : decode cX1_emptyDeeds 8 = .ok (.aload_n 0, 1) := by decide +kernel
theorem dX1_emptyDeeds_9 : decode cX1_emptyDeeds 9 = .ok (.getfield 20, 3) := by decide +kernel
theorem dX1_emptyDeeds_12 : decode cX1_emptyDeeds 12 = .ok (.iload_n 1, 1) := by decide +kernel
theorem dX1_emptyDeeds_13 : decode cX1_emptyDeeds 13 = .ok (.aconst_null, 1) := by decide +kernel
theorem dX1_emptyDeeds_14 : decode cX1_emptyDeeds 14 = .ok (.aastore, 1) := by decide +kernel
theorem dX1_emptyDeeds_15 : decode cX1_emptyDeeds 15 = .ok (.iinc 1 1, 3) := by decide +kernel
theorem dX1_emptyDeeds_18 : decode cX1_emptyDeeds 18 = .ok (.goto (-16), 3) := by decide +kernel
theorem dX1_emptyDeeds_21 : decode cX1_emptyDeeds 21 = .ok (.iconst 0, 1) := by decide +kernel
theorem dX1_emptyDeeds_22 : decode cX1_emptyDeeds 22 = .ok (.istore_n 1, 1) := by decide +kernel
theorem dX1_emptyDeeds_23 : decode cX1_emptyDeeds 23 = .ok (.iload_n 1, 1) := by decide +kernel
theorem dX1_emptyDeeds_24 : decode cX1_emptyDeeds 24 = .ok (.bipush 20, 2) := by decide +kernel
theorem dX1_emptyDeeds_26 : decode cX1_emptyDeeds 26 = .ok (.if_icmp .ge 16, 3) := by decide +kernel
theorem dX1_emptyDeeds_29 : decode cX1_emptyDeeds 29 = .ok (.aload_n 0, 1) := by decide +kernel
theorem dX1_emptyDeeds_30 : decode cX1_emptyDeeds 30 = .ok (.getfield 24, 3) := by decide +kernel
theorem dX1_emptyDeeds_33 : decode cX1_emptyDeeds 33 = .ok (.iload_n 1, 1) := by decide +kernel
theorem dX1_emptyDeeds_34 : decode cX1_emptyDeeds 34 = .ok (.aconst_null, 1) := by decide +kernel
theorem dX1_emptyDeeds_35 : decode cX1_emptyDeeds 35 = .ok (.aastore, 1) := by decide +kernel
theorem dX1_emptyDeeds_36 : decode cX1_emptyDeeds 36 = .ok (.iinc 1 1, 3) := by decide +kernel
theorem dX1_emptyDeeds_39 : decode cX1_emptyDeeds 39 = .ok (.goto (-16), 3) := by decide +kernel
theorem dX1_emptyDeeds_42 : decode cX1_emptyDeeds 42 = .ok (.iconst 0, 1) := by decide +kernel
theorem dX1_emptyDeeds_43 : decode cX1_emptyDeeds 43 = .ok (.istore_n 1, 1) := by decide +kernel
theorem dX1_emptyDeeds_44 : decode cX1_emptyDeeds 44 = .ok (.iload_n 1, 1) := by decide +kernel
theorem dX1_emptyDeeds_45 : decode cX1_emptyDeeds 45 = .ok (.bipush 12, 2) := by decide +kernel
theorem dX1_emptyDeeds_47 : decode cX1_emptyDeeds 47 = .ok (.if_icmp .ge 16, 3) := by decide +kernel
theorem dX1_emptyDeeds_50 : decode cX1_emptyDeeds 50 = .ok (.aload_n 0, 1) := by decide +kernel
theorem dX1_emptyDeeds_51 : decode cX1_emptyDeeds 51 = .ok (.getfield 27, 3) := by decide +kernel
theorem dX1_emptyDeeds_54 : decode cX1_emptyDeeds 54 = .ok (.iload_n 1, 1) := by decide +kernel
theorem dX1_emptyDeeds_55 : decode cX1_emptyDeeds 55 = .ok (.aconst_null, 1) := by decide +kernel
theorem dX1_emptyDeeds_56 : decode cX1_emptyDeeds 56 = .ok (.aastore, 1) := by decide +kernel
theorem dX1_emptyDeeds_57 : decode cX1_emptyDeeds 57 = .ok (.iinc 1 1, 3) := by decide +kernel
theorem dX1_emptyDeeds_60 : decode cX1_emptyDeeds 60 = .ok (.goto (-16), 3) := by decide +kernel
theorem dX1_emptyDeeds_63 : decode cX1_emptyDeeds 63 = .ok (.return_, 1) := by decide +kernel
theorem dX1_namesWhatThereIs_0 : decode cX1_namesWhatThereIs 0 = .ok (.iload_n 0, 1) := by decide +kernel
theorem dX1_namesWhatThereIs_1 : decode cX1_namesWhatThereIs 1 = .ok (.tableswitch 186 0 14 #[75, 77, 77, 82, 102, 75, 77, 107, 127, 154, 107, 176, 176, 181, 176], 75) := by decide +kernel
theorem dX1_namesWhatThereIs_76 : decode cX1_namesWhatThereIs 76 = .ok (.iconst 1, 1) := by decide +kernel
theorem dX1_namesWhatThereIs_77 : decode cX1_namesWhatThereIs 77 = .ok (.ireturn, 1) := by decide +kernel
theorem dX1_namesWhatThereIs_78 : decode cX1_namesWhatThereIs 78 = .ok (.iload_n 1, 1) := by decide +kernel
theorem dX1_namesWhatThereIs_79 : decode cX1_namesWhatThereIs 79 = .ok (.invokestatic 134, 3) := by decide +kernel
theorem dX1_namesWhatThereIs_82 : decode cX1_namesWhatThereIs 82 = .ok (.ireturn, 1) := by decide +kernel
theorem dX1_namesWhatThereIs_83 : decode cX1_namesWhatThereIs 83 = .ok (.iload_n 1, 1) := by decide +kernel
theorem dX1_namesWhatThereIs_84 : decode cX1_namesWhatThereIs 84 = .ok (.invokestatic 134, 3) := by decide +kernel
theorem dX1_namesWhatThereIs_87 : decode cX1_namesWhatThereIs 87 = .ok (.ifCond .eq 14, 3) := by decide +kernel
theorem dX1_namesWhatThereIs_90 : decode cX1_namesWhatThereIs 90 = .ok (.iload_n 2, 1) := by decide +kernel
theorem dX1_namesWhatThereIs_91 : decode cX1_namesWhatThereIs 91 = .ok (.invokestatic 134, 3) := by decide +kernel
theorem dX1_namesWhatThereIs_94 : decode cX1_namesWhatThereIs 94 = .ok (.ifCond .eq 7, 3) := by decide +kernel
theorem dX1_namesWhatThereIs_97 : decode cX1_namesWhatThereIs 97 = .ok (.iconst 1, 1) := by decide +kernel
theorem dX1_namesWhatThereIs_98 : decode cX1_namesWhatThereIs 98 = .ok (.goto 4, 3) := by decide +kernel
theorem dX1_namesWhatThereIs_101 : decode cX1_namesWhatThereIs 101 = .ok (.iconst 0, 1) := by decide +kernel
theorem dX1_namesWhatThereIs_102 : decode cX1_namesWhatThereIs 102 = .ok (.ireturn, 1) := by decide +kernel
theorem dX1_namesWhatThereIs_103 : decode cX1_namesWhatThereIs 103 = .ok (.iload_n 1, 1) := by decide +kernel
theorem dX1_namesWhatThereIs_104 : decode cX1_namesWhatThereIs 104 = .ok (.invokestatic 63, 3) := by decide +kernel
theorem dX1_namesWhatThereIs_107 : decode cX1_namesWhatThereIs 107 = .ok (.ireturn, 1) := by decide +kernel
theorem dX1_namesWhatThereIs_108 : decode cX1_namesWhatThereIs 108 = .ok (.iload_n 1, 1) := by decide +kernel
theorem dX1_namesWhatThereIs_109 : decode cX1_namesWhatThereIs 109 = .ok (.invokestatic 75, 3) := by decide +kernel
theorem dX1_namesWhatThereIs_112 : decode cX1_namesWhatThereIs 112 = .ok (.ifCond .eq 14, 3) := by decide +kernel
theorem dX1_namesWhatThereIs_115 : decode cX1_namesWhatThereIs 115 = .ok (.iload_n 2, 1) := by decide +kernel
theorem dX1_namesWhatThereIs_116 : decode cX1_namesWhatThereIs 116 = .ok (.invokestatic 75, 3) := by decide +kernel
theorem dX1_namesWhatThereIs_119 : decode cX1_namesWhatThereIs 119 = .ok (.ifCond .eq 7, 3) := by decide +kernel
theorem dX1_namesWhatThereIs_122 : decode cX1_namesWhatThereIs 122 = .ok (.iconst 1, 1) := by decide +kernel
theorem dX1_namesWhatThereIs_123 : decode cX1_namesWhatThereIs 123 = .ok (.goto 4, 3) := by decide +kernel
theorem dX1_namesWhatThereIs_126 : decode cX1_namesWhatThereIs 126 = .ok (.iconst 0, 1) := by decide +kernel
theorem dX1_namesWhatThereIs_127 : decode cX1_namesWhatThereIs 127 = .ok (.ireturn, 1) := by decide +kernel
theorem dX1_namesWhatThereIs_128 : decode cX1_namesWhatThereIs 128 = .ok (.iload_n 1, 1) := by decide +kernel
theorem dX1_namesWhatThereIs_129 : decode cX1_namesWhatThereIs 129 = .ok (.invokestatic 75, 3) := by decide +kernel
theorem dX1_namesWhatThereIs_132 : decode cX1_namesWhatThereIs 132 = .ok (.ifCond .eq 21, 3) := by decide +kernel
theorem dX1_namesWhatThereIs_135 : decode cX1_namesWhatThereIs 135 = .ok (.iload_n 2, 1) := by decide +kernel
theorem dX1_namesWhatThereIs_136 : decode cX1_namesWhatThereIs 136 = .ok (.invokestatic 75, 3) := by decide +kernel
theorem dX1_namesWhatThereIs_139 : decode cX1_namesWhatThereIs 139 = .ok (.ifCond .eq 14, 3) := by decide +kernel
theorem dX1_namesWhatThereIs_142 : decode cX1_namesWhatThereIs 142 = .ok (.iload_n 3, 1) := by decide +kernel
theorem dX1_namesWhatThereIs_143 : decode cX1_namesWhatThereIs 143 = .ok (.invokestatic 134, 3) := by decide +kernel
theorem dX1_namesWhatThereIs_146 : decode cX1_namesWhatThereIs 146 = .ok (.ifCond .eq 7, 3) := by decide +kernel
theorem dX1_namesWhatThereIs_149 : decode cX1_namesWhatThereIs 149 = .ok (.iconst 1, 1) := by decide +kernel
theorem dX1_namesWhatThereIs_150 : decode cX1_namesWhatThereIs 150 = .ok (.goto 4, 3) := by decide +kernel
theorem dX1_namesWhatThereIs_153 : decode cX1_namesWhatThereIs 153 = .ok (.iconst 0, 1) := by decide +kernel
theorem dX1_namesWhatThereIs_154 : decode cX1_namesWhatThereIs 154 = .ok (.ireturn, 1) := by decide +kernel
theorem dX1_namesWhatThereIs_155 : decode cX1_namesWhatThereIs 155 = .ok (.iload_n 1, 1) := by decide +kernel
theorem dX1_namesWhatThereIs_156 : decode cX1_namesWhatThereIs 156 = .ok (.invokestatic 75, 3) := by decide +kernel
theorem dX1_namesWhatThereIs_159 : decode cX1_namesWhatThereIs 159 = .ok (.ifCond .eq 16, 3) := by decide +kernel
theorem dX1_namesWhatThereIs_162 : decode cX1_namesWhatThereIs 162 = .ok (.iload_n 2, 1) := by decide +kernel
theorem dX1_namesWhatThereIs_163 : decode cX1_namesWhatThereIs 163 = .ok (.ifCond .lt 12, 3) := by decide +kernel
theorem dX1_namesWhatThereIs_166 : decode cX1_namesWhatThereIs 166 = .ok (.iload_n 2, 1) := by decide +kernel
theorem dX1_namesWhatThereIs_167 : decode cX1_namesWhatThereIs 167 = .ok (.iconst 5, 1) := by decide +kernel
theorem dX1_namesWhatThereIs_168 : decode cX1_namesWhatThereIs 168 = .ok (.if_icmp .gt 7, 3) := by decide +kernel
theorem dX1_namesWhatThereIs_171 : decode cX1_namesWhatThereIs 171 = .ok (.iconst 1, 1) := by decide +kernel
theorem dX1_namesWhatThereIs_172 : decode cX1_namesWhatThereIs 172 = .ok (.goto 4, 3) := by decide +kernel
theorem dX1_namesWhatThereIs_175 : decode cX1_namesWhatThereIs 175 = .ok (.iconst 0, 1) := by decide +kernel
theorem dX1_namesWhatThereIs_176 : decode cX1_namesWhatThereIs 176 = .ok (.ireturn, 1) := by decide +kernel
theorem dX1_namesWhatThereIs_177 : decode cX1_namesWhatThereIs 177 = .ok (.iload_n 1, 1) := by decide +kernel
theorem dX1_namesWhatThereIs_178 : decode cX1_namesWhatThereIs 178 = .ok (.invokestatic 75, 3) := by decide +kernel
theorem dX1_namesWhatThereIs_181 : decode cX1_namesWhatThereIs 181 = .ok (.ireturn, 1) := by decide +kernel
theorem dX1_namesWhatThereIs_182 : decode cX1_namesWhatThereIs 182 = .ok (.iload_n 1, 1) := by decide +kernel
theorem dX1_namesWhatThereIs_183 : decode cX1_namesWhatThereIs 183 = .ok (.invokestatic 95, 3) := by decide +kernel
theorem dX1_namesWhatThereIs_186 : decode cX1_namesWhatThereIs 186 = .ok (.ireturn, 1) := by decide +kernel
theorem dX1_namesWhatThereIs_187 : decode cX1_namesWhatThereIs 187 = .ok (.iconst 0, 1) := by decide +kernel
theorem dX1_namesWhatThereIs_188 : decode cX1_namesWhatThereIs 188 = .ok (.ireturn, 1) := by decide +kernel
theorem dX1_holdsFirst_0 : decode cX1_holdsFirst 0 = .ok (.iload_n 0, 1) := by decide +kernel
theorem dX1_holdsFirst_1 : decode cX1_holdsFirst 1 = .ok (.bipush 7, 2) := by decide +kernel
theorem dX1_holdsFirst_3 : decode cX1_holdsFirst 3 = .ok (.if_icmp .lt 13, 3) := by decide +kernel
theorem dX1_holdsFirst_6 : decode cX1_holdsFirst 6 = .ok (.iload_n 0, 1) := by decide +kernel
theorem dX1_holdsFirst_7 : decode cX1_holdsFirst 7 = .ok (.bipush 12, 2) := by decide +kernel
theorem dX1_holdsFirst_9 : decode cX1_holdsFirst 9 = .ok (.if_icmp .gt 7, 3) := by decide +kernel
theorem dX1_holdsFirst_12 : decode cX1_holdsFirst 12 = .ok (.iconst 1, 1) := by decide +kernel
theorem dX1_holdsFirst_13 : decode cX1_holdsFirst 13 = .ok (.goto 4, 3) := by decide +kernel
theorem dX1_holdsFirst_16 : decode cX1_holdsFirst 16 = .ok (.iconst 0, 1) := by decide +kernel
theorem dX1_holdsFirst_17 : decode cX1_holdsFirst 17 = .ok (.ireturn, 1) := by decide +kernel
theorem dX1_holdsSecond_0 : decode cX1_holdsSecond 0 = .ok (.iload_n 0, 1) := by decide +kernel
theorem dX1_holdsSecond_1 : decode cX1_holdsSecond 1 = .ok (.bipush 7, 2) := by decide +kernel
theorem dX1_holdsSecond_3 : decode cX1_holdsSecond 3 = .ok (.if_icmp .eq 15, 3) := by decide +kernel
theorem dX1_holdsSecond_6 : decode cX1_holdsSecond 6 = .ok (.iload_n 0, 1) := by decide +kernel
theorem dX1_holdsSecond_7 : decode cX1_holdsSecond 7 = .ok (.bipush 8, 2) := by decide +kernel
theorem dX1_holdsSecond_9 : decode cX1_holdsSecond 9 = .ok (.if_icmp .eq 9, 3) := by decide +kernel
theorem dX1_holdsSecond_12 : decode cX1_holdsSecond 12 = .ok (.iload_n 0, 1) := by decide +kernel
theorem dX1_holdsSecond_13 : decode cX1_holdsSecond 13 = .ok (.bipush 10, 2) := by decide +kernel
theorem dX1_holdsSecond_15 : decode cX1_holdsSecond 15 = .ok (.if_icmp .ne 7, 3) := by decide +kernel
theorem dX1_holdsSecond_18 : decode cX1_holdsSecond 18 = .ok (.iconst 1, 1) := by decide +kernel
theorem dX1_holdsSecond_19 : decode cX1_holdsSecond 19 = .ok (.goto 4, 3) := by decide +kernel
theorem dX1_holdsSecond_22 : decode cX1_holdsSecond 22 = .ok (.iconst 0, 1) := by decide +kernel
theorem dX1_holdsSecond_23 : decode cX1_holdsSecond 23 = .ok (.ireturn, 1) := by decide +kernel
theorem dX1_refuse_0 : decode cX1_refuse 0 = .ok (.aload_n 0, 1) := by decide +kernel
theorem dX1_refuse_1 : decode cX1_refuse 1 = .ok (.iconst 0, 1) := by decide +kernel
theorem dX1_refuse_2 : decode cX1_refuse 2 = .ok (.putfield 43, 3) := by decide +kernel
theorem dX1_refuse_5 : decode cX1_refuse 5 = .ok (.aload_n 0, 1) := by decide +kernel
theorem dX1_refuse_6 : decode cX1_refuse 6 = .ok (.iload_n 1, 1) := by decide +kernel
theorem dX1_refuse_7 : decode cX1_refuse 7 = .ok (.putfield 52, 3) := by decide +kernel
theorem dX1_refuse_10 : decode cX1_refuse 10 = .ok (.iconst 0, 1) := by decide +kernel
theorem dX1_refuse_11 : decode cX1_refuse 11 = .ok (.ireturn, 1) := by decide +kernel
theorem dX1_begin_0 : decode cX1_begin 0 = .ok (.aload_n 0, 1) := by decide +kernel
theorem dX1_begin_1 : decode cX1_begin 1 = .ok (.iconst 0, 1) := by decide +kernel
theorem dX1_begin_2 : decode cX1_begin 2 = .ok (.putfield 43, 3) := by decide +kernel
theorem dX1_begin_5 : decode cX1_begin 5 = .ok (.aload_n 0, 1) := by decide +kernel
theorem dX1_begin_6 : decode cX1_begin 6 = .ok (.iconst 0, 1) := by decide +kernel
theorem dX1_begin_7 : decode cX1_begin 7 = .ok (.putfield 49, 3) := by decide +kernel
theorem dX1_begin_10 : decode cX1_begin 10 = .ok (.aload_n 0, 1) := by decide +kernel
theorem dX1_begin_11 : decode cX1_begin 11 = .ok (.iconst 0, 1) := by decide +kernel
theorem dX1_begin_12 : decode cX1_begin 12 = .ok (.putfield 52, 3) := by decide +kernel
theorem dX1_begin_15 : decode cX1_begin 15 = .ok (.return_, 1) := by decide +kernel
theorem dX1_noteFailure_0 : decode cX1_noteFailure 0 = .ok (.aload_n 0, 1) := by decide +kernel
theorem dX1_noteFailure_1 : decode cX1_noteFailure 1 = .ok (.getfield 49, 3) := by decide +kernel
theorem dX1_noteFailure_4 : decode cX1_noteFailure 4 = .ok (.ifCond .eq 21, 3) := by decide +kernel
theorem dX1_noteFailure_7 : decode cX1_noteFailure 7 = .ok (.aload_n 0, 1) := by decide +kernel
theorem dX1_noteFailure_8 : decode cX1_noteFailure 8 = .ok (.dup, 1) := by decide +kernel
theorem dX1_noteFailure_9 : decode cX1_noteFailure 9 = .ok (.getfield 46, 3) := by decide +kernel
theorem dX1_noteFailure_12 : decode cX1_noteFailure 12 = .ok (.iconst 1, 1) := by decide +kernel
theorem dX1_noteFailure_13 : decode cX1_noteFailure 13 = .ok (.iadd, 1) := by decide +kernel
theorem dX1_noteFailure_14 : decode cX1_noteFailure 14 = .ok (.putfield 46, 3) := by decide +kernel
theorem dX1_noteFailure_17 : decode cX1_noteFailure 17 = .ok (.aload_n 0, 1) := by decide +kernel
theorem dX1_noteFailure_18 : decode cX1_noteFailure 18 = .ok (.aload_n 0, 1) := by decide +kernel
theorem dX1_noteFailure_19 : decode cX1_noteFailure 19 = .ok (.getfield 49, 3) := by decide +kernel
theorem dX1_noteFailure_22 : decode cX1_noteFailure 22 = .ok (.putfield 52, 3) := by decide +kernel
theorem dX1_noteFailure_25 : decode cX1_noteFailure 25 = .ok (.return_, 1) := by decide +kernel
theorem dX1_fail_0 : decode cX1_fail 0 = .ok (.aload_n 0, 1) := by decide +kernel
theorem dX1_fail_1 : decode cX1_fail 1 = .ok (.iload_n 1, 1) := by decide +kernel
theorem dX1_fail_2 : decode cX1_fail 2 = .ok (.putfield 49, 3) := by decide +kernel
theorem dX1_fail_5 : decode cX1_fail 5 = .ok (.iconst 0, 1) := by decide +kernel
theorem dX1_fail_6 : decode cX1_fail 6 = .ok (.ireturn, 1) := by decide +kernel
theorem dX1_doLongestWaiting_0 : decode cX1_doLongestWaiting 0 = .ok (.aload_n 0, 1) := by decide +kernel
theorem dX1_doLongestWaiting_1 : decode cX1_doLongestWaiting 1 = .ok (.getfield 27, 3) := by decide +kernel
theorem dX1_doLongestWaiting_4 : decode cX1_doLongestWaiting 4 = .ok (.aload_n 0, 1) := by decide +kernel
theorem dX1_doLongestWaiting_5 : decode cX1_doLongestWaiting 5 = .ok (.getfield 33, 3) := by decide +kernel
theorem dX1_doLongestWaiting_8 : decode cX1_doLongestWaiting 8 = .ok (.aaload, 1) := by decide +kernel
theorem dX1_doLongestWaiting_9 : decode cX1_doLongestWaiting 9 = .ok (.astore_n 1, 1) := by decide +kernel
theorem dX1_doLongestWaiting_10 : decode cX1_doLongestWaiting 10 = .ok (.aload_n 0, 1) := by decide +kernel
theorem dX1_doLongestWaiting_11 : decode cX1_doLongestWaiting 11 = .ok (.getfield 30, 3) := by decide +kernel
theorem dX1_doLongestWaiting_14 : decode cX1_doLongestWaiting 14 = .ok (.aload_n 0, 1) := by decide +kernel
theorem dX1_doLongestWaiting_15 : decode cX1_doLongestWaiting 15 = .ok (.getfield 33, 3) := by decide +kernel
theorem dX1_doLongestWaiting_18 : decode cX1_doLongestWaiting 18 = .ok (.iaload, 1) := by decide +kernel
theorem dX1_doLongestWaiting_19 : decode cX1_doLongestWaiting 19 = .ok (.istore_n 2, 1) := by decide +kernel
theorem dX1_doLongestWaiting_20 : decode cX1_doLongestWaiting 20 = .ok (.aload_n 0, 1) := by decide +kernel
theorem dX1_doLongestWaiting_21 : decode cX1_doLongestWaiting 21 = .ok (.getfield 27, 3) := by decide +kernel
theorem dX1_doLongestWaiting_24 : decode cX1_doLongestWaiting 24 = .ok (.aload_n 0, 1) := by decide +kernel
theorem dX1_doLongestWaiting_25 : decode cX1_doLongestWaiting 25 = .ok (.getfield 33, 3) := by decide +kernel
theorem dX1_doLongestWaiting_28 : decode cX1_doLongestWaiting 28 = .ok (.aconst_null, 1) := by decide +kernel
theorem dX1_doLongestWaiting_29 : decode cX1_doLongestWaiting 29 = .ok (.aastore, 1) := by decide +kernel
theorem dX1_doLongestWaiting_30 : decode cX1_doLongestWaiting 30 = .ok (.aload_n 0, 1) := by decide +kernel
theorem dX1_doLongestWaiting_31 : decode cX1_doLongestWaiting 31 = .ok (.aload_n 0, 1) := by decide +kernel
theorem dX1_doLongestWaiting_32 : decode cX1_doLongestWaiting 32 = .ok (.getfield 33, 3) := by decide +kernel
theorem dX1_doLongestWaiting_35 : decode cX1_doLongestWaiting 35 = .ok (.iconst 1, 1) := by decide +kernel
theorem dX1_doLongestWaiting_36 : decode cX1_doLongestWaiting 36 = .ok (.iadd, 1) := by decide +kernel
theorem dX1_doLongestWaiting_37 : decode cX1_doLongestWaiting 37 = .ok (.bipush 12, 2) := by decide +kernel
theorem dX1_doLongestWaiting_39 : decode cX1_doLongestWaiting 39 = .ok (.irem, 1) := by decide +kernel
theorem dX1_doLongestWaiting_40 : decode cX1_doLongestWaiting 40 = .ok (.putfield 33, 3) := by decide +kernel
theorem dX1_doLongestWaiting_43 : decode cX1_doLongestWaiting 43 = .ok (.aload_n 0, 1) := by decide +kernel
theorem dX1_doLongestWaiting_44 : decode cX1_doLongestWaiting 44 = .ok (.dup, 1) := by decide +kernel
theorem dX1_doLongestWaiting_45 : decode cX1_doLongestWaiting 45 = .ok (.getfield 37, 3) := by decide +kernel
theorem dX1_doLongestWaiting_48 : decode cX1_doLongestWaiting 48 = .ok (.iconst 1, 1) := by decide +kernel
theorem dX1_doLongestWaiting_49 : decode cX1_doLongestWaiting 49 = .ok (.isub, 1) := by decide +kernel
theorem dX1_doLongestWaiting_50 : decode cX1_doLongestWaiting 50 = .ok (.putfield 37, 3) := by decide +kernel
theorem dX1_doLongestWaiting_53 : decode cX1_doLongestWaiting 53 = .ok (.aload_n 0, 1) := by decide +kernel
theorem dX1_doLongestWaiting_54 : decode cX1_doLongestWaiting 54 = .ok (.aload_n 1, 1) := by decide +kernel
theorem dX1_doLongestWaiting_55 : decode cX1_doLongestWaiting 55 = .ok (.iload_n 2, 1) := by decide +kernel
theorem dX1_doLongestWaiting_56 : decode cX1_doLongestWaiting 56 = .ok (.iconst 0, 1) := by decide +kernel
theorem dX1_doLongestWaiting_57 : decode cX1_doLongestWaiting 57 = .ok (.invokevirtual 110, 3) := by decide +kernel
theorem dX1_doLongestWaiting_60 : decode cX1_doLongestWaiting 60 = .ok (.pop, 1) := by decide +kernel
theorem dX1_doLongestWaiting_61 : decode cX1_doLongestWaiting 61 = .ok (.return_, 1) := by decide +kernel
theorem dX1_doDeed_0 : decode cX1_doDeed 0 = .ok (.aload_n 0, 1) := by decide +kernel
theorem dX1_doDeed_1 : decode cX1_doDeed 1 = .ok (.getfield 43, 3) := by decide +kernel
theorem dX1_doDeed_4 : decode cX1_doDeed 4 = .ok (.bipush 60, 2) := by decide +kernel
theorem dX1_doDeed_6 : decode cX1_doDeed 6 = .ok (.if_icmp .lt 10, 3) := by decide +kernel
theorem dX1_doDeed_9 : decode cX1_doDeed 9 = .ok (.aload_n 0, 1) := by decide +kernel
theorem dX1_doDeed_10 : decode cX1_doDeed 10 = .ok (.bipush (-8), 2) := by decide +kernel
theorem dX1_doDeed_12 : decode cX1_doDeed 12 = .ok (.invokevirtual 137, 3) := by decide +kernel
theorem dX1_doDeed_15 : decode cX1_doDeed 15 = .ok (.ireturn, 1) := by decide +kernel
theorem dX1_doDeed_16 : decode cX1_doDeed 16 = .ok (.aload_n 0, 1) := by decide +kernel
theorem dX1_doDeed_17 : decode cX1_doDeed 17 = .ok (.dup, 1) := by decide +kernel
theorem dX1_doDeed_18 : decode cX1_doDeed 18 = .ok (.getfield 43, 3) := by decide +kernel
theorem dX1_doDeed_21 : decode cX1_doDeed 21 = .ok (.iconst 1, 1) := by decide +kernel
theorem dX1_doDeed_22 : decode cX1_doDeed 22 = .ok (.iadd, 1) := by decide +kernel
theorem dX1_doDeed_23 : decode cX1_doDeed 23 = .ok (.putfield 43, 3) := by decide +kernel
theorem dX1_doDeed_26 : decode cX1_doDeed 26 = .ok (.iload_n 3, 1) := by decide +kernel
theorem dX1_doDeed_27 : decode cX1_doDeed 27 = .ok (.bipush 16, 2) := by decide +kernel
theorem dX1_doDeed_29 : decode cX1_doDeed 29 = .ok (.if_icmp .lt 10, 3) := by decide +kernel
theorem dX1_doDeed_32 : decode cX1_doDeed 32 = .ok (.aload_n 0, 1) := by decide +kernel
theorem dX1_doDeed_33 : decode cX1_doDeed 33 = .ok (.bipush (-9), 2) := by decide +kernel
theorem dX1_doDeed_35 : decode cX1_doDeed 35 = .ok (.invokevirtual 137, 3) := by decide +kernel
theorem dX1_doDeed_38 : decode cX1_doDeed 38 = .ok (.ireturn, 1) := by decide +kernel
theorem dX1_doDeed_39 : decode cX1_doDeed 39 = .ok (.aload_n 1, 1) := by decide +kernel
theorem dX1_doDeed_40 : decode cX1_doDeed 40 = .ok (.ifnonnull 10, 3) := by decide +kernel
theorem dX1_doDeed_43 : decode cX1_doDeed 43 = .ok (.aload_n 0, 1) := by decide +kernel
theorem dX1_doDeed_44 : decode cX1_doDeed 44 = .ok (.bipush (-6), 2) := by decide +kernel
theorem dX1_doDeed_46 : decode cX1_doDeed 46 = .ok (.invokevirtual 137, 3) := by decide +kernel
theorem dX1_doDeed_49 : decode cX1_doDeed 49 = .ok (.ireturn, 1) := by decide +kernel
theorem dX1_doDeed_50 : decode cX1_doDeed 50 = .ok (.aload_n 1, 1) := by decide +kernel
theorem dX1_doDeed_51 : decode cX1_doDeed 51 = .ok (.getfield 98, 3) := by decide +kernel
theorem dX1_doDeed_54 : decode cX1_doDeed 54 = .ok (.bipush 7, 2) := by decide +kernel
theorem dX1_doDeed_56 : decode cX1_doDeed 56 = .ok (.if_icmp .ge 12, 3) := by decide +kernel
theorem dX1_doDeed_59 : decode cX1_doDeed 59 = .ok (.aload_n 0, 1) := by decide +kernel
theorem dX1_doDeed_60 : decode cX1_doDeed 60 = .ok (.aload_n 1, 1) := by decide +kernel
theorem dX1_doDeed_61 : decode cX1_doDeed 61 = .ok (.iload_n 2, 1) := by decide +kernel
theorem dX1_doDeed_62 : decode cX1_doDeed 62 = .ok (.invokevirtual 140, 3) := by decide +kernel
theorem dX1_doDeed_65 : decode cX1_doDeed 65 = .ok (.goto 12, 3) := by decide +kernel
theorem dX1_doDeed_68 : decode cX1_doDeed 68 = .ok (.aload_n 0, 1) := by decide +kernel
theorem dX1_doDeed_69 : decode cX1_doDeed 69 = .ok (.aload_n 1, 1) := by decide +kernel
theorem dX1_doDeed_70 : decode cX1_doDeed 70 = .ok (.iload_n 2, 1) := by decide +kernel
theorem dX1_doDeed_71 : decode cX1_doDeed 71 = .ok (.iload_n 3, 1) := by decide +kernel
theorem dX1_doDeed_72 : decode cX1_doDeed 72 = .ok (.iconst 1, 1) := by decide +kernel
theorem dX1_doDeed_73 : decode cX1_doDeed 73 = .ok (.iadd, 1) := by decide +kernel
theorem dX1_doDeed_74 : decode cX1_doDeed 74 = .ok (.invokevirtual 144, 3) := by decide +kernel
theorem dX1_doDeed_77 : decode cX1_doDeed 77 = .ok (.ireturn, 1) := by decide +kernel
theorem dX1_doAlone_0 : decode cX1_doAlone 0 = .ok (.aload_n 1, 1) := by decide +kernel
theorem dX1_doAlone_1 : decode cX1_doAlone 1 = .ok (.getfield 98, 3) := by decide +kernel
theorem dX1_doAlone_4 : decode cX1_doAlone 4 = .ok (.tableswitch 107 0 6 #[44, 49, 56, 63, 70, 77, 100], 44) := by decide +kernel
theorem dX1_doAlone_48 : decode cX1_doAlone 48 = .ok (.aload_n 1, 1) := by decide +kernel
theorem dX1_doAlone_49 : decode cX1_doAlone 49 = .ok (.getfield 147, 3) := by decide +kernel
theorem dX1_doAlone_52 : decode cX1_doAlone 52 = .ok (.ireturn, 1) := by decide +kernel
theorem dX1_doAlone_53 : decode cX1_doAlone 53 = .ok (.aload_n 0, 1) := by decide +kernel
theorem dX1_doAlone_54 : decode cX1_doAlone 54 = .ok (.aload_n 1, 1) := by decide +kernel
theorem dX1_doAlone_55 : decode cX1_doAlone 55 = .ok (.iload_n 2, 1) := by decide +kernel
theorem dX1_doAlone_56 : decode cX1_doAlone 56 = .ok (.invokevirtual 150, 3) := by decide +kernel
theorem dX1_doAlone_59 : decode cX1_doAlone 59 = .ok (.ireturn, 1) := by decide +kernel
theorem dX1_doAlone_60 : decode cX1_doAlone 60 = .ok (.aload_n 0, 1) := by decide +kernel
theorem dX1_doAlone_61 : decode cX1_doAlone 61 = .ok (.aload_n 1, 1) := by decide +kernel
theorem dX1_doAlone_62 : decode cX1_doAlone 62 = .ok (.iload_n 2, 1) := by decide +kernel
theorem dX1_doAlone_63 : decode cX1_doAlone 63 = .ok (.invokevirtual 153, 3) := by decide +kernel
theorem dX1_doAlone_66 : decode cX1_doAlone 66 = .ok (.ireturn, 1) := by decide +kernel
theorem dX1_doAlone_67 : decode cX1_doAlone 67 = .ok (.aload_n 0, 1) := by decide +kernel
theorem dX1_doAlone_68 : decode cX1_doAlone 68 = .ok (.aload_n 1, 1) := by decide +kernel
theorem dX1_doAlone_69 : decode cX1_doAlone 69 = .ok (.iload_n 2, 1) := by decide +kernel
theorem dX1_doAlone_70 : decode cX1_doAlone 70 = .ok (.invokevirtual 156, 3) := by decide +kernel
theorem dX1_doAlone_73 : decode cX1_doAlone 73 = .ok (.ireturn, 1) := by decide +kernel
theorem dX1_doAlone_74 : decode cX1_doAlone 74 = .ok (.aload_n 0, 1) := by decide +kernel
theorem dX1_doAlone_75 : decode cX1_doAlone 75 = .ok (.aload_n 1, 1) := by decide +kernel
theorem dX1_doAlone_76 : decode cX1_doAlone 76 = .ok (.iload_n 2, 1) := by decide +kernel
theorem dX1_doAlone_77 : decode cX1_doAlone 77 = .ok (.invokevirtual 159, 3) := by decide +kernel
theorem dX1_doAlone_80 : decode cX1_doAlone 80 = .ok (.ireturn, 1) := by decide +kernel
theorem dX1_doAlone_81 : decode cX1_doAlone 81 = .ok (.aload_n 1, 1) := by decide +kernel
theorem dX1_doAlone_82 : decode cX1_doAlone 82 = .ok (.getfield 147, 3) := by decide +kernel
theorem dX1_doAlone_85 : decode cX1_doAlone 85 = .ok (.ifCond .ne 12, 3) := by decide +kernel
theorem dX1_doAlone_88 : decode cX1_doAlone 88 = .ok (.aload_n 0, 1) := by decide +kernel
theorem dX1_doAlone_89 : decode cX1_doAlone 89 = .ok (.bipush (-5), 2) := by decide +kernel
theorem dX1_doAlone_91 : decode cX1_doAlone 91 = .ok (.invokevirtual 137, 3) := by decide +kernel
theorem dX1_doAlone_94 : decode cX1_doAlone 94 = .ok (.goto 9, 3) := by decide +kernel
theorem dX1_doAlone_97 : decode cX1_doAlone 97 = .ok (.iload_n 2, 1) := by decide +kernel
theorem dX1_doAlone_98 : decode cX1_doAlone 98 = .ok (.aload_n 1, 1) := by decide +kernel
theorem dX1_doAlone_99 : decode cX1_doAlone 99 = .ok (.getfield 147, 3) := by decide +kernel
theorem dX1_doAlone_102 : decode cX1_doAlone 102 = .ok (.idiv, 1) := by decide +kernel
theorem dX1_doAlone_103 : decode cX1_doAlone 103 = .ok (.ireturn, 1) := by decide +kernel
theorem dX1_doAlone_104 : decode cX1_doAlone 104 = .ok (.iload_n 2, 1) := by decide +kernel
theorem dX1_doAlone_105 : decode cX1_doAlone 105 = .ok (.aload_n 1, 1) := by decide +kernel
theorem dX1_doAlone_106 : decode cX1_doAlone 106 = .ok (.getfield 147, 3) := by decide +kernel
theorem dX1_doAlone_109 : decode cX1_doAlone 109 = .ok (.iadd, 1) := by decide +kernel
theorem dX1_doAlone_110 : decode cX1_doAlone 110 = .ok (.ireturn, 1) := by decide +kernel
theorem dX1_doAlone_111 : decode cX1_doAlone 111 = .ok (.aload_n 0, 1) := by decide +kernel
theorem dX1_doAlone_112 : decode cX1_doAlone 112 = .ok (.bipush (-6), 2) := by decide +kernel
theorem dX1_doAlone_114 : decode cX1_doAlone 114 = .ok (.invokevirtual 137, 3) := by decide +kernel
theorem dX1_doAlone_117 : decode cX1_doAlone 117 = .ok (.ireturn, 1) := by decide +kernel
theorem dX1_doThroughOthers_0 : decode cX1_doThroughOthers 0 = .ok (.aload_n 1, 1) := by decide +kernel
theorem dX1_doThroughOthers_1 : decode cX1_doThroughOthers 1 = .ok (.getfield 98, 3) := by decide +kernel
theorem dX1_doThroughOthers_4 : decode cX1_doThroughOthers 4 = .ok (.tableswitch 143 7 14 #[48, 56, 86, 94, 102, 109, 117, 128], 48) := by decide +kernel
theorem dX1_doThroughOthers_52 : decode cX1_doThroughOthers 52 = .ok (.aload_n 0, 1) := by decide +kernel
theorem dX1_doThroughOthers_53 : decode cX1_doThroughOthers 53 = .ok (.aload_n 1, 1) := by decide +kernel
theorem dX1_doThroughOthers_54 : decode cX1_doThroughOthers 54 = .ok (.iload_n 2, 1) := by decide +kernel
theorem dX1_doThroughOthers_55 : decode cX1_doThroughOthers 55 = .ok (.iload_n 3, 1) := by decide +kernel
theorem dX1_doThroughOthers_56 : decode cX1_doThroughOthers 56 = .ok (.invokevirtual 162, 3) := by decide +kernel
theorem dX1_doThroughOthers_59 : decode cX1_doThroughOthers 59 = .ok (.ireturn, 1) := by decide +kernel
theorem dX1_doThroughOthers_60 : decode cX1_doThroughOthers 60 = .ok (.aload_n 0, 1) := by decide +kernel
theorem dX1_doThroughOthers_61 : decode cX1_doThroughOthers 61 = .ok (.aload_n 0, 1) := by decide +kernel
theorem dX1_doThroughOthers_62 : decode cX1_doThroughOthers 62 = .ok (.aload_n 1, 1) := by decide +kernel
theorem dX1_doThroughOthers_63 : decode cX1_doThroughOthers 63 = .ok (.getfield 165, 3) := by decide +kernel
theorem dX1_doThroughOthers_66 : decode cX1_doThroughOthers 66 = .ok (.invokevirtual 55, 3) := by decide +kernel
theorem dX1_doThroughOthers_69 : decode cX1_doThroughOthers 69 = .ok (.iload_n 2, 1) := by decide +kernel
theorem dX1_doThroughOthers_70 : decode cX1_doThroughOthers 70 = .ok (.if_icmp .le 10, 3) := by decide +kernel
theorem dX1_doThroughOthers_73 : decode cX1_doThroughOthers 73 = .ok (.aload_n 1, 1) := by decide +kernel
theorem dX1_doThroughOthers_74 : decode cX1_doThroughOthers 74 = .ok (.getfield 168, 3) := by decide +kernel
theorem dX1_doThroughOthers_77 : decode cX1_doThroughOthers 77 = .ok (.goto 7, 3) := by decide +kernel
theorem dX1_doThroughOthers_80 : decode cX1_doThroughOthers 80 = .ok (.aload_n 1, 1) := by decide +kernel
theorem dX1_doThroughOthers_81 : decode cX1_doThroughOthers 81 = .ok (.getfield 172, 3) := by decide +kernel
theorem dX1_doThroughOthers_84 : decode cX1_doThroughOthers 84 = .ok (.iload_n 2, 1) := by decide +kernel
theorem dX1_doThroughOthers_85 : decode cX1_doThroughOthers 85 = .ok (.iload_n 3, 1) := by decide +kernel
theorem dX1_doThroughOthers_86 : decode cX1_doThroughOthers 86 = .ok (.invokevirtual 110, 3) := by decide +kernel
theorem dX1_doThroughOthers_89 : decode cX1_doThroughOthers 89 = .ok (.ireturn, 1) := by decide +kernel
theorem dX1_doThroughOthers_90 : decode cX1_doThroughOthers 90 = .ok (.aload_n 0, 1) := by decide +kernel
theorem dX1_doThroughOthers_91 : decode cX1_doThroughOthers 91 = .ok (.aload_n 1, 1) := by decide +kernel
theorem dX1_doThroughOthers_92 : decode cX1_doThroughOthers 92 = .ok (.iload_n 2, 1) := by decide +kernel
theorem dX1_doThroughOthers_93 : decode cX1_doThroughOthers 93 = .ok (.iload_n 3, 1) := by decide +kernel
theorem dX1_doThroughOthers_94 : decode cX1_doThroughOthers 94 = .ok (.invokevirtual 175, 3) := by decide +kernel
theorem dX1_doThroughOthers_97 : decode cX1_doThroughOthers 97 = .ok (.ireturn, 1) := by decide +kernel
theorem dX1_doThroughOthers_98 : decode cX1_doThroughOthers 98 = .ok (.aload_n 0, 1) := by decide +kernel
theorem dX1_doThroughOthers_99 : decode cX1_doThroughOthers 99 = .ok (.aload_n 1, 1) := by decide +kernel
theorem dX1_doThroughOthers_100 : decode cX1_doThroughOthers 100 = .ok (.iload_n 2, 1) := by decide +kernel
theorem dX1_doThroughOthers_101 : decode cX1_doThroughOthers 101 = .ok (.iload_n 3, 1) := by decide +kernel
theorem dX1_doThroughOthers_102 : decode cX1_doThroughOthers 102 = .ok (.invokevirtual 178, 3) := by decide +kernel
theorem dX1_doThroughOthers_105 : decode cX1_doThroughOthers 105 = .ok (.ireturn, 1) := by decide +kernel
theorem dX1_doThroughOthers_106 : decode cX1_doThroughOthers 106 = .ok (.aload_n 0, 1) := by decide +kernel
theorem dX1_doThroughOthers_107 : decode cX1_doThroughOthers 107 = .ok (.aload_n 1, 1) := by decide +kernel
theorem dX1_doThroughOthers_108 : decode cX1_doThroughOthers 108 = .ok (.iload_n 2, 1) := by decide +kernel
theorem dX1_doThroughOthers_109 : decode cX1_doThroughOthers 109 = .ok (.invokevirtual 181, 3) := by decide +kernel
theorem dX1_doThroughOthers_112 : decode cX1_doThroughOthers 112 = .ok (.ireturn, 1) := by decide +kernel
theorem dX1_doThroughOthers_113 : decode cX1_doThroughOthers 113 = .ok (.aload_n 0, 1) := by decide +kernel
theorem dX1_doThroughOthers_114 : decode cX1_doThroughOthers 114 = .ok (.aload_n 1, 1) := by decide +kernel
theorem dX1_doThroughOthers_115 : decode cX1_doThroughOthers 115 = .ok (.iload_n 2, 1) := by decide +kernel
theorem dX1_doThroughOthers_116 : decode cX1_doThroughOthers 116 = .ok (.iload_n 3, 1) := by decide +kernel
theorem dX1_doThroughOthers_117 : decode cX1_doThroughOthers 117 = .ok (.invokevirtual 184, 3) := by decide +kernel
theorem dX1_doThroughOthers_120 : decode cX1_doThroughOthers 120 = .ok (.ireturn, 1) := by decide +kernel
theorem dX1_doThroughOthers_121 : decode cX1_doThroughOthers 121 = .ok (.aload_n 0, 1) := by decide +kernel
theorem dX1_doThroughOthers_122 : decode cX1_doThroughOthers 122 = .ok (.aload_n 1, 1) := by decide +kernel
theorem dX1_doThroughOthers_123 : decode cX1_doThroughOthers 123 = .ok (.getfield 147, 3) := by decide +kernel
theorem dX1_doThroughOthers_126 : decode cX1_doThroughOthers 126 = .ok (.iload_n 2, 1) := by decide +kernel
theorem dX1_doThroughOthers_127 : decode cX1_doThroughOthers 127 = .ok (.iload_n 3, 1) := by decide +kernel
theorem dX1_doThroughOthers_128 : decode cX1_doThroughOthers 128 = .ok (.invokevirtual 117, 3) := by decide +kernel
theorem dX1_doThroughOthers_131 : decode cX1_doThroughOthers 131 = .ok (.ireturn, 1) := by decide +kernel
theorem dX1_doThroughOthers_132 : decode cX1_doThroughOthers 132 = .ok (.aload_n 0, 1) := by decide +kernel
theorem dX1_doThroughOthers_133 : decode cX1_doThroughOthers 133 = .ok (.aload_n 0, 1) := by decide +kernel
theorem dX1_doThroughOthers_134 : decode cX1_doThroughOthers 134 = .ok (.aload_n 1, 1) := by decide +kernel
theorem dX1_doThroughOthers_135 : decode cX1_doThroughOthers 135 = .ok (.getfield 147, 3) := by decide +kernel
theorem dX1_doThroughOthers_138 : decode cX1_doThroughOthers 138 = .ok (.invokevirtual 85, 3) := by decide +kernel
theorem dX1_doThroughOthers_141 : decode cX1_doThroughOthers 141 = .ok (.iload_n 2, 1) := by decide +kernel
theorem dX1_doThroughOthers_142 : decode cX1_doThroughOthers 142 = .ok (.iload_n 3, 1) := by decide +kernel
theorem dX1_doThroughOthers_143 : decode cX1_doThroughOthers 143 = .ok (.invokevirtual 110, 3) := by decide +kernel
theorem dX1_doThroughOthers_146 : decode cX1_doThroughOthers 146 = .ok (.ireturn, 1) := by decide +kernel
theorem dX1_doThroughOthers_147 : decode cX1_doThroughOthers 147 = .ok (.aload_n 0, 1) := by decide +kernel
theorem dX1_doThroughOthers_148 : decode cX1_doThroughOthers 148 = .ok (.bipush (-6), 2) := by decide +kernel
theorem dX1_doThroughOthers_150 : decode cX1_doThroughOthers 150 = .ok (.invokevirtual 137, 3) := by decide +kernel
theorem dX1_doThroughOthers_153 : decode cX1_doThroughOthers 153 = .ok (.ireturn, 1) := by decide +kernel
theorem dX1_doSet_0 : decode cX1_doSet 0 = .ok (.aload_n 0, 1) := by decide +kernel
theorem dX1_doSet_1 : decode cX1_doSet 1 = .ok (.aload_n 1, 1) := by decide +kernel
theorem dX1_doSet_2 : decode cX1_doSet 2 = .ok (.getfield 147, 3) := by decide +kernel
theorem dX1_doSet_5 : decode cX1_doSet 5 = .ok (.invokevirtual 55, 3) := by decide +kernel
theorem dX1_doSet_8 : decode cX1_doSet 8 = .ok (.istore_n 3, 1) := by decide +kernel
theorem dX1_doSet_9 : decode cX1_doSet 9 = .ok (.aload_n 0, 1) := by decide +kernel
theorem dX1_doSet_10 : decode cX1_doSet 10 = .ok (.aload_n 1, 1) := by decide +kernel
theorem dX1_doSet_11 : decode cX1_doSet 11 = .ok (.getfield 147, 3) := by decide +kernel
theorem dX1_doSet_14 : decode cX1_doSet 14 = .ok (.iload_n 2, 1) := by decide +kernel
theorem dX1_doSet_15 : decode cX1_doSet 15 = .ok (.invokevirtual 59, 3) := by decide +kernel
theorem dX1_doSet_18 : decode cX1_doSet 18 = .ok (.iload_n 3, 1) := by decide +kernel
theorem dX1_doSet_19 : decode cX1_doSet 19 = .ok (.ireturn, 1) := by decide +kernel
theorem dX1_doAdd_0 : decode cX1_doAdd 0 = .ok (.aload_n 0, 1) := by decide +kernel
theorem dX1_doAdd_1 : decode cX1_doAdd 1 = .ok (.aload_n 1, 1) := by decide +kernel
theorem dX1_doAdd_2 : decode cX1_doAdd 2 = .ok (.getfield 147, 3) := by decide +kernel
theorem dX1_doAdd_5 : decode cX1_doAdd 5 = .ok (.aload_n 0, 1) := by decide +kernel
theorem dX1_doAdd_6 : decode cX1_doAdd 6 = .ok (.aload_n 1, 1) := by decide +kernel
theorem dX1_doAdd_7 : decode cX1_doAdd 7 = .ok (.getfield 147, 3) := by decide +kernel
theorem dX1_doAdd_10 : decode cX1_doAdd 10 = .ok (.invokevirtual 55, 3) := by decide +kernel
theorem dX1_doAdd_13 : decode cX1_doAdd 13 = .ok (.iload_n 2, 1) := by decide +kernel
theorem dX1_doAdd_14 : decode cX1_doAdd 14 = .ok (.aload_n 1, 1) := by decide +kernel
theorem dX1_doAdd_15 : decode cX1_doAdd 15 = .ok (.getfield 187, 3) := by decide +kernel
theorem dX1_doAdd_18 : decode cX1_doAdd 18 = .ok (.imul, 1) := by decide +kernel
theorem dX1_doAdd_19 : decode cX1_doAdd 19 = .ok (.iadd, 1) := by decide +kernel
theorem dX1_doAdd_20 : decode cX1_doAdd 20 = .ok (.invokevirtual 59, 3) := by decide +kernel
theorem dX1_doAdd_23 : decode cX1_doAdd 23 = .ok (.aload_n 0, 1) := by decide +kernel
theorem dX1_doAdd_24 : decode cX1_doAdd 24 = .ok (.aload_n 1, 1) := by decide +kernel
theorem dX1_doAdd_25 : decode cX1_doAdd 25 = .ok (.getfield 147, 3) := by decide +kernel
theorem dX1_doAdd_28 : decode cX1_doAdd 28 = .ok (.invokevirtual 55, 3) := by decide +kernel
theorem dX1_doAdd_31 : decode cX1_doAdd 31 = .ok (.ireturn, 1) := by decide +kernel
theorem dX1_doDraw_0 : decode cX1_doDraw 0 = .ok (.iload_n 2, 1) := by decide +kernel
theorem dX1_doDraw_1 : decode cX1_doDraw 1 = .ok (.ifCond .lt 15, 3) := by decide +kernel
theorem dX1_doDraw_4 : decode cX1_doDraw 4 = .ok (.iload_n 2, 1) := by decide +kernel
theorem dX1_doDraw_5 : decode cX1_doDraw 5 = .ok (.aload_n 0, 1) := by decide +kernel
theorem dX1_doDraw_6 : decode cX1_doDraw 6 = .ok (.aload_n 1, 1) := by decide +kernel
theorem dX1_doDraw_7 : decode cX1_doDraw 7 = .ok (.getfield 147, 3) := by decide +kernel
theorem dX1_doDraw_10 : decode cX1_doDraw 10 = .ok (.invokevirtual 55, 3) := by decide +kernel
theorem dX1_doDraw_13 : decode cX1_doDraw 13 = .ok (.if_icmp .le 10, 3) := by decide +kernel
theorem dX1_doDraw_16 : decode cX1_doDraw 16 = .ok (.aload_n 0, 1) := by decide +kernel
theorem dX1_doDraw_17 : decode cX1_doDraw 17 = .ok (.bipush (-3), 2) := by decide +kernel
theorem dX1_doDraw_19 : decode cX1_doDraw 19 = .ok (.invokevirtual 137, 3) := by decide +kernel
theorem dX1_doDraw_22 : decode cX1_doDraw 22 = .ok (.ireturn, 1) := by decide +kernel
theorem dX1_doDraw_23 : decode cX1_doDraw 23 = .ok (.aload_n 0, 1) := by decide +kernel
theorem dX1_doDraw_24 : decode cX1_doDraw 24 = .ok (.aload_n 1, 1) := by decide +kernel
theorem dX1_doDraw_25 : decode cX1_doDraw 25 = .ok (.getfield 147, 3) := by decide +kernel
theorem dX1_doDraw_28 : decode cX1_doDraw 28 = .ok (.aload_n 0, 1) := by decide +kernel
theorem dX1_doDraw_29 : decode cX1_doDraw 29 = .ok (.aload_n 1, 1) := by decide +kernel
theorem dX1_doDraw_30 : decode cX1_doDraw 30 = .ok (.getfield 147, 3) := by decide +kernel
theorem dX1_doDraw_33 : decode cX1_doDraw 33 = .ok (.invokevirtual 55, 3) := by decide +kernel
theorem dX1_doDraw_36 : decode cX1_doDraw 36 = .ok (.iload_n 2, 1) := by decide +kernel
theorem dX1_doDraw_37 : decode cX1_doDraw 37 = .ok (.isub, 1) := by decide +kernel
theorem dX1_doDraw_38 : decode cX1_doDraw 38 = .ok (.invokevirtual 59, 3) := by decide +kernel
theorem dX1_doDraw_41 : decode cX1_doDraw 41 = .ok (.aload_n 0, 1) := by decide +kernel
theorem dX1_doDraw_42 : decode cX1_doDraw 42 = .ok (.aload_n 1, 1) := by decide +kernel
theorem dX1_doDraw_43 : decode cX1_doDraw 43 = .ok (.getfield 187, 3) := by decide +kernel
theorem dX1_doDraw_46 : decode cX1_doDraw 46 = .ok (.aload_n 0, 1) := by decide +kernel
theorem dX1_doDraw_47 : decode cX1_doDraw 47 = .ok (.aload_n 1, 1) := by decide +kernel
theorem dX1_doDraw_48 : decode cX1_doDraw 48 = .ok (.getfield 187, 3) := by decide +kernel
theorem dX1_doDraw_51 : decode cX1_doDraw 51 = .ok (.invokevirtual 55, 3) := by decide +kernel
theorem dX1_doDraw_54 : decode cX1_doDraw 54 = .ok (.iload_n 2, 1) := by decide +kernel
theorem dX1_doDraw_55 : decode cX1_doDraw 55 = .ok (.iadd, 1) := by decide +kernel
theorem dX1_doDraw_56 : decode cX1_doDraw 56 = .ok (.invokevirtual 59, 3) := by decide +kernel
theorem dX1_doDraw_59 : decode cX1_doDraw 59 = .ok (.aload_n 0, 1) := by decide +kernel
theorem dX1_doDraw_60 : decode cX1_doDraw 60 = .ok (.aload_n 1, 1) := by decide +kernel
theorem dX1_doDraw_61 : decode cX1_doDraw 61 = .ok (.getfield 147, 3) := by decide +kernel
theorem dX1_doDraw_64 : decode cX1_doDraw 64 = .ok (.invokevirtual 55, 3) := by decide +kernel
theorem dX1_doDraw_67 : decode cX1_doDraw 67 = .ok (.ireturn, 1) := by decide +kernel
theorem dX1_doMark_0 : decode cX1_doMark 0 = .ok (.aload_n 1, 1) := by decide +kernel
theorem dX1_doMark_1 : decode cX1_doMark 1 = .ok (.getfield 190, 3) := by decide +kernel
theorem dX1_doMark_4 : decode cX1_doMark 4 = .ok (.astore_n 3, 1) := by decide +kernel
theorem dX1_doMark_5 : decode cX1_doMark 5 = .ok (.aload_n 3, 1) := by decide +kernel
theorem dX1_doMark_6 : decode cX1_doMark 6 = .ok (.aload_n 1, 1) := by decide +kernel
theorem dX1_doMark_7 : decode cX1_doMark 7 = .ok (.getfield 187, 3) := by decide +kernel
theorem dX1_doMark_10 : decode cX1_doMark 10 = .ok (.invokestatic 71, 3) := by decide +kernel
theorem dX1_doMark_13 : decode cX1_doMark 13 = .ok (.ifCond .ne 10, 3) := by decide +kernel
theorem dX1_doMark_16 : decode cX1_doMark 16 = .ok (.aload_n 0, 1) := by decide +kernel
theorem dX1_doMark_17 : decode cX1_doMark 17 = .ok (.bipush (-4), 2) := by decide +kernel
theorem dX1_doMark_19 : decode cX1_doMark 19 = .ok (.invokevirtual 137, 3) := by decide +kernel
theorem dX1_doMark_22 : decode cX1_doMark 22 = .ok (.ireturn, 1) := by decide +kernel
theorem dX1_doMark_23 : decode cX1_doMark 23 = .ok (.aload_n 3, 1) := by decide +kernel
theorem dX1_doMark_24 : decode cX1_doMark 24 = .ok (.aload_n 1, 1) := by decide +kernel
theorem dX1_doMark_25 : decode cX1_doMark 25 = .ok (.getfield 187, 3) := by decide +kernel
theorem dX1_doMark_28 : decode cX1_doMark 28 = .ok (.dup2, 1) := by decide +kernel
theorem dX1_doMark_29 : decode cX1_doMark 29 = .ok (.iaload, 1) := by decide +kernel
theorem dX1_doMark_30 : decode cX1_doMark 30 = .ok (.iload_n 2, 1) := by decide +kernel
theorem dX1_doMark_31 : decode cX1_doMark 31 = .ok (.iadd, 1) := by decide +kernel
theorem dX1_doMark_32 : decode cX1_doMark 32 = .ok (.iastore, 1) := by decide +kernel
theorem dX1_doMark_33 : decode cX1_doMark 33 = .ok (.aload_n 3, 1) := by decide +kernel
theorem dX1_doMark_34 : decode cX1_doMark 34 = .ok (.aload_n 1, 1) := by decide +kernel
theorem dX1_doMark_35 : decode cX1_doMark 35 = .ok (.getfield 187, 3) := by decide +kernel
theorem dX1_doMark_38 : decode cX1_doMark 38 = .ok (.iaload, 1) := by decide +kernel
theorem dX1_doMark_39 : decode cX1_doMark 39 = .ok (.ireturn, 1) := by decide +kernel
theorem dX1_doThen_0 : decode cX1_doThen 0 = .ok (.aload_n 0, 1) := by decide +kernel
theorem dX1_doThen_1 : decode cX1_doThen 1 = .ok (.aload_n 1, 1) := by decide +kernel
theorem dX1_doThen_2 : decode cX1_doThen 2 = .ok (.getfield 172, 3) := by decide +kernel
theorem dX1_doThen_5 : decode cX1_doThen 5 = .ok (.iload_n 2, 1) := by decide +kernel
theorem dX1_doThen_6 : decode cX1_doThen 6 = .ok (.iload_n 3, 1) := by decide +kernel
theorem dX1_doThen_7 : decode cX1_doThen 7 = .ok (.invokevirtual 110, 3) := by decide +kernel
theorem dX1_doThen_10 : decode cX1_doThen 10 = .ok (.istore 4, 2) := by decide +kernel
theorem dX1_doThen_12 : decode cX1_doThen 12 = .ok (.aload_n 0, 1) := by decide +kernel
theorem dX1_doThen_13 : decode cX1_doThen 13 = .ok (.getfield 49, 3) := by decide +kernel
theorem dX1_doThen_16 : decode cX1_doThen 16 = .ok (.ifCond .ne 17, 3) := by decide +kernel
theorem dX1_doThen_19 : decode cX1_doThen 19 = .ok (.aload_n 0, 1) := by decide +kernel
theorem dX1_doThen_20 : decode cX1_doThen 20 = .ok (.aload_n 1, 1) := by decide +kernel
theorem dX1_doThen_21 : decode cX1_doThen 21 = .ok (.getfield 168, 3) := by decide +kernel
theorem dX1_doThen_24 : decode cX1_doThen 24 = .ok (.iload 4, 2) := by decide +kernel
theorem dX1_doThen_26 : decode cX1_doThen 26 = .ok (.iload_n 3, 1) := by decide +kernel
theorem dX1_doThen_27 : decode cX1_doThen 27 = .ok (.invokevirtual 110, 3) := by decide +kernel
theorem dX1_doThen_30 : decode cX1_doThen 30 = .ok (.goto 4, 3) := by decide +kernel
theorem dX1_doThen_33 : decode cX1_doThen 33 = .ok (.iconst 0, 1) := by decide +kernel
theorem dX1_doThen_34 : decode cX1_doThen 34 = .ok (.ireturn, 1) := by decide +kernel
theorem dX1_doTimes_0 : decode cX1_doTimes 0 = .ok (.iload_n 2, 1) := by decide +kernel
theorem dX1_doTimes_1 : decode cX1_doTimes 1 = .ok (.istore 4, 2) := by decide +kernel
theorem dX1_doTimes_3 : decode cX1_doTimes 3 = .ok (.iconst 0, 1) := by decide +kernel
theorem dX1_doTimes_4 : decode cX1_doTimes 4 = .ok (.istore 5, 2) := by decide +kernel
theorem dX1_doTimes_6 : decode cX1_doTimes 6 = .ok (.iload 5, 2) := by decide +kernel
theorem dX1_doTimes_8 : decode cX1_doTimes 8 = .ok (.aload_n 1, 1) := by decide +kernel
theorem dX1_doTimes_9 : decode cX1_doTimes 9 = .ok (.getfield 187, 3) := by decide +kernel
theorem dX1_doTimes_12 : decode cX1_doTimes 12 = .ok (.if_icmp .ge 29, 3) := by decide +kernel
theorem dX1_doTimes_15 : decode cX1_doTimes 15 = .ok (.aload_n 0, 1) := by decide +kernel
theorem dX1_doTimes_16 : decode cX1_doTimes 16 = .ok (.getfield 49, 3) := by decide +kernel
theorem dX1_doTimes_19 : decode cX1_doTimes 19 = .ok (.ifCond .ne 22, 3) := by decide +kernel
theorem dX1_doTimes_22 : decode cX1_doTimes 22 = .ok (.aload_n 0, 1) := by decide +kernel
theorem dX1_doTimes_23 : decode cX1_doTimes 23 = .ok (.aload_n 1, 1) := by decide +kernel
theorem dX1_doTimes_24 : decode cX1_doTimes 24 = .ok (.getfield 172, 3) := by decide +kernel
theorem dX1_doTimes_27 : decode cX1_doTimes 27 = .ok (.iload 4, 2) := by decide +kernel
theorem dX1_doTimes_29 : decode cX1_doTimes 29 = .ok (.iload_n 3, 1) := by decide +kernel
theorem dX1_doTimes_30 : decode cX1_doTimes 30 = .ok (.invokevirtual 110, 3) := by decide +kernel
theorem dX1_doTimes_33 : decode cX1_doTimes 33 = .ok (.istore 4, 2) := by decide +kernel
theorem dX1_doTimes_35 : decode cX1_doTimes 35 = .ok (.iinc 5 1, 3) := by decide +kernel
theorem dX1_doTimes_38 : decode cX1_doTimes 38 = .ok (.goto (-32), 3) := by decide +kernel
theorem dX1_doTimes_41 : decode cX1_doTimes 41 = .ok (.iload 4, 2) := by decide +kernel
theorem dX1_doTimes_43 : decode cX1_doTimes 43 = .ok (.ireturn, 1) := by decide +kernel
theorem dX1_doTry_0 : decode cX1_doTry 0 = .ok (.aload_n 0, 1) := by decide +kernel
theorem dX1_doTry_1 : decode cX1_doTry 1 = .ok (.aload_n 1, 1) := by decide +kernel
theorem dX1_doTry_2 : decode cX1_doTry 2 = .ok (.getfield 172, 3) := by decide +kernel
theorem dX1_doTry_5 : decode cX1_doTry 5 = .ok (.iload_n 2, 1) := by decide +kernel
theorem dX1_doTry_6 : decode cX1_doTry 6 = .ok (.iload_n 3, 1) := by decide +kernel
theorem dX1_doTry_7 : decode cX1_doTry 7 = .ok (.invokevirtual 110, 3) := by decide +kernel
theorem dX1_doTry_10 : decode cX1_doTry 10 = .ok (.istore 4, 2) := by decide +kernel
theorem dX1_doTry_12 : decode cX1_doTry 12 = .ok (.aload_n 0, 1) := by decide +kernel
theorem dX1_doTry_13 : decode cX1_doTry 13 = .ok (.getfield 49, 3) := by decide +kernel
theorem dX1_doTry_16 : decode cX1_doTry 16 = .ok (.ifCond .eq 21, 3) := by decide +kernel
theorem dX1_doTry_19 : decode cX1_doTry 19 = .ok (.aload_n 0, 1) := by decide +kernel
theorem dX1_doTry_20 : decode cX1_doTry 20 = .ok (.getfield 49, 3) := by decide +kernel
theorem dX1_doTry_23 : decode cX1_doTry 23 = .ok (.bipush (-8), 2) := by decide +kernel
theorem dX1_doTry_25 : decode cX1_doTry 25 = .ok (.if_icmp .eq 12, 3) := by decide +kernel
theorem dX1_doTry_28 : decode cX1_doTry 28 = .ok (.aload_n 0, 1) := by decide +kernel
theorem dX1_doTry_29 : decode cX1_doTry 29 = .ok (.getfield 49, 3) := by decide +kernel
theorem dX1_doTry_32 : decode cX1_doTry 32 = .ok (.bipush (-9), 2) := by decide +kernel
theorem dX1_doTry_34 : decode cX1_doTry 34 = .ok (.if_icmp .ne 6, 3) := by decide +kernel
theorem dX1_doTry_37 : decode cX1_doTry 37 = .ok (.iload 4, 2) := by decide +kernel
theorem dX1_doTry_39 : decode cX1_doTry 39 = .ok (.ireturn, 1) := by decide +kernel
theorem dX1_doTry_40 : decode cX1_doTry 40 = .ok (.aload_n 0, 1) := by decide +kernel
theorem dX1_doTry_41 : decode cX1_doTry 41 = .ok (.iconst 0, 1) := by decide +kernel
theorem dX1_doTry_42 : decode cX1_doTry 42 = .ok (.putfield 49, 3) := by decide +kernel
theorem dX1_doTry_45 : decode cX1_doTry 45 = .ok (.aload_n 0, 1) := by decide +kernel
theorem dX1_doTry_46 : decode cX1_doTry 46 = .ok (.aload_n 1, 1) := by decide +kernel
theorem dX1_doTry_47 : decode cX1_doTry 47 = .ok (.getfield 168, 3) := by decide +kernel
theorem dX1_doTry_50 : decode cX1_doTry 50 = .ok (.iload_n 2, 1) := by decide +kernel
theorem dX1_doTry_51 : decode cX1_doTry 51 = .ok (.iload_n 3, 1) := by decide +kernel
theorem dX1_doTry_52 : decode cX1_doTry 52 = .ok (.invokevirtual 110, 3) := by decide +kernel
theorem dX1_doTry_55 : decode cX1_doTry 55 = .ok (.ireturn, 1) := by decide +kernel
theorem dX1_doLater_0 : decode cX1_doLater 0 = .ok (.aload_n 0, 1) := by decide +kernel
theorem dX1_doLater_1 : decode cX1_doLater 1 = .ok (.getfield 37, 3) := by decide +kernel
theorem dX1_doLater_4 : decode cX1_doLater 4 = .ok (.bipush 12, 2) := by decide +kernel
theorem dX1_doLater_6 : decode cX1_doLater 6 = .ok (.if_icmp .lt 10, 3) := by decide +kernel
theorem dX1_doLater_9 : decode cX1_doLater 9 = .ok (.aload_n 0, 1) := by decide +kernel
theorem dX1_doLater_10 : decode cX1_doLater 10 = .ok (.bipush (-7), 2) := by decide +kernel
theorem dX1_doLater_12 : decode cX1_doLater 12 = .ok (.invokevirtual 137, 3) := by decide +kernel
theorem dX1_doLater_15 : decode cX1_doLater 15 = .ok (.ireturn, 1) := by decide +kernel
theorem dX1_doLater_16 : decode cX1_doLater 16 = .ok (.aload_n 0, 1) := by decide +kernel
theorem dX1_doLater_17 : decode cX1_doLater 17 = .ok (.getfield 33, 3) := by decide +kernel
theorem dX1_doLater_20 : decode cX1_doLater 20 = .ok (.aload_n 0, 1) := by decide +kernel
theorem dX1_doLater_21 : decode cX1_doLater 21 = .ok (.getfield 37, 3) := by decide +kernel
theorem dX1_doLater_24 : decode cX1_doLater 24 = .ok (.iadd, 1) := by decide +kernel
theorem dX1_doLater_25 : decode cX1_doLater 25 = .ok (.bipush 12, 2) := by decide +kernel
theorem dX1_doLater_27 : decode cX1_doLater 27 = .ok (.irem, 1) := by decide +kernel
theorem dX1_doLater_28 : decode cX1_doLater 28 = .ok (.istore_n 3, 1) := by decide +kernel
theorem dX1_doLater_29 : decode cX1_doLater 29 = .ok (.aload_n 0, 1) := by decide +kernel
theorem dX1_doLater_30 : decode cX1_doLater 30 = .ok (.getfield 27, 3) := by decide +kernel
theorem dX1_doLater_33 : decode cX1_doLater 33 = .ok (.iload_n 3, 1) := by decide +kernel
theorem dX1_doLater_34 : decode cX1_doLater 34 = .ok (.aload_n 1, 1) := by decide +kernel
theorem dX1_doLater_35 : decode cX1_doLater 35 = .ok (.getfield 172, 3) := by decide +kernel
theorem dX1_doLater_38 : decode cX1_doLater 38 = .ok (.aastore, 1) := by decide +kernel
theorem dX1_doLater_39 : decode cX1_doLater 39 = .ok (.aload_n 0, 1) := by decide +kernel
theorem dX1_doLater_40 : decode cX1_doLater 40 = .ok (.getfield 30, 3) := by decide +kernel
theorem dX1_doLater_43 : decode cX1_doLater 43 = .ok (.iload_n 3, 1) := by decide +kernel
theorem dX1_doLater_44 : decode cX1_doLater 44 = .ok (.iload_n 2, 1) := by decide +kernel
theorem dX1_doLater_45 : decode cX1_doLater 45 = .ok (.iastore, 1) := by decide +kernel
theorem dX1_doLater_46 : decode cX1_doLater 46 = .ok (.aload_n 0, 1) := by decide +kernel
theorem dX1_doLater_47 : decode cX1_doLater 47 = .ok (.dup, 1) := by decide +kernel
theorem dX1_doLater_48 : decode cX1_doLater 48 = .ok (.getfield 37, 3) := by decide +kernel
theorem dX1_doLater_51 : decode cX1_doLater 51 = .ok (.iconst 1, 1) := by decide +kernel
theorem dX1_doLater_52 : decode cX1_doLater 52 = .ok (.iadd, 1) := by decide +kernel
theorem dX1_doLater_53 : decode cX1_doLater 53 = .ok (.putfield 37, 3) := by decide +kernel
theorem dX1_doLater_56 : decode cX1_doLater 56 = .ok (.aload_n 0, 1) := by decide +kernel
theorem dX1_doLater_57 : decode cX1_doLater 57 = .ok (.getfield 37, 3) := by decide +kernel
theorem dX1_doLater_60 : decode cX1_doLater 60 = .ok (.ireturn, 1) := by decide +kernel
theorem dX1_doCount_0 : decode cX1_doCount 0 = .ok (.aload_n 0, 1) := by decide +kernel
theorem dX1_doCount_1 : decode cX1_doCount 1 = .ok (.aload_n 1, 1) := by decide +kernel
theorem dX1_doCount_2 : decode cX1_doCount 2 = .ok (.getfield 172, 3) := by decide +kernel
theorem dX1_doCount_5 : decode cX1_doCount 5 = .ok (.iload_n 2, 1) := by decide +kernel
theorem dX1_doCount_6 : decode cX1_doCount 6 = .ok (.iload_n 3, 1) := by decide +kernel
theorem dX1_doCount_7 : decode cX1_doCount 7 = .ok (.invokevirtual 110, 3) := by decide +kernel
theorem dX1_doCount_10 : decode cX1_doCount 10 = .ok (.pop, 1) := by decide +kernel
theorem dX1_doCount_11 : decode cX1_doCount 11 = .ok (.aload_n 0, 1) := by decide +kernel
theorem dX1_doCount_12 : decode cX1_doCount 12 = .ok (.getfield 49, 3) := by decide +kernel
theorem dX1_doCount_15 : decode cX1_doCount 15 = .ok (.ifCond .eq 5, 3) := by decide +kernel
theorem dX1_doCount_18 : decode cX1_doCount 18 = .ok (.iconst 0, 1) := by decide +kernel
theorem dX1_doCount_19 : decode cX1_doCount 19 = .ok (.ireturn, 1) := by decide +kernel
theorem dX1_doCount_20 : decode cX1_doCount 20 = .ok (.aload_n 1, 1) := by decide +kernel
theorem dX1_doCount_21 : decode cX1_doCount 21 = .ok (.dup, 1) := by decide +kernel
theorem dX1_doCount_22 : decode cX1_doCount 22 = .ok (.getfield 101, 3) := by decide +kernel
theorem dX1_doCount_25 : decode cX1_doCount 25 = .ok (.iconst 1, 1) := by decide +kernel
theorem dX1_doCount_26 : decode cX1_doCount 26 = .ok (.iadd, 1) := by decide +kernel
theorem dX1_doCount_27 : decode cX1_doCount 27 = .ok (.putfield 101, 3) := by decide +kernel
theorem dX1_doCount_30 : decode cX1_doCount 30 = .ok (.aload_n 1, 1) := by decide +kernel
theorem dX1_doCount_31 : decode cX1_doCount 31 = .ok (.getfield 101, 3) := by decide +kernel
theorem dX1_doCount_34 : decode cX1_doCount 34 = .ok (.ireturn, 1) := by decide +kernel
theorem dX1_doPlaces_0 : decode cX1_doPlaces 0 = .ok (.iload_n 2, 1) := by decide +kernel
theorem dX1_doPlaces_1 : decode cX1_doPlaces 1 = .ok (.istore 4, 2) := by decide +kernel
theorem dX1_doPlaces_3 : decode cX1_doPlaces 3 = .ok (.iconst 0, 1) := by decide +kernel
theorem dX1_doPlaces_4 : decode cX1_doPlaces 4 = .ok (.istore 5, 2) := by decide +kernel
theorem dX1_doPlaces_6 : decode cX1_doPlaces 6 = .ok (.iload 5, 2) := by decide +kernel
theorem dX1_doPlaces_8 : decode cX1_doPlaces 8 = .ok (.iconst 4, 1) := by decide +kernel
theorem dX1_doPlaces_9 : decode cX1_doPlaces 9 = .ok (.if_icmp .ge 32, 3) := by decide +kernel
theorem dX1_doPlaces_12 : decode cX1_doPlaces 12 = .ok (.aload_n 0, 1) := by decide +kernel
theorem dX1_doPlaces_13 : decode cX1_doPlaces 13 = .ok (.getfield 49, 3) := by decide +kernel
theorem dX1_doPlaces_16 : decode cX1_doPlaces 16 = .ok (.ifCond .ne 25, 3) := by decide +kernel
theorem dX1_doPlaces_19 : decode cX1_doPlaces 19 = .ok (.aload_n 0, 1) := by decide +kernel
theorem dX1_doPlaces_20 : decode cX1_doPlaces 20 = .ok (.aload_n 0, 1) := by decide +kernel
theorem dX1_doPlaces_21 : decode cX1_doPlaces 21 = .ok (.iload_n 1, 1) := by decide +kernel
theorem dX1_doPlaces_22 : decode cX1_doPlaces 22 = .ok (.iload 5, 2) := by decide +kernel
theorem dX1_doPlaces_24 : decode cX1_doPlaces 24 = .ok (.invokevirtual 193, 3) := by decide +kernel
theorem dX1_doPlaces_27 : decode cX1_doPlaces 27 = .ok (.iload 4, 2) := by decide +kernel
theorem dX1_doPlaces_29 : decode cX1_doPlaces 29 = .ok (.iload_n 3, 1) := by decide +kernel
theorem dX1_doPlaces_30 : decode cX1_doPlaces 30 = .ok (.invokevirtual 110, 3) := by decide +kernel
theorem dX1_doPlaces_33 : decode cX1_doPlaces 33 = .ok (.istore 4, 2) := by decide +kernel
theorem dX1_doPlaces_35 : decode cX1_doPlaces 35 = .ok (.iinc 5 1, 3) := by decide +kernel
theorem dX1_doPlaces_38 : decode cX1_doPlaces 38 = .ok (.goto (-32), 3) := by decide +kernel
theorem dX1_doPlaces_41 : decode cX1_doPlaces 41 = .ok (.iload 4, 2) := by decide +kernel
theorem dX1_doPlaces_43 : decode cX1_doPlaces 43 = .ok (.ireturn, 1) := by decide +kernel
