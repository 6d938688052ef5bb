theorem dX10_init_0 : decode cX10_init 0 = .ok (.aload_n 0, 1) := by decide +kernel
theorem dX10_init_1 : decode cX10_init 1 = .ok (.invokespecial 1, 3) := by decide +kernel
theorem dX10_init_4 : decode cX10_init 4 = .ok (.aload_n 0, 1) := by decide +kernel
theorem dX10_init_5 : decode cX10_init 5 = .ok (.iconst 4, 1) := by decide +kernel
theorem dX10_init_6 : decode cX10_init 6 = .ok (.newarray .int, 2) := by decide +kernel
theorem dX10_init_8 : decode cX10_init 8 = .ok (.putfield 7, 3) := by decide +kernel
theorem dX10_init_11 : decode cX10_init 11 = .ok (.aload_n 0, 1) := by decide +kernel
theorem dX10_init_12 : decode cX10_init 12 = .ok (.iconst 4, 1) := by decide +kernel
theorem dX10_init_13 : decode cX10_init 13 = .ok (.newarray .int, 2) := by decide +kernel
theorem dX10_init_15 : decode cX10_init 15 = .ok (.putfield 13, 3) := by decide +kernel
theorem dX10_init_18 : decode cX10_init 18 = .ok (.aload_n 0, 1) := by decide +kernel
theorem dX10_init_19 : decode cX10_init 19 = .ok (.sipush 240, 3) := by decide +kernel
theorem dX10_init_22 : decode cX10_init 22 = .ok (.newarray .int, 2) := by decide +kernel
theorem dX10_init_24 : decode cX10_init 24 = .ok (.putfield 16, 3) := by decide +kernel
theorem dX10_init_27 : decode cX10_init 27 = .ok (.aload_n 0, 1) := by decide +kernel
theorem dX10_init_28 : decode cX10_init 28 = .ok (.bipush 60, 2) := by decide +kernel
theorem dX10_init_30 : decode cX10_init 30 = .ok (.newarray .int, 2) := by decide +kernel
theorem dX10_init_32 : decode cX10_init 32 = .ok (.putfield 19, 3) := by decide +kernel
theorem dX10_init_35 : decode cX10_init 35 = .ok (.aload_n 0, 1) := by decide +kernel
theorem dX10_init_36 : decode cX10_init 36 = .ok (.sipush 144, 3) := by decide +kernel
theorem dX10_init_39 : decode cX10_init 39 = .ok (.newarray .int, 2) := by decide +kernel
theorem dX10_init_41 : decode cX10_init 41 = .ok (.putfield 22, 3) := by decide +kernel
theorem dX10_init_44 : decode cX10_init 44 = .ok (.aload_n 0, 1) := by decide +kernel
theorem dX10_init_45 : decode cX10_init 45 = .ok (.iconst 2, 1) := by decide +kernel
theorem dX10_init_46 : decode cX10_init 46 = .ok (.newarray .int, 2) := by decide +kernel
theorem dX10_init_48 : decode cX10_init 48 = .ok (.putfield 25, 3) := by decide +kernel
theorem dX10_init_51 : decode cX10_init 51 = .ok (.aload_n 0, 1) := by decide +kernel
theorem dX10_init_52 : decode cX10_init 52 = .ok (.iconst 2, 1) := by decide +kernel
theorem dX10_init_53 : decode cX10_init 53 = .ok (.newarray .int, 2) := by decide +kernel
theorem dX10_init_55 : decode cX10_init 55 = .ok (.putfield 28, 3) := by decide +kernel
theorem dX10_init_58 : decode cX10_init 58 = .ok (.aload_n 0, 1) := by decide +kernel
theorem dX10_init_59 : decode cX10_init 59 = .ok (.bipush 60, 2) := by decide +kernel
theorem dX10_init_61 : decode cX10_init 61 = .ok (.newarray .int, 2) := by decide +kernel
theorem dX10_init_63 : decode cX10_init 63 = .ok (.putfield 31, 3) := by decide +kernel
theorem dX10_init_66 : decode cX10_init 66 = .ok (.aload_n 0, 1) := by decide +kernel
theorem dX10_init_67 : decode cX10_init 67 = .ok (.bipush 36, 2) := by decide +kernel
theorem dX10_init_69 : decode cX10_init 69 = .ok (.newarray .int, 2) := by decide +kernel
theorem dX10_init_71 : decode cX10_init 71 = .ok (.putfield 34, 3) := by decide +kernel
theorem dX10_init_74 : decode cX10_init 74 = .ok (.aload_n 0, 1) := by decide +kernel
theorem dX10_init_75 : decode cX10_init 75 = .ok (.bipush 24, 2) := by decide +kernel
theorem dX10_init_77 : decode cX10_init 77 = .ok (.newarray .int, 2) := by decide +kernel
theorem dX10_init_79 : decode cX10_init 79 = .ok (.putfield 37, 3) := by decide +kernel
theorem dX10_init_82 : decode cX10_init 82 = .ok (.aload_n 0, 1) := by decide +kernel
theorem dX10_init_83 : decode cX10_init 83 = .ok (.bipush 24, 2) := by decide +kernel
theorem dX10_init_85 : decode cX10_init 85 = .ok (.newarray .int, 2) := by decide +kernel
theorem dX10_init_87 : decode cX10_init 87 = .ok (.putfield 40, 3) := by decide +kernel
theorem dX10_init_90 : decode cX10_init 90 = .ok (.aload_n 0, 1) := by decide +kernel
theorem dX10_init_91 : decode cX10_init 91 = .ok (.bipush 12, 2) := by decide +kernel
theorem dX10_init_93 : decode cX10_init 93 = .ok (.newarray .int, 2) := by decide +kernel
theorem dX10_init_95 : decode cX10_init 95 = .ok (.putfield 43, 3) := by decide +kernel
theorem dX10_init_98 : decode cX10_init 98 = .ok (.aload_n 0, 1) := by decide +kernel
theorem dX10_init_99 : decode cX10_init 99 = .ok (.bipush 12, 2) := by decide +kernel
theorem dX10_init_101 : decode cX10_init 101 = .ok (.newarray .int, 2) := by decide +kernel
theorem dX10_init_103 : decode cX10_init 103 = .ok (.putfield 46, 3) := by decide +kernel
theorem dX10_init_106 : decode cX10_init 106 = .ok (.aload_n 0, 1) := by decide +kernel
theorem dX10_init_107 : decode cX10_init 107 = .ok (.iconst 4, 1) := by decide +kernel
theorem dX10_init_108 : decode cX10_init 108 = .ok (.newarray .int, 2) := by decide +kernel
theorem dX10_init_110 : decode cX10_init 110 = .ok (.putfield 49, 3) := by decide +kernel
theorem dX10_init_113 : decode cX10_init 113 = .ok (.aload_n 0, 1) := by decide +kernel
theorem dX10_init_114 : decode cX10_init 114 = .ok (.iconst 4, 1) := by decide +kernel
theorem dX10_init_115 : decode cX10_init 115 = .ok (.newarray .int, 2) := by decide +kernel
theorem dX10_init_117 : decode cX10_init 117 = .ok (.putfield 52, 3) := by decide +kernel
theorem dX10_init_120 : decode cX10_init 120 = .ok (.aload_n 0, 1) := by decide +kernel
theorem dX10_init_121 : decode cX10_init 121 = .ok (.iconst 4, 1) := by decide +kernel
theorem dX10_init_122 : decode cX10_init 122 = .ok (.newarray .int, 2) := by decide +kernel
theorem dX10_init_124 : decode cX10_init 124 = .ok (.putfield 55, 3) := by decide +kernel
theorem dX10_init_127 : decode cX10_init 127 = .ok (.aload_n 0, 1) := by decide +kernel
theorem dX10_init_128 : decode cX10_init 128 = .ok (.bipush 16, 2) := by decide +kernel
theorem dX10_init_130 : decode cX10_init 130 = .ok (.newarray .int, 2) := by decide +kernel
theorem dX10_init_132 : decode cX10_init 132 = .ok (.putfield 58, 3) := by decide +kernel
theorem dX10_init_135 : decode cX10_init 135 = .ok (.aload_n 0, 1) := by decide +kernel
theorem dX10_init_136 : decode cX10_init 136 = .ok (.sipush 192, 3) := by decide +kernel
theorem dX10_init_139 : decode cX10_init 139 = .ok (.newarray .int, 2) := by decide +kernel
theorem dX10_init_141 : decode cX10_init 141 = .ok (.putfield 61, 3) := by decide +kernel
theorem dX10_init_144 : decode cX10_init 144 = .ok (.iconst 0, 1) := by decide +kernel
theorem dX10_init_145 : decode cX10_init 145 = .ok (.istore_n 1, 1) := by decide +kernel
theorem dX10_init_146 : decode cX10_init 146 = .ok (.iload_n 1, 1) := by decide +kernel
theorem dX10_init_147 : decode cX10_init 147 = .ok (.iconst 4, 1) := by decide +kernel
theorem dX10_init_148 : decode cX10_init 148 = .ok (.if_icmp .ge 16, 3) := by decide +kernel
theorem dX10_init_151 : decode cX10_init 151 = .ok (.aload_n 0, 1) := by decide +kernel
theorem dX10_init_152 : decode cX10_init 152 = .ok (.getfield 7, 3) := by decide +kernel
theorem dX10_init_155 : decode cX10_init 155 = .ok (.iload_n 1, 1) := by decide +kernel
theorem dX10_init_156 : decode cX10_init 156 = .ok (.iconst (-1), 1) := by decide +kernel
theorem dX10_init_157 : decode cX10_init 157 = .ok (.iastore, 1) := by decide +kernel
theorem dX10_init_158 : decode cX10_init 158 = .ok (.iinc 1 1, 3) := by decide +kernel
theorem dX10_init_161 : decode cX10_init 161 = .ok (.goto (-15), 3) := by decide +kernel
theorem dX10_init_164 : decode cX10_init 164 = .ok (.return_, 1) := by decide +kernel
theorem dX10_in_0 : decode cX10_in 0 = .ok (.lload_n 0, 1) := by decide +kernel
theorem dX10_in_1 : decode cX10_in 1 = .ok (.lload_n 2, 1) := by decide +kernel
theorem dX10_in_2 : decode cX10_in 2 = .ok (.lcmp, 1) := by decide +kernel
theorem dX10_in_3 : decode cX10_in 3 = .ok (.ifCond .lt 14, 3) := by decide +kernel
theorem dX10_in_6 : decode cX10_in 6 = .ok (.lload_n 0, 1) := by decide +kernel
theorem dX10_in_7 : decode cX10_in 7 = .ok (.lload 4, 2) := by decide +kernel
theorem dX10_in_9 : decode cX10_in 9 = .ok (.lcmp, 1) := by decide +kernel
theorem dX10_in_10 : decode cX10_in 10 = .ok (.ifCond .gt 7, 3) := by decide +kernel
theorem dX10_in_13 : decode cX10_in 13 = .ok (.iconst 1, 1) := by decide +kernel
theorem dX10_in_14 : decode cX10_in 14 = .ok (.goto 4, 3) := by decide +kernel
theorem dX10_in_17 : decode cX10_in 17 = .ok (.iconst 0, 1) := by decide +kernel
theorem dX10_in_18 : decode cX10_in 18 = .ok (.ireturn, 1) := by decide +kernel
theorem dX10_no_0 : decode cX10_no 0 = .ok (.ldc2_w 64, 3) := by decide +kernel
theorem dX10_no_3 : decode cX10_no 3 = .ok (.iload_n 0, 1) := by decide +kernel
theorem dX10_no_4 : decode cX10_no 4 = .ok (.i2l, 1) := by decide +kernel
theorem dX10_no_5 : decode cX10_no 5 = .ok (.lsub, 1) := by decide +kernel
theorem dX10_no_6 : decode cX10_no 6 = .ok (.lreturn, 1) := by decide +kernel
theorem dX10_isTwo_0 : decode cX10_isTwo 0 = .ok (.iload_n 0, 1) := by decide +kernel
theorem dX10_isTwo_1 : decode cX10_isTwo 1 = .ok (.i2l, 1) := by decide +kernel
theorem dX10_isTwo_2 : decode cX10_isTwo 2 = .ok (.lconst 0, 1) := by decide +kernel
theorem dX10_isTwo_3 : decode cX10_isTwo 3 = .ok (.lconst 1, 1) := by decide +kernel
theorem dX10_isTwo_4 : decode cX10_isTwo 4 = .ok (.invokestatic 66, 3) := by decide +kernel
theorem dX10_isTwo_7 : decode cX10_isTwo 7 = .ok (.ireturn, 1) := by decide +kernel
theorem dX10_isIn_0 : decode cX10_isIn 0 = .ok (.iload_n 0, 1) := by decide +kernel
theorem dX10_isIn_1 : decode cX10_isIn 1 = .ok (.iload_n 1, 1) := by decide +kernel
theorem dX10_isIn_2 : decode cX10_isIn 2 = .ok (.ishr, 1) := by decide +kernel
theorem dX10_isIn_3 : decode cX10_isIn 3 = .ok (.iconst 1, 1) := by decide +kernel
theorem dX10_isIn_4 : decode cX10_isIn 4 = .ok (.iand, 1) := by decide +kernel
theorem dX10_isIn_5 : decode cX10_isIn 5 = .ok (.iconst 1, 1) := by decide +kernel
theorem dX10_isIn_6 : decode cX10_isIn 6 = .ok (.if_icmp .ne 7, 3) := by decide +kernel
theorem dX10_isIn_9 : decode cX10_isIn 9 = .ok (.iconst 1, 1) := by decide +kernel
theorem dX10_isIn_10 : decode cX10_isIn 10 = .ok (.goto 4, 3) := by decide +kernel
theorem dX10_isIn_13 : decode cX10_isIn 13 = .ok (.iconst 0, 1) := by decide +kernel
theorem dX10_isIn_14 : decode cX10_isIn 14 = .ok (.ireturn, 1) := by decide +kernel
theorem dX10_ones_0 : decode cX10_ones 0 = .ok (.iconst 0, 1) := by decide +kernel
theorem dX10_ones_1 : decode cX10_ones 1 = .ok (.istore_n 1, 1) := by decide +kernel
theorem dX10_ones_2 : decode cX10_ones 2 = .ok (.iload_n 0, 1) := by decide +kernel
theorem dX10_ones_3 : decode cX10_ones 3 = .ok (.istore_n 2, 1) := by decide +kernel
theorem dX10_ones_4 : decode cX10_ones 4 = .ok (.iload_n 2, 1) := by decide +kernel
theorem dX10_ones_5 : decode cX10_ones 5 = .ok (.ifCond .eq 15, 3) := by decide +kernel
theorem dX10_ones_8 : decode cX10_ones 8 = .ok (.iinc 1 1, 3) := by decide +kernel
theorem dX10_ones_11 : decode cX10_ones 11 = .ok (.iload_n 2, 1) := by decide +kernel
theorem dX10_ones_12 : decode cX10_ones 12 = .ok (.iload_n 2, 1) := by decide +kernel
theorem dX10_ones_13 : decode cX10_ones 13 = .ok (.iconst 1, 1) := by decide +kernel
theorem dX10_ones_14 : decode cX10_ones 14 = .ok (.isub, 1) := by decide +kernel
theorem dX10_ones_15 : decode cX10_ones 15 = .ok (.iand, 1) := by decide +kernel
theorem dX10_ones_16 : decode cX10_ones 16 = .ok (.istore_n 2, 1) := by decide +kernel
theorem dX10_ones_17 : decode cX10_ones 17 = .ok (.goto (-13), 3) := by decide +kernel
theorem dX10_ones_20 : decode cX10_ones 20 = .ok (.iload_n 1, 1) := by decide +kernel
theorem dX10_ones_21 : decode cX10_ones 21 = .ok (.ireturn, 1) := by decide +kernel
theorem dX10_lesser_0 : decode cX10_lesser 0 = .ok (.iload_n 0, 1) := by decide +kernel
theorem dX10_lesser_1 : decode cX10_lesser 1 = .ok (.iload_n 1, 1) := by decide +kernel
theorem dX10_lesser_2 : decode cX10_lesser 2 = .ok (.if_icmp .ge 7, 3) := by decide +kernel
theorem dX10_lesser_5 : decode cX10_lesser 5 = .ok (.iload_n 0, 1) := by decide +kernel
theorem dX10_lesser_6 : decode cX10_lesser 6 = .ok (.goto 4, 3) := by decide +kernel
theorem dX10_lesser_9 : decode cX10_lesser 9 = .ok (.iload_n 1, 1) := by decide +kernel
theorem dX10_lesser_10 : decode cX10_lesser 10 = .ok (.ireturn, 1) := by decide +kernel
theorem dX10_part_0 : decode cX10_part 0 = .ok (.lload_n 0, 1) := by decide +kernel
theorem dX10_part_1 : decode cX10_part 1 = .ok (.lstore 5, 2) := by decide +kernel
theorem dX10_part_3 : decode cX10_part 3 = .ok (.lload_n 2, 1) := by decide +kernel
theorem dX10_part_4 : decode cX10_part 4 = .ok (.lstore 7, 2) := by decide +kernel
theorem dX10_part_6 : decode cX10_part 6 = .ok (.lload 7, 2) := by decide +kernel
theorem dX10_part_8 : decode cX10_part 8 = .ok (.lconst 0, 1) := by decide +kernel
theorem dX10_part_9 : decode cX10_part 9 = .ok (.lcmp, 1) := by decide +kernel
theorem dX10_part_10 : decode cX10_part 10 = .ok (.ifCond .eq 21, 3) := by decide +kernel
theorem dX10_part_13 : decode cX10_part 13 = .ok (.lload 5, 2) := by decide +kernel
theorem dX10_part_15 : decode cX10_part 15 = .ok (.lload 7, 2) := by decide +kernel
theorem dX10_part_17 : decode cX10_part 17 = .ok (.lrem, 1) := by decide +kernel
theorem dX10_part_18 : decode cX10_part 18 = .ok (.lstore 9, 2) := by decide +kernel
theorem dX10_part_20 : decode cX10_part 20 = .ok (.lload 7, 2) := by decide +kernel
theorem dX10_part_22 : decode cX10_part 22 = .ok (.lstore 5, 2) := by decide +kernel
theorem dX10_part_24 : decode cX10_part 24 = .ok (.lload 9, 2) := by decide +kernel
theorem dX10_part_26 : decode cX10_part 26 = .ok (.lstore 7, 2) := by decide +kernel
theorem dX10_part_28 : decode cX10_part 28 = .ok (.goto (-22), 3) := by decide +kernel
theorem dX10_part_31 : decode cX10_part 31 = .ok (.iload 4, 2) := by decide +kernel
theorem dX10_part_33 : decode cX10_part 33 = .ok (.ifCond .ne 7, 3) := by decide +kernel
theorem dX10_part_36 : decode cX10_part 36 = .ok (.lload_n 0, 1) := by decide +kernel
theorem dX10_part_37 : decode cX10_part 37 = .ok (.goto 4, 3) := by decide +kernel
theorem dX10_part_40 : decode cX10_part 40 = .ok (.lload_n 2, 1) := by decide +kernel
theorem dX10_part_41 : decode cX10_part 41 = .ok (.lload 5, 2) := by decide +kernel
theorem dX10_part_43 : decode cX10_part 43 = .ok (.ldiv, 1) := by decide +kernel
theorem dX10_part_44 : decode cX10_part 44 = .ok (.lreturn, 1) := by decide +kernel
theorem dX10_finds_0 : decode cX10_finds 0 = .ok (.aload_n 0, 1) := by decide +kernel
theorem dX10_finds_1 : decode cX10_finds 1 = .ok (.iload_n 1, 1) := by decide +kernel
theorem dX10_finds_2 : decode cX10_finds 2 = .ok (.putfield 70, 3) := by decide +kernel
theorem dX10_finds_5 : decode cX10_finds 5 = .ok (.bipush (-10), 2) := by decide +kernel
theorem dX10_finds_7 : decode cX10_finds 7 = .ok (.iload_n 1, 1) := by decide +kernel
theorem dX10_finds_8 : decode cX10_finds 8 = .ok (.isub, 1) := by decide +kernel
theorem dX10_finds_9 : decode cX10_finds 9 = .ok (.ireturn, 1) := by decide +kernel
theorem dX10_isSheet_0 : decode cX10_isSheet 0 = .ok (.iload_n 0, 1) := by decide +kernel
theorem dX10_isSheet_1 : decode cX10_isSheet 1 = .ok (.i2l, 1) := by decide +kernel
theorem dX10_isSheet_2 : decode cX10_isSheet 2 = .ok (.lconst 0, 1) := by decide +kernel
theorem dX10_isSheet_3 : decode cX10_isSheet 3 = .ok (.ldc2_w 74, 3) := by decide +kernel
theorem dX10_isSheet_6 : decode cX10_isSheet 6 = .ok (.invokestatic 66, 3) := by decide +kernel
theorem dX10_isSheet_9 : decode cX10_isSheet 9 = .ok (.ireturn, 1) := by decide +kernel
theorem dX10_sheet_0 : decode cX10_sheet 0 = .ok (.iload_n 1, 1) := by decide +kernel
theorem dX10_sheet_1 : decode cX10_sheet 1 = .ok (.invokestatic 76, 3) := by decide +kernel
theorem dX10_sheet_4 : decode cX10_sheet 4 = .ok (.ifCond .eq 21, 3) := by decide +kernel
theorem dX10_sheet_7 : decode cX10_sheet 7 = .ok (.iload_n 2, 1) := by decide +kernel
theorem dX10_sheet_8 : decode cX10_sheet 8 = .ok (.i2l, 1) := by decide +kernel
theorem dX10_sheet_9 : decode cX10_sheet 9 = .ok (.lconst 0, 1) := by decide +kernel
theorem dX10_sheet_10 : decode cX10_sheet 10 = .ok (.ldc2_w 80, 3) := by decide +kernel
theorem dX10_sheet_13 : decode cX10_sheet 13 = .ok (.invokestatic 66, 3) := by decide +kernel
theorem dX10_sheet_16 : decode cX10_sheet 16 = .ok (.ifCond .eq 9, 3) := by decide +kernel
theorem dX10_sheet_19 : decode cX10_sheet 19 = .ok (.iload_n 3, 1) := by decide +kernel
theorem dX10_sheet_20 : decode cX10_sheet 20 = .ok (.bipush 60, 2) := by decide +kernel
theorem dX10_sheet_22 : decode cX10_sheet 22 = .ok (.if_icmp .le 6, 3) := by decide +kernel
theorem dX10_sheet_25 : decode cX10_sheet 25 = .ok (.bipush (-2), 2) := by decide +kernel
theorem dX10_sheet_27 : decode cX10_sheet 27 = .ok (.ireturn, 1) := by decide +kernel
theorem dX10_sheet_28 : decode cX10_sheet 28 = .ok (.iload_n 3, 1) := by decide +kernel
theorem dX10_sheet_29 : decode cX10_sheet 29 = .ok (.ifCond .ge 9, 3) := by decide +kernel
theorem dX10_sheet_32 : decode cX10_sheet 32 = .ok (.aload_n 0, 1) := by decide +kernel
theorem dX10_sheet_33 : decode cX10_sheet 33 = .ok (.iconst 5, 1) := by decide +kernel
theorem dX10_sheet_34 : decode cX10_sheet 34 = .ok (.invokevirtual 82, 3) := by decide +kernel
theorem dX10_sheet_37 : decode cX10_sheet 37 = .ok (.ireturn, 1) := by decide +kernel
theorem dX10_sheet_38 : decode cX10_sheet 38 = .ok (.aload_n 0, 1) := by decide +kernel
theorem dX10_sheet_39 : decode cX10_sheet 39 = .ok (.getfield 7, 3) := by decide +kernel
theorem dX10_sheet_42 : decode cX10_sheet 42 = .ok (.iload_n 1, 1) := by decide +kernel
theorem dX10_sheet_43 : decode cX10_sheet 43 = .ok (.iload_n 2, 1) := by decide +kernel
theorem dX10_sheet_44 : decode cX10_sheet 44 = .ok (.iastore, 1) := by decide +kernel
theorem dX10_sheet_45 : decode cX10_sheet 45 = .ok (.aload_n 0, 1) := by decide +kernel
theorem dX10_sheet_46 : decode cX10_sheet 46 = .ok (.getfield 13, 3) := by decide +kernel
theorem dX10_sheet_49 : decode cX10_sheet 49 = .ok (.iload_n 1, 1) := by decide +kernel
theorem dX10_sheet_50 : decode cX10_sheet 50 = .ok (.iload_n 3, 1) := by decide +kernel
theorem dX10_sheet_51 : decode cX10_sheet 51 = .ok (.iastore, 1) := by decide +kernel
theorem dX10_sheet_52 : decode cX10_sheet 52 = .ok (.iconst 0, 1) := by decide +kernel
theorem dX10_sheet_53 : decode cX10_sheet 53 = .ok (.istore 4, 2) := by decide +kernel
theorem dX10_sheet_55 : decode cX10_sheet 55 = .ok (.iload 4, 2) := by decide +kernel
theorem dX10_sheet_57 : decode cX10_sheet 57 = .ok (.iload_n 3, 1) := by decide +kernel
theorem dX10_sheet_58 : decode cX10_sheet 58 = .ok (.if_icmp .ge 22, 3) := by decide +kernel
theorem dX10_sheet_61 : decode cX10_sheet 61 = .ok (.aload_n 0, 1) := by decide +kernel
theorem dX10_sheet_62 : decode cX10_sheet 62 = .ok (.getfield 16, 3) := by decide +kernel
theorem dX10_sheet_65 : decode cX10_sheet 65 = .ok (.bipush 60, 2) := by decide +kernel
theorem dX10_sheet_67 : decode cX10_sheet 67 = .ok (.iload_n 1, 1) := by decide +kernel
theorem dX10_sheet_68 : decode cX10_sheet 68 = .ok (.imul, 1) := by decide +kernel
theorem dX10_sheet_69 : decode cX10_sheet 69 = .ok (.iload 4, 2) := by decide +kernel
theorem dX10_sheet_71 : decode cX10_sheet 71 = .ok (.iadd, 1) := by decide +kernel
theorem dX10_sheet_72 : decode cX10_sheet 72 = .ok (.iconst 0, 1) := by decide +kernel
theorem dX10_sheet_73 : decode cX10_sheet 73 = .ok (.iastore, 1) := by decide +kernel
theorem dX10_sheet_74 : decode cX10_sheet 74 = .ok (.iinc 4 1, 3) := by decide +kernel
theorem dX10_sheet_77 : decode cX10_sheet 77 = .ok (.goto (-22), 3) := by decide +kernel
theorem dX10_sheet_80 : decode cX10_sheet 80 = .ok (.iload_n 3, 1) := by decide +kernel
theorem dX10_sheet_81 : decode cX10_sheet 81 = .ok (.ireturn, 1) := by decide +kernel
theorem dX10_lose_0 : decode cX10_lose 0 = .ok (.iload_n 1, 1) := by decide +kernel
theorem dX10_lose_1 : decode cX10_lose 1 = .ok (.invokestatic 76, 3) := by decide +kernel
theorem dX10_lose_4 : decode cX10_lose 4 = .ok (.ifCond .ne 6, 3) := by decide +kernel
theorem dX10_lose_7 : decode cX10_lose 7 = .ok (.bipush (-2), 2) := by decide +kernel
theorem dX10_lose_9 : decode cX10_lose 9 = .ok (.ireturn, 1) := by decide +kernel
theorem dX10_lose_10 : decode cX10_lose 10 = .ok (.aload_n 0, 1) := by decide +kernel
theorem dX10_lose_11 : decode cX10_lose 11 = .ok (.getfield 7, 3) := by decide +kernel
theorem dX10_lose_14 : decode cX10_lose 14 = .ok (.iload_n 1, 1) := by decide +kernel
theorem dX10_lose_15 : decode cX10_lose 15 = .ok (.iaload, 1) := by decide +kernel
theorem dX10_lose_16 : decode cX10_lose 16 = .ok (.ifCond .ge 9, 3) := by decide +kernel
theorem dX10_lose_19 : decode cX10_lose 19 = .ok (.aload_n 0, 1) := by decide +kernel
theorem dX10_lose_20 : decode cX10_lose 20 = .ok (.iconst 1, 1) := by decide +kernel
theorem dX10_lose_21 : decode cX10_lose 21 = .ok (.invokevirtual 82, 3) := by decide +kernel
theorem dX10_lose_24 : decode cX10_lose 24 = .ok (.ireturn, 1) := by decide +kernel
theorem dX10_lose_25 : decode cX10_lose 25 = .ok (.aload_n 0, 1) := by decide +kernel
theorem dX10_lose_26 : decode cX10_lose 26 = .ok (.getfield 7, 3) := by decide +kernel
theorem dX10_lose_29 : decode cX10_lose 29 = .ok (.iload_n 1, 1) := by decide +kernel
theorem dX10_lose_30 : decode cX10_lose 30 = .ok (.iconst (-1), 1) := by decide +kernel
theorem dX10_lose_31 : decode cX10_lose 31 = .ok (.iastore, 1) := by decide +kernel
theorem dX10_lose_32 : decode cX10_lose 32 = .ok (.aload_n 0, 1) := by decide +kernel
theorem dX10_lose_33 : decode cX10_lose 33 = .ok (.getfield 13, 3) := by decide +kernel
theorem dX10_lose_36 : decode cX10_lose 36 = .ok (.iload_n 1, 1) := by decide +kernel
theorem dX10_lose_37 : decode cX10_lose 37 = .ok (.iaload, 1) := by decide +kernel
theorem dX10_lose_38 : decode cX10_lose 38 = .ok (.ireturn, 1) := by decide +kernel
theorem dX10_lacks_0 : decode cX10_lacks 0 = .ok (.aload_n 0, 1) := by decide +kernel
theorem dX10_lacks_1 : decode cX10_lacks 1 = .ok (.getfield 7, 3) := by decide +kernel
theorem dX10_lacks_4 : decode cX10_lacks 4 = .ok (.iload_n 1, 1) := by decide +kernel
theorem dX10_lacks_5 : decode cX10_lacks 5 = .ok (.iaload, 1) := by decide +kernel
theorem dX10_lacks_6 : decode cX10_lacks 6 = .ok (.ifCond .ge 9, 3) := by decide +kernel
theorem dX10_lacks_9 : decode cX10_lacks 9 = .ok (.aload_n 0, 1) := by decide +kernel
theorem dX10_lacks_10 : decode cX10_lacks 10 = .ok (.iconst 1, 1) := by decide +kernel
theorem dX10_lacks_11 : decode cX10_lacks 11 = .ok (.invokevirtual 82, 3) := by decide +kernel
theorem dX10_lacks_14 : decode cX10_lacks 14 = .ok (.ireturn, 1) := by decide +kernel
theorem dX10_lacks_15 : decode cX10_lacks 15 = .ok (.aload_n 0, 1) := by decide +kernel
theorem dX10_lacks_16 : decode cX10_lacks 16 = .ok (.getfield 7, 3) := by decide +kernel
theorem dX10_lacks_19 : decode cX10_lacks 19 = .ok (.iload_n 1, 1) := by decide +kernel
theorem dX10_lacks_20 : decode cX10_lacks 20 = .ok (.iaload, 1) := by decide +kernel
theorem dX10_lacks_21 : decode cX10_lacks 21 = .ok (.iload_n 2, 1) := by decide +kernel
theorem dX10_lacks_22 : decode cX10_lacks 22 = .ok (.if_icmp .eq 9, 3) := by decide +kernel
theorem dX10_lacks_25 : decode cX10_lacks 25 = .ok (.aload_n 0, 1) := by decide +kernel
theorem dX10_lacks_26 : decode cX10_lacks 26 = .ok (.iconst 3, 1) := by decide +kernel
theorem dX10_lacks_27 : decode cX10_lacks 27 = .ok (.invokevirtual 82, 3) := by decide +kernel
theorem dX10_lacks_30 : decode cX10_lacks 30 = .ok (.ireturn, 1) := by decide +kernel
theorem dX10_lacks_31 : decode cX10_lacks 31 = .ok (.iload_n 3, 1) := by decide +kernel
theorem dX10_lacks_32 : decode cX10_lacks 32 = .ok (.i2l, 1) := by decide +kernel
theorem dX10_lacks_33 : decode cX10_lacks 33 = .ok (.lconst 0, 1) := by decide +kernel
theorem dX10_lacks_34 : decode cX10_lacks 34 = .ok (.aload_n 0, 1) := by decide +kernel
theorem dX10_lacks_35 : decode cX10_lacks 35 = .ok (.getfield 13, 3) := by decide +kernel
theorem dX10_lacks_38 : decode cX10_lacks 38 = .ok (.iload_n 1, 1) := by decide +kernel
theorem dX10_lacks_39 : decode cX10_lacks 39 = .ok (.iaload, 1) := by decide +kernel
theorem dX10_lacks_40 : decode cX10_lacks 40 = .ok (.iconst 1, 1) := by decide +kernel
theorem dX10_lacks_41 : decode cX10_lacks 41 = .ok (.isub, 1) := by decide +kernel
theorem dX10_lacks_42 : decode cX10_lacks 42 = .ok (.i2l, 1) := by decide +kernel
theorem dX10_lacks_43 : decode cX10_lacks 43 = .ok (.invokestatic 66, 3) := by decide +kernel
theorem dX10_lacks_46 : decode cX10_lacks 46 = .ok (.ifCond .eq 7, 3) := by decide +kernel
theorem dX10_lacks_49 : decode cX10_lacks 49 = .ok (.iconst 0, 1) := by decide +kernel
theorem dX10_lacks_50 : decode cX10_lacks 50 = .ok (.goto 8, 3) := by decide +kernel
theorem dX10_lacks_53 : decode cX10_lacks 53 = .ok (.aload_n 0, 1) := by decide +kernel
theorem dX10_lacks_54 : decode cX10_lacks 54 = .ok (.iconst 2, 1) := by decide +kernel
theorem dX10_lacks_55 : decode cX10_lacks 55 = .ok (.invokevirtual 82, 3) := by decide +kernel
theorem dX10_lacks_58 : decode cX10_lacks 58 = .ok (.ireturn, 1) := by decide +kernel
theorem dX10_cut_0 : decode cX10_cut 0 = .ok (.iload_n 0, 1) := by decide +kernel
theorem dX10_cut_1 : decode cX10_cut 1 = .ok (.ifCond .ne 8, 3) := by decide +kernel
theorem dX10_cut_4 : decode cX10_cut 4 = .ok (.iload_n 1, 1) := by decide +kernel
theorem dX10_cut_5 : decode cX10_cut 5 = .ok (.i2b, 1) := by decide +kernel
theorem dX10_cut_6 : decode cX10_cut 6 = .ok (.goto 14, 3) := by decide +kernel
theorem dX10_cut_9 : decode cX10_cut 9 = .ok (.iload_n 0, 1) := by decide +kernel
theorem dX10_cut_10 : decode cX10_cut 10 = .ok (.iconst 1, 1) := by decide +kernel
theorem dX10_cut_11 : decode cX10_cut 11 = .ok (.if_icmp .ne 8, 3) := by decide +kernel
theorem dX10_cut_14 : decode cX10_cut 14 = .ok (.iload_n 1, 1) := by decide +kernel
theorem dX10_cut_15 : decode cX10_cut 15 = .ok (.i2s, 1) := by decide +kernel
theorem dX10_cut_16 : decode cX10_cut 16 = .ok (.goto 4, 3) := by decide +kernel
theorem dX10_cut_19 : decode cX10_cut 19 = .ok (.iload_n 1, 1) := by decide +kernel
theorem dX10_cut_20 : decode cX10_cut 20 = .ok (.ireturn, 1) := by decide +kernel
theorem dX10_lay_0 : decode cX10_lay 0 = .ok (.iload_n 1, 1) := by decide +kernel
theorem dX10_lay_1 : decode cX10_lay 1 = .ok (.invokestatic 76, 3) := by decide +kernel
theorem dX10_lay_4 : decode cX10_lay 4 = .ok (.ifCond .eq 15, 3) := by decide +kernel
theorem dX10_lay_7 : decode cX10_lay 7 = .ok (.iload_n 2, 1) := by decide +kernel
theorem dX10_lay_8 : decode cX10_lay 8 = .ok (.i2l, 1) := by decide +kernel
theorem dX10_lay_9 : decode cX10_lay 9 = .ok (.lconst 0, 1) := by decide +kernel
theorem dX10_lay_10 : decode cX10_lay 10 = .ok (.ldc2_w 80, 3) := by decide +kernel
theorem dX10_lay_13 : decode cX10_lay 13 = .ok (.invokestatic 66, 3) := by decide +kernel
theorem dX10_lay_16 : decode cX10_lay 16 = .ok (.ifCond .ne 6, 3) := by decide +kernel
theorem dX10_lay_19 : decode cX10_lay 19 = .ok (.bipush (-2), 2) := by decide +kernel
theorem dX10_lay_21 : decode cX10_lay 21 = .ok (.ireturn, 1) := by decide +kernel
theorem dX10_lay_22 : decode cX10_lay 22 = .ok (.aload_n 0, 1) := by decide +kernel
theorem dX10_lay_23 : decode cX10_lay 23 = .ok (.iload_n 1, 1) := by decide +kernel
theorem dX10_lay_24 : decode cX10_lay 24 = .ok (.iload_n 2, 1) := by decide +kernel
theorem dX10_lay_25 : decode cX10_lay 25 = .ok (.iload_n 3, 1) := by decide +kernel
theorem dX10_lay_26 : decode cX10_lay 26 = .ok (.invokevirtual 86, 3) := by decide +kernel
theorem dX10_lay_29 : decode cX10_lay 29 = .ok (.istore 5, 2) := by decide +kernel
theorem dX10_lay_31 : decode cX10_lay 31 = .ok (.iload 5, 2) := by decide +kernel
theorem dX10_lay_33 : decode cX10_lay 33 = .ok (.ifCond .eq 6, 3) := by decide +kernel
theorem dX10_lay_36 : decode cX10_lay 36 = .ok (.iload 5, 2) := by decide +kernel
theorem dX10_lay_38 : decode cX10_lay 38 = .ok (.ireturn, 1) := by decide +kernel
theorem dX10_lay_39 : decode cX10_lay 39 = .ok (.aload_n 0, 1) := by decide +kernel
theorem dX10_lay_40 : decode cX10_lay 40 = .ok (.getfield 16, 3) := by decide +kernel
theorem dX10_lay_43 : decode cX10_lay 43 = .ok (.bipush 60, 2) := by decide +kernel
theorem dX10_lay_45 : decode cX10_lay 45 = .ok (.iload_n 1, 1) := by decide +kernel
theorem dX10_lay_46 : decode cX10_lay 46 = .ok (.imul, 1) := by decide +kernel
theorem dX10_lay_47 : decode cX10_lay 47 = .ok (.iload_n 3, 1) := by decide +kernel
theorem dX10_lay_48 : decode cX10_lay 48 = .ok (.iadd, 1) := by decide +kernel
theorem dX10_lay_49 : decode cX10_lay 49 = .ok (.iload_n 2, 1) := by decide +kernel
theorem dX10_lay_50 : decode cX10_lay 50 = .ok (.iload 4, 2) := by decide +kernel
theorem dX10_lay_52 : decode cX10_lay 52 = .ok (.invokestatic 90, 3) := by decide +kernel
theorem dX10_lay_55 : decode cX10_lay 55 = .ok (.iastore, 1) := by decide +kernel
theorem dX10_lay_56 : decode cX10_lay 56 = .ok (.iconst 1, 1) := by decide +kernel
theorem dX10_lay_57 : decode cX10_lay 57 = .ok (.ireturn, 1) := by decide +kernel
theorem dX10_get_0 : decode cX10_get 0 = .ok (.iload_n 1, 1) := by decide +kernel
theorem dX10_get_1 : decode cX10_get 1 = .ok (.invokestatic 76, 3) := by decide +kernel
theorem dX10_get_4 : decode cX10_get 4 = .ok (.ifCond .eq 25, 3) := by decide +kernel
theorem dX10_get_7 : decode cX10_get 7 = .ok (.iload_n 2, 1) := by decide +kernel
theorem dX10_get_8 : decode cX10_get 8 = .ok (.i2l, 1) := by decide +kernel
theorem dX10_get_9 : decode cX10_get 9 = .ok (.lconst 0, 1) := by decide +kernel
theorem dX10_get_10 : decode cX10_get 10 = .ok (.ldc2_w 80, 3) := by decide +kernel
theorem dX10_get_13 : decode cX10_get 13 = .ok (.invokestatic 66, 3) := by decide +kernel
theorem dX10_get_16 : decode cX10_get 16 = .ok (.ifCond .eq 13, 3) := by decide +kernel
theorem dX10_get_19 : decode cX10_get 19 = .ok (.aload_n 0, 1) := by decide +kernel
theorem dX10_get_20 : decode cX10_get 20 = .ok (.iload_n 1, 1) := by decide +kernel
theorem dX10_get_21 : decode cX10_get 21 = .ok (.iload_n 2, 1) := by decide +kernel
theorem dX10_get_22 : decode cX10_get 22 = .ok (.iload_n 3, 1) := by decide +kernel
theorem dX10_get_23 : decode cX10_get 23 = .ok (.invokevirtual 86, 3) := by decide +kernel
theorem dX10_get_26 : decode cX10_get 26 = .ok (.ifCond .eq 6, 3) := by decide +kernel
theorem dX10_get_29 : decode cX10_get 29 = .ok (.ldc 94, 2) := by decide +kernel
theorem dX10_get_31 : decode cX10_get 31 = .ok (.ireturn, 1) := by decide +kernel
theorem dX10_get_32 : decode cX10_get 32 = .ok (.aload_n 0, 1) := by decide +kernel
theorem dX10_get_33 : decode cX10_get 33 = .ok (.getfield 16, 3) := by decide +kernel
theorem dX10_get_36 : decode cX10_get 36 = .ok (.bipush 60, 2) := by decide +kernel
theorem dX10_get_38 : decode cX10_get 38 = .ok (.iload_n 1, 1) := by decide +kernel
theorem dX10_get_39 : decode cX10_get 39 = .ok (.imul, 1) := by decide +kernel
theorem dX10_get_40 : decode cX10_get 40 = .ok (.iload_n 3, 1) := by decide +kernel
theorem dX10_get_41 : decode cX10_get 41 = .ok (.iadd, 1) := by decide +kernel
theorem dX10_get_42 : decode cX10_get 42 = .ok (.iaload, 1) := by decide +kernel
theorem dX10_get_43 : decode cX10_get 43 = .ok (.ireturn, 1) := by decide +kernel
theorem dX10_copy_0 : decode cX10_copy 0 = .ok (.iload_n 1, 1) := by decide +kernel
theorem dX10_copy_1 : decode cX10_copy 1 = .ok (.invokestatic 76, 3) := by decide +kernel
theorem dX10_copy_4 : decode cX10_copy 4 = .ok (.ifCond .eq 10, 3) := by decide +kernel
theorem dX10_copy_7 : decode cX10_copy 7 = .ok (.iload_n 3, 1) := by decide +kernel
theorem dX10_copy_8 : decode cX10_copy 8 = .ok (.invokestatic 76, 3) := by decide +kernel
theorem dX10_copy_11 : decode cX10_copy 11 = .ok (.ifCond .ne 6, 3) := by decide +kernel
theorem dX10_copy_14 : decode cX10_copy 14 = .ok (.bipush (-2), 2) := by decide +kernel
theorem dX10_copy_16 : decode cX10_copy 16 = .ok (.ireturn, 1) := by decide +kernel
theorem dX10_copy_17 : decode cX10_copy 17 = .ok (.aload_n 0, 1) := by decide +kernel
theorem dX10_copy_18 : decode cX10_copy 18 = .ok (.getfield 7, 3) := by decide +kernel
theorem dX10_copy_21 : decode cX10_copy 21 = .ok (.iload_n 1, 1) := by decide +kernel
theorem dX10_copy_22 : decode cX10_copy 22 = .ok (.iaload, 1) := by decide +kernel
theorem dX10_copy_23 : decode cX10_copy 23 = .ok (.ifCond .lt 12, 3) := by decide +kernel
theorem dX10_copy_26 : decode cX10_copy 26 = .ok (.aload_n 0, 1) := by decide +kernel
theorem dX10_copy_27 : decode cX10_copy 27 = .ok (.getfield 7, 3) := by decide +kernel
theorem dX10_copy_30 : decode cX10_copy 30 = .ok (.iload_n 3, 1) := by decide +kernel
theorem dX10_copy_31 : decode cX10_copy 31 = .ok (.iaload, 1) := by decide +kernel
theorem dX10_copy_32 : decode cX10_copy 32 = .ok (.ifCond .ge 9, 3) := by decide +kernel
theorem dX10_copy_35 : decode cX10_copy 35 = .ok (.aload_n 0, 1) := by decide +kernel
theorem dX10_copy_36 : decode cX10_copy 36 = .ok (.iconst 1, 1) := by decide +kernel
theorem dX10_copy_37 : decode cX10_copy 37 = .ok (.invokevirtual 82, 3) := by decide +kernel
theorem dX10_copy_40 : decode cX10_copy 40 = .ok (.ireturn, 1) := by decide +kernel
theorem dX10_copy_41 : decode cX10_copy 41 = .ok (.aload_n 0, 1) := by decide +kernel
theorem dX10_copy_42 : decode cX10_copy 42 = .ok (.getfield 7, 3) := by decide +kernel
theorem dX10_copy_45 : decode cX10_copy 45 = .ok (.iload_n 1, 1) := by decide +kernel
theorem dX10_copy_46 : decode cX10_copy 46 = .ok (.iaload, 1) := by decide +kernel
theorem dX10_copy_47 : decode cX10_copy 47 = .ok (.aload_n 0, 1) := by decide +kernel
theorem dX10_copy_48 : decode cX10_copy 48 = .ok (.getfield 7, 3) := by decide +kernel
theorem dX10_copy_51 : decode cX10_copy 51 = .ok (.iload_n 3, 1) := by decide +kernel
theorem dX10_copy_52 : decode cX10_copy 52 = .ok (.iaload, 1) := by decide +kernel
theorem dX10_copy_53 : decode cX10_copy 53 = .ok (.if_icmp .eq 9, 3) := by decide +kernel
theorem dX10_copy_56 : decode cX10_copy 56 = .ok (.aload_n 0, 1) := by decide +kernel
theorem dX10_copy_57 : decode cX10_copy 57 = .ok (.iconst 4, 1) := by decide +kernel
theorem dX10_copy_58 : decode cX10_copy 58 = .ok (.invokevirtual 82, 3) := by decide +kernel
theorem dX10_copy_61 : decode cX10_copy 61 = .ok (.ireturn, 1) := by decide +kernel
theorem dX10_copy_62 : decode cX10_copy 62 = .ok (.iload_n 2, 1) := by decide +kernel
theorem dX10_copy_63 : decode cX10_copy 63 = .ok (.ifCond .lt 48, 3) := by decide +kernel
theorem dX10_copy_66 : decode cX10_copy 66 = .ok (.iload 4, 2) := by decide +kernel
theorem dX10_copy_68 : decode cX10_copy 68 = .ok (.ifCond .lt 43, 3) := by decide +kernel
theorem dX10_copy_71 : decode cX10_copy 71 = .ok (.iload 5, 2) := by decide +kernel
theorem dX10_copy_73 : decode cX10_copy 73 = .ok (.ifCond .lt 38, 3) := by decide +kernel
theorem dX10_copy_76 : decode cX10_copy 76 = .ok (.iload_n 2, 1) := by decide +kernel
theorem dX10_copy_77 : decode cX10_copy 77 = .ok (.i2l, 1) := by decide +kernel
theorem dX10_copy_78 : decode cX10_copy 78 = .ok (.iload 5, 2) := by decide +kernel
theorem dX10_copy_80 : decode cX10_copy 80 = .ok (.i2l, 1) := by decide +kernel
theorem dX10_copy_81 : decode cX10_copy 81 = .ok (.ladd, 1) := by decide +kernel
theorem dX10_copy_82 : decode cX10_copy 82 = .ok (.aload_n 0, 1) := by decide +kernel
theorem dX10_copy_83 : decode cX10_copy 83 = .ok (.getfield 13, 3) := by decide +kernel
theorem dX10_copy_86 : decode cX10_copy 86 = .ok (.iload_n 1, 1) := by decide +kernel
theorem dX10_copy_87 : decode cX10_copy 87 = .ok (.iaload, 1) := by decide +kernel
theorem dX10_copy_88 : decode cX10_copy 88 = .ok (.i2l, 1) := by decide +kernel
theorem dX10_copy_89 : decode cX10_copy 89 = .ok (.lcmp, 1) := by decide +kernel
theorem dX10_copy_90 : decode cX10_copy 90 = .ok (.ifCond .gt 21, 3) := by decide +kernel
theorem dX10_copy_93 : decode cX10_copy 93 = .ok (.iload 4, 2) := by decide +kernel
theorem dX10_copy_95 : decode cX10_copy 95 = .ok (.i2l, 1) := by decide +kernel
theorem dX10_copy_96 : decode cX10_copy 96 = .ok (.iload 5, 2) := by decide +kernel
theorem dX10_copy_98 : decode cX10_copy 98 = .ok (.i2l, 1) := by decide +kernel
theorem dX10_copy_99 : decode cX10_copy 99 = .ok (.ladd, 1) := by decide +kernel
theorem dX10_copy_100 : decode cX10_copy 100 = .ok (.aload_n 0, 1) := by decide +kernel
theorem dX10_copy_101 : decode cX10_copy 101 = .ok (.getfield 13, 3) := by decide +kernel
theorem dX10_copy_104 : decode cX10_copy 104 = .ok (.iload_n 3, 1) := by decide +kernel
theorem dX10_copy_105 : decode cX10_copy 105 = .ok (.iaload, 1) := by decide +kernel
theorem dX10_copy_106 : decode cX10_copy 106 = .ok (.i2l, 1) := by decide +kernel
theorem dX10_copy_107 : decode cX10_copy 107 = .ok (.lcmp, 1) := by decide +kernel
theorem dX10_copy_108 : decode cX10_copy 108 = .ok (.ifCond .le 9, 3) := by decide +kernel
theorem dX10_copy_111 : decode cX10_copy 111 = .ok (.aload_n 0, 1) := by decide +kernel
theorem dX10_copy_112 : decode cX10_copy 112 = .ok (.iconst 2, 1) := by decide +kernel
theorem dX10_copy_113 : decode cX10_copy 113 = .ok (.invokevirtual 82, 3) := by decide +kernel
theorem dX10_copy_116 : decode cX10_copy 116 = .ok (.ireturn, 1) := by decide +kernel
theorem dX10_copy_117 : decode cX10_copy 117 = .ok (.iconst 0, 1) := by decide +kernel
theorem dX10_copy_118 : decode cX10_copy 118 = .ok (.istore 6, 2) := by decide +kernel
theorem dX10_copy_120 : decode cX10_copy 120 = .ok (.iload 6, 2) := by decide +kernel
theorem dX10_copy_122 : decode cX10_copy 122 = .ok (.iload 5, 2) := by decide +kernel
theorem dX10_copy_124 : decode cX10_copy 124 = .ok (.if_icmp .ge 30, 3) := by decide +kernel
theorem dX10_copy_127 : decode cX10_copy 127 = .ok (.aload_n 0, 1) := by decide +kernel
theorem dX10_copy_128 : decode cX10_copy 128 = .ok (.getfield 19, 3) := by decide +kernel
theorem dX10_copy_131 : decode cX10_copy 131 = .ok (.iload 6, 2) := by decide +kernel
theorem dX10_copy_133 : decode cX10_copy 133 = .ok (.aload_n 0, 1) := by decide +kernel
theorem dX10_copy_134 : decode cX10_copy 134 = .ok (.getfield 16, 3) := by decide +kernel
theorem dX10_copy_137 : decode cX10_copy 137 = .ok (.bipush 60, 2) := by decide +kernel
theorem dX10_copy_139 : decode cX10_copy 139 = .ok (.iload_n 1, 1) := by decide +kernel
theorem dX10_copy_140 : decode cX10_copy 140 = .ok (.imul, 1) := by decide +kernel
theorem dX10_copy_141 : decode cX10_copy 141 = .ok (.iload_n 2, 1) := by decide +kernel
theorem dX10_copy_142 : decode cX10_copy 142 = .ok (.iadd, 1) := by decide +kernel
theorem dX10_copy_143 : decode cX10_copy 143 = .ok (.iload 6, 2) := by decide +kernel
theorem dX10_copy_145 : decode cX10_copy 145 = .ok (.iadd, 1) := by decide +kernel
theorem dX10_copy_146 : decode cX10_copy 146 = .ok (.iaload, 1) := by decide +kernel
theorem dX10_copy_147 : decode cX10_copy 147 = .ok (.iastore, 1) := by decide +kernel
theorem dX10_copy_148 : decode cX10_copy 148 = .ok (.iinc 6 1, 3) := by decide +kernel
theorem dX10_copy_151 : decode cX10_copy 151 = .ok (.goto (-31), 3) := by decide +kernel
theorem dX10_copy_154 : decode cX10_copy 154 = .ok (.iconst 0, 1) := by decide +kernel
theorem dX10_copy_155 : decode cX10_copy 155 = .ok (.istore 6, 2) := by decide +kernel
theorem dX10_copy_157 : decode cX10_copy 157 = .ok (.iload 6, 2) := by decide +kernel
theorem dX10_copy_159 : decode cX10_copy 159 = .ok (.iload 5, 2) := by decide +kernel
theorem dX10_copy_161 : decode cX10_copy 161 = .ok (.if_icmp .ge 31, 3) := by decide +kernel
theorem dX10_copy_164 : decode cX10_copy 164 = .ok (.aload_n 0, 1) := by decide +kernel
theorem dX10_copy_165 : decode cX10_copy 165 = .ok (.getfield 16, 3) := by decide +kernel
theorem dX10_copy_168 : decode cX10_copy 168 = .ok (.bipush 60, 2) := by decide +kernel
theorem dX10_copy_170 : decode cX10_copy 170 = .ok (.iload_n 3, 1) := by decide +kernel
theorem dX10_copy_171 : decode cX10_copy 171 = .ok (.imul, 1) := by decide +kernel
theorem dX10_copy_172 : decode cX10_copy 172 = .ok (.iload 4, 2) := by decide +kernel
theorem dX10_copy_174 : decode cX10_copy 174 = .ok (.iadd, 1) := by decide +kernel
theorem dX10_copy_175 : decode cX10_copy 175 = .ok (.iload 6, 2) := by decide +kernel
theorem dX10_copy_177 : decode cX10_copy 177 = .ok (.iadd, 1) := by decide +kernel
theorem dX10_copy_178 : decode cX10_copy 178 = .ok (.aload_n 0, 1) := by decide +kernel
theorem dX10_copy_179 : decode cX10_copy 179 = .ok (.getfield 19, 3) := by decide +kernel
theorem dX10_copy_182 : decode cX10_copy 182 = .ok (.iload 6, 2) := by decide +kernel
theorem dX10_copy_184 : decode cX10_copy 184 = .ok (.iaload, 1) := by decide +kernel
theorem dX10_copy_185 : decode cX10_copy 185 = .ok (.iastore, 1) := by decide +kernel
theorem dX10_copy_186 : decode cX10_copy 186 = .ok (.iinc 6 1, 3) := by decide +kernel
theorem dX10_copy_189 : decode cX10_copy 189 = .ok (.goto (-32), 3) := by decide +kernel
theorem dX10_copy_192 : decode cX10_copy 192 = .ok (.iconst 1, 1) := by decide +kernel
theorem dX10_copy_193 : decode cX10_copy 193 = .ok (.ireturn, 1) := by decide +kernel
theorem dX10_type_0 : decode cX10_type 0 = .ok (.iload_n 1, 1) := by decide +kernel
theorem dX10_type_1 : decode cX10_type 1 = .ok (.invokestatic 95, 3) := by decide +kernel
theorem dX10_type_4 : decode cX10_type 4 = .ok (.ifCond .eq 15, 3) := by decide +kernel
theorem dX10_type_7 : decode cX10_type 7 = .ok (.iload_n 2, 1) := by decide +kernel
theorem dX10_type_8 : decode cX10_type 8 = .ok (.i2l, 1) := by decide +kernel
theorem dX10_type_9 : decode cX10_type 9 = .ok (.lconst 0, 1) := by decide +kernel
theorem dX10_type_10 : decode cX10_type 10 = .ok (.ldc2_w 98, 3) := by decide +kernel
theorem dX10_type_13 : decode cX10_type 13 = .ok (.invokestatic 66, 3) := by decide +kernel
theorem dX10_type_16 : decode cX10_type 16 = .ok (.ifCond .ne 6, 3) := by decide +kernel
theorem dX10_type_19 : decode cX10_type 19 = .ok (.bipush (-2), 2) := by decide +kernel
theorem dX10_type_21 : decode cX10_type 21 = .ok (.ireturn, 1) := by decide +kernel
theorem dX10_type_22 : decode cX10_type 22 = .ok (.aload_n 0, 1) := by decide +kernel
theorem dX10_type_23 : decode cX10_type 23 = .ok (.getfield 25, 3) := by decide +kernel
theorem dX10_type_26 : decode cX10_type 26 = .ok (.iload_n 1, 1) := by decide +kernel
theorem dX10_type_27 : decode cX10_type 27 = .ok (.iaload, 1) := by decide +kernel
theorem dX10_type_28 : decode cX10_type 28 = .ok (.iload_n 1, 1) := by decide +kernel
theorem dX10_type_29 : decode cX10_type 29 = .ok (.ifCond .ne 8, 3) := by decide +kernel
theorem dX10_type_32 : decode cX10_type 32 = .ok (.bipush 71, 2) := by decide +kernel
theorem dX10_type_34 : decode cX10_type 34 = .ok (.goto 5, 3) := by decide +kernel
theorem dX10_type_37 : decode cX10_type 37 = .ok (.bipush 47, 2) := by decide +kernel
theorem dX10_type_39 : decode cX10_type 39 = .ok (.if_icmp .ne 6, 3) := by decide +kernel
theorem dX10_type_42 : decode cX10_type 42 = .ok (.bipush (-4), 2) := by decide +kernel
theorem dX10_type_44 : decode cX10_type 44 = .ok (.ireturn, 1) := by decide +kernel
theorem dX10_type_45 : decode cX10_type 45 = .ok (.aload_n 0, 1) := by decide +kernel
theorem dX10_type_46 : decode cX10_type 46 = .ok (.getfield 22, 3) := by decide +kernel
theorem dX10_type_49 : decode cX10_type 49 = .ok (.bipush 72, 2) := by decide +kernel
theorem dX10_type_51 : decode cX10_type 51 = .ok (.iload_n 1, 1) := by decide +kernel
theorem dX10_type_52 : decode cX10_type 52 = .ok (.imul, 1) := by decide +kernel
theorem dX10_type_53 : decode cX10_type 53 = .ok (.aload_n 0, 1) := by decide +kernel
theorem dX10_type_54 : decode cX10_type 54 = .ok (.getfield 25, 3) := by decide +kernel
theorem dX10_type_57 : decode cX10_type 57 = .ok (.iload_n 1, 1) := by decide +kernel
theorem dX10_type_58 : decode cX10_type 58 = .ok (.iaload, 1) := by decide +kernel
theorem dX10_type_59 : decode cX10_type 59 = .ok (.iadd, 1) := by decide +kernel
theorem dX10_type_60 : decode cX10_type 60 = .ok (.iload_n 2, 1) := by decide +kernel
theorem dX10_type_61 : decode cX10_type 61 = .ok (.iastore, 1) := by decide +kernel
theorem dX10_type_62 : decode cX10_type 62 = .ok (.aload_n 0, 1) := by decide +kernel
theorem dX10_type_63 : decode cX10_type 63 = .ok (.getfield 25, 3) := by decide +kernel
theorem dX10_type_66 : decode cX10_type 66 = .ok (.iload_n 1, 1) := by decide +kernel
theorem dX10_type_67 : decode cX10_type 67 = .ok (.dup2, 1) := by decide +kernel
theorem dX10_type_68 : decode cX10_type 68 = .ok (.iaload, 1) := by decide +kernel
theorem dX10_type_69 : decode cX10_type 69 = .ok (.iconst 1, 1) := by decide +kernel
theorem dX10_type_70 : decode cX10_type 70 = .ok (.iadd, 1) := by decide +kernel
theorem dX10_type_71 : decode cX10_type 71 = .ok (.iastore, 1) := by decide +kernel
theorem dX10_type_72 : decode cX10_type 72 = .ok (.aload_n 0, 1) := by decide +kernel
theorem dX10_type_73 : decode cX10_type 73 = .ok (.getfield 25, 3) := by decide +kernel
theorem dX10_type_76 : decode cX10_type 76 = .ok (.iload_n 1, 1) := by decide +kernel
theorem dX10_type_77 : decode cX10_type 77 = .ok (.iaload, 1) := by decide +kernel
theorem dX10_type_78 : decode cX10_type 78 = .ok (.ireturn, 1) := by decide +kernel
theorem dX10_wipe_0 : decode cX10_wipe 0 = .ok (.iload_n 1, 1) := by decide +kernel
theorem dX10_wipe_1 : decode cX10_wipe 1 = .ok (.invokestatic 95, 3) := by decide +kernel
theorem dX10_wipe_4 : decode cX10_wipe 4 = .ok (.ifCond .ne 6, 3) := by decide +kernel
theorem dX10_wipe_7 : decode cX10_wipe 7 = .ok (.bipush (-2), 2) := by decide +kernel
theorem dX10_wipe_9 : decode cX10_wipe 9 = .ok (.ireturn, 1) := by decide +kernel
theorem dX10_wipe_10 : decode cX10_wipe 10 = .ok (.aload_n 0, 1) := by decide +kernel
theorem dX10_wipe_11 : decode cX10_wipe 11 = .ok (.getfield 25, 3) := by decide +kernel
theorem dX10_wipe_14 : decode cX10_wipe 14 = .ok (.iload_n 1, 1) := by decide +kernel
theorem dX10_wipe_15 : decode cX10_wipe 15 = .ok (.iaload, 1) := by decide +kernel
theorem dX10_wipe_16 : decode cX10_wipe 16 = .ok (.istore_n 2, 1) := by decide +kernel
theorem dX10_wipe_17 : decode cX10_wipe 17 = .ok (.aload_n 0, 1) := by decide +kernel
theorem dX10_wipe_18 : decode cX10_wipe 18 = .ok (.getfield 25, 3) := by decide +kernel
theorem dX10_wipe_21 : decode cX10_wipe 21 = .ok (.iload_n 1, 1) := by decide +kernel
theorem dX10_wipe_22 : decode cX10_wipe 22 = .ok (.iconst 0, 1) := by decide +kernel
theorem dX10_wipe_23 : decode cX10_wipe 23 = .ok (.iastore, 1) := by decide +kernel
theorem dX10_wipe_24 : decode cX10_wipe 24 = .ok (.iload_n 2, 1) := by decide +kernel
theorem dX10_wipe_25 : decode cX10_wipe 25 = .ok (.ireturn, 1) := by decide +kernel
theorem dX10_undo_0 : decode cX10_undo 0 = .ok (.iload_n 1, 1) := by decide +kernel
theorem dX10_undo_1 : decode cX10_undo 1 = .ok (.invokestatic 95, 3) := by decide +kernel
theorem dX10_undo_4 : decode cX10_undo 4 = .ok (.ifCond .ne 6, 3) := by decide +kernel
theorem dX10_undo_7 : decode cX10_undo 7 = .ok (.bipush (-2), 2) := by decide +kernel
theorem dX10_undo_9 : decode cX10_undo 9 = .ok (.ireturn, 1) := by decide +kernel
theorem dX10_undo_10 : decode cX10_undo 10 = .ok (.aload_n 0, 1) := by decide +kernel
theorem dX10_undo_11 : decode cX10_undo 11 = .ok (.getfield 25, 3) := by decide +kernel
theorem dX10_undo_14 : decode cX10_undo 14 = .ok (.iload_n 1, 1) := by decide +kernel
theorem dX10_undo_15 : decode cX10_undo 15 = .ok (.iaload, 1) := by decide +kernel
theorem dX10_undo_16 : decode cX10_undo 16 = .ok (.ifCond .ne 6, 3) := by decide +kernel
theorem dX10_undo_19 : decode cX10_undo 19 = .ok (.bipush (-3), 2) := by decide +kernel
theorem dX10_undo_21 : decode cX10_undo 21 = .ok (.ireturn, 1) := by decide +kernel
theorem dX10_undo_22 : decode cX10_undo 22 = .ok (.aload_n 0, 1) := by decide +kernel
theorem dX10_undo_23 : decode cX10_undo 23 = .ok (.getfield 25, 3) := by decide +kernel
theorem dX10_undo_26 : decode cX10_undo 26 = .ok (.iload_n 1, 1) := by decide +kernel
theorem dX10_undo_27 : decode cX10_undo 27 = .ok (.dup2, 1) := by decide +kernel
theorem dX10_undo_28 : decode cX10_undo 28 = .ok (.iaload, 1) := by decide +kernel
theorem dX10_undo_29 : decode cX10_undo 29 = .ok (.iconst 1, 1) := by decide +kernel
theorem dX10_undo_30 : decode cX10_undo 30 = .ok (.isub, 1) := by decide +kernel
theorem dX10_undo_31 : decode cX10_undo 31 = .ok (.iastore, 1) := by decide +kernel
theorem dX10_undo_32 : decode cX10_undo 32 = .ok (.aload_n 0, 1) := by decide +kernel
theorem dX10_undo_33 : decode cX10_undo 33 = .ok (.getfield 25, 3) := by decide +kernel
theorem dX10_undo_36 : decode cX10_undo 36 = .ok (.iload_n 1, 1) := by decide +kernel
theorem dX10_undo_37 : decode cX10_undo 37 = .ok (.iaload, 1) := by decide +kernel
theorem dX10_undo_38 : decode cX10_undo 38 = .ok (.ireturn, 1) := by decide +kernel
theorem dX10_here_0 : decode cX10_here 0 = .ok (.aload_n 0, 1) := by decide +kernel
theorem dX10_here_1 : decode cX10_here 1 = .ok (.getfield 100, 3) := by decide +kernel
theorem dX10_here_4 : decode cX10_here 4 = .ok (.aload_n 0, 1) := by decide +kernel
theorem dX10_here_5 : decode cX10_here 5 = .ok (.getfield 25, 3) := by decide +kernel
theorem dX10_here_8 : decode cX10_here 8 = .ok (.iload_n 1, 1) := by decide +kernel
theorem dX10_here_9 : decode cX10_here 9 = .ok (.iaload, 1) := by decide +kernel
theorem dX10_here_10 : decode cX10_here 10 = .ok (.if_icmp .ge 20, 3) := by decide +kernel
theorem dX10_here_13 : decode cX10_here 13 = .ok (.aload_n 0, 1) := by decide +kernel
theorem dX10_here_14 : decode cX10_here 14 = .ok (.getfield 22, 3) := by decide +kernel
theorem dX10_here_17 : decode cX10_here 17 = .ok (.bipush 72, 2) := by decide +kernel
theorem dX10_here_19 : decode cX10_here 19 = .ok (.iload_n 1, 1) := by decide +kernel
theorem dX10_here_20 : decode cX10_here 20 = .ok (.imul, 1) := by decide +kernel
theorem dX10_here_21 : decode cX10_here 21 = .ok (.aload_n 0, 1) := by decide +kernel
theorem dX10_here_22 : decode cX10_here 22 = .ok (.getfield 100, 3) := by decide +kernel
theorem dX10_here_25 : decode cX10_here 25 = .ok (.iadd, 1) := by decide +kernel
theorem dX10_here_26 : decode cX10_here 26 = .ok (.iaload, 1) := by decide +kernel
theorem dX10_here_27 : decode cX10_here 27 = .ok (.goto 4, 3) := by decide +kernel
theorem dX10_here_30 : decode cX10_here 30 = .ok (.iconst (-1), 1) := by decide +kernel
theorem dX10_here_31 : decode cX10_here 31 = .ok (.ireturn, 1) := by decide +kernel
theorem dX10_within_0 : decode cX10_within 0 = .ok (.iload_n 0, 1) := by decide +kernel
theorem dX10_within_1 : decode cX10_within 1 = .ok (.i2l, 1) := by decide +kernel
theorem dX10_within_2 : decode cX10_within 2 = .ok (.iload_n 1, 1) := by decide +kernel
theorem dX10_within_3 : decode cX10_within 3 = .ok (.i2l, 1) := by decide +kernel
theorem dX10_within_4 : decode cX10_within 4 = .ok (.iload_n 2, 1) := by decide +kernel
theorem dX10_within_5 : decode cX10_within 5 = .ok (.i2l, 1) := by decide +kernel
theorem dX10_within_6 : decode cX10_within 6 = .ok (.invokestatic 66, 3) := by decide +kernel
theorem dX10_within_9 : decode cX10_within 9 = .ok (.ifCond .eq 9, 3) := by decide +kernel
theorem dX10_within_12 : decode cX10_within 12 = .ok (.iload_n 0, 1) := by decide +kernel
theorem dX10_within_13 : decode cX10_within 13 = .ok (.iload_n 1, 1) := by decide +kernel
theorem dX10_within_14 : decode cX10_within 14 = .ok (.isub, 1) := by decide +kernel
theorem dX10_within_15 : decode cX10_within 15 = .ok (.goto 5, 3) := by decide +kernel
theorem dX10_within_18 : decode cX10_within 18 = .ok (.bipush (-9), 2) := by decide +kernel
theorem dX10_within_20 : decode cX10_within 20 = .ok (.ireturn, 1) := by decide +kernel
theorem dX10_tellsOf_0 : decode cX10_tellsOf 0 = .ok (.iload_n 0, 1) := by decide +kernel
theorem dX10_tellsOf_1 : decode cX10_tellsOf 1 = .ok (.iconst 1, 1) := by decide +kernel
theorem dX10_tellsOf_2 : decode cX10_tellsOf 2 = .ok (.if_icmp .ne 45, 3) := by decide +kernel
theorem dX10_tellsOf_5 : decode cX10_tellsOf 5 = .ok (.iload_n 1, 1) := by decide +kernel
theorem dX10_tellsOf_6 : decode cX10_tellsOf 6 = .ok (.ifCond .ne 14, 3) := by decide +kernel
theorem dX10_tellsOf_9 : decode cX10_tellsOf 9 = .ok (.iload_n 2, 1) := by decide +kernel
theorem dX10_tellsOf_10 : decode cX10_tellsOf 10 = .ok (.bipush 65, 2) := by decide +kernel
theorem dX10_tellsOf_12 : decode cX10_tellsOf 12 = .ok (.bipush 70, 2) := by decide +kernel
theorem dX10_tellsOf_14 : decode cX10_tellsOf 14 = .ok (.invokestatic 103, 3) := by decide +kernel
theorem dX10_tellsOf_17 : decode cX10_tellsOf 17 = .ok (.goto 29, 3) := by decide +kernel
theorem dX10_tellsOf_20 : decode cX10_tellsOf 20 = .ok (.iload_n 1, 1) := by decide +kernel
theorem dX10_tellsOf_21 : decode cX10_tellsOf 21 = .ok (.iconst 1, 1) := by decide +kernel
theorem dX10_tellsOf_22 : decode cX10_tellsOf 22 = .ok (.if_icmp .ne 14, 3) := by decide +kernel
theorem dX10_tellsOf_25 : decode cX10_tellsOf 25 = .ok (.iload_n 2, 1) := by decide +kernel
theorem dX10_tellsOf_26 : decode cX10_tellsOf 26 = .ok (.bipush 97, 2) := by decide +kernel
theorem dX10_tellsOf_28 : decode cX10_tellsOf 28 = .ok (.bipush 120, 2) := by decide +kernel
theorem dX10_tellsOf_30 : decode cX10_tellsOf 30 = .ok (.invokestatic 103, 3) := by decide +kernel
theorem dX10_tellsOf_33 : decode cX10_tellsOf 33 = .ok (.goto 13, 3) := by decide +kernel
theorem dX10_tellsOf_36 : decode cX10_tellsOf 36 = .ok (.iload_n 2, 1) := by decide +kernel
theorem dX10_tellsOf_37 : decode cX10_tellsOf 37 = .ok (.bipush 49, 2) := by decide +kernel
theorem dX10_tellsOf_39 : decode cX10_tellsOf 39 = .ok (.bipush 57, 2) := by decide +kernel
theorem dX10_tellsOf_41 : decode cX10_tellsOf 41 = .ok (.invokestatic 103, 3) := by decide +kernel
theorem dX10_tellsOf_44 : decode cX10_tellsOf 44 = .ok (.iconst 1, 1) := by decide +kernel
theorem dX10_tellsOf_45 : decode cX10_tellsOf 45 = .ok (.iadd, 1) := by decide +kernel
theorem dX10_tellsOf_46 : decode cX10_tellsOf 46 = .ok (.ireturn, 1) := by decide +kernel
theorem dX10_tellsOf_47 : decode cX10_tellsOf 47 = .ok (.iload_n 1, 1) := by decide +kernel
theorem dX10_tellsOf_48 : decode cX10_tellsOf 48 = .ok (.lookupswitch 60 #[(0, 28), (1, 51)], 28) := by decide +kernel
theorem dX10_tellsOf_76 : decode cX10_tellsOf 76 = .ok (.iload_n 2, 1) := by decide +kernel
theorem dX10_tellsOf_77 : decode cX10_tellsOf 77 = .ok (.bipush 109, 2) := by decide +kernel
theorem dX10_tellsOf_79 : decode cX10_tellsOf 79 = .ok (.if_icmp .ne 7, 3) := by decide +kernel
theorem dX10_tellsOf_82 : decode cX10_tellsOf 82 = .ok (.iconst 1, 1) := by decide +kernel
theorem dX10_tellsOf_83 : decode cX10_tellsOf 83 = .ok (.goto 15, 3) := by decide +kernel
theorem dX10_tellsOf_86 : decode cX10_tellsOf 86 = .ok (.iload_n 2, 1) := by decide +kernel
theorem dX10_tellsOf_87 : decode cX10_tellsOf 87 = .ok (.bipush 110, 2) := by decide +kernel
theorem dX10_tellsOf_89 : decode cX10_tellsOf 89 = .ok (.if_icmp .ne 7, 3) := by decide +kernel
theorem dX10_tellsOf_92 : decode cX10_tellsOf 92 = .ok (.iconst 0, 1) := by decide +kernel
theorem dX10_tellsOf_93 : decode cX10_tellsOf 93 = .ok (.goto 5, 3) := by decide +kernel
theorem dX10_tellsOf_96 : decode cX10_tellsOf 96 = .ok (.bipush (-9), 2) := by decide +kernel
theorem dX10_tellsOf_98 : decode cX10_tellsOf 98 = .ok (.ireturn, 1) := by decide +kernel
theorem dX10_tellsOf_99 : decode cX10_tellsOf 99 = .ok (.iload_n 2, 1) := by decide +kernel
theorem dX10_tellsOf_100 : decode cX10_tellsOf 100 = .ok (.bipush 65, 2) := by decide +kernel
theorem dX10_tellsOf_102 : decode cX10_tellsOf 102 = .ok (.bipush 70, 2) := by decide +kernel
theorem dX10_tellsOf_104 : decode cX10_tellsOf 104 = .ok (.invokestatic 103, 3) := by decide +kernel
theorem dX10_tellsOf_107 : decode cX10_tellsOf 107 = .ok (.ireturn, 1) := by decide +kernel
theorem dX10_tellsOf_108 : decode cX10_tellsOf 108 = .ok (.iload_n 2, 1) := by decide +kernel
theorem dX10_tellsOf_109 : decode cX10_tellsOf 109 = .ok (.bipush 97, 2) := by decide +kernel
theorem dX10_tellsOf_111 : decode cX10_tellsOf 111 = .ok (.bipush 120, 2) := by decide +kernel
theorem dX10_tellsOf_113 : decode cX10_tellsOf 113 = .ok (.invokestatic 103, 3) := by decide +kernel
theorem dX10_tellsOf_116 : decode cX10_tellsOf 116 = .ok (.ireturn, 1) := by decide +kernel
theorem dX10_readsThing_0 : decode cX10_readsThing 0 = .ok (.aload_n 0, 1) := by decide +kernel
theorem dX10_readsThing_1 : decode cX10_readsThing 1 = .ok (.getfield 28, 3) := by decide +kernel
theorem dX10_readsThing_4 : decode cX10_readsThing 4 = .ok (.iload_n 1, 1) := by decide +kernel
theorem dX10_readsThing_5 : decode cX10_readsThing 5 = .ok (.iaload, 1) := by decide +kernel
theorem dX10_readsThing_6 : decode cX10_readsThing 6 = .ok (.bipush 12, 2) := by decide +kernel
theorem dX10_readsThing_8 : decode cX10_readsThing 8 = .ok (.if_icmp .ne 5, 3) := by decide +kernel
theorem dX10_readsThing_11 : decode cX10_readsThing 11 = .ok (.iconst 0, 1) := by decide +kernel
theorem dX10_readsThing_12 : decode cX10_readsThing 12 = .ok (.ireturn, 1) := by decide +kernel
theorem dX10_readsThing_13 : decode cX10_readsThing 13 = .ok (.iload_n 1, 1) := by decide +kernel
theorem dX10_readsThing_14 : decode cX10_readsThing 14 = .ok (.ifCond .ne 7, 3) := by decide +kernel
theorem dX10_readsThing_17 : decode cX10_readsThing 17 = .ok (.iconst 4, 1) := by decide +kernel
theorem dX10_readsThing_18 : decode cX10_readsThing 18 = .ok (.goto 4, 3) := by decide +kernel
theorem dX10_readsThing_21 : decode cX10_readsThing 21 = .ok (.iconst 3, 1) := by decide +kernel
theorem dX10_readsThing_22 : decode cX10_readsThing 22 = .ok (.istore_n 2, 1) := by decide +kernel
theorem dX10_readsThing_23 : decode cX10_readsThing 23 = .ok (.iconst 0, 1) := by decide +kernel
theorem dX10_readsThing_24 : decode cX10_readsThing 24 = .ok (.istore_n 3, 1) := by decide +kernel
theorem dX10_readsThing_25 : decode cX10_readsThing 25 = .ok (.iload_n 3, 1) := by decide +kernel
theorem dX10_readsThing_26 : decode cX10_readsThing 26 = .ok (.iload_n 2, 1) := by decide +kernel
theorem dX10_readsThing_27 : decode cX10_readsThing 27 = .ok (.if_icmp .ge 79, 3) := by decide +kernel
theorem dX10_readsThing_30 : decode cX10_readsThing 30 = .ok (.iload_n 1, 1) := by decide +kernel
theorem dX10_readsThing_31 : decode cX10_readsThing 31 = .ok (.iload_n 3, 1) := by decide +kernel
theorem dX10_readsThing_32 : decode cX10_readsThing 32 = .ok (.aload_n 0, 1) := by decide +kernel
theorem dX10_readsThing_33 : decode cX10_readsThing 33 = .ok (.iload_n 1, 1) := by decide +kernel
theorem dX10_readsThing_34 : decode cX10_readsThing 34 = .ok (.invokevirtual 106, 3) := by decide +kernel
theorem dX10_readsThing_37 : decode cX10_readsThing 37 = .ok (.invokestatic 109, 3) := by decide +kernel
theorem dX10_readsThing_40 : decode cX10_readsThing 40 = .ok (.istore 4, 2) := by decide +kernel
theorem dX10_readsThing_42 : decode cX10_readsThing 42 = .ok (.iload 4, 2) := by decide +kernel
theorem dX10_readsThing_44 : decode cX10_readsThing 44 = .ok (.ifCond .ge 5, 3) := by decide +kernel
theorem dX10_readsThing_47 : decode cX10_readsThing 47 = .ok (.iconst 0, 1) := by decide +kernel
theorem dX10_readsThing_48 : decode cX10_readsThing 48 = .ok (.ireturn, 1) := by decide +kernel
theorem dX10_readsThing_49 : decode cX10_readsThing 49 = .ok (.iload_n 1, 1) := by decide +kernel
theorem dX10_readsThing_50 : decode cX10_readsThing 50 = .ok (.ifCond .ne 23, 3) := by decide +kernel
theorem dX10_readsThing_53 : decode cX10_readsThing 53 = .ok (.aload_n 0, 1) := by decide +kernel
theorem dX10_readsThing_54 : decode cX10_readsThing 54 = .ok (.getfield 31, 3) := by decide +kernel
theorem dX10_readsThing_57 : decode cX10_readsThing 57 = .ok (.iconst 5, 1) := by decide +kernel
theorem dX10_readsThing_58 : decode cX10_readsThing 58 = .ok (.aload_n 0, 1) := by decide +kernel
theorem dX10_readsThing_59 : decode cX10_readsThing 59 = .ok (.getfield 28, 3) := by decide +kernel
theorem dX10_readsThing_62 : decode cX10_readsThing 62 = .ok (.iconst 0, 1) := by decide +kernel
theorem dX10_readsThing_63 : decode cX10_readsThing 63 = .ok (.iaload, 1) := by decide +kernel
theorem dX10_readsThing_64 : decode cX10_readsThing 64 = .ok (.imul, 1) := by decide +kernel
theorem dX10_readsThing_65 : decode cX10_readsThing 65 = .ok (.iload_n 3, 1) := by decide +kernel
theorem dX10_readsThing_66 : decode cX10_readsThing 66 = .ok (.iadd, 1) := by decide +kernel
theorem dX10_readsThing_67 : decode cX10_readsThing 67 = .ok (.iload 4, 2) := by decide +kernel
theorem dX10_readsThing_69 : decode cX10_readsThing 69 = .ok (.iastore, 1) := by decide +kernel
theorem dX10_readsThing_70 : decode cX10_readsThing 70 = .ok (.goto 20, 3) := by decide +kernel
theorem dX10_readsThing_73 : decode cX10_readsThing 73 = .ok (.aload_n 0, 1) := by decide +kernel
theorem dX10_readsThing_74 : decode cX10_readsThing 74 = .ok (.getfield 34, 3) := by decide +kernel
theorem dX10_readsThing_77 : decode cX10_readsThing 77 = .ok (.iconst 3, 1) := by decide +kernel
theorem dX10_readsThing_78 : decode cX10_readsThing 78 = .ok (.aload_n 0, 1) := by decide +kernel
theorem dX10_readsThing_79 : decode cX10_readsThing 79 = .ok (.getfield 28, 3) := by decide +kernel
theorem dX10_readsThing_82 : decode cX10_readsThing 82 = .ok (.iconst 1, 1) := by decide +kernel
theorem dX10_readsThing_83 : decode cX10_readsThing 83 = .ok (.iaload, 1) := by decide +kernel
theorem dX10_readsThing_84 : decode cX10_readsThing 84 = .ok (.imul, 1) := by decide +kernel
theorem dX10_readsThing_85 : decode cX10_readsThing 85 = .ok (.iload_n 3, 1) := by decide +kernel
theorem dX10_readsThing_86 : decode cX10_readsThing 86 = .ok (.iadd, 1) := by decide +kernel
theorem dX10_readsThing_87 : decode cX10_readsThing 87 = .ok (.iload 4, 2) := by decide +kernel
theorem dX10_readsThing_89 : decode cX10_readsThing 89 = .ok (.iastore, 1) := by decide +kernel
theorem dX10_readsThing_90 : decode cX10_readsThing 90 = .ok (.aload_n 0, 1) := by decide +kernel
theorem dX10_readsThing_91 : decode cX10_readsThing 91 = .ok (.dup, 1) := by decide +kernel
theorem dX10_readsThing_92 : decode cX10_readsThing 92 = .ok (.getfield 100, 3) := by decide +kernel
theorem dX10_readsThing_95 : decode cX10_readsThing 95 = .ok (.iconst 1, 1) := by decide +kernel
theorem dX10_readsThing_96 : decode cX10_readsThing 96 = .ok (.iadd, 1) := by decide +kernel
theorem dX10_readsThing_97 : decode cX10_readsThing 97 = .ok (.putfield 100, 3) := by decide +kernel
theorem dX10_readsThing_100 : decode cX10_readsThing 100 = .ok (.iinc 3 1, 3) := by decide +kernel
theorem dX10_readsThing_103 : decode cX10_readsThing 103 = .ok (.goto (-78), 3) := by decide +kernel
theorem dX10_readsThing_106 : decode cX10_readsThing 106 = .ok (.iload_n 1, 1) := by decide +kernel
theorem dX10_readsThing_107 : decode cX10_readsThing 107 = .ok (.ifCond .ne 62, 3) := by decide +kernel
theorem dX10_readsThing_110 : decode cX10_readsThing 110 = .ok (.aload_n 0, 1) := by decide +kernel
theorem dX10_readsThing_111 : decode cX10_readsThing 111 = .ok (.iconst 0, 1) := by decide +kernel
theorem dX10_readsThing_112 : decode cX10_readsThing 112 = .ok (.invokevirtual 106, 3) := by decide +kernel
theorem dX10_readsThing_115 : decode cX10_readsThing 115 = .ok (.bipush 48, 2) := by decide +kernel
theorem dX10_readsThing_117 : decode cX10_readsThing 117 = .ok (.bipush 57, 2) := by decide +kernel
theorem dX10_readsThing_119 : decode cX10_readsThing 119 = .ok (.invokestatic 103, 3) := by decide +kernel
theorem dX10_readsThing_122 : decode cX10_readsThing 122 = .ok (.istore_n 3, 1) := by decide +kernel
theorem dX10_readsThing_123 : decode cX10_readsThing 123 = .ok (.aload_n 0, 1) := by decide +kernel
theorem dX10_readsThing_124 : decode cX10_readsThing 124 = .ok (.getfield 31, 3) := by decide +kernel
theorem dX10_readsThing_127 : decode cX10_readsThing 127 = .ok (.iconst 5, 1) := by decide +kernel
theorem dX10_readsThing_128 : decode cX10_readsThing 128 = .ok (.aload_n 0, 1) := by decide +kernel
theorem dX10_readsThing_129 : decode cX10_readsThing 129 = .ok (.getfield 28, 3) := by decide +kernel
theorem dX10_readsThing_132 : decode cX10_readsThing 132 = .ok (.iconst 0, 1) := by decide +kernel
theorem dX10_readsThing_133 : decode cX10_readsThing 133 = .ok (.iaload, 1) := by decide +kernel
theorem dX10_readsThing_134 : decode cX10_readsThing 134 = .ok (.imul, 1) := by decide +kernel
theorem dX10_readsThing_135 : decode cX10_readsThing 135 = .ok (.iconst 4, 1) := by decide +kernel
theorem dX10_readsThing_136 : decode cX10_readsThing 136 = .ok (.iadd, 1) := by decide +kernel
theorem dX10_readsThing_137 : decode cX10_readsThing 137 = .ok (.iload_n 3, 1) := by decide +kernel
theorem dX10_readsThing_138 : decode cX10_readsThing 138 = .ok (.bipush (-9), 2) := by decide +kernel
theorem dX10_readsThing_140 : decode cX10_readsThing 140 = .ok (.if_icmp .ne 7, 3) := by decide +kernel
theorem dX10_readsThing_143 : decode cX10_readsThing 143 = .ok (.iconst (-1), 1) := by decide +kernel
theorem dX10_readsThing_144 : decode cX10_readsThing 144 = .ok (.goto 4, 3) := by decide +kernel
theorem dX10_readsThing_147 : decode cX10_readsThing 147 = .ok (.iload_n 3, 1) := by decide +kernel
theorem dX10_readsThing_148 : decode cX10_readsThing 148 = .ok (.iastore, 1) := by decide +kernel
theorem dX10_readsThing_149 : decode cX10_readsThing 149 = .ok (.aload_n 0, 1) := by decide +kernel
theorem dX10_readsThing_150 : decode cX10_readsThing 150 = .ok (.dup, 1) := by decide +kernel
theorem dX10_readsThing_151 : decode cX10_readsThing 151 = .ok (.getfield 100, 3) := by decide +kernel
theorem dX10_readsThing_154 : decode cX10_readsThing 154 = .ok (.iload_n 3, 1) := by decide +kernel
theorem dX10_readsThing_155 : decode cX10_readsThing 155 = .ok (.bipush (-9), 2) := by decide +kernel
theorem dX10_readsThing_157 : decode cX10_readsThing 157 = .ok (.if_icmp .ne 7, 3) := by decide +kernel
theorem dX10_readsThing_160 : decode cX10_readsThing 160 = .ok (.iconst 0, 1) := by decide +kernel
theorem dX10_readsThing_161 : decode cX10_readsThing 161 = .ok (.goto 4, 3) := by decide +kernel
theorem dX10_readsThing_164 : decode cX10_readsThing 164 = .ok (.iconst 1, 1) := by decide +kernel
theorem dX10_readsThing_165 : decode cX10_readsThing 165 = .ok (.iadd, 1) := by decide +kernel
theorem dX10_readsThing_166 : decode cX10_readsThing 166 = .ok (.putfield 100, 3) := by decide +kernel
theorem dX10_readsThing_169 : decode cX10_readsThing 169 = .ok (.aload_n 0, 1) := by decide +kernel
theorem dX10_readsThing_170 : decode cX10_readsThing 170 = .ok (.getfield 28, 3) := by decide +kernel
theorem dX10_readsThing_173 : decode cX10_readsThing 173 = .ok (.iload_n 1, 1) := by decide +kernel
theorem dX10_readsThing_174 : decode cX10_readsThing 174 = .ok (.dup2, 1) := by decide +kernel
theorem dX10_readsThing_175 : decode cX10_readsThing 175 = .ok (.iaload, 1) := by decide +kernel
theorem dX10_readsThing_176 : decode cX10_readsThing 176 = .ok (.iconst 1, 1) := by decide +kernel
theorem dX10_readsThing_177 : decode cX10_readsThing 177 = .ok (.iadd, 1) := by decide +kernel
theorem dX10_readsThing_178 : decode cX10_readsThing 178 = .ok (.iastore, 1) := by decide +kernel
theorem dX10_readsThing_179 : decode cX10_readsThing 179 = .ok (.iconst 1, 1) := by decide +kernel
theorem dX10_readsThing_180 : decode cX10_readsThing 180 = .ok (.ireturn, 1) := by decide +kernel
theorem dX10_readsText_0 : decode cX10_readsText 0 = .ok (.aload_n 0, 1) := by decide +kernel
theorem dX10_readsText_1 : decode cX10_readsText 1 = .ok (.iconst 0, 1) := by decide +kernel
theorem dX10_readsText_2 : decode cX10_readsText 2 = .ok (.putfield 100, 3) := by decide +kernel
theorem dX10_readsText_5 : decode cX10_readsText 5 = .ok (.aload_n 0, 1) := by decide +kernel
theorem dX10_readsText_6 : decode cX10_readsText 6 = .ok (.getfield 28, 3) := by decide +kernel
theorem dX10_readsText_9 : decode cX10_readsText 9 = .ok (.iload_n 1, 1) := by decide +kernel
theorem dX10_readsText_10 : decode cX10_readsText 10 = .ok (.iconst 0, 1) := by decide +kernel
theorem dX10_readsText_11 : decode cX10_readsText 11 = .ok (.iastore, 1) := by decide +kernel
theorem dX10_readsText_12 : decode cX10_readsText 12 = .ok (.aload_n 0, 1) := by decide +kernel
theorem dX10_readsText_13 : decode cX10_readsText 13 = .ok (.getfield 25, 3) := by decide +kernel
theorem dX10_readsText_16 : decode cX10_readsText 16 = .ok (.iload_n 1, 1) := by decide +kernel
theorem dX10_readsText_17 : decode cX10_readsText 17 = .ok (.iaload, 1) := by decide +kernel
theorem dX10_readsText_18 : decode cX10_readsText 18 = .ok (.ifCond .le 7, 3) := by decide +kernel
theorem dX10_readsText_21 : decode cX10_readsText 21 = .ok (.iconst 1, 1) := by decide +kernel
theorem dX10_readsText_22 : decode cX10_readsText 22 = .ok (.goto 4, 3) := by decide +kernel
theorem dX10_readsText_25 : decode cX10_readsText 25 = .ok (.iconst 0, 1) := by decide +kernel
theorem dX10_readsText_26 : decode cX10_readsText 26 = .ok (.istore_n 2, 1) := by decide +kernel
theorem dX10_readsText_27 : decode cX10_readsText 27 = .ok (.iload_n 2, 1) := by decide +kernel
theorem dX10_readsText_28 : decode cX10_readsText 28 = .ok (.ifCond .eq 83, 3) := by decide +kernel
theorem dX10_readsText_31 : decode cX10_readsText 31 = .ok (.aload_n 0, 1) := by decide +kernel
theorem dX10_readsText_32 : decode cX10_readsText 32 = .ok (.iload_n 1, 1) := by decide +kernel
theorem dX10_readsText_33 : decode cX10_readsText 33 = .ok (.invokevirtual 112, 3) := by decide +kernel
theorem dX10_readsText_36 : decode cX10_readsText 36 = .ok (.istore_n 3, 1) := by decide +kernel
theorem dX10_readsText_37 : decode cX10_readsText 37 = .ok (.iload_n 3, 1) := by decide +kernel
theorem dX10_readsText_38 : decode cX10_readsText 38 = .ok (.ifCond .eq 20, 3) := by decide +kernel
theorem dX10_readsText_41 : decode cX10_readsText 41 = .ok (.aload_n 0, 1) := by decide +kernel
theorem dX10_readsText_42 : decode cX10_readsText 42 = .ok (.getfield 100, 3) := by decide +kernel
theorem dX10_readsText_45 : decode cX10_readsText 45 = .ok (.aload_n 0, 1) := by decide +kernel
theorem dX10_readsText_46 : decode cX10_readsText 46 = .ok (.getfield 25, 3) := by decide +kernel
theorem dX10_readsText_49 : decode cX10_readsText 49 = .ok (.iload_n 1, 1) := by decide +kernel
theorem dX10_readsText_50 : decode cX10_readsText 50 = .ok (.iaload, 1) := by decide +kernel
theorem dX10_readsText_51 : decode cX10_readsText 51 = .ok (.if_icmp .ge 7, 3) := by decide +kernel
theorem dX10_readsText_54 : decode cX10_readsText 54 = .ok (.iconst 1, 1) := by decide +kernel
theorem dX10_readsText_55 : decode cX10_readsText 55 = .ok (.goto 4, 3) := by decide +kernel
theorem dX10_readsText_58 : decode cX10_readsText 58 = .ok (.iconst 0, 1) := by decide +kernel
theorem dX10_readsText_59 : decode cX10_readsText 59 = .ok (.istore_n 2, 1) := by decide +kernel
theorem dX10_readsText_60 : decode cX10_readsText 60 = .ok (.iload_n 3, 1) := by decide +kernel
theorem dX10_readsText_61 : decode cX10_readsText 61 = .ok (.ifCond .eq 17, 3) := by decide +kernel
theorem dX10_readsText_64 : decode cX10_readsText 64 = .ok (.iload_n 2, 1) := by decide +kernel
theorem dX10_readsText_65 : decode cX10_readsText 65 = .ok (.ifCond .eq 25, 3) := by decide +kernel
theorem dX10_readsText_68 : decode cX10_readsText 68 = .ok (.aload_n 0, 1) := by decide +kernel
theorem dX10_readsText_69 : decode cX10_readsText 69 = .ok (.iload_n 1, 1) := by decide +kernel
theorem dX10_readsText_70 : decode cX10_readsText 70 = .ok (.invokevirtual 106, 3) := by decide +kernel
theorem dX10_readsText_73 : decode cX10_readsText 73 = .ok (.bipush 59, 2) := by decide +kernel
theorem dX10_readsText_75 : decode cX10_readsText 75 = .ok (.if_icmp .eq 15, 3) := by decide +kernel
theorem dX10_readsText_78 : decode cX10_readsText 78 = .ok (.aload_n 0, 1) := by decide +kernel
theorem dX10_readsText_79 : decode cX10_readsText 79 = .ok (.getfield 28, 3) := by decide +kernel
theorem dX10_readsText_82 : decode cX10_readsText 82 = .ok (.iload_n 1, 1) := by decide +kernel
theorem dX10_readsText_83 : decode cX10_readsText 83 = .ok (.iconst 0, 1) := by decide +kernel
theorem dX10_readsText_84 : decode cX10_readsText 84 = .ok (.iastore, 1) := by decide +kernel
theorem dX10_readsText_85 : decode cX10_readsText 85 = .ok (.aload_n 0, 1) := by decide +kernel
theorem dX10_readsText_86 : decode cX10_readsText 86 = .ok (.getfield 100, 3) := by decide +kernel
theorem dX10_readsText_89 : decode cX10_readsText 89 = .ok (.ireturn, 1) := by decide +kernel
theorem dX10_readsText_90 : decode cX10_readsText 90 = .ok (.aload_n 0, 1) := by decide +kernel
theorem dX10_readsText_91 : decode cX10_readsText 91 = .ok (.dup, 1) := by decide +kernel
theorem dX10_readsText_92 : decode cX10_readsText 92 = .ok (.getfield 100, 3) := by decide +kernel
theorem dX10_readsText_95 : decode cX10_readsText 95 = .ok (.iload_n 2, 1) := by decide +kernel
theorem dX10_readsText_96 : decode cX10_readsText 96 = .ok (.ifCond .eq 7, 3) := by decide +kernel
theorem dX10_readsText_99 : decode cX10_readsText 99 = .ok (.iconst 1, 1) := by decide +kernel
theorem dX10_readsText_100 : decode cX10_readsText 100 = .ok (.goto 4, 3) := by decide +kernel
theorem dX10_readsText_103 : decode cX10_readsText 103 = .ok (.iconst 0, 1) := by decide +kernel
theorem dX10_readsText_104 : decode cX10_readsText 104 = .ok (.iadd, 1) := by decide +kernel
theorem dX10_readsText_105 : decode cX10_readsText 105 = .ok (.putfield 100, 3) := by decide +kernel
theorem dX10_readsText_108 : decode cX10_readsText 108 = .ok (.goto (-81), 3) := by decide +kernel
theorem dX10_readsText_111 : decode cX10_readsText 111 = .ok (.iconst (-1), 1) := by decide +kernel
theorem dX10_readsText_112 : decode cX10_readsText 112 = .ok (.ireturn, 1) := by decide +kernel
theorem dX10_reads_0 : decode cX10_reads 0 = .ok (.aload_n 0, 1) := by decide +kernel
theorem dX10_reads_1 : decode cX10_reads 1 = .ok (.iconst 0, 1) := by decide +kernel
theorem dX10_reads_2 : decode cX10_reads 2 = .ok (.invokevirtual 115, 3) := by decide +kernel
theorem dX10_reads_5 : decode cX10_reads 5 = .ok (.pop, 1) := by decide +kernel
theorem dX10_reads_6 : decode cX10_reads 6 = .ok (.aload_n 0, 1) := by decide +kernel
theorem dX10_reads_7 : decode cX10_reads 7 = .ok (.iconst 1, 1) := by decide +kernel
theorem dX10_reads_8 : decode cX10_reads 8 = .ok (.invokevirtual 115, 3) := by decide +kernel
theorem dX10_reads_11 : decode cX10_reads 11 = .ok (.pop, 1) := by decide +kernel
theorem dX10_reads_12 : decode cX10_reads 12 = .ok (.return_, 1) := by decide +kernel
theorem dX10_fault_0 : decode cX10_fault 0 = .ok (.iload_n 1, 1) := by decide +kernel
theorem dX10_fault_1 : decode cX10_fault 1 = .ok (.invokestatic 95, 3) := by decide +kernel
theorem dX10_fault_4 : decode cX10_fault 4 = .ok (.ifCond .eq 11, 3) := by decide +kernel
theorem dX10_fault_7 : decode cX10_fault 7 = .ok (.aload_n 0, 1) := by decide +kernel
theorem dX10_fault_8 : decode cX10_fault 8 = .ok (.iload_n 1, 1) := by decide +kernel
theorem dX10_fault_9 : decode cX10_fault 9 = .ok (.invokevirtual 115, 3) := by decide +kernel
theorem dX10_fault_12 : decode cX10_fault 12 = .ok (.goto 5, 3) := by decide +kernel
theorem dX10_fault_15 : decode cX10_fault 15 = .ok (.bipush (-2), 2) := by decide +kernel
theorem dX10_fault_17 : decode cX10_fault 17 = .ok (.ireturn, 1) := by decide +kernel
theorem dX10_isLaw_0 : decode cX10_isLaw 0 = .ok (.iload_n 1, 1) := by decide +kernel
theorem dX10_isLaw_1 : decode cX10_isLaw 1 = .ok (.i2l, 1) := by decide +kernel
theorem dX10_isLaw_2 : decode cX10_isLaw 2 = .ok (.lconst 0, 1) := by decide +kernel
theorem dX10_isLaw_3 : decode cX10_isLaw 3 = .ok (.aload_n 0, 1) := by decide +kernel
theorem dX10_isLaw_4 : decode cX10_isLaw 4 = .ok (.getfield 28, 3) := by decide +kernel
theorem dX10_isLaw_7 : decode cX10_isLaw 7 = .ok (.iconst 0, 1) := by decide +kernel
theorem dX10_isLaw_8 : decode cX10_isLaw 8 = .ok (.iaload, 1) := by decide +kernel
theorem dX10_isLaw_9 : decode cX10_isLaw 9 = .ok (.iconst 1, 1) := by decide +kernel
theorem dX10_isLaw_10 : decode cX10_isLaw 10 = .ok (.isub, 1) := by decide +kernel
theorem dX10_isLaw_11 : decode cX10_isLaw 11 = .ok (.i2l, 1) := by decide +kernel
theorem dX10_isLaw_12 : decode cX10_isLaw 12 = .ok (.invokestatic 66, 3) := by decide +kernel
theorem dX10_isLaw_15 : decode cX10_isLaw 15 = .ok (.ireturn, 1) := by decide +kernel
theorem dX10_isYear_0 : decode cX10_isYear 0 = .ok (.iload_n 0, 1) := by decide +kernel
theorem dX10_isYear_1 : decode cX10_isYear 1 = .ok (.i2l, 1) := by decide +kernel
theorem dX10_isYear_2 : decode cX10_isYear 2 = .ok (.lconst 0, 1) := by decide +kernel
theorem dX10_isYear_3 : decode cX10_isYear 3 = .ok (.ldc2_w 118, 3) := by decide +kernel
theorem dX10_isYear_6 : decode cX10_isYear 6 = .ok (.invokestatic 66, 3) := by decide +kernel
theorem dX10_isYear_9 : decode cX10_isYear 9 = .ok (.ireturn, 1) := by decide +kernel
theorem dX10_isHour_0 : decode cX10_isHour 0 = .ok (.iload_n 0, 1) := by decide +kernel
theorem dX10_isHour_1 : decode cX10_isHour 1 = .ok (.i2l, 1) := by decide +kernel
theorem dX10_isHour_2 : decode cX10_isHour 2 = .ok (.lconst 0, 1) := by decide +kernel
theorem dX10_isHour_3 : decode cX10_isHour 3 = .ok (.ldc2_w 120, 3) := by decide +kernel
theorem dX10_isHour_6 : decode cX10_isHour 6 = .ok (.invokestatic 66, 3) := by decide +kernel
theorem dX10_isHour_9 : decode cX10_isHour 9 = .ok (.ireturn, 1) := by decide +kernel
theorem dX10_law_0 : decode cX10_law 0 = .ok (.aload_n 0, 1) := by decide +kernel
theorem dX10_law_1 : decode cX10_law 1 = .ok (.invokevirtual 122, 3) := by decide +kernel
theorem dX10_law_4 : decode cX10_law 4 = .ok (.aload_n 0, 1) := by decide +kernel
theorem dX10_law_5 : decode cX10_law 5 = .ok (.iload_n 1, 1) := by decide +kernel
theorem dX10_law_6 : decode cX10_law 6 = .ok (.invokevirtual 125, 3) := by decide +kernel
theorem dX10_law_9 : decode cX10_law 9 = .ok (.ifCond .eq 28, 3) := by decide +kernel
theorem dX10_law_12 : decode cX10_law 12 = .ok (.iload_n 2, 1) := by decide +kernel
theorem dX10_law_13 : decode cX10_law 13 = .ok (.i2l, 1) := by decide +kernel
theorem dX10_law_14 : decode cX10_law 14 = .ok (.lconst 0, 1) := by decide +kernel
theorem dX10_law_15 : decode cX10_law 15 = .ok (.ldc2_w 128, 3) := by decide +kernel
theorem dX10_law_18 : decode cX10_law 18 = .ok (.invokestatic 66, 3) := by decide +kernel
theorem dX10_law_21 : decode cX10_law 21 = .ok (.ifCond .eq 16, 3) := by decide +kernel
theorem dX10_law_24 : decode cX10_law 24 = .ok (.aload_n 0, 1) := by decide +kernel
theorem dX10_law_25 : decode cX10_law 25 = .ok (.getfield 31, 3) := by decide +kernel
theorem dX10_law_28 : decode cX10_law 28 = .ok (.iconst 5, 1) := by decide +kernel
theorem dX10_law_29 : decode cX10_law 29 = .ok (.iload_n 1, 1) := by decide +kernel
theorem dX10_law_30 : decode cX10_law 30 = .ok (.imul, 1) := by decide +kernel
theorem dX10_law_31 : decode cX10_law 31 = .ok (.iload_n 2, 1) := by decide +kernel
theorem dX10_law_32 : decode cX10_law 32 = .ok (.iadd, 1) := by decide +kernel
theorem dX10_law_33 : decode cX10_law 33 = .ok (.iaload, 1) := by decide +kernel
theorem dX10_law_34 : decode cX10_law 34 = .ok (.goto 5, 3) := by decide +kernel
theorem dX10_law_37 : decode cX10_law 37 = .ok (.bipush (-2), 2) := by decide +kernel
theorem dX10_law_39 : decode cX10_law 39 = .ok (.ireturn, 1) := by decide +kernel
theorem dX10_want_0 : decode cX10_want 0 = .ok (.aload_n 0, 1) := by decide +kernel
theorem dX10_want_1 : decode cX10_want 1 = .ok (.invokevirtual 122, 3) := by decide +kernel
theorem dX10_want_4 : decode cX10_want 4 = .ok (.iload_n 1, 1) := by decide +kernel
theorem dX10_want_5 : decode cX10_want 5 = .ok (.i2l, 1) := by decide +kernel
theorem dX10_want_6 : decode cX10_want 6 = .ok (.lconst 0, 1) := by decide +kernel
theorem dX10_want_7 : decode cX10_want 7 = .ok (.aload_n 0, 1) := by decide +kernel
theorem dX10_want_8 : decode cX10_want 8 = .ok (.getfield 28, 3) := by decide +kernel
theorem dX10_want_11 : decode cX10_want 11 = .ok (.iconst 1, 1) := by decide +kernel
theorem dX10_want_12 : decode cX10_want 12 = .ok (.iaload, 1) := by decide +kernel
theorem dX10_want_13 : decode cX10_want 13 = .ok (.iconst 1, 1) := by decide +kernel
theorem dX10_want_14 : decode cX10_want 14 = .ok (.isub, 1) := by decide +kernel
theorem dX10_want_15 : decode cX10_want 15 = .ok (.i2l, 1) := by decide +kernel
theorem dX10_want_16 : decode cX10_want 16 = .ok (.invokestatic 66, 3) := by decide +kernel
theorem dX10_want_19 : decode cX10_want 19 = .ok (.ifCond .eq 28, 3) := by decide +kernel
theorem dX10_want_22 : decode cX10_want 22 = .ok (.iload_n 2, 1) := by decide +kernel
theorem dX10_want_23 : decode cX10_want 23 = .ok (.i2l, 1) := by decide +kernel
theorem dX10_want_24 : decode cX10_want 24 = .ok (.lconst 0, 1) := by decide +kernel
theorem dX10_want_25 : decode cX10_want 25 = .ok (.ldc2_w 80, 3) := by decide +kernel
theorem dX10_want_28 : decode cX10_want 28 = .ok (.invokestatic 66, 3) := by decide +kernel
theorem dX10_want_31 : decode cX10_want 31 = .ok (.ifCond .eq 16, 3) := by decide +kernel
theorem dX10_want_34 : decode cX10_want 34 = .ok (.aload_n 0, 1) := by decide +kernel
theorem dX10_want_35 : decode cX10_want 35 = .ok (.getfield 34, 3) := by decide +kernel
theorem dX10_want_38 : decode cX10_want 38 = .ok (.iconst 3, 1) := by decide +kernel
theorem dX10_want_39 : decode cX10_want 39 = .ok (.iload_n 1, 1) := by decide +kernel
theorem dX10_want_40 : decode cX10_want 40 = .ok (.imul, 1) := by decide +kernel
theorem dX10_want_41 : decode cX10_want 41 = .ok (.iload_n 2, 1) := by decide +kernel
theorem dX10_want_42 : decode cX10_want 42 = .ok (.iadd, 1) := by decide +kernel
theorem dX10_want_43 : decode cX10_want 43 = .ok (.iaload, 1) := by decide +kernel
theorem dX10_want_44 : decode cX10_want 44 = .ok (.goto 5, 3) := by decide +kernel
theorem dX10_want_47 : decode cX10_want 47 = .ok (.bipush (-2), 2) := by decide +kernel
theorem dX10_want_49 : decode cX10_want 49 = .ok (.ireturn, 1) := by decide +kernel
theorem dX10_trial_0 : decode cX10_trial 0 = .ok (.iload_n 1, 1) := by decide +kernel
theorem dX10_trial_1 : decode cX10_trial 1 = .ok (.invokestatic 130, 3) := by decide +kernel
theorem dX10_trial_4 : decode cX10_trial 4 = .ok (.ifCond .eq 15, 3) := by decide +kernel
theorem dX10_trial_7 : decode cX10_trial 7 = .ok (.iload_n 2, 1) := by decide +kernel
theorem dX10_trial_8 : decode cX10_trial 8 = .ok (.i2l, 1) := by decide +kernel
theorem dX10_trial_9 : decode cX10_trial 9 = .ok (.lconst 0, 1) := by decide +kernel
theorem dX10_trial_10 : decode cX10_trial 10 = .ok (.ldc2_w 133, 3) := by decide +kernel
theorem dX10_trial_13 : decode cX10_trial 13 = .ok (.invokestatic 66, 3) := by decide +kernel
theorem dX10_trial_16 : decode cX10_trial 16 = .ok (.ifCond .ne 6, 3) := by decide +kernel
theorem dX10_trial_19 : decode cX10_trial 19 = .ok (.bipush (-2), 2) := by decide +kernel
theorem dX10_trial_21 : decode cX10_trial 21 = .ok (.ireturn, 1) := by decide +kernel
theorem dX10_trial_22 : decode cX10_trial 22 = .ok (.aload_n 0, 1) := by decide +kernel
theorem dX10_trial_23 : decode cX10_trial 23 = .ok (.getfield 135, 3) := by decide +kernel
theorem dX10_trial_26 : decode cX10_trial 26 = .ok (.bipush 12, 2) := by decide +kernel
theorem dX10_trial_28 : decode cX10_trial 28 = .ok (.if_icmp .ne 6, 3) := by decide +kernel
theorem dX10_trial_31 : decode cX10_trial 31 = .ok (.bipush (-4), 2) := by decide +kernel
theorem dX10_trial_33 : decode cX10_trial 33 = .ok (.ireturn, 1) := by decide +kernel
theorem dX10_trial_34 : decode cX10_trial 34 = .ok (.aload_n 0, 1) := by decide +kernel
theorem dX10_trial_35 : decode cX10_trial 35 = .ok (.getfield 37, 3) := by decide +kernel
theorem dX10_trial_38 : decode cX10_trial 38 = .ok (.iconst 2, 1) := by decide +kernel
theorem dX10_trial_39 : decode cX10_trial 39 = .ok (.aload_n 0, 1) := by decide +kernel
theorem dX10_trial_40 : decode cX10_trial 40 = .ok (.getfield 135, 3) := by decide +kernel
theorem dX10_trial_43 : decode cX10_trial 43 = .ok (.imul, 1) := by decide +kernel
theorem dX10_trial_44 : decode cX10_trial 44 = .ok (.iload_n 1, 1) := by decide +kernel
theorem dX10_trial_45 : decode cX10_trial 45 = .ok (.iastore, 1) := by decide +kernel
theorem dX10_trial_46 : decode cX10_trial 46 = .ok (.aload_n 0, 1) := by decide +kernel
theorem dX10_trial_47 : decode cX10_trial 47 = .ok (.getfield 37, 3) := by decide +kernel
theorem dX10_trial_50 : decode cX10_trial 50 = .ok (.iconst 2, 1) := by decide +kernel
theorem dX10_trial_51 : decode cX10_trial 51 = .ok (.aload_n 0, 1) := by decide +kernel
theorem dX10_trial_52 : decode cX10_trial 52 = .ok (.getfield 135, 3) := by decide +kernel
theorem dX10_trial_55 : decode cX10_trial 55 = .ok (.imul, 1) := by decide +kernel
theorem dX10_trial_56 : decode cX10_trial 56 = .ok (.iconst 1, 1) := by decide +kernel
theorem dX10_trial_57 : decode cX10_trial 57 = .ok (.iadd, 1) := by decide +kernel
theorem dX10_trial_58 : decode cX10_trial 58 = .ok (.iload_n 2, 1) := by decide +kernel
theorem dX10_trial_59 : decode cX10_trial 59 = .ok (.iastore, 1) := by decide +kernel
theorem dX10_trial_60 : decode cX10_trial 60 = .ok (.aload_n 0, 1) := by decide +kernel
theorem dX10_trial_61 : decode cX10_trial 61 = .ok (.dup, 1) := by decide +kernel
theorem dX10_trial_62 : decode cX10_trial 62 = .ok (.getfield 135, 3) := by decide +kernel
theorem dX10_trial_65 : decode cX10_trial 65 = .ok (.iconst 1, 1) := by decide +kernel
theorem dX10_trial_66 : decode cX10_trial 66 = .ok (.iadd, 1) := by decide +kernel
theorem dX10_trial_67 : decode cX10_trial 67 = .ok (.putfield 135, 3) := by decide +kernel
theorem dX10_trial_70 : decode cX10_trial 70 = .ok (.aload_n 0, 1) := by decide +kernel
theorem dX10_trial_71 : decode cX10_trial 71 = .ok (.getfield 135, 3) := by decide +kernel
theorem dX10_trial_74 : decode cX10_trial 74 = .ok (.ireturn, 1) := by decide +kernel
theorem dX10_breach_0 : decode cX10_breach 0 = .ok (.iload_n 1, 1) := by decide +kernel
theorem dX10_breach_1 : decode cX10_breach 1 = .ok (.invokestatic 130, 3) := by decide +kernel
theorem dX10_breach_4 : decode cX10_breach 4 = .ok (.ifCond .eq 15, 3) := by decide +kernel
theorem dX10_breach_7 : decode cX10_breach 7 = .ok (.iload_n 2, 1) := by decide +kernel
theorem dX10_breach_8 : decode cX10_breach 8 = .ok (.i2l, 1) := by decide +kernel
theorem dX10_breach_9 : decode cX10_breach 9 = .ok (.lconst 0, 1) := by decide +kernel
theorem dX10_breach_10 : decode cX10_breach 10 = .ok (.ldc2_w 133, 3) := by decide +kernel
theorem dX10_breach_13 : decode cX10_breach 13 = .ok (.invokestatic 66, 3) := by decide +kernel
theorem dX10_breach_16 : decode cX10_breach 16 = .ok (.ifCond .ne 6, 3) := by decide +kernel
theorem dX10_breach_19 : decode cX10_breach 19 = .ok (.bipush (-2), 2) := by decide +kernel
theorem dX10_breach_21 : decode cX10_breach 21 = .ok (.ireturn, 1) := by decide +kernel
theorem dX10_breach_22 : decode cX10_breach 22 = .ok (.aload_n 0, 1) := by decide +kernel
theorem dX10_breach_23 : decode cX10_breach 23 = .ok (.getfield 138, 3) := by decide +kernel
theorem dX10_breach_26 : decode cX10_breach 26 = .ok (.bipush 12, 2) := by decide +kernel
theorem dX10_breach_28 : decode cX10_breach 28 = .ok (.if_icmp .ne 6, 3) := by decide +kernel
theorem dX10_breach_31 : decode cX10_breach 31 = .ok (.bipush (-4), 2) := by decide +kernel
theorem dX10_breach_33 : decode cX10_breach 33 = .ok (.ireturn, 1) := by decide +kernel
theorem dX10_breach_34 : decode cX10_breach 34 = .ok (.aload_n 0, 1) := by decide +kernel
theorem dX10_breach_35 : decode cX10_breach 35 = .ok (.getfield 40, 3) := by decide +kernel
theorem dX10_breach_38 : decode cX10_breach 38 = .ok (.iconst 2, 1) := by decide +kernel
theorem dX10_breach_39 : decode cX10_breach 39 = .ok (.aload_n 0, 1) := by decide +kernel
theorem dX10_breach_40 : decode cX10_breach 40 = .ok (.getfield 138, 3) := by decide +kernel
theorem dX10_breach_43 : decode cX10_breach 43 = .ok (.imul, 1) := by decide +kernel
theorem dX10_breach_44 : decode cX10_breach 44 = .ok (.iload_n 1, 1) := by decide +kernel
theorem dX10_breach_45 : decode cX10_breach 45 = .ok (.iastore, 1) := by decide +kernel
theorem dX10_breach_46 : decode cX10_breach 46 = .ok (.aload_n 0, 1) := by decide +kernel
theorem dX10_breach_47 : decode cX10_breach 47 = .ok (.getfield 40, 3) := by decide +kernel
theorem dX10_breach_50 : decode cX10_breach 50 = .ok (.iconst 2, 1) := by decide +kernel
theorem dX10_breach_51 : decode cX10_breach 51 = .ok (.aload_n 0, 1) := by decide +kernel
theorem dX10_breach_52 : decode cX10_breach 52 = .ok (.getfield 138, 3) := by decide +kernel
theorem dX10_breach_55 : decode cX10_breach 55 = .ok (.imul, 1) := by decide +kernel
theorem dX10_breach_56 : decode cX10_breach 56 = .ok (.iconst 1, 1) := by decide +kernel
theorem dX10_breach_57 : decode cX10_breach 57 = .ok (.iadd, 1) := by decide +kernel
theorem dX10_breach_58 : decode cX10_breach 58 = .ok (.iload_n 2, 1) := by decide +kernel
theorem dX10_breach_59 : decode cX10_breach 59 = .ok (.iastore, 1) := by decide +kernel
theorem dX10_breach_60 : decode cX10_breach 60 = .ok (.aload_n 0, 1) := by decide +kernel
theorem dX10_breach_61 : decode cX10_breach 61 = .ok (.dup, 1) := by decide +kernel
theorem dX10_breach_62 : decode cX10_breach 62 = .ok (.getfield 138, 3) := by decide +kernel
theorem dX10_breach_65 : decode cX10_breach 65 = .ok (.iconst 1, 1) := by decide +kernel
theorem dX10_breach_66 : decode cX10_breach 66 = .ok (.iadd, 1) := by decide +kernel
theorem dX10_breach_67 : decode cX10_breach 67 = .ok (.putfield 138, 3) := by decide +kernel
theorem dX10_breach_70 : decode cX10_breach 70 = .ok (.aload_n 0, 1) := by decide +kernel
theorem dX10_breach_71 : decode cX10_breach 71 = .ok (.getfield 138, 3) := by decide +kernel
theorem dX10_breach_74 : decode cX10_breach 74 = .ok (.ireturn, 1) := by decide +kernel
theorem dX10_back_0 : decode cX10_back 0 = .ok (.iload_n 1, 1) := by decide +kernel
theorem dX10_back_1 : decode cX10_back 1 = .ok (.invokestatic 95, 3) := by decide +kernel
theorem dX10_back_4 : decode cX10_back 4 = .ok (.ifCond .ne 6, 3) := by decide +kernel
theorem dX10_back_7 : decode cX10_back 7 = .ok (.bipush (-2), 2) := by decide +kernel
theorem dX10_back_9 : decode cX10_back 9 = .ok (.ireturn, 1) := by decide +kernel
theorem dX10_back_10 : decode cX10_back 10 = .ok (.iload_n 1, 1) := by decide +kernel
theorem dX10_back_11 : decode cX10_back 11 = .ok (.ifCond .ne 10, 3) := by decide +kernel
theorem dX10_back_14 : decode cX10_back 14 = .ok (.aload_n 0, 1) := by decide +kernel
theorem dX10_back_15 : decode cX10_back 15 = .ok (.getfield 135, 3) := by decide +kernel
theorem dX10_back_18 : decode cX10_back 18 = .ok (.goto 7, 3) := by decide +kernel
theorem dX10_back_21 : decode cX10_back 21 = .ok (.aload_n 0, 1) := by decide +kernel
theorem dX10_back_22 : decode cX10_back 22 = .ok (.getfield 138, 3) := by decide +kernel
theorem dX10_back_25 : decode cX10_back 25 = .ok (.istore_n 2, 1) := by decide +kernel
theorem dX10_back_26 : decode cX10_back 26 = .ok (.iload_n 2, 1) := by decide +kernel
theorem dX10_back_27 : decode cX10_back 27 = .ok (.ifCond .ne 6, 3) := by decide +kernel
theorem dX10_back_30 : decode cX10_back 30 = .ok (.bipush (-3), 2) := by decide +kernel
theorem dX10_back_32 : decode cX10_back 32 = .ok (.ireturn, 1) := by decide +kernel
theorem dX10_back_33 : decode cX10_back 33 = .ok (.aload_n 0, 1) := by decide +kernel
theorem dX10_back_34 : decode cX10_back 34 = .ok (.dup, 1) := by decide +kernel
theorem dX10_back_35 : decode cX10_back 35 = .ok (.getfield 135, 3) := by decide +kernel
theorem dX10_back_38 : decode cX10_back 38 = .ok (.iload_n 1, 1) := by decide +kernel
theorem dX10_back_39 : decode cX10_back 39 = .ok (.ifCond .ne 7, 3) := by decide +kernel
theorem dX10_back_42 : decode cX10_back 42 = .ok (.iconst 1, 1) := by decide +kernel
theorem dX10_back_43 : decode cX10_back 43 = .ok (.goto 4, 3) := by decide +kernel
theorem dX10_back_46 : decode cX10_back 46 = .ok (.iconst 0, 1) := by decide +kernel
theorem dX10_back_47 : decode cX10_back 47 = .ok (.isub, 1) := by decide +kernel
theorem dX10_back_48 : decode cX10_back 48 = .ok (.putfield 135, 3) := by decide +kernel
theorem dX10_back_51 : decode cX10_back 51 = .ok (.aload_n 0, 1) := by decide +kernel
theorem dX10_back_52 : decode cX10_back 52 = .ok (.dup, 1) := by decide +kernel
theorem dX10_back_53 : decode cX10_back 53 = .ok (.getfield 138, 3) := by decide +kernel
theorem dX10_back_56 : decode cX10_back 56 = .ok (.iload_n 1, 1) := by decide +kernel
theorem dX10_back_57 : decode cX10_back 57 = .ok (.isub, 1) := by decide +kernel
theorem dX10_back_58 : decode cX10_back 58 = .ok (.putfield 138, 3) := by decide +kernel
theorem dX10_back_61 : decode cX10_back 61 = .ok (.iload_n 2, 1) := by decide +kernel
theorem dX10_back_62 : decode cX10_back 62 = .ok (.iconst 1, 1) := by decide +kernel
theorem dX10_back_63 : decode cX10_back 63 = .ok (.isub, 1) := by decide +kernel
theorem dX10_back_64 : decode cX10_back 64 = .ok (.ireturn, 1) := by decide +kernel
theorem dX10_breaks_0 : decode cX10_breaks 0 = .ok (.aload_n 0, 1) := by decide +kernel
theorem dX10_breaks_1 : decode cX10_breaks 1 = .ok (.getfield 46, 3) := by decide +kernel
theorem dX10_breaks_4 : decode cX10_breaks 4 = .ok (.iload_n 1, 1) := by decide +kernel
theorem dX10_breaks_5 : decode cX10_breaks 5 = .ok (.iconst 0, 1) := by decide +kernel
theorem dX10_breaks_6 : decode cX10_breaks 6 = .ok (.iastore, 1) := by decide +kernel
theorem dX10_breaks_7 : decode cX10_breaks 7 = .ok (.iconst 0, 1) := by decide +kernel
theorem dX10_breaks_8 : decode cX10_breaks 8 = .ok (.istore_n 2, 1) := by decide +kernel
theorem dX10_breaks_9 : decode cX10_breaks 9 = .ok (.iload_n 2, 1) := by decide +kernel
theorem dX10_breaks_10 : decode cX10_breaks 10 = .ok (.aload_n 0, 1) := by decide +kernel
theorem dX10_breaks_11 : decode cX10_breaks 11 = .ok (.getfield 138, 3) := by decide +kernel
theorem dX10_breaks_14 : decode cX10_breaks 14 = .ok (.if_icmp .ge 54, 3) := by decide +kernel
theorem dX10_breaks_17 : decode cX10_breaks 17 = .ok (.aload_n 0, 1) := by decide +kernel
theorem dX10_breaks_18 : decode cX10_breaks 18 = .ok (.getfield 46, 3) := by decide +kernel
theorem dX10_breaks_21 : decode cX10_breaks 21 = .ok (.iload_n 1, 1) := by decide +kernel
theorem dX10_breaks_22 : decode cX10_breaks 22 = .ok (.dup2, 1) := by decide +kernel
theorem dX10_breaks_23 : decode cX10_breaks 23 = .ok (.iaload, 1) := by decide +kernel
theorem dX10_breaks_24 : decode cX10_breaks 24 = .ok (.aload_n 0, 1) := by decide +kernel
theorem dX10_breaks_25 : decode cX10_breaks 25 = .ok (.getfield 40, 3) := by decide +kernel
theorem dX10_breaks_28 : decode cX10_breaks 28 = .ok (.iconst 2, 1) := by decide +kernel
theorem dX10_breaks_29 : decode cX10_breaks 29 = .ok (.iload_n 2, 1) := by decide +kernel
theorem dX10_breaks_30 : decode cX10_breaks 30 = .ok (.imul, 1) := by decide +kernel
theorem dX10_breaks_31 : decode cX10_breaks 31 = .ok (.iconst 1, 1) := by decide +kernel
theorem dX10_breaks_32 : decode cX10_breaks 32 = .ok (.iadd, 1) := by decide +kernel
theorem dX10_breaks_33 : decode cX10_breaks 33 = .ok (.iaload, 1) := by decide +kernel
theorem dX10_breaks_34 : decode cX10_breaks 34 = .ok (.iload_n 1, 1) := by decide +kernel
theorem dX10_breaks_35 : decode cX10_breaks 35 = .ok (.if_icmp .ne 24, 3) := by decide +kernel
theorem dX10_breaks_38 : decode cX10_breaks 38 = .ok (.aload_n 0, 1) := by decide +kernel
theorem dX10_breaks_39 : decode cX10_breaks 39 = .ok (.getfield 40, 3) := by decide +kernel
theorem dX10_breaks_42 : decode cX10_breaks 42 = .ok (.iconst 2, 1) := by decide +kernel
theorem dX10_breaks_43 : decode cX10_breaks 43 = .ok (.iload_n 2, 1) := by decide +kernel
theorem dX10_breaks_44 : decode cX10_breaks 44 = .ok (.imul, 1) := by decide +kernel
theorem dX10_breaks_45 : decode cX10_breaks 45 = .ok (.iaload, 1) := by decide +kernel
theorem dX10_breaks_46 : decode cX10_breaks 46 = .ok (.aload_n 0, 1) := by decide +kernel
theorem dX10_breaks_47 : decode cX10_breaks 47 = .ok (.getfield 43, 3) := by decide +kernel
theorem dX10_breaks_50 : decode cX10_breaks 50 = .ok (.iload_n 1, 1) := by decide +kernel
theorem dX10_breaks_51 : decode cX10_breaks 51 = .ok (.iaload, 1) := by decide +kernel
theorem dX10_breaks_52 : decode cX10_breaks 52 = .ok (.if_icmp .ne 7, 3) := by decide +kernel
theorem dX10_breaks_55 : decode cX10_breaks 55 = .ok (.iconst 1, 1) := by decide +kernel
theorem dX10_breaks_56 : decode cX10_breaks 56 = .ok (.goto 4, 3) := by decide +kernel
theorem dX10_breaks_59 : decode cX10_breaks 59 = .ok (.iconst 0, 1) := by decide +kernel
theorem dX10_breaks_60 : decode cX10_breaks 60 = .ok (.ior, 1) := by decide +kernel
theorem dX10_breaks_61 : decode cX10_breaks 61 = .ok (.iastore, 1) := by decide +kernel
theorem dX10_breaks_62 : decode cX10_breaks 62 = .ok (.iinc 2 1, 3) := by decide +kernel
theorem dX10_breaks_65 : decode cX10_breaks 65 = .ok (.goto (-56), 3) := by decide +kernel
theorem dX10_breaks_68 : decode cX10_breaks 68 = .ok (.return_, 1) := by decide +kernel
theorem dX10_find_0 : decode cX10_find 0 = .ok (.aload_n 0, 1) := by decide +kernel
theorem dX10_find_1 : decode cX10_find 1 = .ok (.invokevirtual 122, 3) := by decide +kernel
theorem dX10_find_4 : decode cX10_find 4 = .ok (.iconst 0, 1) := by decide +kernel
theorem dX10_find_5 : decode cX10_find 5 = .ok (.istore_n 1, 1) := by decide +kernel
theorem dX10_find_6 : decode cX10_find 6 = .ok (.iload_n 1, 1) := by decide +kernel
theorem dX10_find_7 : decode cX10_find 7 = .ok (.bipush 12, 2) := by decide +kernel
theorem dX10_find_9 : decode cX10_find 9 = .ok (.if_icmp .ge 75, 3) := by decide +kernel
theorem dX10_find_12 : decode cX10_find 12 = .ok (.aload_n 0, 1) := by decide +kernel
theorem dX10_find_13 : decode cX10_find 13 = .ok (.getfield 43, 3) := by decide +kernel
theorem dX10_find_16 : decode cX10_find 16 = .ok (.iload_n 1, 1) := by decide +kernel
theorem dX10_find_17 : decode cX10_find 17 = .ok (.iconst (-1), 1) := by decide +kernel
theorem dX10_find_18 : decode cX10_find 18 = .ok (.iastore, 1) := by decide +kernel
theorem dX10_find_19 : decode cX10_find 19 = .ok (.aload_n 0, 1) := by decide +kernel
theorem dX10_find_20 : decode cX10_find 20 = .ok (.getfield 135, 3) := by decide +kernel
theorem dX10_find_23 : decode cX10_find 23 = .ok (.iconst 1, 1) := by decide +kernel
theorem dX10_find_24 : decode cX10_find 24 = .ok (.isub, 1) := by decide +kernel
theorem dX10_find_25 : decode cX10_find 25 = .ok (.istore_n 2, 1) := by decide +kernel
theorem dX10_find_26 : decode cX10_find 26 = .ok (.iload_n 2, 1) := by decide +kernel
theorem dX10_find_27 : decode cX10_find 27 = .ok (.ifCond .lt 46, 3) := by decide +kernel
theorem dX10_find_30 : decode cX10_find 30 = .ok (.aload_n 0, 1) := by decide +kernel
theorem dX10_find_31 : decode cX10_find 31 = .ok (.getfield 43, 3) := by decide +kernel
theorem dX10_find_34 : decode cX10_find 34 = .ok (.iload_n 1, 1) := by decide +kernel
theorem dX10_find_35 : decode cX10_find 35 = .ok (.aload_n 0, 1) := by decide +kernel
theorem dX10_find_36 : decode cX10_find 36 = .ok (.getfield 37, 3) := by decide +kernel
theorem dX10_find_39 : decode cX10_find 39 = .ok (.iconst 2, 1) := by decide +kernel
theorem dX10_find_40 : decode cX10_find 40 = .ok (.iload_n 2, 1) := by decide +kernel
theorem dX10_find_41 : decode cX10_find 41 = .ok (.imul, 1) := by decide +kernel
theorem dX10_find_42 : decode cX10_find 42 = .ok (.iconst 1, 1) := by decide +kernel
theorem dX10_find_43 : decode cX10_find 43 = .ok (.iadd, 1) := by decide +kernel
theorem dX10_find_44 : decode cX10_find 44 = .ok (.iaload, 1) := by decide +kernel
theorem dX10_find_45 : decode cX10_find 45 = .ok (.iload_n 1, 1) := by decide +kernel
theorem dX10_find_46 : decode cX10_find 46 = .ok (.if_icmp .ne 14, 3) := by decide +kernel
theorem dX10_find_49 : decode cX10_find 49 = .ok (.aload_n 0, 1) := by decide +kernel
theorem dX10_find_50 : decode cX10_find 50 = .ok (.getfield 37, 3) := by decide +kernel
theorem dX10_find_53 : decode cX10_find 53 = .ok (.iconst 2, 1) := by decide +kernel
theorem dX10_find_54 : decode cX10_find 54 = .ok (.iload_n 2, 1) := by decide +kernel
theorem dX10_find_55 : decode cX10_find 55 = .ok (.imul, 1) := by decide +kernel
theorem dX10_find_56 : decode cX10_find 56 = .ok (.iaload, 1) := by decide +kernel
theorem dX10_find_57 : decode cX10_find 57 = .ok (.goto 9, 3) := by decide +kernel
theorem dX10_find_60 : decode cX10_find 60 = .ok (.aload_n 0, 1) := by decide +kernel
theorem dX10_find_61 : decode cX10_find 61 = .ok (.getfield 43, 3) := by decide +kernel
theorem dX10_find_64 : decode cX10_find 64 = .ok (.iload_n 1, 1) := by decide +kernel
theorem dX10_find_65 : decode cX10_find 65 = .ok (.iaload, 1) := by decide +kernel
theorem dX10_find_66 : decode cX10_find 66 = .ok (.iastore, 1) := by decide +kernel
theorem dX10_find_67 : decode cX10_find 67 = .ok (.iinc 2 (-1), 3) := by decide +kernel
theorem dX10_find_70 : decode cX10_find 70 = .ok (.goto (-44), 3) := by decide +kernel
theorem dX10_find_73 : decode cX10_find 73 = .ok (.aload_n 0, 1) := by decide +kernel
theorem dX10_find_74 : decode cX10_find 74 = .ok (.iload_n 1, 1) := by decide +kernel
theorem dX10_find_75 : decode cX10_find 75 = .ok (.invokevirtual 141, 3) := by decide +kernel
theorem dX10_find_78 : decode cX10_find 78 = .ok (.iinc 1 1, 3) := by decide +kernel
theorem dX10_find_81 : decode cX10_find 81 = .ok (.goto (-75), 3) := by decide +kernel
theorem dX10_find_84 : decode cX10_find 84 = .ok (.return_, 1) := by decide +kernel
theorem dX10_bindsAlone_0 : decode cX10_bindsAlone 0 = .ok (.aload_n 0, 1) := by decide +kernel
theorem dX10_bindsAlone_1 : decode cX10_bindsAlone 1 = .ok (.getfield 43, 3) := by decide +kernel
theorem dX10_bindsAlone_4 : decode cX10_bindsAlone 4 = .ok (.iload_n 1, 1) := by decide +kernel
theorem dX10_bindsAlone_5 : decode cX10_bindsAlone 5 = .ok (.iaload, 1) := by decide +kernel
theorem dX10_bindsAlone_6 : decode cX10_bindsAlone 6 = .ok (.iload_n 2, 1) := by decide +kernel
theorem dX10_bindsAlone_7 : decode cX10_bindsAlone 7 = .ok (.if_icmp .ne 11, 3) := by decide +kernel
theorem dX10_bindsAlone_10 : decode cX10_bindsAlone 10 = .ok (.iload_n 3, 1) := by decide +kernel
theorem dX10_bindsAlone_11 : decode cX10_bindsAlone 11 = .ok (.ifCond .ne 7, 3) := by decide +kernel
theorem dX10_bindsAlone_14 : decode cX10_bindsAlone 14 = .ok (.iconst 1, 1) := by decide +kernel
theorem dX10_bindsAlone_15 : decode cX10_bindsAlone 15 = .ok (.goto 4, 3) := by decide +kernel
theorem dX10_bindsAlone_18 : decode cX10_bindsAlone 18 = .ok (.iconst 0, 1) := by decide +kernel
theorem dX10_bindsAlone_19 : decode cX10_bindsAlone 19 = .ok (.istore 4, 2) := by decide +kernel
theorem dX10_bindsAlone_21 : decode cX10_bindsAlone 21 = .ok (.aload_n 0, 1) := by decide +kernel
theorem dX10_bindsAlone_22 : decode cX10_bindsAlone 22 = .ok (.getfield 43, 3) := by decide +kernel
theorem dX10_bindsAlone_25 : decode cX10_bindsAlone 25 = .ok (.iload_n 1, 1) := by decide +kernel
theorem dX10_bindsAlone_26 : decode cX10_bindsAlone 26 = .ok (.iaload, 1) := by decide +kernel
theorem dX10_bindsAlone_27 : decode cX10_bindsAlone 27 = .ok (.iconst (-1), 1) := by decide +kernel
theorem dX10_bindsAlone_28 : decode cX10_bindsAlone 28 = .ok (.if_icmp .eq 31, 3) := by decide +kernel
theorem dX10_bindsAlone_31 : decode cX10_bindsAlone 31 = .ok (.iload 4, 2) := by decide +kernel
theorem dX10_bindsAlone_33 : decode cX10_bindsAlone 33 = .ok (.ifCond .ne 22, 3) := by decide +kernel
theorem dX10_bindsAlone_36 : decode cX10_bindsAlone 36 = .ok (.aload_n 0, 1) := by decide +kernel
theorem dX10_bindsAlone_37 : decode cX10_bindsAlone 37 = .ok (.getfield 43, 3) := by decide +kernel
theorem dX10_bindsAlone_40 : decode cX10_bindsAlone 40 = .ok (.iload_n 1, 1) := by decide +kernel
theorem dX10_bindsAlone_41 : decode cX10_bindsAlone 41 = .ok (.iaload, 1) := by decide +kernel
theorem dX10_bindsAlone_42 : decode cX10_bindsAlone 42 = .ok (.iload_n 2, 1) := by decide +kernel
theorem dX10_bindsAlone_43 : decode cX10_bindsAlone 43 = .ok (.if_icmp .ge 16, 3) := by decide +kernel
theorem dX10_bindsAlone_46 : decode cX10_bindsAlone 46 = .ok (.aload_n 0, 1) := by decide +kernel
theorem dX10_bindsAlone_47 : decode cX10_bindsAlone 47 = .ok (.getfield 46, 3) := by decide +kernel
theorem dX10_bindsAlone_50 : decode cX10_bindsAlone 50 = .ok (.iload_n 1, 1) := by decide +kernel
theorem dX10_bindsAlone_51 : decode cX10_bindsAlone 51 = .ok (.iaload, 1) := by decide +kernel
theorem dX10_bindsAlone_52 : decode cX10_bindsAlone 52 = .ok (.ifCond .ne 7, 3) := by decide +kernel
theorem dX10_bindsAlone_55 : decode cX10_bindsAlone 55 = .ok (.iconst 1, 1) := by decide +kernel
theorem dX10_bindsAlone_56 : decode cX10_bindsAlone 56 = .ok (.goto 4, 3) := by decide +kernel
theorem dX10_bindsAlone_59 : decode cX10_bindsAlone 59 = .ok (.iconst 0, 1) := by decide +kernel
theorem dX10_bindsAlone_60 : decode cX10_bindsAlone 60 = .ok (.ireturn, 1) := by decide +kernel
theorem dX10_bindsOne_0 : decode cX10_bindsOne 0 = .ok (.iload_n 1, 1) := by decide +kernel
theorem dX10_bindsOne_1 : decode cX10_bindsOne 1 = .ok (.istore 4, 2) := by decide +kernel
theorem dX10_bindsOne_3 : decode cX10_bindsOne 3 = .ok (.iconst 0, 1) := by decide +kernel
theorem dX10_bindsOne_4 : decode cX10_bindsOne 4 = .ok (.istore 5, 2) := by decide +kernel
theorem dX10_bindsOne_6 : decode cX10_bindsOne 6 = .ok (.iload 5, 2) := by decide +kernel
theorem dX10_bindsOne_8 : decode cX10_bindsOne 8 = .ok (.bipush 13, 2) := by decide +kernel
theorem dX10_bindsOne_10 : decode cX10_bindsOne 10 = .ok (.if_icmp .ge 52, 3) := by decide +kernel
theorem dX10_bindsOne_13 : decode cX10_bindsOne 13 = .ok (.aload_n 0, 1) := by decide +kernel
theorem dX10_bindsOne_14 : decode cX10_bindsOne 14 = .ok (.iload 4, 2) := by decide +kernel
theorem dX10_bindsOne_16 : decode cX10_bindsOne 16 = .ok (.invokevirtual 125, 3) := by decide +kernel
theorem dX10_bindsOne_19 : decode cX10_bindsOne 19 = .ok (.ifCond .eq 14, 3) := by decide +kernel
theorem dX10_bindsOne_22 : decode cX10_bindsOne 22 = .ok (.aload_n 0, 1) := by decide +kernel
theorem dX10_bindsOne_23 : decode cX10_bindsOne 23 = .ok (.iload 4, 2) := by decide +kernel
theorem dX10_bindsOne_25 : decode cX10_bindsOne 25 = .ok (.iload_n 2, 1) := by decide +kernel
theorem dX10_bindsOne_26 : decode cX10_bindsOne 26 = .ok (.iload_n 3, 1) := by decide +kernel
theorem dX10_bindsOne_27 : decode cX10_bindsOne 27 = .ok (.invokevirtual 145, 3) := by decide +kernel
theorem dX10_bindsOne_30 : decode cX10_bindsOne 30 = .ok (.ifCond .ne 5, 3) := by decide +kernel
theorem dX10_bindsOne_33 : decode cX10_bindsOne 33 = .ok (.iconst 0, 1) := by decide +kernel
theorem dX10_bindsOne_34 : decode cX10_bindsOne 34 = .ok (.ireturn, 1) := by decide +kernel
theorem dX10_bindsOne_35 : decode cX10_bindsOne 35 = .ok (.aload_n 0, 1) := by decide +kernel
theorem dX10_bindsOne_36 : decode cX10_bindsOne 36 = .ok (.getfield 31, 3) := by decide +kernel
theorem dX10_bindsOne_39 : decode cX10_bindsOne 39 = .ok (.iconst 5, 1) := by decide +kernel
theorem dX10_bindsOne_40 : decode cX10_bindsOne 40 = .ok (.iload 4, 2) := by decide +kernel
theorem dX10_bindsOne_42 : decode cX10_bindsOne 42 = .ok (.imul, 1) := by decide +kernel
theorem dX10_bindsOne_43 : decode cX10_bindsOne 43 = .ok (.iconst 4, 1) := by decide +kernel
theorem dX10_bindsOne_44 : decode cX10_bindsOne 44 = .ok (.iadd, 1) := by decide +kernel
theorem dX10_bindsOne_45 : decode cX10_bindsOne 45 = .ok (.iaload, 1) := by decide +kernel
theorem dX10_bindsOne_46 : decode cX10_bindsOne 46 = .ok (.istore 4, 2) := by decide +kernel
theorem dX10_bindsOne_48 : decode cX10_bindsOne 48 = .ok (.iload 4, 2) := by decide +kernel
theorem dX10_bindsOne_50 : decode cX10_bindsOne 50 = .ok (.iconst (-1), 1) := by decide +kernel
theorem dX10_bindsOne_51 : decode cX10_bindsOne 51 = .ok (.if_icmp .ne 5, 3) := by decide +kernel
theorem dX10_bindsOne_54 : decode cX10_bindsOne 54 = .ok (.iconst 1, 1) := by decide +kernel
theorem dX10_bindsOne_55 : decode cX10_bindsOne 55 = .ok (.ireturn, 1) := by decide +kernel
theorem dX10_bindsOne_56 : decode cX10_bindsOne 56 = .ok (.iinc 5 1, 3) := by decide +kernel
theorem dX10_bindsOne_59 : decode cX10_bindsOne 59 = .ok (.goto (-53), 3) := by decide +kernel
theorem dX10_bindsOne_62 : decode cX10_bindsOne 62 = .ok (.iconst 0, 1) := by decide +kernel
theorem dX10_bindsOne_63 : decode cX10_bindsOne 63 = .ok (.ireturn, 1) := by decide +kernel
theorem dX10_bindsOf_0 : decode cX10_bindsOf 0 = .ok (.iconst 0, 1) := by decide +kernel
theorem dX10_bindsOf_1 : decode cX10_bindsOf 1 = .ok (.istore_n 3, 1) := by decide +kernel
theorem dX10_bindsOf_2 : decode cX10_bindsOf 2 = .ok (.iconst 0, 1) := by decide +kernel
theorem dX10_bindsOf_3 : decode cX10_bindsOf 3 = .ok (.istore 4, 2) := by decide +kernel
theorem dX10_bindsOf_5 : decode cX10_bindsOf 5 = .ok (.iload 4, 2) := by decide +kernel
theorem dX10_bindsOf_7 : decode cX10_bindsOf 7 = .ok (.aload_n 0, 1) := by decide +kernel
theorem dX10_bindsOf_8 : decode cX10_bindsOf 8 = .ok (.getfield 28, 3) := by decide +kernel
theorem dX10_bindsOf_11 : decode cX10_bindsOf 11 = .ok (.iconst 0, 1) := by decide +kernel
theorem dX10_bindsOf_12 : decode cX10_bindsOf 12 = .ok (.iaload, 1) := by decide +kernel
theorem dX10_bindsOf_13 : decode cX10_bindsOf 13 = .ok (.if_icmp .ge 70, 3) := by decide +kernel
theorem dX10_bindsOf_16 : decode cX10_bindsOf 16 = .ok (.iload_n 2, 1) := by decide +kernel
theorem dX10_bindsOf_17 : decode cX10_bindsOf 17 = .ok (.iconst 2, 1) := by decide +kernel
theorem dX10_bindsOf_18 : decode cX10_bindsOf 18 = .ok (.if_icmp .ge 14, 3) := by decide +kernel
theorem dX10_bindsOf_21 : decode cX10_bindsOf 21 = .ok (.aload_n 0, 1) := by decide +kernel
theorem dX10_bindsOf_22 : decode cX10_bindsOf 22 = .ok (.iload 4, 2) := by decide +kernel
theorem dX10_bindsOf_24 : decode cX10_bindsOf 24 = .ok (.iload_n 1, 1) := by decide +kernel
theorem dX10_bindsOf_25 : decode cX10_bindsOf 25 = .ok (.iload_n 2, 1) := by decide +kernel
theorem dX10_bindsOf_26 : decode cX10_bindsOf 26 = .ok (.invokevirtual 149, 3) := by decide +kernel
theorem dX10_bindsOf_29 : decode cX10_bindsOf 29 = .ok (.goto 30, 3) := by decide +kernel
theorem dX10_bindsOf_32 : decode cX10_bindsOf 32 = .ok (.aload_n 0, 1) := by decide +kernel
theorem dX10_bindsOf_33 : decode cX10_bindsOf 33 = .ok (.getfield 46, 3) := by decide +kernel
theorem dX10_bindsOf_36 : decode cX10_bindsOf 36 = .ok (.iload 4, 2) := by decide +kernel
theorem dX10_bindsOf_38 : decode cX10_bindsOf 38 = .ok (.iaload, 1) := by decide +kernel
theorem dX10_bindsOf_39 : decode cX10_bindsOf 39 = .ok (.iconst 1, 1) := by decide +kernel
theorem dX10_bindsOf_40 : decode cX10_bindsOf 40 = .ok (.if_icmp .ne 18, 3) := by decide +kernel
theorem dX10_bindsOf_43 : decode cX10_bindsOf 43 = .ok (.aload_n 0, 1) := by decide +kernel
theorem dX10_bindsOf_44 : decode cX10_bindsOf 44 = .ok (.getfield 43, 3) := by decide +kernel
theorem dX10_bindsOf_47 : decode cX10_bindsOf 47 = .ok (.iload 4, 2) := by decide +kernel
theorem dX10_bindsOf_49 : decode cX10_bindsOf 49 = .ok (.iaload, 1) := by decide +kernel
theorem dX10_bindsOf_50 : decode cX10_bindsOf 50 = .ok (.iload_n 1, 1) := by decide +kernel
theorem dX10_bindsOf_51 : decode cX10_bindsOf 51 = .ok (.if_icmp .gt 7, 3) := by decide +kernel
theorem dX10_bindsOf_54 : decode cX10_bindsOf 54 = .ok (.iconst 1, 1) := by decide +kernel
theorem dX10_bindsOf_55 : decode cX10_bindsOf 55 = .ok (.goto 4, 3) := by decide +kernel
theorem dX10_bindsOf_58 : decode cX10_bindsOf 58 = .ok (.iconst 0, 1) := by decide +kernel
theorem dX10_bindsOf_59 : decode cX10_bindsOf 59 = .ok (.istore 5, 2) := by decide +kernel
theorem dX10_bindsOf_61 : decode cX10_bindsOf 61 = .ok (.iload_n 3, 1) := by decide +kernel
theorem dX10_bindsOf_62 : decode cX10_bindsOf 62 = .ok (.iload 5, 2) := by decide +kernel
theorem dX10_bindsOf_64 : decode cX10_bindsOf 64 = .ok (.ifCond .eq 10, 3) := by decide +kernel
theorem dX10_bindsOf_67 : decode cX10_bindsOf 67 = .ok (.iconst 1, 1) := by decide +kernel
theorem dX10_bindsOf_68 : decode cX10_bindsOf 68 = .ok (.iload 4, 2) := by decide +kernel
theorem dX10_bindsOf_70 : decode cX10_bindsOf 70 = .ok (.ishl, 1) := by decide +kernel
theorem dX10_bindsOf_71 : decode cX10_bindsOf 71 = .ok (.goto 4, 3) := by decide +kernel
theorem dX10_bindsOf_74 : decode cX10_bindsOf 74 = .ok (.iconst 0, 1) := by decide +kernel
theorem dX10_bindsOf_75 : decode cX10_bindsOf 75 = .ok (.ior, 1) := by decide +kernel
theorem dX10_bindsOf_76 : decode cX10_bindsOf 76 = .ok (.istore_n 3, 1) := by decide +kernel
theorem dX10_bindsOf_77 : decode cX10_bindsOf 77 = .ok (.iinc 4 1, 3) := by decide +kernel
theorem dX10_bindsOf_80 : decode cX10_bindsOf 80 = .ok (.goto (-75), 3) := by decide +kernel
theorem dX10_bindsOf_83 : decode cX10_bindsOf 83 = .ok (.iload_n 3, 1) := by decide +kernel
theorem dX10_bindsOf_84 : decode cX10_bindsOf 84 = .ok (.ireturn, 1) := by decide +kernel
theorem dX10_binds_0 : decode cX10_binds 0 = .ok (.aload_n 0, 1) := by decide +kernel
theorem dX10_binds_1 : decode cX10_binds 1 = .ok (.invokevirtual 152, 3) := by decide +kernel
theorem dX10_binds_4 : decode cX10_binds 4 = .ok (.iload_n 1, 1) := by decide +kernel
theorem dX10_binds_5 : decode cX10_binds 5 = .ok (.invokestatic 130, 3) := by decide +kernel
theorem dX10_binds_8 : decode cX10_binds 8 = .ok (.ifCond .eq 24, 3) := by decide +kernel
theorem dX10_binds_11 : decode cX10_binds 11 = .ok (.iload_n 2, 1) := by decide +kernel
theorem dX10_binds_12 : decode cX10_binds 12 = .ok (.i2l, 1) := by decide +kernel
theorem dX10_binds_13 : decode cX10_binds 13 = .ok (.lconst 0, 1) := by decide +kernel
theorem dX10_binds_14 : decode cX10_binds 14 = .ok (.ldc2_w 80, 3) := by decide +kernel
theorem dX10_binds_17 : decode cX10_binds 17 = .ok (.invokestatic 66, 3) := by decide +kernel
theorem dX10_binds_20 : decode cX10_binds 20 = .ok (.ifCond .eq 12, 3) := by decide +kernel
theorem dX10_binds_23 : decode cX10_binds 23 = .ok (.aload_n 0, 1) := by decide +kernel
theorem dX10_binds_24 : decode cX10_binds 24 = .ok (.iload_n 1, 1) := by decide +kernel
theorem dX10_binds_25 : decode cX10_binds 25 = .ok (.iload_n 2, 1) := by decide +kernel
theorem dX10_binds_26 : decode cX10_binds 26 = .ok (.invokevirtual 155, 3) := by decide +kernel
theorem dX10_binds_29 : decode cX10_binds 29 = .ok (.goto 5, 3) := by decide +kernel
theorem dX10_binds_32 : decode cX10_binds 32 = .ok (.bipush (-2), 2) := by decide +kernel
theorem dX10_binds_34 : decode cX10_binds 34 = .ok (.ireturn, 1) := by decide +kernel
theorem dX10_covers_0 : decode cX10_covers 0 = .ok (.aload_n 0, 1) := by decide +kernel
theorem dX10_covers_1 : decode cX10_covers 1 = .ok (.getfield 31, 3) := by decide +kernel
theorem dX10_covers_4 : decode cX10_covers 4 = .ok (.iconst 5, 1) := by decide +kernel
theorem dX10_covers_5 : decode cX10_covers 5 = .ok (.iload_n 1, 1) := by decide +kernel
theorem dX10_covers_6 : decode cX10_covers 6 = .ok (.imul, 1) := by decide +kernel
theorem dX10_covers_7 : decode cX10_covers 7 = .ok (.iconst 2, 1) := by decide +kernel
theorem dX10_covers_8 : decode cX10_covers 8 = .ok (.iadd, 1) := by decide +kernel
theorem dX10_covers_9 : decode cX10_covers 9 = .ok (.iaload, 1) := by decide +kernel
theorem dX10_covers_10 : decode cX10_covers 10 = .ok (.istore_n 3, 1) := by decide +kernel
theorem dX10_covers_11 : decode cX10_covers 11 = .ok (.aload_n 0, 1) := by decide +kernel
theorem dX10_covers_12 : decode cX10_covers 12 = .ok (.getfield 31, 3) := by decide +kernel
theorem dX10_covers_15 : decode cX10_covers 15 = .ok (.iconst 5, 1) := by decide +kernel
theorem dX10_covers_16 : decode cX10_covers 16 = .ok (.iload_n 1, 1) := by decide +kernel
theorem dX10_covers_17 : decode cX10_covers 17 = .ok (.imul, 1) := by decide +kernel
theorem dX10_covers_18 : decode cX10_covers 18 = .ok (.iconst 3, 1) := by decide +kernel
theorem dX10_covers_19 : decode cX10_covers 19 = .ok (.iadd, 1) := by decide +kernel
theorem dX10_covers_20 : decode cX10_covers 20 = .ok (.iaload, 1) := by decide +kernel
theorem dX10_covers_21 : decode cX10_covers 21 = .ok (.istore 4, 2) := by decide +kernel
theorem dX10_covers_23 : decode cX10_covers 23 = .ok (.iload_n 3, 1) := by decide +kernel
theorem dX10_covers_24 : decode cX10_covers 24 = .ok (.iload 4, 2) := by decide +kernel
theorem dX10_covers_26 : decode cX10_covers 26 = .ok (.if_icmp .gt 16, 3) := by decide +kernel
theorem dX10_covers_29 : decode cX10_covers 29 = .ok (.iload_n 2, 1) := by decide +kernel
theorem dX10_covers_30 : decode cX10_covers 30 = .ok (.i2l, 1) := by decide +kernel
theorem dX10_covers_31 : decode cX10_covers 31 = .ok (.iload_n 3, 1) := by decide +kernel
theorem dX10_covers_32 : decode cX10_covers 32 = .ok (.i2l, 1) := by decide +kernel
theorem dX10_covers_33 : decode cX10_covers 33 = .ok (.iload 4, 2) := by decide +kernel
theorem dX10_covers_35 : decode cX10_covers 35 = .ok (.i2l, 1) := by decide +kernel
theorem dX10_covers_36 : decode cX10_covers 36 = .ok (.invokestatic 66, 3) := by decide +kernel
theorem dX10_covers_39 : decode cX10_covers 39 = .ok (.goto 19, 3) := by decide +kernel
theorem dX10_covers_42 : decode cX10_covers 42 = .ok (.iload_n 2, 1) := by decide +kernel
theorem dX10_covers_43 : decode cX10_covers 43 = .ok (.iload_n 3, 1) := by decide +kernel
theorem dX10_covers_44 : decode cX10_covers 44 = .ok (.if_icmp .ge 9, 3) := by decide +kernel
theorem dX10_covers_47 : decode cX10_covers 47 = .ok (.iload_n 2, 1) := by decide +kernel
theorem dX10_covers_48 : decode cX10_covers 48 = .ok (.iload 4, 2) := by decide +kernel
theorem dX10_covers_50 : decode cX10_covers 50 = .ok (.if_icmp .gt 7, 3) := by decide +kernel
theorem dX10_covers_53 : decode cX10_covers 53 = .ok (.iconst 1, 1) := by decide +kernel
theorem dX10_covers_54 : decode cX10_covers 54 = .ok (.goto 4, 3) := by decide +kernel
theorem dX10_covers_57 : decode cX10_covers 57 = .ok (.iconst 0, 1) := by decide +kernel
theorem dX10_covers_58 : decode cX10_covers 58 = .ok (.ireturn, 1) := by decide +kernel
theorem dX10_likes_0 : decode cX10_likes 0 = .ok (.iconst 0, 1) := by decide +kernel
theorem dX10_likes_1 : decode cX10_likes 1 = .ok (.istore_n 3, 1) := by decide +kernel
theorem dX10_likes_2 : decode cX10_likes 2 = .ok (.iconst 0, 1) := by decide +kernel
theorem dX10_likes_3 : decode cX10_likes 3 = .ok (.istore 4, 2) := by decide +kernel
theorem dX10_likes_5 : decode cX10_likes 5 = .ok (.iload 4, 2) := by decide +kernel
theorem dX10_likes_7 : decode cX10_likes 7 = .ok (.aload_n 0, 1) := by decide +kernel
theorem dX10_likes_8 : decode cX10_likes 8 = .ok (.getfield 28, 3) := by decide +kernel
theorem dX10_likes_11 : decode cX10_likes 11 = .ok (.iconst 1, 1) := by decide +kernel
theorem dX10_likes_12 : decode cX10_likes 12 = .ok (.iaload, 1) := by decide +kernel
theorem dX10_likes_13 : decode cX10_likes 13 = .ok (.if_icmp .ge 55, 3) := by decide +kernel
theorem dX10_likes_16 : decode cX10_likes 16 = .ok (.iload_n 3, 1) := by decide +kernel
theorem dX10_likes_17 : decode cX10_likes 17 = .ok (.aload_n 0, 1) := by decide +kernel
theorem dX10_likes_18 : decode cX10_likes 18 = .ok (.getfield 34, 3) := by decide +kernel
theorem dX10_likes_21 : decode cX10_likes 21 = .ok (.iconst 3, 1) := by decide +kernel
theorem dX10_likes_22 : decode cX10_likes 22 = .ok (.iload 4, 2) := by decide +kernel
theorem dX10_likes_24 : decode cX10_likes 24 = .ok (.imul, 1) := by decide +kernel
theorem dX10_likes_25 : decode cX10_likes 25 = .ok (.iaload, 1) := by decide +kernel
theorem dX10_likes_26 : decode cX10_likes 26 = .ok (.iload_n 1, 1) := by decide +kernel
theorem dX10_likes_27 : decode cX10_likes 27 = .ok (.if_icmp .ne 32, 3) := by decide +kernel
theorem dX10_likes_30 : decode cX10_likes 30 = .ok (.aload_n 0, 1) := by decide +kernel
theorem dX10_likes_31 : decode cX10_likes 31 = .ok (.getfield 34, 3) := by decide +kernel
theorem dX10_likes_34 : decode cX10_likes 34 = .ok (.iconst 3, 1) := by decide +kernel
theorem dX10_likes_35 : decode cX10_likes 35 = .ok (.iload 4, 2) := by decide +kernel
theorem dX10_likes_37 : decode cX10_likes 37 = .ok (.imul, 1) := by decide +kernel
theorem dX10_likes_38 : decode cX10_likes 38 = .ok (.iconst 1, 1) := by decide +kernel
theorem dX10_likes_39 : decode cX10_likes 39 = .ok (.iadd, 1) := by decide +kernel
theorem dX10_likes_40 : decode cX10_likes 40 = .ok (.iaload, 1) := by decide +kernel
theorem dX10_likes_41 : decode cX10_likes 41 = .ok (.iload_n 2, 1) := by decide +kernel
theorem dX10_likes_42 : decode cX10_likes 42 = .ok (.if_icmp .ne 17, 3) := by decide +kernel
theorem dX10_likes_45 : decode cX10_likes 45 = .ok (.aload_n 0, 1) := by decide +kernel
theorem dX10_likes_46 : decode cX10_likes 46 = .ok (.getfield 34, 3) := by decide +kernel
theorem dX10_likes_49 : decode cX10_likes 49 = .ok (.iconst 3, 1) := by decide +kernel
theorem dX10_likes_50 : decode cX10_likes 50 = .ok (.iload 4, 2) := by decide +kernel
theorem dX10_likes_52 : decode cX10_likes 52 = .ok (.imul, 1) := by decide +kernel
theorem dX10_likes_53 : decode cX10_likes 53 = .ok (.iconst 2, 1) := by decide +kernel
theorem dX10_likes_54 : decode cX10_likes 54 = .ok (.iadd, 1) := by decide +kernel
theorem dX10_likes_55 : decode cX10_likes 55 = .ok (.iaload, 1) := by decide +kernel
theorem dX10_likes_56 : decode cX10_likes 56 = .ok (.goto 4, 3) := by decide +kernel
theorem dX10_likes_59 : decode cX10_likes 59 = .ok (.iconst 0, 1) := by decide +kernel
theorem dX10_likes_60 : decode cX10_likes 60 = .ok (.iadd, 1) := by decide +kernel
theorem dX10_likes_61 : decode cX10_likes 61 = .ok (.istore_n 3, 1) := by decide +kernel
theorem dX10_likes_62 : decode cX10_likes 62 = .ok (.iinc 4 1, 3) := by decide +kernel
theorem dX10_likes_65 : decode cX10_likes 65 = .ok (.goto (-60), 3) := by decide +kernel
theorem dX10_likes_68 : decode cX10_likes 68 = .ok (.iload_n 3, 1) := by decide +kernel
theorem dX10_likes_69 : decode cX10_likes 69 = .ok (.ireturn, 1) := by decide +kernel
theorem dX10_doesBy_0 : decode cX10_doesBy 0 = .ok (.iconst 0, 1) := by decide +kernel
theorem dX10_doesBy_1 : decode cX10_doesBy 1 = .ok (.istore_n 3, 1) := by decide +kernel
theorem dX10_doesBy_2 : decode cX10_doesBy 2 = .ok (.iconst 0, 1) := by decide +kernel
theorem dX10_doesBy_3 : decode cX10_doesBy 3 = .ok (.istore 4, 2) := by decide +kernel
theorem dX10_doesBy_5 : decode cX10_doesBy 5 = .ok (.iconst 0, 1) := by decide +kernel
theorem dX10_doesBy_6 : decode cX10_doesBy 6 = .ok (.istore 5, 2) := by decide +kernel
theorem dX10_doesBy_8 : decode cX10_doesBy 8 = .ok (.iload 5, 2) := by decide +kernel
theorem dX10_doesBy_10 : decode cX10_doesBy 10 = .ok (.aload_n 0, 1) := by decide +kernel
theorem dX10_doesBy_11 : decode cX10_doesBy 11 = .ok (.getfield 28, 3) := by decide +kernel
theorem dX10_doesBy_14 : decode cX10_doesBy 14 = .ok (.iconst 0, 1) := by decide +kernel
theorem dX10_doesBy_15 : decode cX10_doesBy 15 = .ok (.iaload, 1) := by decide +kernel
theorem dX10_doesBy_16 : decode cX10_doesBy 16 = .ok (.if_icmp .ge 92, 3) := by decide +kernel
theorem dX10_doesBy_19 : decode cX10_doesBy 19 = .ok (.iload_n 1, 1) := by decide +kernel
theorem dX10_doesBy_20 : decode cX10_doesBy 20 = .ok (.iload 5, 2) := by decide +kernel
theorem dX10_doesBy_22 : decode cX10_doesBy 22 = .ok (.invokestatic 158, 3) := by decide +kernel
theorem dX10_doesBy_25 : decode cX10_doesBy 25 = .ok (.ifCond .eq 29, 3) := by decide +kernel
theorem dX10_doesBy_28 : decode cX10_doesBy 28 = .ok (.aload_n 0, 1) := by decide +kernel
theorem dX10_doesBy_29 : decode cX10_doesBy 29 = .ok (.iload 5, 2) := by decide +kernel
theorem dX10_doesBy_31 : decode cX10_doesBy 31 = .ok (.iload_n 2, 1) := by decide +kernel
theorem dX10_doesBy_32 : decode cX10_doesBy 32 = .ok (.invokevirtual 162, 3) := by decide +kernel
theorem dX10_doesBy_35 : decode cX10_doesBy 35 = .ok (.ifCond .eq 19, 3) := by decide +kernel
theorem dX10_doesBy_38 : decode cX10_doesBy 38 = .ok (.iconst 1, 1) := by decide +kernel
theorem dX10_doesBy_39 : decode cX10_doesBy 39 = .ok (.aload_n 0, 1) := by decide +kernel
theorem dX10_doesBy_40 : decode cX10_doesBy 40 = .ok (.getfield 31, 3) := by decide +kernel
theorem dX10_doesBy_43 : decode cX10_doesBy 43 = .ok (.iconst 5, 1) := by decide +kernel
theorem dX10_doesBy_44 : decode cX10_doesBy 44 = .ok (.iload 5, 2) := by decide +kernel
theorem dX10_doesBy_46 : decode cX10_doesBy 46 = .ok (.imul, 1) := by decide +kernel
theorem dX10_doesBy_47 : decode cX10_doesBy 47 = .ok (.iconst 1, 1) := by decide +kernel
theorem dX10_doesBy_48 : decode cX10_doesBy 48 = .ok (.iadd, 1) := by decide +kernel
theorem dX10_doesBy_49 : decode cX10_doesBy 49 = .ok (.iaload, 1) := by decide +kernel
theorem dX10_doesBy_50 : decode cX10_doesBy 50 = .ok (.ishl, 1) := by decide +kernel
theorem dX10_doesBy_51 : decode cX10_doesBy 51 = .ok (.goto 4, 3) := by decide +kernel
theorem dX10_doesBy_54 : decode cX10_doesBy 54 = .ok (.iconst 0, 1) := by decide +kernel
theorem dX10_doesBy_55 : decode cX10_doesBy 55 = .ok (.istore 6, 2) := by decide +kernel
theorem dX10_doesBy_57 : decode cX10_doesBy 57 = .ok (.iload_n 3, 1) := by decide +kernel
theorem dX10_doesBy_58 : decode cX10_doesBy 58 = .ok (.aload_n 0, 1) := by decide +kernel
theorem dX10_doesBy_59 : decode cX10_doesBy 59 = .ok (.getfield 31, 3) := by decide +kernel
theorem dX10_doesBy_62 : decode cX10_doesBy 62 = .ok (.iconst 5, 1) := by decide +kernel
theorem dX10_doesBy_63 : decode cX10_doesBy 63 = .ok (.iload 5, 2) := by decide +kernel
theorem dX10_doesBy_65 : decode cX10_doesBy 65 = .ok (.imul, 1) := by decide +kernel
theorem dX10_doesBy_66 : decode cX10_doesBy 66 = .ok (.iaload, 1) := by decide +kernel
theorem dX10_doesBy_67 : decode cX10_doesBy 67 = .ok (.iconst 1, 1) := by decide +kernel
theorem dX10_doesBy_68 : decode cX10_doesBy 68 = .ok (.if_icmp .ne 8, 3) := by decide +kernel
theorem dX10_doesBy_71 : decode cX10_doesBy 71 = .ok (.iload 6, 2) := by decide +kernel
theorem dX10_doesBy_73 : decode cX10_doesBy 73 = .ok (.goto 4, 3) := by decide +kernel
theorem dX10_doesBy_76 : decode cX10_doesBy 76 = .ok (.iconst 0, 1) := by decide +kernel
theorem dX10_doesBy_77 : decode cX10_doesBy 77 = .ok (.ior, 1) := by decide +kernel
theorem dX10_doesBy_78 : decode cX10_doesBy 78 = .ok (.istore_n 3, 1) := by decide +kernel
theorem dX10_doesBy_79 : decode cX10_doesBy 79 = .ok (.iload 4, 2) := by decide +kernel
theorem dX10_doesBy_81 : decode cX10_doesBy 81 = .ok (.aload_n 0, 1) := by decide +kernel
theorem dX10_doesBy_82 : decode cX10_doesBy 82 = .ok (.getfield 31, 3) := by decide +kernel
theorem dX10_doesBy_85 : decode cX10_doesBy 85 = .ok (.iconst 5, 1) := by decide +kernel
theorem dX10_doesBy_86 : decode cX10_doesBy 86 = .ok (.iload 5, 2) := by decide +kernel
theorem dX10_doesBy_88 : decode cX10_doesBy 88 = .ok (.imul, 1) := by decide +kernel
theorem dX10_doesBy_89 : decode cX10_doesBy 89 = .ok (.iaload, 1) := by decide +kernel
theorem dX10_doesBy_90 : decode cX10_doesBy 90 = .ok (.ifCond .ne 8, 3) := by decide +kernel
theorem dX10_doesBy_93 : decode cX10_doesBy 93 = .ok (.iload 6, 2) := by decide +kernel
theorem dX10_doesBy_95 : decode cX10_doesBy 95 = .ok (.goto 4, 3) := by decide +kernel
theorem dX10_doesBy_98 : decode cX10_doesBy 98 = .ok (.iconst 0, 1) := by decide +kernel
theorem dX10_doesBy_99 : decode cX10_doesBy 99 = .ok (.ior, 1) := by decide +kernel
theorem dX10_doesBy_100 : decode cX10_doesBy 100 = .ok (.istore 4, 2) := by decide +kernel
theorem dX10_doesBy_102 : decode cX10_doesBy 102 = .ok (.iinc 5 1, 3) := by decide +kernel
theorem dX10_doesBy_105 : decode cX10_doesBy 105 = .ok (.goto (-97), 3) := by decide +kernel
theorem dX10_doesBy_108 : decode cX10_doesBy 108 = .ok (.iload_n 3, 1) := by decide +kernel
theorem dX10_doesBy_109 : decode cX10_doesBy 109 = .ok (.invokestatic 165, 3) := by decide +kernel
theorem dX10_doesBy_112 : decode cX10_doesBy 112 = .ok (.iconst 1, 1) := by decide +kernel
theorem dX10_doesBy_113 : decode cX10_doesBy 113 = .ok (.if_icmp .gt 10, 3) := by decide +kernel
theorem dX10_doesBy_116 : decode cX10_doesBy 116 = .ok (.iload_n 3, 1) := by decide +kernel
theorem dX10_doesBy_117 : decode cX10_doesBy 117 = .ok (.iload 4, 2) := by decide +kernel
theorem dX10_doesBy_119 : decode cX10_doesBy 119 = .ok (.iand, 1) := by decide +kernel
theorem dX10_doesBy_120 : decode cX10_doesBy 120 = .ok (.ifCond .eq 6, 3) := by decide +kernel
theorem dX10_doesBy_123 : decode cX10_doesBy 123 = .ok (.bipush 6, 2) := by decide +kernel
theorem dX10_doesBy_125 : decode cX10_doesBy 125 = .ok (.ireturn, 1) := by decide +kernel
theorem dX10_doesBy_126 : decode cX10_doesBy 126 = .ok (.iconst (-1), 1) := by decide +kernel
theorem dX10_doesBy_127 : decode cX10_doesBy 127 = .ok (.istore 5, 2) := by decide +kernel
theorem dX10_doesBy_129 : decode cX10_doesBy 129 = .ok (.iconst 0, 1) := by decide +kernel
theorem dX10_doesBy_130 : decode cX10_doesBy 130 = .ok (.istore 6, 2) := by decide +kernel
theorem dX10_doesBy_132 : decode cX10_doesBy 132 = .ok (.iconst 0, 1) := by decide +kernel
theorem dX10_doesBy_133 : decode cX10_doesBy 133 = .ok (.istore 7, 2) := by decide +kernel
theorem dX10_doesBy_135 : decode cX10_doesBy 135 = .ok (.iload 7, 2) := by decide +kernel
theorem dX10_doesBy_137 : decode cX10_doesBy 137 = .ok (.bipush 6, 2) := by decide +kernel
theorem dX10_doesBy_139 : decode cX10_doesBy 139 = .ok (.if_icmp .ge 64, 3) := by decide +kernel
theorem dX10_doesBy_142 : decode cX10_doesBy 142 = .ok (.iload 4, 2) := by decide +kernel
theorem dX10_doesBy_144 : decode cX10_doesBy 144 = .ok (.iload 7, 2) := by decide +kernel
theorem dX10_doesBy_146 : decode cX10_doesBy 146 = .ok (.invokestatic 158, 3) := by decide +kernel
theorem dX10_doesBy_149 : decode cX10_doesBy 149 = .ok (.ifCond .eq 7, 3) := by decide +kernel
theorem dX10_doesBy_152 : decode cX10_doesBy 152 = .ok (.iconst 0, 1) := by decide +kernel
theorem dX10_doesBy_153 : decode cX10_doesBy 153 = .ok (.goto 10, 3) := by decide +kernel
theorem dX10_doesBy_156 : decode cX10_doesBy 156 = .ok (.aload_n 0, 1) := by decide +kernel
theorem dX10_doesBy_157 : decode cX10_doesBy 157 = .ok (.iload 7, 2) := by decide +kernel
theorem dX10_doesBy_159 : decode cX10_doesBy 159 = .ok (.iload_n 2, 1) := by decide +kernel
theorem dX10_doesBy_160 : decode cX10_doesBy 160 = .ok (.invokevirtual 168, 3) := by decide +kernel
theorem dX10_doesBy_163 : decode cX10_doesBy 163 = .ok (.istore 8, 2) := by decide +kernel
theorem dX10_doesBy_165 : decode cX10_doesBy 165 = .ok (.iload 8, 2) := by decide +kernel
theorem dX10_doesBy_167 : decode cX10_doesBy 167 = .ok (.iload 6, 2) := by decide +kernel
theorem dX10_doesBy_169 : decode cX10_doesBy 169 = .ok (.if_icmp .le 8, 3) := by decide +kernel
theorem dX10_doesBy_172 : decode cX10_doesBy 172 = .ok (.iload 7, 2) := by decide +kernel
theorem dX10_doesBy_174 : decode cX10_doesBy 174 = .ok (.goto 5, 3) := by decide +kernel
theorem dX10_doesBy_177 : decode cX10_doesBy 177 = .ok (.iload 5, 2) := by decide +kernel
theorem dX10_doesBy_179 : decode cX10_doesBy 179 = .ok (.istore 5, 2) := by decide +kernel
theorem dX10_doesBy_181 : decode cX10_doesBy 181 = .ok (.iload 8, 2) := by decide +kernel
theorem dX10_doesBy_183 : decode cX10_doesBy 183 = .ok (.iload 6, 2) := by decide +kernel
theorem dX10_doesBy_185 : decode cX10_doesBy 185 = .ok (.if_icmp .le 8, 3) := by decide +kernel
theorem dX10_doesBy_188 : decode cX10_doesBy 188 = .ok (.iload 8, 2) := by decide +kernel
theorem dX10_doesBy_190 : decode cX10_doesBy 190 = .ok (.goto 5, 3) := by decide +kernel
theorem dX10_doesBy_193 : decode cX10_doesBy 193 = .ok (.iload 6, 2) := by decide +kernel
theorem dX10_doesBy_195 : decode cX10_doesBy 195 = .ok (.istore 6, 2) := by decide +kernel
theorem dX10_doesBy_197 : decode cX10_doesBy 197 = .ok (.iinc 7 1, 3) := by decide +kernel
theorem dX10_doesBy_200 : decode cX10_doesBy 200 = .ok (.goto (-65), 3) := by decide +kernel
theorem dX10_doesBy_203 : decode cX10_doesBy 203 = .ok (.iconst 0, 1) := by decide +kernel
theorem dX10_doesBy_204 : decode cX10_doesBy 204 = .ok (.istore 7, 2) := by decide +kernel
theorem dX10_doesBy_206 : decode cX10_doesBy 206 = .ok (.iload 7, 2) := by decide +kernel
theorem dX10_doesBy_208 : decode cX10_doesBy 208 = .ok (.bipush 6, 2) := by decide +kernel
theorem dX10_doesBy_210 : decode cX10_doesBy 210 = .ok (.if_icmp .ge 27, 3) := by decide +kernel
theorem dX10_doesBy_213 : decode cX10_doesBy 213 = .ok (.iload_n 3, 1) := by decide +kernel
theorem dX10_doesBy_214 : decode cX10_doesBy 214 = .ok (.iload 7, 2) := by decide +kernel
theorem dX10_doesBy_216 : decode cX10_doesBy 216 = .ok (.invokestatic 158, 3) := by decide +kernel
theorem dX10_doesBy_219 : decode cX10_doesBy 219 = .ok (.ifCond .eq 8, 3) := by decide +kernel
theorem dX10_doesBy_222 : decode cX10_doesBy 222 = .ok (.iload 7, 2) := by decide +kernel
theorem dX10_doesBy_224 : decode cX10_doesBy 224 = .ok (.goto 5, 3) := by decide +kernel
theorem dX10_doesBy_227 : decode cX10_doesBy 227 = .ok (.iload 5, 2) := by decide +kernel
theorem dX10_doesBy_229 : decode cX10_doesBy 229 = .ok (.istore 5, 2) := by decide +kernel
theorem dX10_doesBy_231 : decode cX10_doesBy 231 = .ok (.iinc 7 1, 3) := by decide +kernel
theorem dX10_doesBy_234 : decode cX10_doesBy 234 = .ok (.goto (-28), 3) := by decide +kernel
theorem dX10_doesBy_237 : decode cX10_doesBy 237 = .ok (.iload 5, 2) := by decide +kernel
theorem dX10_doesBy_239 : decode cX10_doesBy 239 = .ok (.ireturn, 1) := by decide +kernel
theorem dX10_does_0 : decode cX10_does 0 = .ok (.aload_n 0, 1) := by decide +kernel
theorem dX10_does_1 : decode cX10_does 1 = .ok (.invokevirtual 152, 3) := by decide +kernel
theorem dX10_does_4 : decode cX10_does 4 = .ok (.iload_n 1, 1) := by decide +kernel
theorem dX10_does_5 : decode cX10_does 5 = .ok (.invokestatic 130, 3) := by decide +kernel
theorem dX10_does_8 : decode cX10_does 8 = .ok (.ifCond .eq 24, 3) := by decide +kernel
theorem dX10_does_11 : decode cX10_does 11 = .ok (.iload_n 2, 1) := by decide +kernel
theorem dX10_does_12 : decode cX10_does 12 = .ok (.invokestatic 171, 3) := by decide +kernel
theorem dX10_does_15 : decode cX10_does 15 = .ok (.ifCond .eq 17, 3) := by decide +kernel
theorem dX10_does_18 : decode cX10_does 18 = .ok (.aload_n 0, 1) := by decide +kernel
theorem dX10_does_19 : decode cX10_does 19 = .ok (.aload_n 0, 1) := by decide +kernel
theorem dX10_does_20 : decode cX10_does 20 = .ok (.iload_n 1, 1) := by decide +kernel
theorem dX10_does_21 : decode cX10_does 21 = .ok (.iconst 0, 1) := by decide +kernel
theorem dX10_does_22 : decode cX10_does 22 = .ok (.invokevirtual 155, 3) := by decide +kernel
theorem dX10_does_25 : decode cX10_does 25 = .ok (.iload_n 2, 1) := by decide +kernel
theorem dX10_does_26 : decode cX10_does 26 = .ok (.invokevirtual 174, 3) := by decide +kernel
theorem dX10_does_29 : decode cX10_does 29 = .ok (.goto 5, 3) := by decide +kernel
theorem dX10_does_32 : decode cX10_does 32 = .ok (.bipush (-2), 2) := by decide +kernel
theorem dX10_does_34 : decode cX10_does 34 = .ok (.ireturn, 1) := by decide +kernel
theorem dX10_joyBy_0 : decode cX10_joyBy 0 = .ok (.iconst 0, 1) := by decide +kernel
theorem dX10_joyBy_1 : decode cX10_joyBy 1 = .ok (.istore_n 2, 1) := by decide +kernel
theorem dX10_joyBy_2 : decode cX10_joyBy 2 = .ok (.iconst 0, 1) := by decide +kernel
theorem dX10_joyBy_3 : decode cX10_joyBy 3 = .ok (.istore_n 3, 1) := by decide +kernel
theorem dX10_joyBy_4 : decode cX10_joyBy 4 = .ok (.iload_n 3, 1) := by decide +kernel
theorem dX10_joyBy_5 : decode cX10_joyBy 5 = .ok (.bipush 24, 2) := by decide +kernel
theorem dX10_joyBy_7 : decode cX10_joyBy 7 = .ok (.if_icmp .ge 44, 3) := by decide +kernel
theorem dX10_joyBy_10 : decode cX10_joyBy 10 = .ok (.aload_n 0, 1) := by decide +kernel
theorem dX10_joyBy_11 : decode cX10_joyBy 11 = .ok (.iload_n 1, 1) := by decide +kernel
theorem dX10_joyBy_12 : decode cX10_joyBy 12 = .ok (.iload_n 3, 1) := by decide +kernel
theorem dX10_joyBy_13 : decode cX10_joyBy 13 = .ok (.invokevirtual 174, 3) := by decide +kernel
theorem dX10_joyBy_16 : decode cX10_joyBy 16 = .ok (.istore 4, 2) := by decide +kernel
theorem dX10_joyBy_18 : decode cX10_joyBy 18 = .ok (.iload_n 2, 1) := by decide +kernel
theorem dX10_joyBy_19 : decode cX10_joyBy 19 = .ok (.iload 4, 2) := by decide +kernel
theorem dX10_joyBy_21 : decode cX10_joyBy 21 = .ok (.i2l, 1) := by decide +kernel
theorem dX10_joyBy_22 : decode cX10_joyBy 22 = .ok (.lconst 0, 1) := by decide +kernel
theorem dX10_joyBy_23 : decode cX10_joyBy 23 = .ok (.ldc2_w 177, 3) := by decide +kernel
theorem dX10_joyBy_26 : decode cX10_joyBy 26 = .ok (.invokestatic 66, 3) := by decide +kernel
theorem dX10_joyBy_29 : decode cX10_joyBy 29 = .ok (.ifCond .eq 13, 3) := by decide +kernel
theorem dX10_joyBy_32 : decode cX10_joyBy 32 = .ok (.aload_n 0, 1) := by decide +kernel
theorem dX10_joyBy_33 : decode cX10_joyBy 33 = .ok (.iload 4, 2) := by decide +kernel
theorem dX10_joyBy_35 : decode cX10_joyBy 35 = .ok (.iload_n 3, 1) := by decide +kernel
theorem dX10_joyBy_36 : decode cX10_joyBy 36 = .ok (.invokevirtual 168, 3) := by decide +kernel
theorem dX10_joyBy_39 : decode cX10_joyBy 39 = .ok (.goto 4, 3) := by decide +kernel
theorem dX10_joyBy_42 : decode cX10_joyBy 42 = .ok (.iconst 0, 1) := by decide +kernel
theorem dX10_joyBy_43 : decode cX10_joyBy 43 = .ok (.iadd, 1) := by decide +kernel
theorem dX10_joyBy_44 : decode cX10_joyBy 44 = .ok (.istore_n 2, 1) := by decide +kernel
theorem dX10_joyBy_45 : decode cX10_joyBy 45 = .ok (.iinc 3 1, 3) := by decide +kernel
theorem dX10_joyBy_48 : decode cX10_joyBy 48 = .ok (.goto (-44), 3) := by decide +kernel
theorem dX10_joyBy_51 : decode cX10_joyBy 51 = .ok (.iload_n 2, 1) := by decide +kernel
theorem dX10_joyBy_52 : decode cX10_joyBy 52 = .ok (.ireturn, 1) := by decide +kernel
theorem dX10_clashBy_0 : decode cX10_clashBy 0 = .ok (.iconst 0, 1) := by decide +kernel
theorem dX10_clashBy_1 : decode cX10_clashBy 1 = .ok (.istore_n 2, 1) := by decide +kernel
theorem dX10_clashBy_2 : decode cX10_clashBy 2 = .ok (.iload_n 2, 1) := by decide +kernel
theorem dX10_clashBy_3 : decode cX10_clashBy 3 = .ok (.bipush 24, 2) := by decide +kernel
theorem dX10_clashBy_5 : decode cX10_clashBy 5 = .ok (.if_icmp .ge 22, 3) := by decide +kernel
theorem dX10_clashBy_8 : decode cX10_clashBy 8 = .ok (.aload_n 0, 1) := by decide +kernel
theorem dX10_clashBy_9 : decode cX10_clashBy 9 = .ok (.iload_n 1, 1) := by decide +kernel
theorem dX10_clashBy_10 : decode cX10_clashBy 10 = .ok (.iload_n 2, 1) := by decide +kernel
theorem dX10_clashBy_11 : decode cX10_clashBy 11 = .ok (.invokevirtual 174, 3) := by decide +kernel
theorem dX10_clashBy_14 : decode cX10_clashBy 14 = .ok (.bipush 6, 2) := by decide +kernel
theorem dX10_clashBy_16 : decode cX10_clashBy 16 = .ok (.if_icmp .ne 5, 3) := by decide +kernel
theorem dX10_clashBy_19 : decode cX10_clashBy 19 = .ok (.iload_n 2, 1) := by decide +kernel
theorem dX10_clashBy_20 : decode cX10_clashBy 20 = .ok (.ireturn, 1) := by decide +kernel
theorem dX10_clashBy_21 : decode cX10_clashBy 21 = .ok (.iinc 2 1, 3) := by decide +kernel
theorem dX10_clashBy_24 : decode cX10_clashBy 24 = .ok (.goto (-22), 3) := by decide +kernel
theorem dX10_clashBy_27 : decode cX10_clashBy 27 = .ok (.iconst (-1), 1) := by decide +kernel
theorem dX10_clashBy_28 : decode cX10_clashBy 28 = .ok (.ireturn, 1) := by decide +kernel
theorem dX10_joyOf_0 : decode cX10_joyOf 0 = .ok (.aload_n 0, 1) := by decide +kernel
theorem dX10_joyOf_1 : decode cX10_joyOf 1 = .ok (.iload_n 1, 1) := by decide +kernel
theorem dX10_joyOf_2 : decode cX10_joyOf 2 = .ok (.iconst 0, 1) := by decide +kernel
theorem dX10_joyOf_3 : decode cX10_joyOf 3 = .ok (.invokevirtual 155, 3) := by decide +kernel
theorem dX10_joyOf_6 : decode cX10_joyOf 6 = .ok (.istore_n 3, 1) := by decide +kernel
theorem dX10_joyOf_7 : decode cX10_joyOf 7 = .ok (.iload_n 2, 1) := by decide +kernel
theorem dX10_joyOf_8 : decode cX10_joyOf 8 = .ok (.ifCond .ne 11, 3) := by decide +kernel
theorem dX10_joyOf_11 : decode cX10_joyOf 11 = .ok (.aload_n 0, 1) := by decide +kernel
theorem dX10_joyOf_12 : decode cX10_joyOf 12 = .ok (.iload_n 3, 1) := by decide +kernel
theorem dX10_joyOf_13 : decode cX10_joyOf 13 = .ok (.invokevirtual 179, 3) := by decide +kernel
theorem dX10_joyOf_16 : decode cX10_joyOf 16 = .ok (.goto 8, 3) := by decide +kernel
theorem dX10_joyOf_19 : decode cX10_joyOf 19 = .ok (.aload_n 0, 1) := by decide +kernel
theorem dX10_joyOf_20 : decode cX10_joyOf 20 = .ok (.iload_n 3, 1) := by decide +kernel
theorem dX10_joyOf_21 : decode cX10_joyOf 21 = .ok (.invokevirtual 182, 3) := by decide +kernel
theorem dX10_joyOf_24 : decode cX10_joyOf 24 = .ok (.ireturn, 1) := by decide +kernel
theorem dX10_joy_0 : decode cX10_joy 0 = .ok (.aload_n 0, 1) := by decide +kernel
theorem dX10_joy_1 : decode cX10_joy 1 = .ok (.invokevirtual 152, 3) := by decide +kernel
theorem dX10_joy_4 : decode cX10_joy 4 = .ok (.iload_n 1, 1) := by decide +kernel
theorem dX10_joy_5 : decode cX10_joy 5 = .ok (.invokestatic 130, 3) := by decide +kernel
theorem dX10_joy_8 : decode cX10_joy 8 = .ok (.ifCond .eq 19, 3) := by decide +kernel
theorem dX10_joy_11 : decode cX10_joy 11 = .ok (.iload_n 2, 1) := by decide +kernel
theorem dX10_joy_12 : decode cX10_joy 12 = .ok (.invokestatic 95, 3) := by decide +kernel
theorem dX10_joy_15 : decode cX10_joy 15 = .ok (.ifCond .eq 12, 3) := by decide +kernel
theorem dX10_joy_18 : decode cX10_joy 18 = .ok (.aload_n 0, 1) := by decide +kernel
theorem dX10_joy_19 : decode cX10_joy 19 = .ok (.iload_n 1, 1) := by decide +kernel
theorem dX10_joy_20 : decode cX10_joy 20 = .ok (.iload_n 2, 1) := by decide +kernel
theorem dX10_joy_21 : decode cX10_joy 21 = .ok (.invokevirtual 185, 3) := by decide +kernel
theorem dX10_joy_24 : decode cX10_joy 24 = .ok (.goto 5, 3) := by decide +kernel
theorem dX10_joy_27 : decode cX10_joy 27 = .ok (.bipush (-2), 2) := by decide +kernel
theorem dX10_joy_29 : decode cX10_joy 29 = .ok (.ireturn, 1) := by decide +kernel
theorem dX10_quarrelsOf_0 : decode cX10_quarrelsOf 0 = .ok (.aload_n 0, 1) := by decide +kernel
theorem dX10_quarrelsOf_1 : decode cX10_quarrelsOf 1 = .ok (.iload_n 1, 1) := by decide +kernel
theorem dX10_quarrelsOf_2 : decode cX10_quarrelsOf 2 = .ok (.iconst 0, 1) := by decide +kernel
theorem dX10_quarrelsOf_3 : decode cX10_quarrelsOf 3 = .ok (.invokevirtual 155, 3) := by decide +kernel
theorem dX10_quarrelsOf_6 : decode cX10_quarrelsOf 6 = .ok (.istore_n 3, 1) := by decide +kernel
theorem dX10_quarrelsOf_7 : decode cX10_quarrelsOf 7 = .ok (.iconst 0, 1) := by decide +kernel
theorem dX10_quarrelsOf_8 : decode cX10_quarrelsOf 8 = .ok (.istore 4, 2) := by decide +kernel
theorem dX10_quarrelsOf_10 : decode cX10_quarrelsOf 10 = .ok (.iconst (-1), 1) := by decide +kernel
theorem dX10_quarrelsOf_11 : decode cX10_quarrelsOf 11 = .ok (.istore 5, 2) := by decide +kernel
theorem dX10_quarrelsOf_13 : decode cX10_quarrelsOf 13 = .ok (.iconst 0, 1) := by decide +kernel
theorem dX10_quarrelsOf_14 : decode cX10_quarrelsOf 14 = .ok (.istore 6, 2) := by decide +kernel
theorem dX10_quarrelsOf_16 : decode cX10_quarrelsOf 16 = .ok (.iload 6, 2) := by decide +kernel
theorem dX10_quarrelsOf_18 : decode cX10_quarrelsOf 18 = .ok (.aload_n 0, 1) := by decide +kernel
theorem dX10_quarrelsOf_19 : decode cX10_quarrelsOf 19 = .ok (.getfield 28, 3) := by decide +kernel
theorem dX10_quarrelsOf_22 : decode cX10_quarrelsOf 22 = .ok (.iconst 0, 1) := by decide +kernel
theorem dX10_quarrelsOf_23 : decode cX10_quarrelsOf 23 = .ok (.iaload, 1) := by decide +kernel
theorem dX10_quarrelsOf_24 : decode cX10_quarrelsOf 24 = .ok (.if_icmp .ge 90, 3) := by decide +kernel
theorem dX10_quarrelsOf_27 : decode cX10_quarrelsOf 27 = .ok (.iload 6, 2) := by decide +kernel
theorem dX10_quarrelsOf_29 : decode cX10_quarrelsOf 29 = .ok (.iconst 1, 1) := by decide +kernel
theorem dX10_quarrelsOf_30 : decode cX10_quarrelsOf 30 = .ok (.iadd, 1) := by decide +kernel
theorem dX10_quarrelsOf_31 : decode cX10_quarrelsOf 31 = .ok (.istore 7, 2) := by decide +kernel
theorem dX10_quarrelsOf_33 : decode cX10_quarrelsOf 33 = .ok (.iload 7, 2) := by decide +kernel
theorem dX10_quarrelsOf_35 : decode cX10_quarrelsOf 35 = .ok (.aload_n 0, 1) := by decide +kernel
theorem dX10_quarrelsOf_36 : decode cX10_quarrelsOf 36 = .ok (.getfield 28, 3) := by decide +kernel
theorem dX10_quarrelsOf_39 : decode cX10_quarrelsOf 39 = .ok (.iconst 0, 1) := by decide +kernel
theorem dX10_quarrelsOf_40 : decode cX10_quarrelsOf 40 = .ok (.iaload, 1) := by decide +kernel
theorem dX10_quarrelsOf_41 : decode cX10_quarrelsOf 41 = .ok (.if_icmp .ge 67, 3) := by decide +kernel
theorem dX10_quarrelsOf_44 : decode cX10_quarrelsOf 44 = .ok (.iload_n 3, 1) := by decide +kernel
theorem dX10_quarrelsOf_45 : decode cX10_quarrelsOf 45 = .ok (.iload 6, 2) := by decide +kernel
theorem dX10_quarrelsOf_47 : decode cX10_quarrelsOf 47 = .ok (.invokestatic 158, 3) := by decide +kernel
theorem dX10_quarrelsOf_50 : decode cX10_quarrelsOf 50 = .ok (.ifCond .eq 52, 3) := by decide +kernel
theorem dX10_quarrelsOf_53 : decode cX10_quarrelsOf 53 = .ok (.iload_n 3, 1) := by decide +kernel
theorem dX10_quarrelsOf_54 : decode cX10_quarrelsOf 54 = .ok (.iload 7, 2) := by decide +kernel
theorem dX10_quarrelsOf_56 : decode cX10_quarrelsOf 56 = .ok (.invokestatic 158, 3) := by decide +kernel
theorem dX10_quarrelsOf_59 : decode cX10_quarrelsOf 59 = .ok (.ifCond .eq 43, 3) := by decide +kernel
theorem dX10_quarrelsOf_62 : decode cX10_quarrelsOf 62 = .ok (.aload_n 0, 1) := by decide +kernel
theorem dX10_quarrelsOf_63 : decode cX10_quarrelsOf 63 = .ok (.iconst 1, 1) := by decide +kernel
theorem dX10_quarrelsOf_64 : decode cX10_quarrelsOf 64 = .ok (.iload 6, 2) := by decide +kernel
theorem dX10_quarrelsOf_66 : decode cX10_quarrelsOf 66 = .ok (.ishl, 1) := by decide +kernel
theorem dX10_quarrelsOf_67 : decode cX10_quarrelsOf 67 = .ok (.iconst 1, 1) := by decide +kernel
theorem dX10_quarrelsOf_68 : decode cX10_quarrelsOf 68 = .ok (.iload 7, 2) := by decide +kernel
theorem dX10_quarrelsOf_70 : decode cX10_quarrelsOf 70 = .ok (.ishl, 1) := by decide +kernel
theorem dX10_quarrelsOf_71 : decode cX10_quarrelsOf 71 = .ok (.ior, 1) := by decide +kernel
theorem dX10_quarrelsOf_72 : decode cX10_quarrelsOf 72 = .ok (.invokevirtual 182, 3) := by decide +kernel
theorem dX10_quarrelsOf_75 : decode cX10_quarrelsOf 75 = .ok (.iconst (-1), 1) := by decide +kernel
theorem dX10_quarrelsOf_76 : decode cX10_quarrelsOf 76 = .ok (.if_icmp .eq 26, 3) := by decide +kernel
theorem dX10_quarrelsOf_79 : decode cX10_quarrelsOf 79 = .ok (.iload 4, 2) := by decide +kernel
theorem dX10_quarrelsOf_81 : decode cX10_quarrelsOf 81 = .ok (.ifCond .ne 14, 3) := by decide +kernel
theorem dX10_quarrelsOf_84 : decode cX10_quarrelsOf 84 = .ok (.bipush 12, 2) := by decide +kernel
theorem dX10_quarrelsOf_86 : decode cX10_quarrelsOf 86 = .ok (.iload 6, 2) := by decide +kernel
theorem dX10_quarrelsOf_88 : decode cX10_quarrelsOf 88 = .ok (.imul, 1) := by decide +kernel
theorem dX10_quarrelsOf_89 : decode cX10_quarrelsOf 89 = .ok (.iload 7, 2) := by decide +kernel
theorem dX10_quarrelsOf_91 : decode cX10_quarrelsOf 91 = .ok (.iadd, 1) := by decide +kernel
theorem dX10_quarrelsOf_92 : decode cX10_quarrelsOf 92 = .ok (.goto 5, 3) := by decide +kernel
theorem dX10_quarrelsOf_95 : decode cX10_quarrelsOf 95 = .ok (.iload 5, 2) := by decide +kernel
theorem dX10_quarrelsOf_97 : decode cX10_quarrelsOf 97 = .ok (.istore 5, 2) := by decide +kernel
theorem dX10_quarrelsOf_99 : decode cX10_quarrelsOf 99 = .ok (.iinc 4 1, 3) := by decide +kernel
theorem dX10_quarrelsOf_102 : decode cX10_quarrelsOf 102 = .ok (.iinc 7 1, 3) := by decide +kernel
theorem dX10_quarrelsOf_105 : decode cX10_quarrelsOf 105 = .ok (.goto (-72), 3) := by decide +kernel
theorem dX10_quarrelsOf_108 : decode cX10_quarrelsOf 108 = .ok (.iinc 6 1, 3) := by decide +kernel
theorem dX10_quarrelsOf_111 : decode cX10_quarrelsOf 111 = .ok (.goto (-95), 3) := by decide +kernel
theorem dX10_quarrelsOf_114 : decode cX10_quarrelsOf 114 = .ok (.iload_n 2, 1) := by decide +kernel
theorem dX10_quarrelsOf_115 : decode cX10_quarrelsOf 115 = .ok (.ifCond .ne 8, 3) := by decide +kernel
theorem dX10_quarrelsOf_118 : decode cX10_quarrelsOf 118 = .ok (.iload 4, 2) := by decide +kernel
theorem dX10_quarrelsOf_120 : decode cX10_quarrelsOf 120 = .ok (.goto 5, 3) := by decide +kernel
theorem dX10_quarrelsOf_123 : decode cX10_quarrelsOf 123 = .ok (.iload 5, 2) := by decide +kernel
theorem dX10_quarrelsOf_125 : decode cX10_quarrelsOf 125 = .ok (.ireturn, 1) := by decide +kernel
theorem dX10_quarrels_0 : decode cX10_quarrels 0 = .ok (.aload_n 0, 1) := by decide +kernel
theorem dX10_quarrels_1 : decode cX10_quarrels 1 = .ok (.invokevirtual 152, 3) := by decide +kernel
theorem dX10_quarrels_4 : decode cX10_quarrels 4 = .ok (.iload_n 1, 1) := by decide +kernel
theorem dX10_quarrels_5 : decode cX10_quarrels 5 = .ok (.invokestatic 130, 3) := by decide +kernel
theorem dX10_quarrels_8 : decode cX10_quarrels 8 = .ok (.ifCond .eq 19, 3) := by decide +kernel
theorem dX10_quarrels_11 : decode cX10_quarrels 11 = .ok (.iload_n 2, 1) := by decide +kernel
theorem dX10_quarrels_12 : decode cX10_quarrels 12 = .ok (.invokestatic 95, 3) := by decide +kernel
theorem dX10_quarrels_15 : decode cX10_quarrels 15 = .ok (.ifCond .eq 12, 3) := by decide +kernel
theorem dX10_quarrels_18 : decode cX10_quarrels 18 = .ok (.aload_n 0, 1) := by decide +kernel
theorem dX10_quarrels_19 : decode cX10_quarrels 19 = .ok (.iload_n 1, 1) := by decide +kernel
theorem dX10_quarrels_20 : decode cX10_quarrels 20 = .ok (.iload_n 2, 1) := by decide +kernel
theorem dX10_quarrels_21 : decode cX10_quarrels 21 = .ok (.invokevirtual 188, 3) := by decide +kernel
theorem dX10_quarrels_24 : decode cX10_quarrels 24 = .ok (.goto 5, 3) := by decide +kernel
theorem dX10_quarrels_27 : decode cX10_quarrels 27 = .ok (.bipush (-2), 2) := by decide +kernel
theorem dX10_quarrels_29 : decode cX10_quarrels 29 = .ok (.ireturn, 1) := by decide +kernel
theorem dX10_tells_0 : decode cX10_tells 0 = .ok (.iload_n 0, 1) := by decide +kernel
theorem dX10_tells_1 : decode cX10_tells 1 = .ok (.iconst (-1), 1) := by decide +kernel
theorem dX10_tells_2 : decode cX10_tells 2 = .ok (.if_icmp .eq 8, 3) := by decide +kernel
theorem dX10_tells_5 : decode cX10_tells 5 = .ok (.iload_n 1, 1) := by decide +kernel
theorem dX10_tells_6 : decode cX10_tells 6 = .ok (.iconst 1, 1) := by decide +kernel
theorem dX10_tells_7 : decode cX10_tells 7 = .ok (.if_icmp .ne 7, 3) := by decide +kernel
theorem dX10_tells_10 : decode cX10_tells 10 = .ok (.iload_n 0, 1) := by decide +kernel
theorem dX10_tells_11 : decode cX10_tells 11 = .ok (.goto 7, 3) := by decide +kernel
theorem dX10_tells_14 : decode cX10_tells 14 = .ok (.iload_n 0, 1) := by decide +kernel
theorem dX10_tells_15 : decode cX10_tells 15 = .ok (.invokestatic 165, 3) := by decide +kernel
theorem dX10_tells_18 : decode cX10_tells 18 = .ok (.ireturn, 1) := by decide +kernel
theorem dX10_exemptOf_0 : decode cX10_exemptOf 0 = .ok (.aload_n 0, 1) := by decide +kernel
theorem dX10_exemptOf_1 : decode cX10_exemptOf 1 = .ok (.iload_n 1, 1) := by decide +kernel
theorem dX10_exemptOf_2 : decode cX10_exemptOf 2 = .ok (.iconst 0, 1) := by decide +kernel
theorem dX10_exemptOf_3 : decode cX10_exemptOf 3 = .ok (.invokevirtual 155, 3) := by decide +kernel
theorem dX10_exemptOf_6 : decode cX10_exemptOf 6 = .ok (.istore 4, 2) := by decide +kernel
theorem dX10_exemptOf_8 : decode cX10_exemptOf 8 = .ok (.iconst (-1), 1) := by decide +kernel
theorem dX10_exemptOf_9 : decode cX10_exemptOf 9 = .ok (.istore 5, 2) := by decide +kernel
theorem dX10_exemptOf_11 : decode cX10_exemptOf 11 = .ok (.iconst 0, 1) := by decide +kernel
theorem dX10_exemptOf_12 : decode cX10_exemptOf 12 = .ok (.istore 6, 2) := by decide +kernel
theorem dX10_exemptOf_14 : decode cX10_exemptOf 14 = .ok (.iload 6, 2) := by decide +kernel
theorem dX10_exemptOf_16 : decode cX10_exemptOf 16 = .ok (.iconst 1, 1) := by decide +kernel
theorem dX10_exemptOf_17 : decode cX10_exemptOf 17 = .ok (.aload_n 0, 1) := by decide +kernel
theorem dX10_exemptOf_18 : decode cX10_exemptOf 18 = .ok (.getfield 28, 3) := by decide +kernel
theorem dX10_exemptOf_21 : decode cX10_exemptOf 21 = .ok (.iconst 0, 1) := by decide +kernel
theorem dX10_exemptOf_22 : decode cX10_exemptOf 22 = .ok (.iaload, 1) := by decide +kernel
theorem dX10_exemptOf_23 : decode cX10_exemptOf 23 = .ok (.ishl, 1) := by decide +kernel
theorem dX10_exemptOf_24 : decode cX10_exemptOf 24 = .ok (.if_icmp .ge 63, 3) := by decide +kernel
theorem dX10_exemptOf_27 : decode cX10_exemptOf 27 = .ok (.iload 6, 2) := by decide +kernel
theorem dX10_exemptOf_29 : decode cX10_exemptOf 29 = .ok (.iload 4, 2) := by decide +kernel
theorem dX10_exemptOf_31 : decode cX10_exemptOf 31 = .ok (.iconst (-1), 1) := by decide +kernel
theorem dX10_exemptOf_32 : decode cX10_exemptOf 32 = .ok (.ixor, 1) := by decide +kernel
theorem dX10_exemptOf_33 : decode cX10_exemptOf 33 = .ok (.iand, 1) := by decide +kernel
theorem dX10_exemptOf_34 : decode cX10_exemptOf 34 = .ok (.ifCond .ne 47, 3) := by decide +kernel
theorem dX10_exemptOf_37 : decode cX10_exemptOf 37 = .ok (.iload 5, 2) := by decide +kernel
theorem dX10_exemptOf_39 : decode cX10_exemptOf 39 = .ok (.iconst (-1), 1) := by decide +kernel
theorem dX10_exemptOf_40 : decode cX10_exemptOf 40 = .ok (.if_icmp .eq 16, 3) := by decide +kernel
theorem dX10_exemptOf_43 : decode cX10_exemptOf 43 = .ok (.iload 6, 2) := by decide +kernel
theorem dX10_exemptOf_45 : decode cX10_exemptOf 45 = .ok (.invokestatic 165, 3) := by decide +kernel
theorem dX10_exemptOf_48 : decode cX10_exemptOf 48 = .ok (.iload 5, 2) := by decide +kernel
theorem dX10_exemptOf_50 : decode cX10_exemptOf 50 = .ok (.invokestatic 165, 3) := by decide +kernel
theorem dX10_exemptOf_53 : decode cX10_exemptOf 53 = .ok (.if_icmp .ge 28, 3) := by decide +kernel
theorem dX10_exemptOf_56 : decode cX10_exemptOf 56 = .ok (.aload_n 0, 1) := by decide +kernel
theorem dX10_exemptOf_57 : decode cX10_exemptOf 57 = .ok (.iload 4, 2) := by decide +kernel
theorem dX10_exemptOf_59 : decode cX10_exemptOf 59 = .ok (.iload 6, 2) := by decide +kernel
theorem dX10_exemptOf_61 : decode cX10_exemptOf 61 = .ok (.iconst (-1), 1) := by decide +kernel
theorem dX10_exemptOf_62 : decode cX10_exemptOf 62 = .ok (.ixor, 1) := by decide +kernel
theorem dX10_exemptOf_63 : decode cX10_exemptOf 63 = .ok (.iand, 1) := by decide +kernel
theorem dX10_exemptOf_64 : decode cX10_exemptOf 64 = .ok (.iload_n 2, 1) := by decide +kernel
theorem dX10_exemptOf_65 : decode cX10_exemptOf 65 = .ok (.invokevirtual 174, 3) := by decide +kernel
theorem dX10_exemptOf_68 : decode cX10_exemptOf 68 = .ok (.iload_n 3, 1) := by decide +kernel
theorem dX10_exemptOf_69 : decode cX10_exemptOf 69 = .ok (.if_icmp .ne 8, 3) := by decide +kernel
theorem dX10_exemptOf_72 : decode cX10_exemptOf 72 = .ok (.iload 6, 2) := by decide +kernel
theorem dX10_exemptOf_74 : decode cX10_exemptOf 74 = .ok (.goto 5, 3) := by decide +kernel
theorem dX10_exemptOf_77 : decode cX10_exemptOf 77 = .ok (.iload 5, 2) := by decide +kernel
theorem dX10_exemptOf_79 : decode cX10_exemptOf 79 = .ok (.istore 5, 2) := by decide +kernel
theorem dX10_exemptOf_81 : decode cX10_exemptOf 81 = .ok (.iinc 6 1, 3) := by decide +kernel
theorem dX10_exemptOf_84 : decode cX10_exemptOf 84 = .ok (.goto (-70), 3) := by decide +kernel
theorem dX10_exemptOf_87 : decode cX10_exemptOf 87 = .ok (.iload 5, 2) := by decide +kernel
theorem dX10_exemptOf_89 : decode cX10_exemptOf 89 = .ok (.ireturn, 1) := by decide +kernel
theorem dX10_exempt_0 : decode cX10_exempt 0 = .ok (.aload_n 0, 1) := by decide +kernel
theorem dX10_exempt_1 : decode cX10_exempt 1 = .ok (.invokevirtual 152, 3) := by decide +kernel
theorem dX10_exempt_4 : decode cX10_exempt 4 = .ok (.iload_n 1, 1) := by decide +kernel
theorem dX10_exempt_5 : decode cX10_exempt 5 = .ok (.invokestatic 130, 3) := by decide +kernel
theorem dX10_exempt_8 : decode cX10_exempt 8 = .ok (.ifCond .eq 47, 3) := by decide +kernel
theorem dX10_exempt_11 : decode cX10_exempt 11 = .ok (.iload_n 2, 1) := by decide +kernel
theorem dX10_exempt_12 : decode cX10_exempt 12 = .ok (.invokestatic 171, 3) := by decide +kernel
theorem dX10_exempt_15 : decode cX10_exempt 15 = .ok (.ifCond .eq 40, 3) := by decide +kernel
theorem dX10_exempt_18 : decode cX10_exempt 18 = .ok (.iload_n 3, 1) := by decide +kernel
theorem dX10_exempt_19 : decode cX10_exempt 19 = .ok (.i2l, 1) := by decide +kernel
theorem dX10_exempt_20 : decode cX10_exempt 20 = .ok (.ldc2_w 191, 3) := by decide +kernel
theorem dX10_exempt_23 : decode cX10_exempt 23 = .ok (.ldc2_w 177, 3) := by decide +kernel
theorem dX10_exempt_26 : decode cX10_exempt 26 = .ok (.invokestatic 66, 3) := by decide +kernel
theorem dX10_exempt_29 : decode cX10_exempt 29 = .ok (.ifCond .eq 26, 3) := by decide +kernel
theorem dX10_exempt_32 : decode cX10_exempt 32 = .ok (.iload 4, 2) := by decide +kernel
theorem dX10_exempt_34 : decode cX10_exempt 34 = .ok (.invokestatic 95, 3) := by decide +kernel
theorem dX10_exempt_37 : decode cX10_exempt 37 = .ok (.ifCond .eq 18, 3) := by decide +kernel
theorem dX10_exempt_40 : decode cX10_exempt 40 = .ok (.aload_n 0, 1) := by decide +kernel
theorem dX10_exempt_41 : decode cX10_exempt 41 = .ok (.iload_n 1, 1) := by decide +kernel
theorem dX10_exempt_42 : decode cX10_exempt 42 = .ok (.iload_n 2, 1) := by decide +kernel
theorem dX10_exempt_43 : decode cX10_exempt 43 = .ok (.iload_n 3, 1) := by decide +kernel
theorem dX10_exempt_44 : decode cX10_exempt 44 = .ok (.invokevirtual 193, 3) := by decide +kernel
theorem dX10_exempt_47 : decode cX10_exempt 47 = .ok (.iload 4, 2) := by decide +kernel
theorem dX10_exempt_49 : decode cX10_exempt 49 = .ok (.invokestatic 196, 3) := by decide +kernel
theorem dX10_exempt_52 : decode cX10_exempt 52 = .ok (.goto 5, 3) := by decide +kernel
theorem dX10_exempt_55 : decode cX10_exempt 55 = .ok (.bipush (-2), 2) := by decide +kernel
theorem dX10_exempt_57 : decode cX10_exempt 57 = .ok (.ireturn, 1) := by decide +kernel
theorem dX10_keepOf_0 : decode cX10_keepOf 0 = .ok (.aload_n 0, 1) := by decide +kernel
theorem dX10_keepOf_1 : decode cX10_keepOf 1 = .ok (.iload_n 1, 1) := by decide +kernel
theorem dX10_keepOf_2 : decode cX10_keepOf 2 = .ok (.iconst 0, 1) := by decide +kernel
theorem dX10_keepOf_3 : decode cX10_keepOf 3 = .ok (.invokevirtual 155, 3) := by decide +kernel
theorem dX10_keepOf_6 : decode cX10_keepOf 6 = .ok (.istore_n 2, 1) := by decide +kernel
theorem dX10_keepOf_7 : decode cX10_keepOf 7 = .ok (.iconst 0, 1) := by decide +kernel
theorem dX10_keepOf_8 : decode cX10_keepOf 8 = .ok (.istore_n 3, 1) := by decide +kernel
theorem dX10_keepOf_9 : decode cX10_keepOf 9 = .ok (.aload_n 0, 1) := by decide +kernel
theorem dX10_keepOf_10 : decode cX10_keepOf 10 = .ok (.aload_n 0, 1) := by decide +kernel
theorem dX10_keepOf_11 : decode cX10_keepOf 11 = .ok (.iconst 0, 1) := by decide +kernel
theorem dX10_keepOf_12 : decode cX10_keepOf 12 = .ok (.invokevirtual 179, 3) := by decide +kernel
theorem dX10_keepOf_15 : decode cX10_keepOf 15 = .ok (.putfield 199, 3) := by decide +kernel
theorem dX10_keepOf_18 : decode cX10_keepOf 18 = .ok (.iconst 1, 1) := by decide +kernel
theorem dX10_keepOf_19 : decode cX10_keepOf 19 = .ok (.istore 4, 2) := by decide +kernel
theorem dX10_keepOf_21 : decode cX10_keepOf 21 = .ok (.iload 4, 2) := by decide +kernel
theorem dX10_keepOf_23 : decode cX10_keepOf 23 = .ok (.iconst 1, 1) := by decide +kernel
theorem dX10_keepOf_24 : decode cX10_keepOf 24 = .ok (.aload_n 0, 1) := by decide +kernel
theorem dX10_keepOf_25 : decode cX10_keepOf 25 = .ok (.getfield 28, 3) := by decide +kernel
theorem dX10_keepOf_28 : decode cX10_keepOf 28 = .ok (.iconst 0, 1) := by decide +kernel
theorem dX10_keepOf_29 : decode cX10_keepOf 29 = .ok (.iaload, 1) := by decide +kernel
theorem dX10_keepOf_30 : decode cX10_keepOf 30 = .ok (.ishl, 1) := by decide +kernel
theorem dX10_keepOf_31 : decode cX10_keepOf 31 = .ok (.if_icmp .ge 106, 3) := by decide +kernel
theorem dX10_keepOf_34 : decode cX10_keepOf 34 = .ok (.iload 4, 2) := by decide +kernel
theorem dX10_keepOf_36 : decode cX10_keepOf 36 = .ok (.iload_n 2, 1) := by decide +kernel
theorem dX10_keepOf_37 : decode cX10_keepOf 37 = .ok (.iconst (-1), 1) := by decide +kernel
theorem dX10_keepOf_38 : decode cX10_keepOf 38 = .ok (.ixor, 1) := by decide +kernel
theorem dX10_keepOf_39 : decode cX10_keepOf 39 = .ok (.iand, 1) := by decide +kernel
theorem dX10_keepOf_40 : decode cX10_keepOf 40 = .ok (.ifCond .ne 91, 3) := by decide +kernel
theorem dX10_keepOf_43 : decode cX10_keepOf 43 = .ok (.iload 4, 2) := by decide +kernel
theorem dX10_keepOf_45 : decode cX10_keepOf 45 = .ok (.invokestatic 165, 3) := by decide +kernel
theorem dX10_keepOf_48 : decode cX10_keepOf 48 = .ok (.iload_n 3, 1) := by decide +kernel
theorem dX10_keepOf_49 : decode cX10_keepOf 49 = .ok (.invokestatic 165, 3) := by decide +kernel
theorem dX10_keepOf_52 : decode cX10_keepOf 52 = .ok (.if_icmp .lt 79, 3) := by decide +kernel
theorem dX10_keepOf_55 : decode cX10_keepOf 55 = .ok (.aload_n 0, 1) := by decide +kernel
theorem dX10_keepOf_56 : decode cX10_keepOf 56 = .ok (.iload 4, 2) := by decide +kernel
theorem dX10_keepOf_58 : decode cX10_keepOf 58 = .ok (.invokevirtual 182, 3) := by decide +kernel
theorem dX10_keepOf_61 : decode cX10_keepOf 61 = .ok (.iconst (-1), 1) := by decide +kernel
theorem dX10_keepOf_62 : decode cX10_keepOf 62 = .ok (.if_icmp .ne 69, 3) := by decide +kernel
theorem dX10_keepOf_65 : decode cX10_keepOf 65 = .ok (.aload_n 0, 1) := by decide +kernel
theorem dX10_keepOf_66 : decode cX10_keepOf 66 = .ok (.iload 4, 2) := by decide +kernel
theorem dX10_keepOf_68 : decode cX10_keepOf 68 = .ok (.invokevirtual 179, 3) := by decide +kernel
theorem dX10_keepOf_71 : decode cX10_keepOf 71 = .ok (.istore 5, 2) := by decide +kernel
theorem dX10_keepOf_73 : decode cX10_keepOf 73 = .ok (.iload 4, 2) := by decide +kernel
theorem dX10_keepOf_75 : decode cX10_keepOf 75 = .ok (.invokestatic 165, 3) := by decide +kernel
theorem dX10_keepOf_78 : decode cX10_keepOf 78 = .ok (.iload_n 3, 1) := by decide +kernel
theorem dX10_keepOf_79 : decode cX10_keepOf 79 = .ok (.invokestatic 165, 3) := by decide +kernel
theorem dX10_keepOf_82 : decode cX10_keepOf 82 = .ok (.if_icmp .gt 12, 3) := by decide +kernel
theorem dX10_keepOf_85 : decode cX10_keepOf 85 = .ok (.iload 5, 2) := by decide +kernel
theorem dX10_keepOf_87 : decode cX10_keepOf 87 = .ok (.aload_n 0, 1) := by decide +kernel
theorem dX10_keepOf_88 : decode cX10_keepOf 88 = .ok (.getfield 199, 3) := by decide +kernel
theorem dX10_keepOf_91 : decode cX10_keepOf 91 = .ok (.if_icmp .le 7, 3) := by decide +kernel
theorem dX10_keepOf_94 : decode cX10_keepOf 94 = .ok (.iconst 1, 1) := by decide +kernel
theorem dX10_keepOf_95 : decode cX10_keepOf 95 = .ok (.goto 4, 3) := by decide +kernel
theorem dX10_keepOf_98 : decode cX10_keepOf 98 = .ok (.iconst 0, 1) := by decide +kernel
theorem dX10_keepOf_99 : decode cX10_keepOf 99 = .ok (.istore 6, 2) := by decide +kernel
theorem dX10_keepOf_101 : decode cX10_keepOf 101 = .ok (.iload 6, 2) := by decide +kernel
theorem dX10_keepOf_103 : decode cX10_keepOf 103 = .ok (.ifCond .eq 8, 3) := by decide +kernel
theorem dX10_keepOf_106 : decode cX10_keepOf 106 = .ok (.iload 4, 2) := by decide +kernel
theorem dX10_keepOf_108 : decode cX10_keepOf 108 = .ok (.goto 4, 3) := by decide +kernel
theorem dX10_keepOf_111 : decode cX10_keepOf 111 = .ok (.iload_n 3, 1) := by decide +kernel
theorem dX10_keepOf_112 : decode cX10_keepOf 112 = .ok (.istore_n 3, 1) := by decide +kernel
theorem dX10_keepOf_113 : decode cX10_keepOf 113 = .ok (.aload_n 0, 1) := by decide +kernel
theorem dX10_keepOf_114 : decode cX10_keepOf 114 = .ok (.iload 6, 2) := by decide +kernel
theorem dX10_keepOf_116 : decode cX10_keepOf 116 = .ok (.ifCond .eq 8, 3) := by decide +kernel
theorem dX10_keepOf_119 : decode cX10_keepOf 119 = .ok (.iload 5, 2) := by decide +kernel
theorem dX10_keepOf_121 : decode cX10_keepOf 121 = .ok (.goto 7, 3) := by decide +kernel
theorem dX10_keepOf_124 : decode cX10_keepOf 124 = .ok (.aload_n 0, 1) := by decide +kernel
theorem dX10_keepOf_125 : decode cX10_keepOf 125 = .ok (.getfield 199, 3) := by decide +kernel
theorem dX10_keepOf_128 : decode cX10_keepOf 128 = .ok (.putfield 199, 3) := by decide +kernel
theorem dX10_keepOf_131 : decode cX10_keepOf 131 = .ok (.iinc 4 1, 3) := by decide +kernel
theorem dX10_keepOf_134 : decode cX10_keepOf 134 = .ok (.goto (-113), 3) := by decide +kernel
theorem dX10_keepOf_137 : decode cX10_keepOf 137 = .ok (.iload_n 3, 1) := by decide +kernel
theorem dX10_keepOf_138 : decode cX10_keepOf 138 = .ok (.ireturn, 1) := by decide +kernel
theorem dX10_keep_0 : decode cX10_keep 0 = .ok (.aload_n 0, 1) := by decide +kernel
theorem dX10_keep_1 : decode cX10_keep 1 = .ok (.invokevirtual 152, 3) := by decide +kernel
theorem dX10_keep_4 : decode cX10_keep 4 = .ok (.iload_n 1, 1) := by decide +kernel
theorem dX10_keep_5 : decode cX10_keep 5 = .ok (.invokestatic 130, 3) := by decide +kernel
theorem dX10_keep_8 : decode cX10_keep 8 = .ok (.ifCond .eq 10, 3) := by decide +kernel
theorem dX10_keep_11 : decode cX10_keep 11 = .ok (.iload_n 2, 1) := by decide +kernel
theorem dX10_keep_12 : decode cX10_keep 12 = .ok (.invokestatic 95, 3) := by decide +kernel
theorem dX10_keep_15 : decode cX10_keep 15 = .ok (.ifCond .ne 6, 3) := by decide +kernel
theorem dX10_keep_18 : decode cX10_keep 18 = .ok (.bipush (-2), 2) := by decide +kernel
theorem dX10_keep_20 : decode cX10_keep 20 = .ok (.ireturn, 1) := by decide +kernel
theorem dX10_keep_21 : decode cX10_keep 21 = .ok (.aload_n 0, 1) := by decide +kernel
theorem dX10_keep_22 : decode cX10_keep 22 = .ok (.iload_n 1, 1) := by decide +kernel
theorem dX10_keep_23 : decode cX10_keep 23 = .ok (.invokevirtual 202, 3) := by decide +kernel
theorem dX10_keep_26 : decode cX10_keep 26 = .ok (.istore_n 3, 1) := by decide +kernel
theorem dX10_keep_27 : decode cX10_keep 27 = .ok (.iload_n 2, 1) := by decide +kernel
theorem dX10_keep_28 : decode cX10_keep 28 = .ok (.ifCond .ne 7, 3) := by decide +kernel
theorem dX10_keep_31 : decode cX10_keep 31 = .ok (.iload_n 3, 1) := by decide +kernel
theorem dX10_keep_32 : decode cX10_keep 32 = .ok (.goto 7, 3) := by decide +kernel
theorem dX10_keep_35 : decode cX10_keep 35 = .ok (.aload_n 0, 1) := by decide +kernel
theorem dX10_keep_36 : decode cX10_keep 36 = .ok (.getfield 199, 3) := by decide +kernel
theorem dX10_keep_39 : decode cX10_keep 39 = .ok (.ireturn, 1) := by decide +kernel
theorem dX10_unfolds_0 : decode cX10_unfolds 0 = .ok (.iload_n 2, 1) := by decide +kernel
theorem dX10_unfolds_1 : decode cX10_unfolds 1 = .ok (.istore_n 3, 1) := by decide +kernel
theorem dX10_unfolds_2 : decode cX10_unfolds 2 = .ok (.iload_n 1, 1) := by decide +kernel
theorem dX10_unfolds_3 : decode cX10_unfolds 3 = .ok (.iconst 1, 1) := by decide +kernel
theorem dX10_unfolds_4 : decode cX10_unfolds 4 = .ok (.isub, 1) := by decide +kernel
theorem dX10_unfolds_5 : decode cX10_unfolds 5 = .ok (.istore 4, 2) := by decide +kernel
theorem dX10_unfolds_7 : decode cX10_unfolds 7 = .ok (.iload 4, 2) := by decide +kernel
theorem dX10_unfolds_9 : decode cX10_unfolds 9 = .ok (.ifCond .lt 29, 3) := by decide +kernel
theorem dX10_unfolds_12 : decode cX10_unfolds 12 = .ok (.aload_n 0, 1) := by decide +kernel
theorem dX10_unfolds_13 : decode cX10_unfolds 13 = .ok (.getfield 52, 3) := by decide +kernel
theorem dX10_unfolds_16 : decode cX10_unfolds 16 = .ok (.iload 4, 2) := by decide +kernel
theorem dX10_unfolds_18 : decode cX10_unfolds 18 = .ok (.iload_n 3, 1) := by decide +kernel
theorem dX10_unfolds_19 : decode cX10_unfolds 19 = .ok (.iload_n 1, 1) := by decide +kernel
theorem dX10_unfolds_20 : decode cX10_unfolds 20 = .ok (.iload 4, 2) := by decide +kernel
theorem dX10_unfolds_22 : decode cX10_unfolds 22 = .ok (.isub, 1) := by decide +kernel
theorem dX10_unfolds_23 : decode cX10_unfolds 23 = .ok (.irem, 1) := by decide +kernel
theorem dX10_unfolds_24 : decode cX10_unfolds 24 = .ok (.iastore, 1) := by decide +kernel
theorem dX10_unfolds_25 : decode cX10_unfolds 25 = .ok (.iload_n 3, 1) := by decide +kernel
theorem dX10_unfolds_26 : decode cX10_unfolds 26 = .ok (.iload_n 1, 1) := by decide +kernel
theorem dX10_unfolds_27 : decode cX10_unfolds 27 = .ok (.iload 4, 2) := by decide +kernel
theorem dX10_unfolds_29 : decode cX10_unfolds 29 = .ok (.isub, 1) := by decide +kernel
theorem dX10_unfolds_30 : decode cX10_unfolds 30 = .ok (.idiv, 1) := by decide +kernel
theorem dX10_unfolds_31 : decode cX10_unfolds 31 = .ok (.istore_n 3, 1) := by decide +kernel
theorem dX10_unfolds_32 : decode cX10_unfolds 32 = .ok (.iinc 4 (-1), 3) := by decide +kernel
theorem dX10_unfolds_35 : decode cX10_unfolds 35 = .ok (.goto (-28), 3) := by decide +kernel
theorem dX10_unfolds_38 : decode cX10_unfolds 38 = .ok (.iload_n 1, 1) := by decide +kernel
theorem dX10_unfolds_39 : decode cX10_unfolds 39 = .ok (.iconst 1, 1) := by decide +kernel
theorem dX10_unfolds_40 : decode cX10_unfolds 40 = .ok (.isub, 1) := by decide +kernel
theorem dX10_unfolds_41 : decode cX10_unfolds 41 = .ok (.istore 4, 2) := by decide +kernel
theorem dX10_unfolds_43 : decode cX10_unfolds 43 = .ok (.iload 4, 2) := by decide +kernel
theorem dX10_unfolds_45 : decode cX10_unfolds 45 = .ok (.ifCond .lt 59, 3) := by decide +kernel
theorem dX10_unfolds_48 : decode cX10_unfolds 48 = .ok (.iload 4, 2) := by decide +kernel
theorem dX10_unfolds_50 : decode cX10_unfolds 50 = .ok (.iconst 1, 1) := by decide +kernel
theorem dX10_unfolds_51 : decode cX10_unfolds 51 = .ok (.iadd, 1) := by decide +kernel
theorem dX10_unfolds_52 : decode cX10_unfolds 52 = .ok (.istore 5, 2) := by decide +kernel
theorem dX10_unfolds_54 : decode cX10_unfolds 54 = .ok (.iload 5, 2) := by decide +kernel
theorem dX10_unfolds_56 : decode cX10_unfolds 56 = .ok (.iload_n 1, 1) := by decide +kernel
theorem dX10_unfolds_57 : decode cX10_unfolds 57 = .ok (.if_icmp .ge 41, 3) := by decide +kernel
theorem dX10_unfolds_60 : decode cX10_unfolds 60 = .ok (.aload_n 0, 1) := by decide +kernel
theorem dX10_unfolds_61 : decode cX10_unfolds 61 = .ok (.getfield 52, 3) := by decide +kernel
theorem dX10_unfolds_64 : decode cX10_unfolds 64 = .ok (.iload 5, 2) := by decide +kernel
theorem dX10_unfolds_66 : decode cX10_unfolds 66 = .ok (.dup2, 1) := by decide +kernel
theorem dX10_unfolds_67 : decode cX10_unfolds 67 = .ok (.iaload, 1) := by decide +kernel
theorem dX10_unfolds_68 : decode cX10_unfolds 68 = .ok (.aload_n 0, 1) := by decide +kernel
theorem dX10_unfolds_69 : decode cX10_unfolds 69 = .ok (.getfield 52, 3) := by decide +kernel
theorem dX10_unfolds_72 : decode cX10_unfolds 72 = .ok (.iload 5, 2) := by decide +kernel
theorem dX10_unfolds_74 : decode cX10_unfolds 74 = .ok (.iaload, 1) := by decide +kernel
theorem dX10_unfolds_75 : decode cX10_unfolds 75 = .ok (.aload_n 0, 1) := by decide +kernel
theorem dX10_unfolds_76 : decode cX10_unfolds 76 = .ok (.getfield 52, 3) := by decide +kernel
theorem dX10_unfolds_79 : decode cX10_unfolds 79 = .ok (.iload 4, 2) := by decide +kernel
theorem dX10_unfolds_81 : decode cX10_unfolds 81 = .ok (.iaload, 1) := by decide +kernel
theorem dX10_unfolds_82 : decode cX10_unfolds 82 = .ok (.if_icmp .lt 7, 3) := by decide +kernel
theorem dX10_unfolds_85 : decode cX10_unfolds 85 = .ok (.iconst 1, 1) := by decide +kernel
theorem dX10_unfolds_86 : decode cX10_unfolds 86 = .ok (.goto 4, 3) := by decide +kernel
theorem dX10_unfolds_89 : decode cX10_unfolds 89 = .ok (.iconst 0, 1) := by decide +kernel
theorem dX10_unfolds_90 : decode cX10_unfolds 90 = .ok (.iadd, 1) := by decide +kernel
theorem dX10_unfolds_91 : decode cX10_unfolds 91 = .ok (.iastore, 1) := by decide +kernel
theorem dX10_unfolds_92 : decode cX10_unfolds 92 = .ok (.iinc 5 1, 3) := by decide +kernel
theorem dX10_unfolds_95 : decode cX10_unfolds 95 = .ok (.goto (-41), 3) := by decide +kernel
theorem dX10_unfolds_98 : decode cX10_unfolds 98 = .ok (.iinc 4 (-1), 3) := by decide +kernel
theorem dX10_unfolds_101 : decode cX10_unfolds 101 = .ok (.goto (-58), 3) := by decide +kernel
theorem dX10_unfolds_104 : decode cX10_unfolds 104 = .ok (.return_, 1) := by decide +kernel
theorem dX10_orderOf_0 : decode cX10_orderOf 0 = .ok (.iconst 0, 1) := by decide +kernel
theorem dX10_orderOf_1 : decode cX10_orderOf 1 = .ok (.istore 4, 2) := by decide +kernel
theorem dX10_orderOf_3 : decode cX10_orderOf 3 = .ok (.iconst 0, 1) := by decide +kernel
theorem dX10_orderOf_4 : decode cX10_orderOf 4 = .ok (.istore 5, 2) := by decide +kernel
theorem dX10_orderOf_6 : decode cX10_orderOf 6 = .ok (.iload 5, 2) := by decide +kernel
theorem dX10_orderOf_8 : decode cX10_orderOf 8 = .ok (.aload_n 0, 1) := by decide +kernel
theorem dX10_orderOf_9 : decode cX10_orderOf 9 = .ok (.getfield 28, 3) := by decide +kernel
theorem dX10_orderOf_12 : decode cX10_orderOf 12 = .ok (.iconst 0, 1) := by decide +kernel
theorem dX10_orderOf_13 : decode cX10_orderOf 13 = .ok (.iaload, 1) := by decide +kernel
theorem dX10_orderOf_14 : decode cX10_orderOf 14 = .ok (.if_icmp .ge 30, 3) := by decide +kernel
theorem dX10_orderOf_17 : decode cX10_orderOf 17 = .ok (.iload_n 1, 1) := by decide +kernel
theorem dX10_orderOf_18 : decode cX10_orderOf 18 = .ok (.iload 5, 2) := by decide +kernel
theorem dX10_orderOf_20 : decode cX10_orderOf 20 = .ok (.invokestatic 158, 3) := by decide +kernel
theorem dX10_orderOf_23 : decode cX10_orderOf 23 = .ok (.ifCond .eq 15, 3) := by decide +kernel
theorem dX10_orderOf_26 : decode cX10_orderOf 26 = .ok (.aload_n 0, 1) := by decide +kernel
theorem dX10_orderOf_27 : decode cX10_orderOf 27 = .ok (.getfield 49, 3) := by decide +kernel
theorem dX10_orderOf_30 : decode cX10_orderOf 30 = .ok (.iload 4, 2) := by decide +kernel
theorem dX10_orderOf_32 : decode cX10_orderOf 32 = .ok (.iload 5, 2) := by decide +kernel
theorem dX10_orderOf_34 : decode cX10_orderOf 34 = .ok (.iastore, 1) := by decide +kernel
theorem dX10_orderOf_35 : decode cX10_orderOf 35 = .ok (.iinc 4 1, 3) := by decide +kernel
theorem dX10_orderOf_38 : decode cX10_orderOf 38 = .ok (.iinc 5 1, 3) := by decide +kernel
theorem dX10_orderOf_41 : decode cX10_orderOf 41 = .ok (.goto (-35), 3) := by decide +kernel
theorem dX10_orderOf_44 : decode cX10_orderOf 44 = .ok (.iload 4, 2) := by decide +kernel
theorem dX10_orderOf_46 : decode cX10_orderOf 46 = .ok (.iconst 3, 1) := by decide +kernel
theorem dX10_orderOf_47 : decode cX10_orderOf 47 = .ok (.if_icmp .ge 8, 3) := by decide +kernel
theorem dX10_orderOf_50 : decode cX10_orderOf 50 = .ok (.iload 4, 2) := by decide +kernel
theorem dX10_orderOf_52 : decode cX10_orderOf 52 = .ok (.goto 16, 3) := by decide +kernel
theorem dX10_orderOf_55 : decode cX10_orderOf 55 = .ok (.iload 4, 2) := by decide +kernel
theorem dX10_orderOf_57 : decode cX10_orderOf 57 = .ok (.iconst 3, 1) := by decide +kernel
theorem dX10_orderOf_58 : decode cX10_orderOf 58 = .ok (.if_icmp .ne 8, 3) := by decide +kernel
theorem dX10_orderOf_61 : decode cX10_orderOf 61 = .ok (.bipush 6, 2) := by decide +kernel
theorem dX10_orderOf_63 : decode cX10_orderOf 63 = .ok (.goto 5, 3) := by decide +kernel
theorem dX10_orderOf_66 : decode cX10_orderOf 66 = .ok (.bipush 24, 2) := by decide +kernel
theorem dX10_orderOf_68 : decode cX10_orderOf 68 = .ok (.istore 5, 2) := by decide +kernel
theorem dX10_orderOf_70 : decode cX10_orderOf 70 = .ok (.iconst (-1), 1) := by decide +kernel
theorem dX10_orderOf_71 : decode cX10_orderOf 71 = .ok (.istore 6, 2) := by decide +kernel
theorem dX10_orderOf_73 : decode cX10_orderOf 73 = .ok (.iconst 0, 1) := by decide +kernel
theorem dX10_orderOf_74 : decode cX10_orderOf 74 = .ok (.istore 7, 2) := by decide +kernel
theorem dX10_orderOf_76 : decode cX10_orderOf 76 = .ok (.iload 7, 2) := by decide +kernel
theorem dX10_orderOf_78 : decode cX10_orderOf 78 = .ok (.iload 5, 2) := by decide +kernel
theorem dX10_orderOf_80 : decode cX10_orderOf 80 = .ok (.if_icmp .ge 153, 3) := by decide +kernel
theorem dX10_orderOf_83 : decode cX10_orderOf 83 = .ok (.aload_n 0, 1) := by decide +kernel
theorem dX10_orderOf_84 : decode cX10_orderOf 84 = .ok (.iload 4, 2) := by decide +kernel
theorem dX10_orderOf_86 : decode cX10_orderOf 86 = .ok (.iload 7, 2) := by decide +kernel
theorem dX10_orderOf_88 : decode cX10_orderOf 88 = .ok (.invokevirtual 205, 3) := by decide +kernel
theorem dX10_orderOf_91 : decode cX10_orderOf 91 = .ok (.iconst 0, 1) := by decide +kernel
theorem dX10_orderOf_92 : decode cX10_orderOf 92 = .ok (.istore 8, 2) := by decide +kernel
theorem dX10_orderOf_94 : decode cX10_orderOf 94 = .ok (.iload 8, 2) := by decide +kernel
theorem dX10_orderOf_96 : decode cX10_orderOf 96 = .ok (.iload 4, 2) := by decide +kernel
theorem dX10_orderOf_98 : decode cX10_orderOf 98 = .ok (.if_icmp .ge 46, 3) := by decide +kernel
theorem dX10_orderOf_101 : decode cX10_orderOf 101 = .ok (.aload_n 0, 1) := by decide +kernel
theorem dX10_orderOf_102 : decode cX10_orderOf 102 = .ok (.getfield 43, 3) := by decide +kernel
theorem dX10_orderOf_105 : decode cX10_orderOf 105 = .ok (.aload_n 0, 1) := by decide +kernel
theorem dX10_orderOf_106 : decode cX10_orderOf 106 = .ok (.getfield 49, 3) := by decide +kernel
theorem dX10_orderOf_109 : decode cX10_orderOf 109 = .ok (.aload_n 0, 1) := by decide +kernel
theorem dX10_orderOf_110 : decode cX10_orderOf 110 = .ok (.getfield 52, 3) := by decide +kernel
theorem dX10_orderOf_113 : decode cX10_orderOf 113 = .ok (.iload 8, 2) := by decide +kernel
theorem dX10_orderOf_115 : decode cX10_orderOf 115 = .ok (.iaload, 1) := by decide +kernel
theorem dX10_orderOf_116 : decode cX10_orderOf 116 = .ok (.iaload, 1) := by decide +kernel
theorem dX10_orderOf_117 : decode cX10_orderOf 117 = .ok (.iload_n 2, 1) := by decide +kernel
theorem dX10_orderOf_118 : decode cX10_orderOf 118 = .ok (.iload 8, 2) := by decide +kernel
theorem dX10_orderOf_120 : decode cX10_orderOf 120 = .ok (.iadd, 1) := by decide +kernel
theorem dX10_orderOf_121 : decode cX10_orderOf 121 = .ok (.iastore, 1) := by decide +kernel
theorem dX10_orderOf_122 : decode cX10_orderOf 122 = .ok (.aload_n 0, 1) := by decide +kernel
theorem dX10_orderOf_123 : decode cX10_orderOf 123 = .ok (.aload_n 0, 1) := by decide +kernel
theorem dX10_orderOf_124 : decode cX10_orderOf 124 = .ok (.getfield 49, 3) := by decide +kernel
theorem dX10_orderOf_127 : decode cX10_orderOf 127 = .ok (.aload_n 0, 1) := by decide +kernel
theorem dX10_orderOf_128 : decode cX10_orderOf 128 = .ok (.getfield 52, 3) := by decide +kernel
theorem dX10_orderOf_131 : decode cX10_orderOf 131 = .ok (.iload 8, 2) := by decide +kernel
theorem dX10_orderOf_133 : decode cX10_orderOf 133 = .ok (.iaload, 1) := by decide +kernel
theorem dX10_orderOf_134 : decode cX10_orderOf 134 = .ok (.iaload, 1) := by decide +kernel
theorem dX10_orderOf_135 : decode cX10_orderOf 135 = .ok (.invokevirtual 141, 3) := by decide +kernel
theorem dX10_orderOf_138 : decode cX10_orderOf 138 = .ok (.iinc 8 1, 3) := by decide +kernel
theorem dX10_orderOf_141 : decode cX10_orderOf 141 = .ok (.goto (-47), 3) := by decide +kernel
theorem dX10_orderOf_144 : decode cX10_orderOf 144 = .ok (.iconst 0, 1) := by decide +kernel
theorem dX10_orderOf_145 : decode cX10_orderOf 145 = .ok (.istore 8, 2) := by decide +kernel
theorem dX10_orderOf_147 : decode cX10_orderOf 147 = .ok (.iconst 0, 1) := by decide +kernel
theorem dX10_orderOf_148 : decode cX10_orderOf 148 = .ok (.istore 9, 2) := by decide +kernel
theorem dX10_orderOf_150 : decode cX10_orderOf 150 = .ok (.iload 9, 2) := by decide +kernel
theorem dX10_orderOf_152 : decode cX10_orderOf 152 = .ok (.iload 4, 2) := by decide +kernel
theorem dX10_orderOf_154 : decode cX10_orderOf 154 = .ok (.if_icmp .ge 27, 3) := by decide +kernel
theorem dX10_orderOf_157 : decode cX10_orderOf 157 = .ok (.iload 8, 2) := by decide +kernel
theorem dX10_orderOf_159 : decode cX10_orderOf 159 = .ok (.aload_n 0, 1) := by decide +kernel
theorem dX10_orderOf_160 : decode cX10_orderOf 160 = .ok (.aload_n 0, 1) := by decide +kernel
theorem dX10_orderOf_161 : decode cX10_orderOf 161 = .ok (.iload_n 2, 1) := by decide +kernel
theorem dX10_orderOf_162 : decode cX10_orderOf 162 = .ok (.iload 9, 2) := by decide +kernel
theorem dX10_orderOf_164 : decode cX10_orderOf 164 = .ok (.iadd, 1) := by decide +kernel
theorem dX10_orderOf_165 : decode cX10_orderOf 165 = .ok (.iconst 0, 1) := by decide +kernel
theorem dX10_orderOf_166 : decode cX10_orderOf 166 = .ok (.invokevirtual 155, 3) := by decide +kernel
theorem dX10_orderOf_169 : decode cX10_orderOf 169 = .ok (.invokevirtual 179, 3) := by decide +kernel
theorem dX10_orderOf_172 : decode cX10_orderOf 172 = .ok (.iadd, 1) := by decide +kernel
theorem dX10_orderOf_173 : decode cX10_orderOf 173 = .ok (.istore 8, 2) := by decide +kernel
theorem dX10_orderOf_175 : decode cX10_orderOf 175 = .ok (.iinc 9 1, 3) := by decide +kernel
theorem dX10_orderOf_178 : decode cX10_orderOf 178 = .ok (.goto (-28), 3) := by decide +kernel
theorem dX10_orderOf_181 : decode cX10_orderOf 181 = .ok (.iload 8, 2) := by decide +kernel
theorem dX10_orderOf_183 : decode cX10_orderOf 183 = .ok (.iload 6, 2) := by decide +kernel
theorem dX10_orderOf_185 : decode cX10_orderOf 185 = .ok (.if_icmp .le 42, 3) := by decide +kernel
theorem dX10_orderOf_188 : decode cX10_orderOf 188 = .ok (.iload 8, 2) := by decide +kernel
theorem dX10_orderOf_190 : decode cX10_orderOf 190 = .ok (.istore 6, 2) := by decide +kernel
theorem dX10_orderOf_192 : decode cX10_orderOf 192 = .ok (.iconst 0, 1) := by decide +kernel
theorem dX10_orderOf_193 : decode cX10_orderOf 193 = .ok (.istore 9, 2) := by decide +kernel
theorem dX10_orderOf_195 : decode cX10_orderOf 195 = .ok (.iload 9, 2) := by decide +kernel
theorem dX10_orderOf_197 : decode cX10_orderOf 197 = .ok (.iload 4, 2) := by decide +kernel
theorem dX10_orderOf_199 : decode cX10_orderOf 199 = .ok (.if_icmp .ge 28, 3) := by decide +kernel
theorem dX10_orderOf_202 : decode cX10_orderOf 202 = .ok (.aload_n 0, 1) := by decide +kernel
theorem dX10_orderOf_203 : decode cX10_orderOf 203 = .ok (.getfield 55, 3) := by decide +kernel
theorem dX10_orderOf_206 : decode cX10_orderOf 206 = .ok (.iload 9, 2) := by decide +kernel
theorem dX10_orderOf_208 : decode cX10_orderOf 208 = .ok (.aload_n 0, 1) := by decide +kernel
theorem dX10_orderOf_209 : decode cX10_orderOf 209 = .ok (.getfield 49, 3) := by decide +kernel
theorem dX10_orderOf_212 : decode cX10_orderOf 212 = .ok (.aload_n 0, 1) := by decide +kernel
theorem dX10_orderOf_213 : decode cX10_orderOf 213 = .ok (.getfield 52, 3) := by decide +kernel
theorem dX10_orderOf_216 : decode cX10_orderOf 216 = .ok (.iload 9, 2) := by decide +kernel
theorem dX10_orderOf_218 : decode cX10_orderOf 218 = .ok (.iaload, 1) := by decide +kernel
theorem dX10_orderOf_219 : decode cX10_orderOf 219 = .ok (.iaload, 1) := by decide +kernel
theorem dX10_orderOf_220 : decode cX10_orderOf 220 = .ok (.iastore, 1) := by decide +kernel
theorem dX10_orderOf_221 : decode cX10_orderOf 221 = .ok (.iinc 9 1, 3) := by decide +kernel
theorem dX10_orderOf_224 : decode cX10_orderOf 224 = .ok (.goto (-29), 3) := by decide +kernel
theorem dX10_orderOf_227 : decode cX10_orderOf 227 = .ok (.iinc 7 1, 3) := by decide +kernel
theorem dX10_orderOf_230 : decode cX10_orderOf 230 = .ok (.goto (-154), 3) := by decide +kernel
theorem dX10_orderOf_233 : decode cX10_orderOf 233 = .ok (.aload_n 0, 1) := by decide +kernel
theorem dX10_orderOf_234 : decode cX10_orderOf 234 = .ok (.invokevirtual 152, 3) := by decide +kernel
theorem dX10_orderOf_237 : decode cX10_orderOf 237 = .ok (.iload_n 3, 1) := by decide +kernel
theorem dX10_orderOf_238 : decode cX10_orderOf 238 = .ok (.iconst (-1), 1) := by decide +kernel
theorem dX10_orderOf_239 : decode cX10_orderOf 239 = .ok (.if_icmp .ne 8, 3) := by decide +kernel
theorem dX10_orderOf_242 : decode cX10_orderOf 242 = .ok (.iload 6, 2) := by decide +kernel
theorem dX10_orderOf_244 : decode cX10_orderOf 244 = .ok (.goto 19, 3) := by decide +kernel
theorem dX10_orderOf_247 : decode cX10_orderOf 247 = .ok (.iload_n 3, 1) := by decide +kernel
theorem dX10_orderOf_248 : decode cX10_orderOf 248 = .ok (.iload 4, 2) := by decide +kernel
theorem dX10_orderOf_250 : decode cX10_orderOf 250 = .ok (.if_icmp .ge 12, 3) := by decide +kernel
theorem dX10_orderOf_253 : decode cX10_orderOf 253 = .ok (.aload_n 0, 1) := by decide +kernel
theorem dX10_orderOf_254 : decode cX10_orderOf 254 = .ok (.getfield 55, 3) := by decide +kernel
theorem dX10_orderOf_257 : decode cX10_orderOf 257 = .ok (.iload_n 3, 1) := by decide +kernel
theorem dX10_orderOf_258 : decode cX10_orderOf 258 = .ok (.iaload, 1) := by decide +kernel
theorem dX10_orderOf_259 : decode cX10_orderOf 259 = .ok (.goto 4, 3) := by decide +kernel
theorem dX10_orderOf_262 : decode cX10_orderOf 262 = .ok (.iconst (-1), 1) := by decide +kernel
theorem dX10_orderOf_263 : decode cX10_orderOf 263 = .ok (.ireturn, 1) := by decide +kernel
theorem dX10_order_0 : decode cX10_order 0 = .ok (.aload_n 0, 1) := by decide +kernel
theorem dX10_order_1 : decode cX10_order 1 = .ok (.invokevirtual 152, 3) := by decide +kernel
theorem dX10_order_4 : decode cX10_order 4 = .ok (.iload_n 1, 1) := by decide +kernel
theorem dX10_order_5 : decode cX10_order 5 = .ok (.ifCond .lt 34, 3) := by decide +kernel
theorem dX10_order_8 : decode cX10_order 8 = .ok (.iload_n 1, 1) := by decide +kernel
theorem dX10_order_9 : decode cX10_order 9 = .ok (.iconst 1, 1) := by decide +kernel
theorem dX10_order_10 : decode cX10_order 10 = .ok (.aload_n 0, 1) := by decide +kernel
theorem dX10_order_11 : decode cX10_order 11 = .ok (.getfield 28, 3) := by decide +kernel
theorem dX10_order_14 : decode cX10_order 14 = .ok (.iconst 0, 1) := by decide +kernel
theorem dX10_order_15 : decode cX10_order 15 = .ok (.iaload, 1) := by decide +kernel
theorem dX10_order_16 : decode cX10_order 16 = .ok (.ishl, 1) := by decide +kernel
theorem dX10_order_17 : decode cX10_order 17 = .ok (.if_icmp .ge 22, 3) := by decide +kernel
theorem dX10_order_20 : decode cX10_order 20 = .ok (.iload_n 1, 1) := by decide +kernel
theorem dX10_order_21 : decode cX10_order 21 = .ok (.invokestatic 165, 3) := by decide +kernel
theorem dX10_order_24 : decode cX10_order 24 = .ok (.i2l, 1) := by decide +kernel
theorem dX10_order_25 : decode cX10_order 25 = .ok (.lconst 1, 1) := by decide +kernel
theorem dX10_order_26 : decode cX10_order 26 = .ok (.ldc2_w 128, 3) := by decide +kernel
theorem dX10_order_29 : decode cX10_order 29 = .ok (.invokestatic 66, 3) := by decide +kernel
theorem dX10_order_32 : decode cX10_order 32 = .ok (.ifCond .eq 7, 3) := by decide +kernel
theorem dX10_order_35 : decode cX10_order 35 = .ok (.iconst 1, 1) := by decide +kernel
theorem dX10_order_36 : decode cX10_order 36 = .ok (.goto 4, 3) := by decide +kernel
theorem dX10_order_39 : decode cX10_order 39 = .ok (.iconst 0, 1) := by decide +kernel
theorem dX10_order_40 : decode cX10_order 40 = .ok (.istore 4, 2) := by decide +kernel
theorem dX10_order_42 : decode cX10_order 42 = .ok (.iload 4, 2) := by decide +kernel
theorem dX10_order_44 : decode cX10_order 44 = .ok (.ifCond .eq 45, 3) := by decide +kernel
theorem dX10_order_47 : decode cX10_order 47 = .ok (.iload_n 2, 1) := by decide +kernel
theorem dX10_order_48 : decode cX10_order 48 = .ok (.invokestatic 130, 3) := by decide +kernel
theorem dX10_order_51 : decode cX10_order 51 = .ok (.ifCond .eq 38, 3) := by decide +kernel
theorem dX10_order_54 : decode cX10_order 54 = .ok (.iload_n 2, 1) := by decide +kernel
theorem dX10_order_55 : decode cX10_order 55 = .ok (.iload_n 1, 1) := by decide +kernel
theorem dX10_order_56 : decode cX10_order 56 = .ok (.invokestatic 165, 3) := by decide +kernel
theorem dX10_order_59 : decode cX10_order 59 = .ok (.iadd, 1) := by decide +kernel
theorem dX10_order_60 : decode cX10_order 60 = .ok (.bipush 30, 2) := by decide +kernel
theorem dX10_order_62 : decode cX10_order 62 = .ok (.if_icmp .gt 27, 3) := by decide +kernel
theorem dX10_order_65 : decode cX10_order 65 = .ok (.iload_n 3, 1) := by decide +kernel
theorem dX10_order_66 : decode cX10_order 66 = .ok (.i2l, 1) := by decide +kernel
theorem dX10_order_67 : decode cX10_order 67 = .ok (.ldc2_w 191, 3) := by decide +kernel
theorem dX10_order_70 : decode cX10_order 70 = .ok (.ldc2_w 74, 3) := by decide +kernel
theorem dX10_order_73 : decode cX10_order 73 = .ok (.invokestatic 66, 3) := by decide +kernel
theorem dX10_order_76 : decode cX10_order 76 = .ok (.ifCond .eq 13, 3) := by decide +kernel
theorem dX10_order_79 : decode cX10_order 79 = .ok (.aload_n 0, 1) := by decide +kernel
theorem dX10_order_80 : decode cX10_order 80 = .ok (.iload_n 1, 1) := by decide +kernel
theorem dX10_order_81 : decode cX10_order 81 = .ok (.iload_n 2, 1) := by decide +kernel
theorem dX10_order_82 : decode cX10_order 82 = .ok (.iload_n 3, 1) := by decide +kernel
theorem dX10_order_83 : decode cX10_order 83 = .ok (.invokevirtual 209, 3) := by decide +kernel
theorem dX10_order_86 : decode cX10_order 86 = .ok (.goto 5, 3) := by decide +kernel
theorem dX10_order_89 : decode cX10_order 89 = .ok (.bipush (-2), 2) := by decide +kernel
theorem dX10_order_91 : decode cX10_order 91 = .ok (.ireturn, 1) := by decide +kernel
theorem dX10_seen_0 : decode cX10_seen 0 = .ok (.iload_n 1, 1) := by decide +kernel
theorem dX10_seen_1 : decode cX10_seen 1 = .ok (.invokestatic 171, 3) := by decide +kernel
theorem dX10_seen_4 : decode cX10_seen 4 = .ok (.ifCond .eq 17, 3) := by decide +kernel
theorem dX10_seen_7 : decode cX10_seen 7 = .ok (.iload_n 2, 1) := by decide +kernel
theorem dX10_seen_8 : decode cX10_seen 8 = .ok (.i2l, 1) := by decide +kernel
theorem dX10_seen_9 : decode cX10_seen 9 = .ok (.ldc2_w 191, 3) := by decide +kernel
theorem dX10_seen_12 : decode cX10_seen 12 = .ok (.ldc2_w 177, 3) := by decide +kernel
theorem dX10_seen_15 : decode cX10_seen 15 = .ok (.invokestatic 66, 3) := by decide +kernel
theorem dX10_seen_18 : decode cX10_seen 18 = .ok (.ifCond .ne 6, 3) := by decide +kernel
theorem dX10_seen_21 : decode cX10_seen 21 = .ok (.bipush (-2), 2) := by decide +kernel
theorem dX10_seen_23 : decode cX10_seen 23 = .ok (.ireturn, 1) := by decide +kernel
theorem dX10_seen_24 : decode cX10_seen 24 = .ok (.aload_n 0, 1) := by decide +kernel
theorem dX10_seen_25 : decode cX10_seen 25 = .ok (.getfield 212, 3) := by decide +kernel
theorem dX10_seen_28 : decode cX10_seen 28 = .ok (.bipush 8, 2) := by decide +kernel
theorem dX10_seen_30 : decode cX10_seen 30 = .ok (.if_icmp .ne 6, 3) := by decide +kernel
theorem dX10_seen_33 : decode cX10_seen 33 = .ok (.bipush (-4), 2) := by decide +kernel
theorem dX10_seen_35 : decode cX10_seen 35 = .ok (.ireturn, 1) := by decide +kernel
theorem dX10_seen_36 : decode cX10_seen 36 = .ok (.aload_n 0, 1) := by decide +kernel
theorem dX10_seen_37 : decode cX10_seen 37 = .ok (.getfield 58, 3) := by decide +kernel
theorem dX10_seen_40 : decode cX10_seen 40 = .ok (.iconst 2, 1) := by decide +kernel
theorem dX10_seen_41 : decode cX10_seen 41 = .ok (.aload_n 0, 1) := by decide +kernel
theorem dX10_seen_42 : decode cX10_seen 42 = .ok (.getfield 212, 3) := by decide +kernel
theorem dX10_seen_45 : decode cX10_seen 45 = .ok (.imul, 1) := by decide +kernel
theorem dX10_seen_46 : decode cX10_seen 46 = .ok (.iload_n 1, 1) := by decide +kernel
theorem dX10_seen_47 : decode cX10_seen 47 = .ok (.iastore, 1) := by decide +kernel
theorem dX10_seen_48 : decode cX10_seen 48 = .ok (.aload_n 0, 1) := by decide +kernel
theorem dX10_seen_49 : decode cX10_seen 49 = .ok (.getfield 58, 3) := by decide +kernel
theorem dX10_seen_52 : decode cX10_seen 52 = .ok (.iconst 2, 1) := by decide +kernel
theorem dX10_seen_53 : decode cX10_seen 53 = .ok (.aload_n 0, 1) := by decide +kernel
theorem dX10_seen_54 : decode cX10_seen 54 = .ok (.getfield 212, 3) := by decide +kernel
theorem dX10_seen_57 : decode cX10_seen 57 = .ok (.imul, 1) := by decide +kernel
theorem dX10_seen_58 : decode cX10_seen 58 = .ok (.iconst 1, 1) := by decide +kernel
theorem dX10_seen_59 : decode cX10_seen 59 = .ok (.iadd, 1) := by decide +kernel
theorem dX10_seen_60 : decode cX10_seen 60 = .ok (.iload_n 2, 1) := by decide +kernel
theorem dX10_seen_61 : decode cX10_seen 61 = .ok (.iastore, 1) := by decide +kernel
theorem dX10_seen_62 : decode cX10_seen 62 = .ok (.aload_n 0, 1) := by decide +kernel
theorem dX10_seen_63 : decode cX10_seen 63 = .ok (.dup, 1) := by decide +kernel
theorem dX10_seen_64 : decode cX10_seen 64 = .ok (.getfield 212, 3) := by decide +kernel
theorem dX10_seen_67 : decode cX10_seen 67 = .ok (.iconst 1, 1) := by decide +kernel
theorem dX10_seen_68 : decode cX10_seen 68 = .ok (.iadd, 1) := by decide +kernel
theorem dX10_seen_69 : decode cX10_seen 69 = .ok (.putfield 212, 3) := by decide +kernel
theorem dX10_seen_72 : decode cX10_seen 72 = .ok (.aload_n 0, 1) := by decide +kernel
theorem dX10_seen_73 : decode cX10_seen 73 = .ok (.getfield 212, 3) := by decide +kernel
theorem dX10_seen_76 : decode cX10_seen 76 = .ok (.ireturn, 1) := by decide +kernel
theorem dX10_forget_0 : decode cX10_forget 0 = .ok (.aload_n 0, 1) := by decide +kernel
theorem dX10_forget_1 : decode cX10_forget 1 = .ok (.getfield 212, 3) := by decide +kernel
theorem dX10_forget_4 : decode cX10_forget 4 = .ok (.istore_n 1, 1) := by decide +kernel
theorem dX10_forget_5 : decode cX10_forget 5 = .ok (.aload_n 0, 1) := by decide +kernel
theorem dX10_forget_6 : decode cX10_forget 6 = .ok (.iconst 0, 1) := by decide +kernel
theorem dX10_forget_7 : decode cX10_forget 7 = .ok (.putfield 212, 3) := by decide +kernel
theorem dX10_forget_10 : decode cX10_forget 10 = .ok (.iload_n 1, 1) := by decide +kernel
theorem dX10_forget_11 : decode cX10_forget 11 = .ok (.ireturn, 1) := by decide +kernel
theorem dX10_read_0 : decode cX10_read 0 = .ok (.iload_n 1, 1) := by decide +kernel
theorem dX10_read_1 : decode cX10_read 1 = .ok (.invokestatic 76, 3) := by decide +kernel
theorem dX10_read_4 : decode cX10_read 4 = .ok (.ifCond .ne 6, 3) := by decide +kernel
theorem dX10_read_7 : decode cX10_read 7 = .ok (.bipush (-2), 2) := by decide +kernel
theorem dX10_read_9 : decode cX10_read 9 = .ok (.ireturn, 1) := by decide +kernel
theorem dX10_read_10 : decode cX10_read 10 = .ok (.aload_n 0, 1) := by decide +kernel
theorem dX10_read_11 : decode cX10_read 11 = .ok (.getfield 7, 3) := by decide +kernel
theorem dX10_read_14 : decode cX10_read 14 = .ok (.iload_n 1, 1) := by decide +kernel
theorem dX10_read_15 : decode cX10_read 15 = .ok (.iaload, 1) := by decide +kernel
theorem dX10_read_16 : decode cX10_read 16 = .ok (.ifCond .ge 9, 3) := by decide +kernel
theorem dX10_read_19 : decode cX10_read 19 = .ok (.aload_n 0, 1) := by decide +kernel
theorem dX10_read_20 : decode cX10_read 20 = .ok (.iconst 1, 1) := by decide +kernel
theorem dX10_read_21 : decode cX10_read 21 = .ok (.invokevirtual 82, 3) := by decide +kernel
theorem dX10_read_24 : decode cX10_read 24 = .ok (.ireturn, 1) := by decide +kernel
theorem dX10_read_25 : decode cX10_read 25 = .ok (.iconst 0, 1) := by decide +kernel
theorem dX10_read_26 : decode cX10_read 26 = .ok (.istore_n 2, 1) := by decide +kernel
theorem dX10_read_27 : decode cX10_read 27 = .ok (.iconst 1, 1) := by decide +kernel
theorem dX10_read_28 : decode cX10_read 28 = .ok (.istore_n 3, 1) := by decide +kernel
theorem dX10_read_29 : decode cX10_read 29 = .ok (.iload_n 3, 1) := by decide +kernel
theorem dX10_read_30 : decode cX10_read 30 = .ok (.ifCond .eq 73, 3) := by decide +kernel
theorem dX10_read_33 : decode cX10_read 33 = .ok (.iconst 2, 1) := by decide +kernel
theorem dX10_read_34 : decode cX10_read 34 = .ok (.iload_n 2, 1) := by decide +kernel
theorem dX10_read_35 : decode cX10_read 35 = .ok (.imul, 1) := by decide +kernel
theorem dX10_read_36 : decode cX10_read 36 = .ok (.iconst 2, 1) := by decide +kernel
theorem dX10_read_37 : decode cX10_read 37 = .ok (.iadd, 1) := by decide +kernel
theorem dX10_read_38 : decode cX10_read 38 = .ok (.aload_n 0, 1) := by decide +kernel
theorem dX10_read_39 : decode cX10_read 39 = .ok (.getfield 13, 3) := by decide +kernel
theorem dX10_read_42 : decode cX10_read 42 = .ok (.iload_n 1, 1) := by decide +kernel
theorem dX10_read_43 : decode cX10_read 43 = .ok (.iaload, 1) := by decide +kernel
theorem dX10_read_44 : decode cX10_read 44 = .ok (.if_icmp .gt 59, 3) := by decide +kernel
theorem dX10_read_47 : decode cX10_read 47 = .ok (.aload_n 0, 1) := by decide +kernel
theorem dX10_read_48 : decode cX10_read 48 = .ok (.aload_n 0, 1) := by decide +kernel
theorem dX10_read_49 : decode cX10_read 49 = .ok (.getfield 16, 3) := by decide +kernel
theorem dX10_read_52 : decode cX10_read 52 = .ok (.bipush 60, 2) := by decide +kernel
theorem dX10_read_54 : decode cX10_read 54 = .ok (.iload_n 1, 1) := by decide +kernel
theorem dX10_read_55 : decode cX10_read 55 = .ok (.imul, 1) := by decide +kernel
theorem dX10_read_56 : decode cX10_read 56 = .ok (.iconst 2, 1) := by decide +kernel
theorem dX10_read_57 : decode cX10_read 57 = .ok (.iload_n 2, 1) := by decide +kernel
theorem dX10_read_58 : decode cX10_read 58 = .ok (.imul, 1) := by decide +kernel
theorem dX10_read_59 : decode cX10_read 59 = .ok (.iadd, 1) := by decide +kernel
theorem dX10_read_60 : decode cX10_read 60 = .ok (.iaload, 1) := by decide +kernel
theorem dX10_read_61 : decode cX10_read 61 = .ok (.aload_n 0, 1) := by decide +kernel
theorem dX10_read_62 : decode cX10_read 62 = .ok (.getfield 16, 3) := by decide +kernel
theorem dX10_read_65 : decode cX10_read 65 = .ok (.bipush 60, 2) := by decide +kernel
theorem dX10_read_67 : decode cX10_read 67 = .ok (.iload_n 1, 1) := by decide +kernel
theorem dX10_read_68 : decode cX10_read 68 = .ok (.imul, 1) := by decide +kernel
theorem dX10_read_69 : decode cX10_read 69 = .ok (.iconst 2, 1) := by decide +kernel
theorem dX10_read_70 : decode cX10_read 70 = .ok (.iload_n 2, 1) := by decide +kernel
theorem dX10_read_71 : decode cX10_read 71 = .ok (.imul, 1) := by decide +kernel
theorem dX10_read_72 : decode cX10_read 72 = .ok (.iadd, 1) := by decide +kernel
theorem dX10_read_73 : decode cX10_read 73 = .ok (.iconst 1, 1) := by decide +kernel
theorem dX10_read_74 : decode cX10_read 74 = .ok (.iadd, 1) := by decide +kernel
theorem dX10_read_75 : decode cX10_read 75 = .ok (.iaload, 1) := by decide +kernel
theorem dX10_read_76 : decode cX10_read 76 = .ok (.invokevirtual 215, 3) := by decide +kernel
theorem dX10_read_79 : decode cX10_read 79 = .ok (.ifCond .lt 7, 3) := by decide +kernel
theorem dX10_read_82 : decode cX10_read 82 = .ok (.iconst 1, 1) := by decide +kernel
theorem dX10_read_83 : decode cX10_read 83 = .ok (.goto 4, 3) := by decide +kernel
theorem dX10_read_86 : decode cX10_read 86 = .ok (.iconst 0, 1) := by decide +kernel
theorem dX10_read_87 : decode cX10_read 87 = .ok (.istore_n 3, 1) := by decide +kernel
theorem dX10_read_88 : decode cX10_read 88 = .ok (.iload_n 2, 1) := by decide +kernel
theorem dX10_read_89 : decode cX10_read 89 = .ok (.iload_n 3, 1) := by decide +kernel
theorem dX10_read_90 : decode cX10_read 90 = .ok (.ifCond .eq 7, 3) := by decide +kernel
theorem dX10_read_93 : decode cX10_read 93 = .ok (.iconst 1, 1) := by decide +kernel
theorem dX10_read_94 : decode cX10_read 94 = .ok (.goto 4, 3) := by decide +kernel
theorem dX10_read_97 : decode cX10_read 97 = .ok (.iconst 0, 1) := by decide +kernel
theorem dX10_read_98 : decode cX10_read 98 = .ok (.iadd, 1) := by decide +kernel
theorem dX10_read_99 : decode cX10_read 99 = .ok (.istore_n 2, 1) := by decide +kernel
theorem dX10_read_100 : decode cX10_read 100 = .ok (.goto (-71), 3) := by decide +kernel
theorem dX10_read_103 : decode cX10_read 103 = .ok (.iload_n 2, 1) := by decide +kernel
theorem dX10_read_104 : decode cX10_read 104 = .ok (.ireturn, 1) := by decide +kernel
theorem dX10_isSeen_0 : decode cX10_isSeen 0 = .ok (.iconst 1, 1) := by decide +kernel
theorem dX10_isSeen_1 : decode cX10_isSeen 1 = .ok (.istore_n 2, 1) := by decide +kernel
theorem dX10_isSeen_2 : decode cX10_isSeen 2 = .ok (.iconst 0, 1) := by decide +kernel
theorem dX10_isSeen_3 : decode cX10_isSeen 3 = .ok (.istore_n 3, 1) := by decide +kernel
theorem dX10_isSeen_4 : decode cX10_isSeen 4 = .ok (.iload_n 3, 1) := by decide +kernel
theorem dX10_isSeen_5 : decode cX10_isSeen 5 = .ok (.aload_n 0, 1) := by decide +kernel
theorem dX10_isSeen_6 : decode cX10_isSeen 6 = .ok (.getfield 212, 3) := by decide +kernel
theorem dX10_isSeen_9 : decode cX10_isSeen 9 = .ok (.if_icmp .ge 45, 3) := by decide +kernel
theorem dX10_isSeen_12 : decode cX10_isSeen 12 = .ok (.iload_n 2, 1) := by decide +kernel
theorem dX10_isSeen_13 : decode cX10_isSeen 13 = .ok (.ifCond .eq 41, 3) := by decide +kernel
theorem dX10_isSeen_16 : decode cX10_isSeen 16 = .ok (.aload_n 0, 1) := by decide +kernel
theorem dX10_isSeen_17 : decode cX10_isSeen 17 = .ok (.iload_n 1, 1) := by decide +kernel
theorem dX10_isSeen_18 : decode cX10_isSeen 18 = .ok (.aload_n 0, 1) := by decide +kernel
theorem dX10_isSeen_19 : decode cX10_isSeen 19 = .ok (.getfield 58, 3) := by decide +kernel
theorem dX10_isSeen_22 : decode cX10_isSeen 22 = .ok (.iconst 2, 1) := by decide +kernel
theorem dX10_isSeen_23 : decode cX10_isSeen 23 = .ok (.iload_n 3, 1) := by decide +kernel
theorem dX10_isSeen_24 : decode cX10_isSeen 24 = .ok (.imul, 1) := by decide +kernel
theorem dX10_isSeen_25 : decode cX10_isSeen 25 = .ok (.iaload, 1) := by decide +kernel
theorem dX10_isSeen_26 : decode cX10_isSeen 26 = .ok (.invokevirtual 174, 3) := by decide +kernel
theorem dX10_isSeen_29 : decode cX10_isSeen 29 = .ok (.aload_n 0, 1) := by decide +kernel
theorem dX10_isSeen_30 : decode cX10_isSeen 30 = .ok (.getfield 58, 3) := by decide +kernel
theorem dX10_isSeen_33 : decode cX10_isSeen 33 = .ok (.iconst 2, 1) := by decide +kernel
theorem dX10_isSeen_34 : decode cX10_isSeen 34 = .ok (.iload_n 3, 1) := by decide +kernel
theorem dX10_isSeen_35 : decode cX10_isSeen 35 = .ok (.imul, 1) := by decide +kernel
theorem dX10_isSeen_36 : decode cX10_isSeen 36 = .ok (.iconst 1, 1) := by decide +kernel
theorem dX10_isSeen_37 : decode cX10_isSeen 37 = .ok (.iadd, 1) := by decide +kernel
theorem dX10_isSeen_38 : decode cX10_isSeen 38 = .ok (.iaload, 1) := by decide +kernel
theorem dX10_isSeen_39 : decode cX10_isSeen 39 = .ok (.if_icmp .ne 7, 3) := by decide +kernel
theorem dX10_isSeen_42 : decode cX10_isSeen 42 = .ok (.iconst 1, 1) := by decide +kernel
theorem dX10_isSeen_43 : decode cX10_isSeen 43 = .ok (.goto 4, 3) := by decide +kernel
theorem dX10_isSeen_46 : decode cX10_isSeen 46 = .ok (.iconst 0, 1) := by decide +kernel
theorem dX10_isSeen_47 : decode cX10_isSeen 47 = .ok (.istore_n 2, 1) := by decide +kernel
theorem dX10_isSeen_48 : decode cX10_isSeen 48 = .ok (.iinc 3 1, 3) := by decide +kernel
theorem dX10_isSeen_51 : decode cX10_isSeen 51 = .ok (.goto (-47), 3) := by decide +kernel
theorem dX10_isSeen_54 : decode cX10_isSeen 54 = .ok (.iload_n 2, 1) := by decide +kernel
theorem dX10_isSeen_55 : decode cX10_isSeen 55 = .ok (.ireturn, 1) := by decide +kernel
theorem dX10_setsOf_0 : decode cX10_setsOf 0 = .ok (.iconst 0, 1) := by decide +kernel
theorem dX10_setsOf_1 : decode cX10_setsOf 1 = .ok (.istore_n 2, 1) := by decide +kernel
theorem dX10_setsOf_2 : decode cX10_setsOf 2 = .ok (.iconst (-1), 1) := by decide +kernel
theorem dX10_setsOf_3 : decode cX10_setsOf 3 = .ok (.istore_n 3, 1) := by decide +kernel
theorem dX10_setsOf_4 : decode cX10_setsOf 4 = .ok (.iconst 1, 1) := by decide +kernel
theorem dX10_setsOf_5 : decode cX10_setsOf 5 = .ok (.aload_n 0, 1) := by decide +kernel
theorem dX10_setsOf_6 : decode cX10_setsOf 6 = .ok (.getfield 28, 3) := by decide +kernel
theorem dX10_setsOf_9 : decode cX10_setsOf 9 = .ok (.iconst 0, 1) := by decide +kernel
theorem dX10_setsOf_10 : decode cX10_setsOf 10 = .ok (.iaload, 1) := by decide +kernel
theorem dX10_setsOf_11 : decode cX10_setsOf 11 = .ok (.ishl, 1) := by decide +kernel
theorem dX10_setsOf_12 : decode cX10_setsOf 12 = .ok (.iconst 1, 1) := by decide +kernel
theorem dX10_setsOf_13 : decode cX10_setsOf 13 = .ok (.isub, 1) := by decide +kernel
theorem dX10_setsOf_14 : decode cX10_setsOf 14 = .ok (.istore 4, 2) := by decide +kernel
theorem dX10_setsOf_16 : decode cX10_setsOf 16 = .ok (.iconst 0, 1) := by decide +kernel
theorem dX10_setsOf_17 : decode cX10_setsOf 17 = .ok (.istore 5, 2) := by decide +kernel
theorem dX10_setsOf_19 : decode cX10_setsOf 19 = .ok (.iload 5, 2) := by decide +kernel
theorem dX10_setsOf_21 : decode cX10_setsOf 21 = .ok (.iconst 1, 1) := by decide +kernel
theorem dX10_setsOf_22 : decode cX10_setsOf 22 = .ok (.aload_n 0, 1) := by decide +kernel
theorem dX10_setsOf_23 : decode cX10_setsOf 23 = .ok (.getfield 28, 3) := by decide +kernel
theorem dX10_setsOf_26 : decode cX10_setsOf 26 = .ok (.iconst 0, 1) := by decide +kernel
theorem dX10_setsOf_27 : decode cX10_setsOf 27 = .ok (.iaload, 1) := by decide +kernel
theorem dX10_setsOf_28 : decode cX10_setsOf 28 = .ok (.ishl, 1) := by decide +kernel
theorem dX10_setsOf_29 : decode cX10_setsOf 29 = .ok (.if_icmp .ge 39, 3) := by decide +kernel
theorem dX10_setsOf_32 : decode cX10_setsOf 32 = .ok (.aload_n 0, 1) := by decide +kernel
theorem dX10_setsOf_33 : decode cX10_setsOf 33 = .ok (.iload 5, 2) := by decide +kernel
theorem dX10_setsOf_35 : decode cX10_setsOf 35 = .ok (.invokevirtual 218, 3) := by decide +kernel
theorem dX10_setsOf_38 : decode cX10_setsOf 38 = .ok (.ifCond .eq 24, 3) := by decide +kernel
theorem dX10_setsOf_41 : decode cX10_setsOf 41 = .ok (.iload_n 2, 1) := by decide +kernel
theorem dX10_setsOf_42 : decode cX10_setsOf 42 = .ok (.ifCond .ne 8, 3) := by decide +kernel
theorem dX10_setsOf_45 : decode cX10_setsOf 45 = .ok (.iload 5, 2) := by decide +kernel
theorem dX10_setsOf_47 : decode cX10_setsOf 47 = .ok (.goto 4, 3) := by decide +kernel
theorem dX10_setsOf_50 : decode cX10_setsOf 50 = .ok (.iload_n 3, 1) := by decide +kernel
theorem dX10_setsOf_51 : decode cX10_setsOf 51 = .ok (.istore_n 3, 1) := by decide +kernel
theorem dX10_setsOf_52 : decode cX10_setsOf 52 = .ok (.iload 4, 2) := by decide +kernel
theorem dX10_setsOf_54 : decode cX10_setsOf 54 = .ok (.iload 5, 2) := by decide +kernel
theorem dX10_setsOf_56 : decode cX10_setsOf 56 = .ok (.iand, 1) := by decide +kernel
theorem dX10_setsOf_57 : decode cX10_setsOf 57 = .ok (.istore 4, 2) := by decide +kernel
theorem dX10_setsOf_59 : decode cX10_setsOf 59 = .ok (.iinc 2 1, 3) := by decide +kernel
theorem dX10_setsOf_62 : decode cX10_setsOf 62 = .ok (.iinc 5 1, 3) := by decide +kernel
theorem dX10_setsOf_65 : decode cX10_setsOf 65 = .ok (.goto (-46), 3) := by decide +kernel
theorem dX10_setsOf_68 : decode cX10_setsOf 68 = .ok (.iload_n 1, 1) := by decide +kernel
theorem dX10_setsOf_69 : decode cX10_setsOf 69 = .ok (.ifCond .ne 7, 3) := by decide +kernel
theorem dX10_setsOf_72 : decode cX10_setsOf 72 = .ok (.iload_n 2, 1) := by decide +kernel
theorem dX10_setsOf_73 : decode cX10_setsOf 73 = .ok (.goto 22, 3) := by decide +kernel
theorem dX10_setsOf_76 : decode cX10_setsOf 76 = .ok (.iload_n 1, 1) := by decide +kernel
theorem dX10_setsOf_77 : decode cX10_setsOf 77 = .ok (.iconst 1, 1) := by decide +kernel
theorem dX10_setsOf_78 : decode cX10_setsOf 78 = .ok (.if_icmp .ne 7, 3) := by decide +kernel
theorem dX10_setsOf_81 : decode cX10_setsOf 81 = .ok (.iload_n 3, 1) := by decide +kernel
theorem dX10_setsOf_82 : decode cX10_setsOf 82 = .ok (.goto 13, 3) := by decide +kernel
theorem dX10_setsOf_85 : decode cX10_setsOf 85 = .ok (.iload_n 2, 1) := by decide +kernel
theorem dX10_setsOf_86 : decode cX10_setsOf 86 = .ok (.ifCond .ne 7, 3) := by decide +kernel
theorem dX10_setsOf_89 : decode cX10_setsOf 89 = .ok (.iconst 0, 1) := by decide +kernel
theorem dX10_setsOf_90 : decode cX10_setsOf 90 = .ok (.goto 5, 3) := by decide +kernel
theorem dX10_setsOf_93 : decode cX10_setsOf 93 = .ok (.iload 4, 2) := by decide +kernel
theorem dX10_setsOf_95 : decode cX10_setsOf 95 = .ok (.ireturn, 1) := by decide +kernel
theorem dX10_sets_0 : decode cX10_sets 0 = .ok (.aload_n 0, 1) := by decide +kernel
theorem dX10_sets_1 : decode cX10_sets 1 = .ok (.invokevirtual 122, 3) := by decide +kernel
theorem dX10_sets_4 : decode cX10_sets 4 = .ok (.iload_n 1, 1) := by decide +kernel
theorem dX10_sets_5 : decode cX10_sets 5 = .ok (.i2l, 1) := by decide +kernel
theorem dX10_sets_6 : decode cX10_sets 6 = .ok (.lconst 0, 1) := by decide +kernel
theorem dX10_sets_7 : decode cX10_sets 7 = .ok (.ldc2_w 80, 3) := by decide +kernel
theorem dX10_sets_10 : decode cX10_sets 10 = .ok (.invokestatic 66, 3) := by decide +kernel
theorem dX10_sets_13 : decode cX10_sets 13 = .ok (.ifCond .eq 11, 3) := by decide +kernel
theorem dX10_sets_16 : decode cX10_sets 16 = .ok (.aload_n 0, 1) := by decide +kernel
theorem dX10_sets_17 : decode cX10_sets 17 = .ok (.iload_n 1, 1) := by decide +kernel
theorem dX10_sets_18 : decode cX10_sets 18 = .ok (.invokevirtual 221, 3) := by decide +kernel
theorem dX10_sets_21 : decode cX10_sets 21 = .ok (.goto 5, 3) := by decide +kernel
theorem dX10_sets_24 : decode cX10_sets 24 = .ok (.bipush (-2), 2) := by decide +kernel
theorem dX10_sets_26 : decode cX10_sets 26 = .ok (.ireturn, 1) := by decide +kernel
theorem dX10_watchNow_0 : decode cX10_watchNow 0 = .ok (.iconst 0, 1) := by decide +kernel
theorem dX10_watchNow_1 : decode cX10_watchNow 1 = .ok (.istore_n 1, 1) := by decide +kernel
theorem dX10_watchNow_2 : decode cX10_watchNow 2 = .ok (.iload_n 1, 1) := by decide +kernel
theorem dX10_watchNow_3 : decode cX10_watchNow 3 = .ok (.sipush 192, 3) := by decide +kernel
theorem dX10_watchNow_6 : decode cX10_watchNow 6 = .ok (.if_icmp .ge 16, 3) := by decide +kernel
theorem dX10_watchNow_9 : decode cX10_watchNow 9 = .ok (.aload_n 0, 1) := by decide +kernel
theorem dX10_watchNow_10 : decode cX10_watchNow 10 = .ok (.getfield 61, 3) := by decide +kernel
theorem dX10_watchNow_13 : decode cX10_watchNow 13 = .ok (.iload_n 1, 1) := by decide +kernel
theorem dX10_watchNow_14 : decode cX10_watchNow 14 = .ok (.iconst 0, 1) := by decide +kernel
theorem dX10_watchNow_15 : decode cX10_watchNow 15 = .ok (.iastore, 1) := by decide +kernel
theorem dX10_watchNow_16 : decode cX10_watchNow 16 = .ok (.iinc 1 1, 3) := by decide +kernel
theorem dX10_watchNow_19 : decode cX10_watchNow 19 = .ok (.goto (-17), 3) := by decide +kernel
theorem dX10_watchNow_22 : decode cX10_watchNow 22 = .ok (.iconst 0, 1) := by decide +kernel
theorem dX10_watchNow_23 : decode cX10_watchNow 23 = .ok (.istore_n 1, 1) := by decide +kernel
theorem dX10_watchNow_24 : decode cX10_watchNow 24 = .ok (.iload_n 1, 1) := by decide +kernel
theorem dX10_watchNow_25 : decode cX10_watchNow 25 = .ok (.iconst 1, 1) := by decide +kernel
theorem dX10_watchNow_26 : decode cX10_watchNow 26 = .ok (.aload_n 0, 1) := by decide +kernel
theorem dX10_watchNow_27 : decode cX10_watchNow 27 = .ok (.getfield 28, 3) := by decide +kernel
theorem dX10_watchNow_30 : decode cX10_watchNow 30 = .ok (.iconst 0, 1) := by decide +kernel
theorem dX10_watchNow_31 : decode cX10_watchNow 31 = .ok (.iaload, 1) := by decide +kernel
theorem dX10_watchNow_32 : decode cX10_watchNow 32 = .ok (.ishl, 1) := by decide +kernel
theorem dX10_watchNow_33 : decode cX10_watchNow 33 = .ok (.if_icmp .ge 53, 3) := by decide +kernel
theorem dX10_watchNow_36 : decode cX10_watchNow 36 = .ok (.aload_n 0, 1) := by decide +kernel
theorem dX10_watchNow_37 : decode cX10_watchNow 37 = .ok (.iload_n 1, 1) := by decide +kernel
theorem dX10_watchNow_38 : decode cX10_watchNow 38 = .ok (.invokevirtual 218, 3) := by decide +kernel
theorem dX10_watchNow_41 : decode cX10_watchNow 41 = .ok (.ifCond .eq 39, 3) := by decide +kernel
theorem dX10_watchNow_44 : decode cX10_watchNow 44 = .ok (.iconst 0, 1) := by decide +kernel
theorem dX10_watchNow_45 : decode cX10_watchNow 45 = .ok (.istore_n 2, 1) := by decide +kernel
theorem dX10_watchNow_46 : decode cX10_watchNow 46 = .ok (.iload_n 2, 1) := by decide +kernel
theorem dX10_watchNow_47 : decode cX10_watchNow 47 = .ok (.bipush 24, 2) := by decide +kernel
theorem dX10_watchNow_49 : decode cX10_watchNow 49 = .ok (.if_icmp .ge 31, 3) := by decide +kernel
theorem dX10_watchNow_52 : decode cX10_watchNow 52 = .ok (.aload_n 0, 1) := by decide +kernel
theorem dX10_watchNow_53 : decode cX10_watchNow 53 = .ok (.getfield 61, 3) := by decide +kernel
theorem dX10_watchNow_56 : decode cX10_watchNow 56 = .ok (.bipush 8, 2) := by decide +kernel
theorem dX10_watchNow_58 : decode cX10_watchNow 58 = .ok (.iload_n 2, 1) := by decide +kernel
theorem dX10_watchNow_59 : decode cX10_watchNow 59 = .ok (.imul, 1) := by decide +kernel
theorem dX10_watchNow_60 : decode cX10_watchNow 60 = .ok (.aload_n 0, 1) := by decide +kernel
theorem dX10_watchNow_61 : decode cX10_watchNow 61 = .ok (.iload_n 1, 1) := by decide +kernel
theorem dX10_watchNow_62 : decode cX10_watchNow 62 = .ok (.iload_n 2, 1) := by decide +kernel
theorem dX10_watchNow_63 : decode cX10_watchNow 63 = .ok (.invokevirtual 174, 3) := by decide +kernel
theorem dX10_watchNow_66 : decode cX10_watchNow 66 = .ok (.iadd, 1) := by decide +kernel
theorem dX10_watchNow_67 : decode cX10_watchNow 67 = .ok (.iconst 1, 1) := by decide +kernel
theorem dX10_watchNow_68 : decode cX10_watchNow 68 = .ok (.iadd, 1) := by decide +kernel
theorem dX10_watchNow_69 : decode cX10_watchNow 69 = .ok (.dup2, 1) := by decide +kernel
theorem dX10_watchNow_70 : decode cX10_watchNow 70 = .ok (.iaload, 1) := by decide +kernel
theorem dX10_watchNow_71 : decode cX10_watchNow 71 = .ok (.iconst 1, 1) := by decide +kernel
theorem dX10_watchNow_72 : decode cX10_watchNow 72 = .ok (.iadd, 1) := by decide +kernel
theorem dX10_watchNow_73 : decode cX10_watchNow 73 = .ok (.iastore, 1) := by decide +kernel
theorem dX10_watchNow_74 : decode cX10_watchNow 74 = .ok (.iinc 2 1, 3) := by decide +kernel
theorem dX10_watchNow_77 : decode cX10_watchNow 77 = .ok (.goto (-31), 3) := by decide +kernel
theorem dX10_watchNow_80 : decode cX10_watchNow 80 = .ok (.iinc 1 1, 3) := by decide +kernel
theorem dX10_watchNow_83 : decode cX10_watchNow 83 = .ok (.goto (-59), 3) := by decide +kernel
theorem dX10_watchNow_86 : decode cX10_watchNow 86 = .ok (.iconst 0, 1) := by decide +kernel
theorem dX10_watchNow_87 : decode cX10_watchNow 87 = .ok (.istore_n 1, 1) := by decide +kernel
theorem dX10_watchNow_88 : decode cX10_watchNow 88 = .ok (.iconst (-1), 1) := by decide +kernel
theorem dX10_watchNow_89 : decode cX10_watchNow 89 = .ok (.istore_n 2, 1) := by decide +kernel
theorem dX10_watchNow_90 : decode cX10_watchNow 90 = .ok (.iconst 0, 1) := by decide +kernel
theorem dX10_watchNow_91 : decode cX10_watchNow 91 = .ok (.istore_n 3, 1) := by decide +kernel
theorem dX10_watchNow_92 : decode cX10_watchNow 92 = .ok (.iload_n 3, 1) := by decide +kernel
theorem dX10_watchNow_93 : decode cX10_watchNow 93 = .ok (.bipush 24, 2) := by decide +kernel
theorem dX10_watchNow_95 : decode cX10_watchNow 95 = .ok (.if_icmp .ge 105, 3) := by decide +kernel
theorem dX10_watchNow_98 : decode cX10_watchNow 98 = .ok (.iconst 0, 1) := by decide +kernel
theorem dX10_watchNow_99 : decode cX10_watchNow 99 = .ok (.istore 4, 2) := by decide +kernel
theorem dX10_watchNow_101 : decode cX10_watchNow 101 = .ok (.iconst 0, 1) := by decide +kernel
theorem dX10_watchNow_102 : decode cX10_watchNow 102 = .ok (.istore 5, 2) := by decide +kernel
theorem dX10_watchNow_104 : decode cX10_watchNow 104 = .ok (.iload 5, 2) := by decide +kernel
theorem dX10_watchNow_106 : decode cX10_watchNow 106 = .ok (.bipush 8, 2) := by decide +kernel
theorem dX10_watchNow_108 : decode cX10_watchNow 108 = .ok (.if_icmp .ge 45, 3) := by decide +kernel
theorem dX10_watchNow_111 : decode cX10_watchNow 111 = .ok (.aload_n 0, 1) := by decide +kernel
theorem dX10_watchNow_112 : decode cX10_watchNow 112 = .ok (.getfield 61, 3) := by decide +kernel
theorem dX10_watchNow_115 : decode cX10_watchNow 115 = .ok (.bipush 8, 2) := by decide +kernel
theorem dX10_watchNow_117 : decode cX10_watchNow 117 = .ok (.iload_n 3, 1) := by decide +kernel
theorem dX10_watchNow_118 : decode cX10_watchNow 118 = .ok (.imul, 1) := by decide +kernel
theorem dX10_watchNow_119 : decode cX10_watchNow 119 = .ok (.iload 5, 2) := by decide +kernel
theorem dX10_watchNow_121 : decode cX10_watchNow 121 = .ok (.iadd, 1) := by decide +kernel
theorem dX10_watchNow_122 : decode cX10_watchNow 122 = .ok (.iaload, 1) := by decide +kernel
theorem dX10_watchNow_123 : decode cX10_watchNow 123 = .ok (.iload 4, 2) := by decide +kernel
theorem dX10_watchNow_125 : decode cX10_watchNow 125 = .ok (.if_icmp .le 18, 3) := by decide +kernel
theorem dX10_watchNow_128 : decode cX10_watchNow 128 = .ok (.aload_n 0, 1) := by decide +kernel
theorem dX10_watchNow_129 : decode cX10_watchNow 129 = .ok (.getfield 61, 3) := by decide +kernel
theorem dX10_watchNow_132 : decode cX10_watchNow 132 = .ok (.bipush 8, 2) := by decide +kernel
theorem dX10_watchNow_134 : decode cX10_watchNow 134 = .ok (.iload_n 3, 1) := by decide +kernel
theorem dX10_watchNow_135 : decode cX10_watchNow 135 = .ok (.imul, 1) := by decide +kernel
theorem dX10_watchNow_136 : decode cX10_watchNow 136 = .ok (.iload 5, 2) := by decide +kernel
theorem dX10_watchNow_138 : decode cX10_watchNow 138 = .ok (.iadd, 1) := by decide +kernel
theorem dX10_watchNow_139 : decode cX10_watchNow 139 = .ok (.iaload, 1) := by decide +kernel
theorem dX10_watchNow_140 : decode cX10_watchNow 140 = .ok (.goto 5, 3) := by decide +kernel
theorem dX10_watchNow_143 : decode cX10_watchNow 143 = .ok (.iload 4, 2) := by decide +kernel
theorem dX10_watchNow_145 : decode cX10_watchNow 145 = .ok (.istore 4, 2) := by decide +kernel
theorem dX10_watchNow_147 : decode cX10_watchNow 147 = .ok (.iinc 5 1, 3) := by decide +kernel
theorem dX10_watchNow_150 : decode cX10_watchNow 150 = .ok (.goto (-46), 3) := by decide +kernel
theorem dX10_watchNow_153 : decode cX10_watchNow 153 = .ok (.iload_n 2, 1) := by decide +kernel
theorem dX10_watchNow_154 : decode cX10_watchNow 154 = .ok (.iconst (-1), 1) := by decide +kernel
theorem dX10_watchNow_155 : decode cX10_watchNow 155 = .ok (.if_icmp .eq 9, 3) := by decide +kernel
theorem dX10_watchNow_158 : decode cX10_watchNow 158 = .ok (.iload 4, 2) := by decide +kernel
theorem dX10_watchNow_160 : decode cX10_watchNow 160 = .ok (.iload_n 2, 1) := by decide +kernel
theorem dX10_watchNow_161 : decode cX10_watchNow 161 = .ok (.if_icmp .ge 7, 3) := by decide +kernel
theorem dX10_watchNow_164 : decode cX10_watchNow 164 = .ok (.iconst 1, 1) := by decide +kernel
theorem dX10_watchNow_165 : decode cX10_watchNow 165 = .ok (.goto 4, 3) := by decide +kernel
theorem dX10_watchNow_168 : decode cX10_watchNow 168 = .ok (.iconst 0, 1) := by decide +kernel
theorem dX10_watchNow_169 : decode cX10_watchNow 169 = .ok (.istore 5, 2) := by decide +kernel
theorem dX10_watchNow_171 : decode cX10_watchNow 171 = .ok (.iload 5, 2) := by decide +kernel
theorem dX10_watchNow_173 : decode cX10_watchNow 173 = .ok (.ifCond .eq 7, 3) := by decide +kernel
theorem dX10_watchNow_176 : decode cX10_watchNow 176 = .ok (.iload_n 3, 1) := by decide +kernel
theorem dX10_watchNow_177 : decode cX10_watchNow 177 = .ok (.goto 4, 3) := by decide +kernel
theorem dX10_watchNow_180 : decode cX10_watchNow 180 = .ok (.iload_n 1, 1) := by decide +kernel
theorem dX10_watchNow_181 : decode cX10_watchNow 181 = .ok (.istore_n 1, 1) := by decide +kernel
theorem dX10_watchNow_182 : decode cX10_watchNow 182 = .ok (.iload 5, 2) := by decide +kernel
theorem dX10_watchNow_184 : decode cX10_watchNow 184 = .ok (.ifCond .eq 8, 3) := by decide +kernel
theorem dX10_watchNow_187 : decode cX10_watchNow 187 = .ok (.iload 4, 2) := by decide +kernel
theorem dX10_watchNow_189 : decode cX10_watchNow 189 = .ok (.goto 4, 3) := by decide +kernel
theorem dX10_watchNow_192 : decode cX10_watchNow 192 = .ok (.iload_n 2, 1) := by decide +kernel
theorem dX10_watchNow_193 : decode cX10_watchNow 193 = .ok (.istore_n 2, 1) := by decide +kernel
theorem dX10_watchNow_194 : decode cX10_watchNow 194 = .ok (.iinc 3 1, 3) := by decide +kernel
theorem dX10_watchNow_197 : decode cX10_watchNow 197 = .ok (.goto (-105), 3) := by decide +kernel
theorem dX10_watchNow_200 : decode cX10_watchNow 200 = .ok (.iload_n 1, 1) := by decide +kernel
theorem dX10_watchNow_201 : decode cX10_watchNow 201 = .ok (.ireturn, 1) := by decide +kernel
theorem dX10_watch_0 : decode cX10_watch 0 = .ok (.aload_n 0, 1) := by decide +kernel
theorem dX10_watch_1 : decode cX10_watch 1 = .ok (.invokevirtual 122, 3) := by decide +kernel
theorem dX10_watch_4 : decode cX10_watch 4 = .ok (.aload_n 0, 1) := by decide +kernel
theorem dX10_watch_5 : decode cX10_watch 5 = .ok (.invokevirtual 224, 3) := by decide +kernel
theorem dX10_watch_8 : decode cX10_watch 8 = .ok (.ireturn, 1) := by decide +kernel
theorem dX10_goutOf_0 : decode cX10_goutOf 0 = .ok (.aload_n 0, 1) := by decide +kernel
theorem dX10_goutOf_1 : decode cX10_goutOf 1 = .ok (.iload_n 2, 1) := by decide +kernel
theorem dX10_goutOf_2 : decode cX10_goutOf 2 = .ok (.iconst 0, 1) := by decide +kernel
theorem dX10_goutOf_3 : decode cX10_goutOf 3 = .ok (.invokevirtual 155, 3) := by decide +kernel
theorem dX10_goutOf_6 : decode cX10_goutOf 6 = .ok (.istore 6, 2) := by decide +kernel
theorem dX10_goutOf_8 : decode cX10_goutOf 8 = .ok (.lconst 0, 1) := by decide +kernel
theorem dX10_goutOf_9 : decode cX10_goutOf 9 = .ok (.lstore 7, 2) := by decide +kernel
theorem dX10_goutOf_11 : decode cX10_goutOf 11 = .ok (.lconst 1, 1) := by decide +kernel
theorem dX10_goutOf_12 : decode cX10_goutOf 12 = .ok (.lstore 9, 2) := by decide +kernel
theorem dX10_goutOf_14 : decode cX10_goutOf 14 = .ok (.iconst 0, 1) := by decide +kernel
theorem dX10_goutOf_15 : decode cX10_goutOf 15 = .ok (.istore 11, 2) := by decide +kernel
theorem dX10_goutOf_17 : decode cX10_goutOf 17 = .ok (.iload 11, 2) := by decide +kernel
theorem dX10_goutOf_19 : decode cX10_goutOf 19 = .ok (.aload_n 0, 1) := by decide +kernel
theorem dX10_goutOf_20 : decode cX10_goutOf 20 = .ok (.getfield 28, 3) := by decide +kernel
theorem dX10_goutOf_23 : decode cX10_goutOf 23 = .ok (.iconst 0, 1) := by decide +kernel
theorem dX10_goutOf_24 : decode cX10_goutOf 24 = .ok (.iaload, 1) := by decide +kernel
theorem dX10_goutOf_25 : decode cX10_goutOf 25 = .ok (.if_icmp .ge 31, 3) := by decide +kernel
theorem dX10_goutOf_28 : decode cX10_goutOf 28 = .ok (.lload 9, 2) := by decide +kernel
theorem dX10_goutOf_30 : decode cX10_goutOf 30 = .ok (.iload 6, 2) := by decide +kernel
theorem dX10_goutOf_32 : decode cX10_goutOf 32 = .ok (.iload 11, 2) := by decide +kernel
theorem dX10_goutOf_34 : decode cX10_goutOf 34 = .ok (.invokestatic 158, 3) := by decide +kernel
theorem dX10_goutOf_37 : decode cX10_goutOf 37 = .ok (.ifCond .eq 9, 3) := by decide +kernel
theorem dX10_goutOf_40 : decode cX10_goutOf 40 = .ok (.ldc2_w 228, 3) := by decide +kernel
theorem dX10_goutOf_43 : decode cX10_goutOf 43 = .ok (.goto 4, 3) := by decide +kernel
theorem dX10_goutOf_46 : decode cX10_goutOf 46 = .ok (.lconst 1, 1) := by decide +kernel
theorem dX10_goutOf_47 : decode cX10_goutOf 47 = .ok (.lmul, 1) := by decide +kernel
theorem dX10_goutOf_48 : decode cX10_goutOf 48 = .ok (.lstore 9, 2) := by decide +kernel
theorem dX10_goutOf_50 : decode cX10_goutOf 50 = .ok (.iinc 11 1, 3) := by decide +kernel
theorem dX10_goutOf_53 : decode cX10_goutOf 53 = .ok (.goto (-36), 3) := by decide +kernel
theorem dX10_goutOf_56 : decode cX10_goutOf 56 = .ok (.iconst 0, 1) := by decide +kernel
theorem dX10_goutOf_57 : decode cX10_goutOf 57 = .ok (.istore 11, 2) := by decide +kernel
theorem dX10_goutOf_59 : decode cX10_goutOf 59 = .ok (.iload 11, 2) := by decide +kernel
theorem dX10_goutOf_61 : decode cX10_goutOf 61 = .ok (.iconst 1, 1) := by decide +kernel
theorem dX10_goutOf_62 : decode cX10_goutOf 62 = .ok (.aload_n 0, 1) := by decide +kernel
theorem dX10_goutOf_63 : decode cX10_goutOf 63 = .ok (.getfield 28, 3) := by decide +kernel
theorem dX10_goutOf_66 : decode cX10_goutOf 66 = .ok (.iconst 0, 1) := by decide +kernel
theorem dX10_goutOf_67 : decode cX10_goutOf 67 = .ok (.iaload, 1) := by decide +kernel
theorem dX10_goutOf_68 : decode cX10_goutOf 68 = .ok (.ishl, 1) := by decide +kernel
theorem dX10_goutOf_69 : decode cX10_goutOf 69 = .ok (.if_icmp .ge 105, 3) := by decide +kernel
theorem dX10_goutOf_72 : decode cX10_goutOf 72 = .ok (.iload 11, 2) := by decide +kernel
theorem dX10_goutOf_74 : decode cX10_goutOf 74 = .ok (.iload 6, 2) := by decide +kernel
theorem dX10_goutOf_76 : decode cX10_goutOf 76 = .ok (.iconst (-1), 1) := by decide +kernel
theorem dX10_goutOf_77 : decode cX10_goutOf 77 = .ok (.ixor, 1) := by decide +kernel
theorem dX10_goutOf_78 : decode cX10_goutOf 78 = .ok (.iand, 1) := by decide +kernel
theorem dX10_goutOf_79 : decode cX10_goutOf 79 = .ok (.ifCond .ne 89, 3) := by decide +kernel
theorem dX10_goutOf_82 : decode cX10_goutOf 82 = .ok (.aload_n 0, 1) := by decide +kernel
theorem dX10_goutOf_83 : decode cX10_goutOf 83 = .ok (.iload 6, 2) := by decide +kernel
theorem dX10_goutOf_85 : decode cX10_goutOf 85 = .ok (.iload 11, 2) := by decide +kernel
theorem dX10_goutOf_87 : decode cX10_goutOf 87 = .ok (.iconst (-1), 1) := by decide +kernel
theorem dX10_goutOf_88 : decode cX10_goutOf 88 = .ok (.ixor, 1) := by decide +kernel
theorem dX10_goutOf_89 : decode cX10_goutOf 89 = .ok (.iand, 1) := by decide +kernel
theorem dX10_goutOf_90 : decode cX10_goutOf 90 = .ok (.iload_n 3, 1) := by decide +kernel
theorem dX10_goutOf_91 : decode cX10_goutOf 91 = .ok (.invokevirtual 174, 3) := by decide +kernel
theorem dX10_goutOf_94 : decode cX10_goutOf 94 = .ok (.iload 4, 2) := by decide +kernel
theorem dX10_goutOf_96 : decode cX10_goutOf 96 = .ok (.if_icmp .ne 72, 3) := by decide +kernel
theorem dX10_goutOf_99 : decode cX10_goutOf 99 = .ok (.lconst 1, 1) := by decide +kernel
theorem dX10_goutOf_100 : decode cX10_goutOf 100 = .ok (.lstore 12, 2) := by decide +kernel
theorem dX10_goutOf_102 : decode cX10_goutOf 102 = .ok (.iconst 0, 1) := by decide +kernel
theorem dX10_goutOf_103 : decode cX10_goutOf 103 = .ok (.istore 14, 2) := by decide +kernel
theorem dX10_goutOf_105 : decode cX10_goutOf 105 = .ok (.iload 14, 2) := by decide +kernel
theorem dX10_goutOf_107 : decode cX10_goutOf 107 = .ok (.aload_n 0, 1) := by decide +kernel
theorem dX10_goutOf_108 : decode cX10_goutOf 108 = .ok (.getfield 28, 3) := by decide +kernel
theorem dX10_goutOf_111 : decode cX10_goutOf 111 = .ok (.iconst 0, 1) := by decide +kernel
theorem dX10_goutOf_112 : decode cX10_goutOf 112 = .ok (.iaload, 1) := by decide +kernel
theorem dX10_goutOf_113 : decode cX10_goutOf 113 = .ok (.if_icmp .ge 48, 3) := by decide +kernel
theorem dX10_goutOf_116 : decode cX10_goutOf 116 = .ok (.lload 12, 2) := by decide +kernel
theorem dX10_goutOf_118 : decode cX10_goutOf 118 = .ok (.iload 6, 2) := by decide +kernel
theorem dX10_goutOf_120 : decode cX10_goutOf 120 = .ok (.iload 14, 2) := by decide +kernel
theorem dX10_goutOf_122 : decode cX10_goutOf 122 = .ok (.invokestatic 158, 3) := by decide +kernel
theorem dX10_goutOf_125 : decode cX10_goutOf 125 = .ok (.ifCond .ne 7, 3) := by decide +kernel
theorem dX10_goutOf_128 : decode cX10_goutOf 128 = .ok (.lconst 1, 1) := by decide +kernel
theorem dX10_goutOf_129 : decode cX10_goutOf 129 = .ok (.goto 23, 3) := by decide +kernel
theorem dX10_goutOf_132 : decode cX10_goutOf 132 = .ok (.iload 11, 2) := by decide +kernel
theorem dX10_goutOf_134 : decode cX10_goutOf 134 = .ok (.iload 14, 2) := by decide +kernel
theorem dX10_goutOf_136 : decode cX10_goutOf 136 = .ok (.invokestatic 158, 3) := by decide +kernel
theorem dX10_goutOf_139 : decode cX10_goutOf 139 = .ok (.ifCond .eq 8, 3) := by decide +kernel
theorem dX10_goutOf_142 : decode cX10_goutOf 142 = .ok (.iload_n 1, 1) := by decide +kernel
theorem dX10_goutOf_143 : decode cX10_goutOf 143 = .ok (.i2l, 1) := by decide +kernel
theorem dX10_goutOf_144 : decode cX10_goutOf 144 = .ok (.goto 8, 3) := by decide +kernel
theorem dX10_goutOf_147 : decode cX10_goutOf 147 = .ok (.bipush 16, 2) := by decide +kernel
theorem dX10_goutOf_149 : decode cX10_goutOf 149 = .ok (.iload_n 1, 1) := by decide +kernel
theorem dX10_goutOf_150 : decode cX10_goutOf 150 = .ok (.isub, 1) := by decide +kernel
theorem dX10_goutOf_151 : decode cX10_goutOf 151 = .ok (.i2l, 1) := by decide +kernel
theorem dX10_goutOf_152 : decode cX10_goutOf 152 = .ok (.lmul, 1) := by decide +kernel
theorem dX10_goutOf_153 : decode cX10_goutOf 153 = .ok (.lstore 12, 2) := by decide +kernel
theorem dX10_goutOf_155 : decode cX10_goutOf 155 = .ok (.iinc 14 1, 3) := by decide +kernel
theorem dX10_goutOf_158 : decode cX10_goutOf 158 = .ok (.goto (-53), 3) := by decide +kernel
theorem dX10_goutOf_161 : decode cX10_goutOf 161 = .ok (.lload 7, 2) := by decide +kernel
theorem dX10_goutOf_163 : decode cX10_goutOf 163 = .ok (.lload 12, 2) := by decide +kernel
theorem dX10_goutOf_165 : decode cX10_goutOf 165 = .ok (.ladd, 1) := by decide +kernel
theorem dX10_goutOf_166 : decode cX10_goutOf 166 = .ok (.lstore 7, 2) := by decide +kernel
theorem dX10_goutOf_168 : decode cX10_goutOf 168 = .ok (.iinc 11 1, 3) := by decide +kernel
theorem dX10_goutOf_171 : decode cX10_goutOf 171 = .ok (.goto (-112), 3) := by decide +kernel
theorem dX10_goutOf_174 : decode cX10_goutOf 174 = .ok (.lload 7, 2) := by decide +kernel
theorem dX10_goutOf_176 : decode cX10_goutOf 176 = .ok (.lload 9, 2) := by decide +kernel
theorem dX10_goutOf_178 : decode cX10_goutOf 178 = .ok (.iload 5, 2) := by decide +kernel
theorem dX10_goutOf_180 : decode cX10_goutOf 180 = .ok (.invokestatic 230, 3) := by decide +kernel
theorem dX10_goutOf_183 : decode cX10_goutOf 183 = .ok (.lreturn, 1) := by decide +kernel
theorem dX10_gout_0 : decode cX10_gout 0 = .ok (.aload_n 0, 1) := by decide +kernel
theorem dX10_gout_1 : decode cX10_gout 1 = .ok (.invokevirtual 152, 3) := by decide +kernel
theorem dX10_gout_4 : decode cX10_gout 4 = .ok (.iload_n 1, 1) := by decide +kernel
theorem dX10_gout_5 : decode cX10_gout 5 = .ok (.i2l, 1) := by decide +kernel
theorem dX10_gout_6 : decode cX10_gout 6 = .ok (.lconst 0, 1) := by decide +kernel
theorem dX10_gout_7 : decode cX10_gout 7 = .ok (.ldc2_w 228, 3) := by decide +kernel
theorem dX10_gout_10 : decode cX10_gout 10 = .ok (.invokestatic 66, 3) := by decide +kernel
theorem dX10_gout_13 : decode cX10_gout 13 = .ok (.ifCond .eq 44, 3) := by decide +kernel
theorem dX10_gout_16 : decode cX10_gout 16 = .ok (.iload_n 2, 1) := by decide +kernel
theorem dX10_gout_17 : decode cX10_gout 17 = .ok (.invokestatic 130, 3) := by decide +kernel
theorem dX10_gout_20 : decode cX10_gout 20 = .ok (.ifCond .eq 37, 3) := by decide +kernel
theorem dX10_gout_23 : decode cX10_gout 23 = .ok (.iload_n 3, 1) := by decide +kernel
theorem dX10_gout_24 : decode cX10_gout 24 = .ok (.invokestatic 171, 3) := by decide +kernel
theorem dX10_gout_27 : decode cX10_gout 27 = .ok (.ifCond .eq 30, 3) := by decide +kernel
theorem dX10_gout_30 : decode cX10_gout 30 = .ok (.iload 4, 2) := by decide +kernel
theorem dX10_gout_32 : decode cX10_gout 32 = .ok (.i2l, 1) := by decide +kernel
theorem dX10_gout_33 : decode cX10_gout 33 = .ok (.ldc2_w 191, 3) := by decide +kernel
theorem dX10_gout_36 : decode cX10_gout 36 = .ok (.ldc2_w 234, 3) := by decide +kernel
theorem dX10_gout_39 : decode cX10_gout 39 = .ok (.invokestatic 66, 3) := by decide +kernel
theorem dX10_gout_42 : decode cX10_gout 42 = .ok (.ifCond .eq 15, 3) := by decide +kernel
theorem dX10_gout_45 : decode cX10_gout 45 = .ok (.iload 5, 2) := by decide +kernel
theorem dX10_gout_47 : decode cX10_gout 47 = .ok (.invokestatic 95, 3) := by decide +kernel
theorem dX10_gout_50 : decode cX10_gout 50 = .ok (.ifCond .eq 7, 3) := by decide +kernel
theorem dX10_gout_53 : decode cX10_gout 53 = .ok (.iconst 1, 1) := by decide +kernel
theorem dX10_gout_54 : decode cX10_gout 54 = .ok (.goto 4, 3) := by decide +kernel
theorem dX10_gout_57 : decode cX10_gout 57 = .ok (.iconst 0, 1) := by decide +kernel
theorem dX10_gout_58 : decode cX10_gout 58 = .ok (.istore 6, 2) := by decide +kernel
theorem dX10_gout_60 : decode cX10_gout 60 = .ok (.iload 6, 2) := by decide +kernel
theorem dX10_gout_62 : decode cX10_gout 62 = .ok (.ifCond .eq 17, 3) := by decide +kernel
theorem dX10_gout_65 : decode cX10_gout 65 = .ok (.aload_n 0, 1) := by decide +kernel
theorem dX10_gout_66 : decode cX10_gout 66 = .ok (.iload_n 1, 1) := by decide +kernel
theorem dX10_gout_67 : decode cX10_gout 67 = .ok (.iload_n 2, 1) := by decide +kernel
theorem dX10_gout_68 : decode cX10_gout 68 = .ok (.iload_n 3, 1) := by decide +kernel
theorem dX10_gout_69 : decode cX10_gout 69 = .ok (.iload 4, 2) := by decide +kernel
theorem dX10_gout_71 : decode cX10_gout 71 = .ok (.iload 5, 2) := by decide +kernel
theorem dX10_gout_73 : decode cX10_gout 73 = .ok (.invokevirtual 236, 3) := by decide +kernel
theorem dX10_gout_76 : decode cX10_gout 76 = .ok (.goto 8, 3) := by decide +kernel
theorem dX10_gout_79 : decode cX10_gout 79 = .ok (.bipush (-2), 2) := by decide +kernel
theorem dX10_gout_81 : decode cX10_gout 81 = .ok (.invokestatic 240, 3) := by decide +kernel
theorem dX10_gout_84 : decode cX10_gout 84 = .ok (.lreturn, 1) := by decide +kernel
theorem dX10_lot_0 : decode cX10_lot 0 = .ok (.aload_n 0, 1) := by decide +kernel
theorem dX10_lot_1 : decode cX10_lot 1 = .ok (.ldc 244, 2) := by decide +kernel
theorem dX10_lot_3 : decode cX10_lot 3 = .ok (.aload_n 0, 1) := by decide +kernel
theorem dX10_lot_4 : decode cX10_lot 4 = .ok (.getfield 245, 3) := by decide +kernel
theorem dX10_lot_7 : decode cX10_lot 7 = .ok (.imul, 1) := by decide +kernel
theorem dX10_lot_8 : decode cX10_lot 8 = .ok (.sipush 12345, 3) := by decide +kernel
theorem dX10_lot_11 : decode cX10_lot 11 = .ok (.iadd, 1) := by decide +kernel
theorem dX10_lot_12 : decode cX10_lot 12 = .ok (.putfield 245, 3) := by decide +kernel
theorem dX10_lot_15 : decode cX10_lot 15 = .ok (.aload_n 0, 1) := by decide +kernel
theorem dX10_lot_16 : decode cX10_lot 16 = .ok (.getfield 245, 3) := by decide +kernel
theorem dX10_lot_19 : decode cX10_lot 19 = .ok (.bipush 16, 2) := by decide +kernel
theorem dX10_lot_21 : decode cX10_lot 21 = .ok (.iushr, 1) := by decide +kernel
theorem dX10_lot_22 : decode cX10_lot 22 = .ok (.iload_n 1, 1) := by decide +kernel
theorem dX10_lot_23 : decode cX10_lot 23 = .ok (.irem, 1) := by decide +kernel
theorem dX10_lot_24 : decode cX10_lot 24 = .ok (.ireturn, 1) := by decide +kernel
theorem dX10_yearsOf_0 : decode cX10_yearsOf 0 = .ok (.aload_n 0, 1) := by decide +kernel
theorem dX10_yearsOf_1 : decode cX10_yearsOf 1 = .ok (.iload_n 1, 1) := by decide +kernel
theorem dX10_yearsOf_2 : decode cX10_yearsOf 2 = .ok (.putfield 245, 3) := by decide +kernel
theorem dX10_yearsOf_5 : decode cX10_yearsOf 5 = .ok (.iconst 0, 1) := by decide +kernel
theorem dX10_yearsOf_6 : decode cX10_yearsOf 6 = .ok (.istore 4, 2) := by decide +kernel
theorem dX10_yearsOf_8 : decode cX10_yearsOf 8 = .ok (.iload 4, 2) := by decide +kernel
theorem dX10_yearsOf_10 : decode cX10_yearsOf 10 = .ok (.bipush 12, 2) := by decide +kernel
theorem dX10_yearsOf_12 : decode cX10_yearsOf 12 = .ok (.if_icmp .ge 25, 3) := by decide +kernel
theorem dX10_yearsOf_15 : decode cX10_yearsOf 15 = .ok (.aload_n 0, 1) := by decide +kernel
theorem dX10_yearsOf_16 : decode cX10_yearsOf 16 = .ok (.getfield 43, 3) := by decide +kernel
theorem dX10_yearsOf_19 : decode cX10_yearsOf 19 = .ok (.iload 4, 2) := by decide +kernel
theorem dX10_yearsOf_21 : decode cX10_yearsOf 21 = .ok (.iconst (-1), 1) := by decide +kernel
theorem dX10_yearsOf_22 : decode cX10_yearsOf 22 = .ok (.iastore, 1) := by decide +kernel
theorem dX10_yearsOf_23 : decode cX10_yearsOf 23 = .ok (.aload_n 0, 1) := by decide +kernel
theorem dX10_yearsOf_24 : decode cX10_yearsOf 24 = .ok (.getfield 46, 3) := by decide +kernel
theorem dX10_yearsOf_27 : decode cX10_yearsOf 27 = .ok (.iload 4, 2) := by decide +kernel
theorem dX10_yearsOf_29 : decode cX10_yearsOf 29 = .ok (.iconst 0, 1) := by decide +kernel
theorem dX10_yearsOf_30 : decode cX10_yearsOf 30 = .ok (.iastore, 1) := by decide +kernel
theorem dX10_yearsOf_31 : decode cX10_yearsOf 31 = .ok (.iinc 4 1, 3) := by decide +kernel
theorem dX10_yearsOf_34 : decode cX10_yearsOf 34 = .ok (.goto (-26), 3) := by decide +kernel
theorem dX10_yearsOf_37 : decode cX10_yearsOf 37 = .ok (.iconst 0, 1) := by decide +kernel
theorem dX10_yearsOf_38 : decode cX10_yearsOf 38 = .ok (.istore 4, 2) := by decide +kernel
theorem dX10_yearsOf_40 : decode cX10_yearsOf 40 = .ok (.iload 4, 2) := by decide +kernel
theorem dX10_yearsOf_42 : decode cX10_yearsOf 42 = .ok (.iload_n 2, 1) := by decide +kernel
theorem dX10_yearsOf_43 : decode cX10_yearsOf 43 = .ok (.if_icmp .ge 65, 3) := by decide +kernel
theorem dX10_yearsOf_46 : decode cX10_yearsOf 46 = .ok (.aload_n 0, 1) := by decide +kernel
theorem dX10_yearsOf_47 : decode cX10_yearsOf 47 = .ok (.aload_n 0, 1) := by decide +kernel
theorem dX10_yearsOf_48 : decode cX10_yearsOf 48 = .ok (.getfield 28, 3) := by decide +kernel
theorem dX10_yearsOf_51 : decode cX10_yearsOf 51 = .ok (.iconst 0, 1) := by decide +kernel
theorem dX10_yearsOf_52 : decode cX10_yearsOf 52 = .ok (.iaload, 1) := by decide +kernel
theorem dX10_yearsOf_53 : decode cX10_yearsOf 53 = .ok (.invokevirtual 248, 3) := by decide +kernel
theorem dX10_yearsOf_56 : decode cX10_yearsOf 56 = .ok (.istore 5, 2) := by decide +kernel
theorem dX10_yearsOf_58 : decode cX10_yearsOf 58 = .ok (.aload_n 0, 1) := by decide +kernel
theorem dX10_yearsOf_59 : decode cX10_yearsOf 59 = .ok (.iconst 4, 1) := by decide +kernel
theorem dX10_yearsOf_60 : decode cX10_yearsOf 60 = .ok (.invokevirtual 248, 3) := by decide +kernel
theorem dX10_yearsOf_63 : decode cX10_yearsOf 63 = .ok (.ifCond .ne 7, 3) := by decide +kernel
theorem dX10_yearsOf_66 : decode cX10_yearsOf 66 = .ok (.iconst 1, 1) := by decide +kernel
theorem dX10_yearsOf_67 : decode cX10_yearsOf 67 = .ok (.goto 4, 3) := by decide +kernel
theorem dX10_yearsOf_70 : decode cX10_yearsOf 70 = .ok (.iconst 0, 1) := by decide +kernel
theorem dX10_yearsOf_71 : decode cX10_yearsOf 71 = .ok (.istore 6, 2) := by decide +kernel
theorem dX10_yearsOf_73 : decode cX10_yearsOf 73 = .ok (.aload_n 0, 1) := by decide +kernel
theorem dX10_yearsOf_74 : decode cX10_yearsOf 74 = .ok (.getfield 43, 3) := by decide +kernel
theorem dX10_yearsOf_77 : decode cX10_yearsOf 77 = .ok (.iload 5, 2) := by decide +kernel
theorem dX10_yearsOf_79 : decode cX10_yearsOf 79 = .ok (.iaload, 1) := by decide +kernel
theorem dX10_yearsOf_80 : decode cX10_yearsOf 80 = .ok (.iconst (-1), 1) := by decide +kernel
theorem dX10_yearsOf_81 : decode cX10_yearsOf 81 = .ok (.if_icmp .ne 21, 3) := by decide +kernel
theorem dX10_yearsOf_84 : decode cX10_yearsOf 84 = .ok (.aload_n 0, 1) := by decide +kernel
theorem dX10_yearsOf_85 : decode cX10_yearsOf 85 = .ok (.getfield 43, 3) := by decide +kernel
theorem dX10_yearsOf_88 : decode cX10_yearsOf 88 = .ok (.iload 5, 2) := by decide +kernel
theorem dX10_yearsOf_90 : decode cX10_yearsOf 90 = .ok (.iload 4, 2) := by decide +kernel
theorem dX10_yearsOf_92 : decode cX10_yearsOf 92 = .ok (.iastore, 1) := by decide +kernel
theorem dX10_yearsOf_93 : decode cX10_yearsOf 93 = .ok (.aload_n 0, 1) := by decide +kernel
theorem dX10_yearsOf_94 : decode cX10_yearsOf 94 = .ok (.getfield 46, 3) := by decide +kernel
theorem dX10_yearsOf_97 : decode cX10_yearsOf 97 = .ok (.iload 5, 2) := by decide +kernel
theorem dX10_yearsOf_99 : decode cX10_yearsOf 99 = .ok (.iload 6, 2) := by decide +kernel
theorem dX10_yearsOf_101 : decode cX10_yearsOf 101 = .ok (.iastore, 1) := by decide +kernel
theorem dX10_yearsOf_102 : decode cX10_yearsOf 102 = .ok (.iinc 4 1, 3) := by decide +kernel
theorem dX10_yearsOf_105 : decode cX10_yearsOf 105 = .ok (.goto (-65), 3) := by decide +kernel
theorem dX10_yearsOf_108 : decode cX10_yearsOf 108 = .ok (.iload_n 3, 1) := by decide +kernel
theorem dX10_yearsOf_109 : decode cX10_yearsOf 109 = .ok (.ifCond .ne 16, 3) := by decide +kernel
theorem dX10_yearsOf_112 : decode cX10_yearsOf 112 = .ok (.aload_n 0, 1) := by decide +kernel
theorem dX10_yearsOf_113 : decode cX10_yearsOf 113 = .ok (.bipush 29, 2) := by decide +kernel
theorem dX10_yearsOf_115 : decode cX10_yearsOf 115 = .ok (.iconst 1, 1) := by decide +kernel
theorem dX10_yearsOf_116 : decode cX10_yearsOf 116 = .ok (.invokevirtual 155, 3) := by decide +kernel
theorem dX10_yearsOf_119 : decode cX10_yearsOf 119 = .ok (.invokestatic 165, 3) := by decide +kernel
theorem dX10_yearsOf_122 : decode cX10_yearsOf 122 = .ok (.goto 14, 3) := by decide +kernel
theorem dX10_yearsOf_125 : decode cX10_yearsOf 125 = .ok (.aload_n 0, 1) := by decide +kernel
theorem dX10_yearsOf_126 : decode cX10_yearsOf 126 = .ok (.aload_n 0, 1) := by decide +kernel
theorem dX10_yearsOf_127 : decode cX10_yearsOf 127 = .ok (.bipush 29, 2) := by decide +kernel
theorem dX10_yearsOf_129 : decode cX10_yearsOf 129 = .ok (.iconst 0, 1) := by decide +kernel
theorem dX10_yearsOf_130 : decode cX10_yearsOf 130 = .ok (.invokevirtual 155, 3) := by decide +kernel
theorem dX10_yearsOf_133 : decode cX10_yearsOf 133 = .ok (.invokevirtual 179, 3) := by decide +kernel
theorem dX10_yearsOf_136 : decode cX10_yearsOf 136 = .ok (.istore 4, 2) := by decide +kernel
theorem dX10_yearsOf_138 : decode cX10_yearsOf 138 = .ok (.aload_n 0, 1) := by decide +kernel
theorem dX10_yearsOf_139 : decode cX10_yearsOf 139 = .ok (.invokevirtual 152, 3) := by decide +kernel
theorem dX10_yearsOf_142 : decode cX10_yearsOf 142 = .ok (.iload 4, 2) := by decide +kernel
theorem dX10_yearsOf_144 : decode cX10_yearsOf 144 = .ok (.ireturn, 1) := by decide +kernel
theorem dX10_years_0 : decode cX10_years 0 = .ok (.aload_n 0, 1) := by decide +kernel
theorem dX10_years_1 : decode cX10_years 1 = .ok (.invokevirtual 152, 3) := by decide +kernel
theorem dX10_years_4 : decode cX10_years 4 = .ok (.iload_n 2, 1) := by decide +kernel
theorem dX10_years_5 : decode cX10_years 5 = .ok (.i2l, 1) := by decide +kernel
theorem dX10_years_6 : decode cX10_years 6 = .ok (.lconst 1, 1) := by decide +kernel
theorem dX10_years_7 : decode cX10_years 7 = .ok (.ldc2_w 251, 3) := by decide +kernel
theorem dX10_years_10 : decode cX10_years 10 = .ok (.invokestatic 66, 3) := by decide +kernel
theorem dX10_years_13 : decode cX10_years 13 = .ok (.ifCond .eq 29, 3) := by decide +kernel
theorem dX10_years_16 : decode cX10_years 16 = .ok (.iload_n 3, 1) := by decide +kernel
theorem dX10_years_17 : decode cX10_years 17 = .ok (.invokestatic 95, 3) := by decide +kernel
theorem dX10_years_20 : decode cX10_years 20 = .ok (.ifCond .eq 22, 3) := by decide +kernel
theorem dX10_years_23 : decode cX10_years 23 = .ok (.aload_n 0, 1) := by decide +kernel
theorem dX10_years_24 : decode cX10_years 24 = .ok (.getfield 28, 3) := by decide +kernel
theorem dX10_years_27 : decode cX10_years 27 = .ok (.iconst 0, 1) := by decide +kernel
theorem dX10_years_28 : decode cX10_years 28 = .ok (.iaload, 1) := by decide +kernel
theorem dX10_years_29 : decode cX10_years 29 = .ok (.ifCond .le 13, 3) := by decide +kernel
theorem dX10_years_32 : decode cX10_years 32 = .ok (.aload_n 0, 1) := by decide +kernel
theorem dX10_years_33 : decode cX10_years 33 = .ok (.iload_n 1, 1) := by decide +kernel
theorem dX10_years_34 : decode cX10_years 34 = .ok (.iload_n 2, 1) := by decide +kernel
theorem dX10_years_35 : decode cX10_years 35 = .ok (.iload_n 3, 1) := by decide +kernel
theorem dX10_years_36 : decode cX10_years 36 = .ok (.invokevirtual 253, 3) := by decide +kernel
theorem dX10_years_39 : decode cX10_years 39 = .ok (.goto 5, 3) := by decide +kernel
theorem dX10_years_42 : decode cX10_years 42 = .ok (.bipush (-2), 2) := by decide +kernel
theorem dX10_years_44 : decode cX10_years 44 = .ok (.ireturn, 1) := by decide +kernel
theorem dX10_write_0 : decode cX10_write 0 = .ok (.iload_n 1, 1) := by decide +kernel
theorem dX10_write_1 : decode cX10_write 1 = .ok (.invokestatic 130, 3) := by decide +kernel
theorem dX10_write_4 : decode cX10_write 4 = .ok (.ifCond .eq 10, 3) := by decide +kernel
theorem dX10_write_7 : decode cX10_write 7 = .ok (.iload_n 2, 1) := by decide +kernel
theorem dX10_write_8 : decode cX10_write 8 = .ok (.invokestatic 76, 3) := by decide +kernel
theorem dX10_write_11 : decode cX10_write 11 = .ok (.ifCond .ne 6, 3) := by decide +kernel
theorem dX10_write_14 : decode cX10_write 14 = .ok (.bipush (-2), 2) := by decide +kernel
theorem dX10_write_16 : decode cX10_write 16 = .ok (.ireturn, 1) := by decide +kernel
theorem dX10_write_17 : decode cX10_write 17 = .ok (.aload_n 0, 1) := by decide +kernel
theorem dX10_write_18 : decode cX10_write 18 = .ok (.getfield 7, 3) := by decide +kernel
theorem dX10_write_21 : decode cX10_write 21 = .ok (.iload_n 2, 1) := by decide +kernel
theorem dX10_write_22 : decode cX10_write 22 = .ok (.iaload, 1) := by decide +kernel
theorem dX10_write_23 : decode cX10_write 23 = .ok (.ifCond .ge 9, 3) := by decide +kernel
theorem dX10_write_26 : decode cX10_write 26 = .ok (.aload_n 0, 1) := by decide +kernel
theorem dX10_write_27 : decode cX10_write 27 = .ok (.iconst 1, 1) := by decide +kernel
theorem dX10_write_28 : decode cX10_write 28 = .ok (.invokevirtual 82, 3) := by decide +kernel
theorem dX10_write_31 : decode cX10_write 31 = .ok (.ireturn, 1) := by decide +kernel
theorem dX10_write_32 : decode cX10_write 32 = .ok (.aload_n 0, 1) := by decide +kernel
theorem dX10_write_33 : decode cX10_write 33 = .ok (.invokevirtual 152, 3) := by decide +kernel
theorem dX10_write_36 : decode cX10_write 36 = .ok (.aload_n 0, 1) := by decide +kernel
theorem dX10_write_37 : decode cX10_write 37 = .ok (.getfield 13, 3) := by decide +kernel
theorem dX10_write_40 : decode cX10_write 40 = .ok (.iload_n 2, 1) := by decide +kernel
theorem dX10_write_41 : decode cX10_write 41 = .ok (.iaload, 1) := by decide +kernel
theorem dX10_write_42 : decode cX10_write 42 = .ok (.bipush 24, 2) := by decide +kernel
theorem dX10_write_44 : decode cX10_write 44 = .ok (.invokestatic 256, 3) := by decide +kernel
theorem dX10_write_47 : decode cX10_write 47 = .ok (.istore_n 3, 1) := by decide +kernel
theorem dX10_write_48 : decode cX10_write 48 = .ok (.aload_n 0, 1) := by decide +kernel
theorem dX10_write_49 : decode cX10_write 49 = .ok (.iload_n 1, 1) := by decide +kernel
theorem dX10_write_50 : decode cX10_write 50 = .ok (.iconst 0, 1) := by decide +kernel
theorem dX10_write_51 : decode cX10_write 51 = .ok (.invokevirtual 155, 3) := by decide +kernel
theorem dX10_write_54 : decode cX10_write 54 = .ok (.istore 4, 2) := by decide +kernel
theorem dX10_write_56 : decode cX10_write 56 = .ok (.iconst 0, 1) := by decide +kernel
theorem dX10_write_57 : decode cX10_write 57 = .ok (.istore 5, 2) := by decide +kernel
theorem dX10_write_59 : decode cX10_write 59 = .ok (.iload 5, 2) := by decide +kernel
theorem dX10_write_61 : decode cX10_write 61 = .ok (.iload_n 3, 1) := by decide +kernel
theorem dX10_write_62 : decode cX10_write 62 = .ok (.if_icmp .ge 38, 3) := by decide +kernel
theorem dX10_write_65 : decode cX10_write 65 = .ok (.aload_n 0, 1) := by decide +kernel
theorem dX10_write_66 : decode cX10_write 66 = .ok (.getfield 16, 3) := by decide +kernel
theorem dX10_write_69 : decode cX10_write 69 = .ok (.bipush 60, 2) := by decide +kernel
theorem dX10_write_71 : decode cX10_write 71 = .ok (.iload_n 2, 1) := by decide +kernel
theorem dX10_write_72 : decode cX10_write 72 = .ok (.imul, 1) := by decide +kernel
theorem dX10_write_73 : decode cX10_write 73 = .ok (.iload 5, 2) := by decide +kernel
theorem dX10_write_75 : decode cX10_write 75 = .ok (.iadd, 1) := by decide +kernel
theorem dX10_write_76 : decode cX10_write 76 = .ok (.aload_n 0, 1) := by decide +kernel
theorem dX10_write_77 : decode cX10_write 77 = .ok (.getfield 7, 3) := by decide +kernel
theorem dX10_write_80 : decode cX10_write 80 = .ok (.iload_n 2, 1) := by decide +kernel
theorem dX10_write_81 : decode cX10_write 81 = .ok (.iaload, 1) := by decide +kernel
theorem dX10_write_82 : decode cX10_write 82 = .ok (.aload_n 0, 1) := by decide +kernel
theorem dX10_write_83 : decode cX10_write 83 = .ok (.iload 4, 2) := by decide +kernel
theorem dX10_write_85 : decode cX10_write 85 = .ok (.iload 5, 2) := by decide +kernel
theorem dX10_write_87 : decode cX10_write 87 = .ok (.invokevirtual 174, 3) := by decide +kernel
theorem dX10_write_90 : decode cX10_write 90 = .ok (.invokestatic 90, 3) := by decide +kernel
theorem dX10_write_93 : decode cX10_write 93 = .ok (.iastore, 1) := by decide +kernel
theorem dX10_write_94 : decode cX10_write 94 = .ok (.iinc 5 1, 3) := by decide +kernel
theorem dX10_write_97 : decode cX10_write 97 = .ok (.goto (-38), 3) := by decide +kernel
theorem dX10_write_100 : decode cX10_write 100 = .ok (.iload_n 3, 1) := by decide +kernel
theorem dX10_write_101 : decode cX10_write 101 = .ok (.ireturn, 1) := by decide +kernel
theorem dX10_count_0 : decode cX10_count 0 = .ok (.aload_n 0, 1) := by decide +kernel
theorem dX10_count_1 : decode cX10_count 1 = .ok (.invokevirtual 152, 3) := by decide +kernel
theorem dX10_count_4 : decode cX10_count 4 = .ok (.iload_n 1, 1) := by decide +kernel
theorem dX10_count_5 : decode cX10_count 5 = .ok (.tableswitch 98 0 8 #[51, 51, 58, 58, 67, 72, 77, 82, 93], 51) := by decide +kernel
theorem dX10_count_56 : decode cX10_count 56 = .ok (.aload_n 0, 1) := by decide +kernel
theorem dX10_count_57 : decode cX10_count 57 = .ok (.getfield 28, 3) := by decide +kernel
theorem dX10_count_60 : decode cX10_count 60 = .ok (.iload_n 1, 1) := by decide +kernel
theorem dX10_count_61 : decode cX10_count 61 = .ok (.iaload, 1) := by decide +kernel
theorem dX10_count_62 : decode cX10_count 62 = .ok (.ireturn, 1) := by decide +kernel
theorem dX10_count_63 : decode cX10_count 63 = .ok (.aload_n 0, 1) := by decide +kernel
theorem dX10_count_64 : decode cX10_count 64 = .ok (.getfield 25, 3) := by decide +kernel
theorem dX10_count_67 : decode cX10_count 67 = .ok (.iload_n 1, 1) := by decide +kernel
theorem dX10_count_68 : decode cX10_count 68 = .ok (.iconst 2, 1) := by decide +kernel
theorem dX10_count_69 : decode cX10_count 69 = .ok (.isub, 1) := by decide +kernel
theorem dX10_count_70 : decode cX10_count 70 = .ok (.iaload, 1) := by decide +kernel
theorem dX10_count_71 : decode cX10_count 71 = .ok (.ireturn, 1) := by decide +kernel
theorem dX10_count_72 : decode cX10_count 72 = .ok (.aload_n 0, 1) := by decide +kernel
theorem dX10_count_73 : decode cX10_count 73 = .ok (.getfield 135, 3) := by decide +kernel
theorem dX10_count_76 : decode cX10_count 76 = .ok (.ireturn, 1) := by decide +kernel
theorem dX10_count_77 : decode cX10_count 77 = .ok (.aload_n 0, 1) := by decide +kernel
theorem dX10_count_78 : decode cX10_count 78 = .ok (.getfield 138, 3) := by decide +kernel
theorem dX10_count_81 : decode cX10_count 81 = .ok (.ireturn, 1) := by decide +kernel
theorem dX10_count_82 : decode cX10_count 82 = .ok (.aload_n 0, 1) := by decide +kernel
theorem dX10_count_83 : decode cX10_count 83 = .ok (.getfield 212, 3) := by decide +kernel
theorem dX10_count_86 : decode cX10_count 86 = .ok (.ireturn, 1) := by decide +kernel
theorem dX10_count_87 : decode cX10_count 87 = .ok (.aload_n 0, 1) := by decide +kernel
theorem dX10_count_88 : decode cX10_count 88 = .ok (.bipush 29, 2) := by decide +kernel
theorem dX10_count_90 : decode cX10_count 90 = .ok (.iconst 1, 1) := by decide +kernel
theorem dX10_count_91 : decode cX10_count 91 = .ok (.invokevirtual 155, 3) := by decide +kernel
theorem dX10_count_94 : decode cX10_count 94 = .ok (.invokestatic 165, 3) := by decide +kernel
theorem dX10_count_97 : decode cX10_count 97 = .ok (.ireturn, 1) := by decide +kernel
theorem dX10_count_98 : decode cX10_count 98 = .ok (.aload_n 0, 1) := by decide +kernel
theorem dX10_count_99 : decode cX10_count 99 = .ok (.getfield 70, 3) := by decide +kernel
theorem dX10_count_102 : decode cX10_count 102 = .ok (.ireturn, 1) := by decide +kernel
theorem dX10_count_103 : decode cX10_count 103 = .ok (.bipush (-2), 2) := by decide +kernel
theorem dX10_count_105 : decode cX10_count 105 = .ok (.ireturn, 1) := by decide +kernel
theorem dX10_tellsHour_0 : decode cX10_tellsHour 0 = .ok (.ldc2_w 259, 3) := by decide +kernel
theorem dX10_tellsHour_3 : decode cX10_tellsHour 3 = .ok (.lload_n 1, 1) := by decide +kernel
theorem dX10_tellsHour_4 : decode cX10_tellsHour 4 = .ok (.lmul, 1) := by decide +kernel
theorem dX10_tellsHour_5 : decode cX10_tellsHour 5 = .ok (.aload_n 0, 1) := by decide +kernel
theorem dX10_tellsHour_6 : decode cX10_tellsHour 6 = .ok (.aload_n 0, 1) := by decide +kernel
theorem dX10_tellsHour_7 : decode cX10_tellsHour 7 = .ok (.iload_n 3, 1) := by decide +kernel
theorem dX10_tellsHour_8 : decode cX10_tellsHour 8 = .ok (.iconst 0, 1) := by decide +kernel
theorem dX10_tellsHour_9 : decode cX10_tellsHour 9 = .ok (.invokevirtual 155, 3) := by decide +kernel
theorem dX10_tellsHour_12 : decode cX10_tellsHour 12 = .ok (.iload 4, 2) := by decide +kernel
theorem dX10_tellsHour_14 : decode cX10_tellsHour 14 = .ok (.invokevirtual 174, 3) := by decide +kernel
theorem dX10_tellsHour_17 : decode cX10_tellsHour 17 = .ok (.i2l, 1) := by decide +kernel
theorem dX10_tellsHour_18 : decode cX10_tellsHour 18 = .ok (.ladd, 1) := by decide +kernel
theorem dX10_tellsHour_19 : decode cX10_tellsHour 19 = .ok (.lstore 5, 2) := by decide +kernel
theorem dX10_tellsHour_21 : decode cX10_tellsHour 21 = .ok (.aload_n 0, 1) := by decide +kernel
theorem dX10_tellsHour_22 : decode cX10_tellsHour 22 = .ok (.iload_n 3, 1) := by decide +kernel
theorem dX10_tellsHour_23 : decode cX10_tellsHour 23 = .ok (.iload 4, 2) := by decide +kernel
theorem dX10_tellsHour_25 : decode cX10_tellsHour 25 = .ok (.iconst 1, 1) := by decide +kernel
theorem dX10_tellsHour_26 : decode cX10_tellsHour 26 = .ok (.invokevirtual 193, 3) := by decide +kernel
theorem dX10_tellsHour_29 : decode cX10_tellsHour 29 = .ok (.istore 7, 2) := by decide +kernel
theorem dX10_tellsHour_31 : decode cX10_tellsHour 31 = .ok (.ldc2_w 259, 3) := by decide +kernel
theorem dX10_tellsHour_34 : decode cX10_tellsHour 34 = .ok (.lload 5, 2) := by decide +kernel
theorem dX10_tellsHour_36 : decode cX10_tellsHour 36 = .ok (.lmul, 1) := by decide +kernel
theorem dX10_tellsHour_37 : decode cX10_tellsHour 37 = .ok (.iload 7, 2) := by decide +kernel
theorem dX10_tellsHour_39 : decode cX10_tellsHour 39 = .ok (.iconst 0, 1) := by decide +kernel
theorem dX10_tellsHour_40 : decode cX10_tellsHour 40 = .ok (.invokestatic 196, 3) := by decide +kernel
theorem dX10_tellsHour_43 : decode cX10_tellsHour 43 = .ok (.i2l, 1) := by decide +kernel
theorem dX10_tellsHour_44 : decode cX10_tellsHour 44 = .ok (.ladd, 1) := by decide +kernel
theorem dX10_tellsHour_45 : decode cX10_tellsHour 45 = .ok (.lstore 5, 2) := by decide +kernel
theorem dX10_tellsHour_47 : decode cX10_tellsHour 47 = .ok (.ldc2_w 259, 3) := by decide +kernel
theorem dX10_tellsHour_50 : decode cX10_tellsHour 50 = .ok (.lload 5, 2) := by decide +kernel
theorem dX10_tellsHour_52 : decode cX10_tellsHour 52 = .ok (.lmul, 1) := by decide +kernel
theorem dX10_tellsHour_53 : decode cX10_tellsHour 53 = .ok (.iload 7, 2) := by decide +kernel
theorem dX10_tellsHour_55 : decode cX10_tellsHour 55 = .ok (.iconst 1, 1) := by decide +kernel
theorem dX10_tellsHour_56 : decode cX10_tellsHour 56 = .ok (.invokestatic 196, 3) := by decide +kernel
theorem dX10_tellsHour_59 : decode cX10_tellsHour 59 = .ok (.i2l, 1) := by decide +kernel
theorem dX10_tellsHour_60 : decode cX10_tellsHour 60 = .ok (.ladd, 1) := by decide +kernel
theorem dX10_tellsHour_61 : decode cX10_tellsHour 61 = .ok (.lstore 5, 2) := by decide +kernel
theorem dX10_tellsHour_63 : decode cX10_tellsHour 63 = .ok (.ldc2_w 259, 3) := by decide +kernel
theorem dX10_tellsHour_66 : decode cX10_tellsHour 66 = .ok (.lload 5, 2) := by decide +kernel
theorem dX10_tellsHour_68 : decode cX10_tellsHour 68 = .ok (.lmul, 1) := by decide +kernel
theorem dX10_tellsHour_69 : decode cX10_tellsHour 69 = .ok (.aload_n 0, 1) := by decide +kernel
theorem dX10_tellsHour_70 : decode cX10_tellsHour 70 = .ok (.iconst 5, 1) := by decide +kernel
theorem dX10_tellsHour_71 : decode cX10_tellsHour 71 = .ok (.iload_n 3, 1) := by decide +kernel
theorem dX10_tellsHour_72 : decode cX10_tellsHour 72 = .ok (.iload 4, 2) := by decide +kernel
theorem dX10_tellsHour_74 : decode cX10_tellsHour 74 = .ok (.iconst 1, 1) := by decide +kernel
theorem dX10_tellsHour_75 : decode cX10_tellsHour 75 = .ok (.iconst 0, 1) := by decide +kernel
theorem dX10_tellsHour_76 : decode cX10_tellsHour 76 = .ok (.invokevirtual 236, 3) := by decide +kernel
theorem dX10_tellsHour_79 : decode cX10_tellsHour 79 = .ok (.ladd, 1) := by decide +kernel
theorem dX10_tellsHour_80 : decode cX10_tellsHour 80 = .ok (.lstore 5, 2) := by decide +kernel
theorem dX10_tellsHour_82 : decode cX10_tellsHour 82 = .ok (.ldc2_w 259, 3) := by decide +kernel
theorem dX10_tellsHour_85 : decode cX10_tellsHour 85 = .ok (.lload 5, 2) := by decide +kernel
theorem dX10_tellsHour_87 : decode cX10_tellsHour 87 = .ok (.lmul, 1) := by decide +kernel
theorem dX10_tellsHour_88 : decode cX10_tellsHour 88 = .ok (.aload_n 0, 1) := by decide +kernel
theorem dX10_tellsHour_89 : decode cX10_tellsHour 89 = .ok (.iconst 5, 1) := by decide +kernel
theorem dX10_tellsHour_90 : decode cX10_tellsHour 90 = .ok (.iload_n 3, 1) := by decide +kernel
theorem dX10_tellsHour_91 : decode cX10_tellsHour 91 = .ok (.iload 4, 2) := by decide +kernel
theorem dX10_tellsHour_93 : decode cX10_tellsHour 93 = .ok (.iconst 1, 1) := by decide +kernel
theorem dX10_tellsHour_94 : decode cX10_tellsHour 94 = .ok (.iconst 1, 1) := by decide +kernel
theorem dX10_tellsHour_95 : decode cX10_tellsHour 95 = .ok (.invokevirtual 236, 3) := by decide +kernel
theorem dX10_tellsHour_98 : decode cX10_tellsHour 98 = .ok (.ladd, 1) := by decide +kernel
theorem dX10_tellsHour_99 : decode cX10_tellsHour 99 = .ok (.lreturn, 1) := by decide +kernel
theorem dX10_tellsYear_0 : decode cX10_tellsYear 0 = .ok (.lload_n 1, 1) := by decide +kernel
theorem dX10_tellsYear_1 : decode cX10_tellsYear 1 = .ok (.lstore 4, 2) := by decide +kernel
theorem dX10_tellsYear_3 : decode cX10_tellsYear 3 = .ok (.iconst 0, 1) := by decide +kernel
theorem dX10_tellsYear_4 : decode cX10_tellsYear 4 = .ok (.istore 6, 2) := by decide +kernel
theorem dX10_tellsYear_6 : decode cX10_tellsYear 6 = .ok (.iload 6, 2) := by decide +kernel
theorem dX10_tellsYear_8 : decode cX10_tellsYear 8 = .ok (.iconst 3, 1) := by decide +kernel
theorem dX10_tellsYear_9 : decode cX10_tellsYear 9 = .ok (.if_icmp .ge 26, 3) := by decide +kernel
theorem dX10_tellsYear_12 : decode cX10_tellsYear 12 = .ok (.ldc2_w 259, 3) := by decide +kernel
theorem dX10_tellsYear_15 : decode cX10_tellsYear 15 = .ok (.lload 4, 2) := by decide +kernel
theorem dX10_tellsYear_17 : decode cX10_tellsYear 17 = .ok (.lmul, 1) := by decide +kernel
theorem dX10_tellsYear_18 : decode cX10_tellsYear 18 = .ok (.aload_n 0, 1) := by decide +kernel
theorem dX10_tellsYear_19 : decode cX10_tellsYear 19 = .ok (.iload_n 3, 1) := by decide +kernel
theorem dX10_tellsYear_20 : decode cX10_tellsYear 20 = .ok (.iload 6, 2) := by decide +kernel
theorem dX10_tellsYear_22 : decode cX10_tellsYear 22 = .ok (.invokevirtual 155, 3) := by decide +kernel
theorem dX10_tellsYear_25 : decode cX10_tellsYear 25 = .ok (.i2l, 1) := by decide +kernel
theorem dX10_tellsYear_26 : decode cX10_tellsYear 26 = .ok (.ladd, 1) := by decide +kernel
theorem dX10_tellsYear_27 : decode cX10_tellsYear 27 = .ok (.lstore 4, 2) := by decide +kernel
theorem dX10_tellsYear_29 : decode cX10_tellsYear 29 = .ok (.iinc 6 1, 3) := by decide +kernel
theorem dX10_tellsYear_32 : decode cX10_tellsYear 32 = .ok (.goto (-26), 3) := by decide +kernel
theorem dX10_tellsYear_35 : decode cX10_tellsYear 35 = .ok (.ldc2_w 259, 3) := by decide +kernel
theorem dX10_tellsYear_38 : decode cX10_tellsYear 38 = .ok (.lload 4, 2) := by decide +kernel
theorem dX10_tellsYear_40 : decode cX10_tellsYear 40 = .ok (.lmul, 1) := by decide +kernel
theorem dX10_tellsYear_41 : decode cX10_tellsYear 41 = .ok (.aload_n 0, 1) := by decide +kernel
theorem dX10_tellsYear_42 : decode cX10_tellsYear 42 = .ok (.iload_n 3, 1) := by decide +kernel
theorem dX10_tellsYear_43 : decode cX10_tellsYear 43 = .ok (.iconst 0, 1) := by decide +kernel
theorem dX10_tellsYear_44 : decode cX10_tellsYear 44 = .ok (.invokevirtual 185, 3) := by decide +kernel
theorem dX10_tellsYear_47 : decode cX10_tellsYear 47 = .ok (.i2l, 1) := by decide +kernel
theorem dX10_tellsYear_48 : decode cX10_tellsYear 48 = .ok (.ladd, 1) := by decide +kernel
theorem dX10_tellsYear_49 : decode cX10_tellsYear 49 = .ok (.lstore 4, 2) := by decide +kernel
theorem dX10_tellsYear_51 : decode cX10_tellsYear 51 = .ok (.ldc2_w 259, 3) := by decide +kernel
theorem dX10_tellsYear_54 : decode cX10_tellsYear 54 = .ok (.lload 4, 2) := by decide +kernel
theorem dX10_tellsYear_56 : decode cX10_tellsYear 56 = .ok (.lmul, 1) := by decide +kernel
theorem dX10_tellsYear_57 : decode cX10_tellsYear 57 = .ok (.aload_n 0, 1) := by decide +kernel
theorem dX10_tellsYear_58 : decode cX10_tellsYear 58 = .ok (.iload_n 3, 1) := by decide +kernel
theorem dX10_tellsYear_59 : decode cX10_tellsYear 59 = .ok (.iconst 1, 1) := by decide +kernel
theorem dX10_tellsYear_60 : decode cX10_tellsYear 60 = .ok (.invokevirtual 185, 3) := by decide +kernel
theorem dX10_tellsYear_63 : decode cX10_tellsYear 63 = .ok (.i2l, 1) := by decide +kernel
theorem dX10_tellsYear_64 : decode cX10_tellsYear 64 = .ok (.ladd, 1) := by decide +kernel
theorem dX10_tellsYear_65 : decode cX10_tellsYear 65 = .ok (.lstore 4, 2) := by decide +kernel
theorem dX10_tellsYear_67 : decode cX10_tellsYear 67 = .ok (.ldc2_w 259, 3) := by decide +kernel
theorem dX10_tellsYear_70 : decode cX10_tellsYear 70 = .ok (.lload 4, 2) := by decide +kernel
theorem dX10_tellsYear_72 : decode cX10_tellsYear 72 = .ok (.lmul, 1) := by decide +kernel
theorem dX10_tellsYear_73 : decode cX10_tellsYear 73 = .ok (.aload_n 0, 1) := by decide +kernel
theorem dX10_tellsYear_74 : decode cX10_tellsYear 74 = .ok (.iload_n 3, 1) := by decide +kernel
theorem dX10_tellsYear_75 : decode cX10_tellsYear 75 = .ok (.iconst 0, 1) := by decide +kernel
theorem dX10_tellsYear_76 : decode cX10_tellsYear 76 = .ok (.invokevirtual 188, 3) := by decide +kernel
theorem dX10_tellsYear_79 : decode cX10_tellsYear 79 = .ok (.i2l, 1) := by decide +kernel
theorem dX10_tellsYear_80 : decode cX10_tellsYear 80 = .ok (.ladd, 1) := by decide +kernel
theorem dX10_tellsYear_81 : decode cX10_tellsYear 81 = .ok (.lstore 4, 2) := by decide +kernel
theorem dX10_tellsYear_83 : decode cX10_tellsYear 83 = .ok (.ldc2_w 259, 3) := by decide +kernel
theorem dX10_tellsYear_86 : decode cX10_tellsYear 86 = .ok (.lload 4, 2) := by decide +kernel
theorem dX10_tellsYear_88 : decode cX10_tellsYear 88 = .ok (.lmul, 1) := by decide +kernel
theorem dX10_tellsYear_89 : decode cX10_tellsYear 89 = .ok (.aload_n 0, 1) := by decide +kernel
theorem dX10_tellsYear_90 : decode cX10_tellsYear 90 = .ok (.iload_n 3, 1) := by decide +kernel
theorem dX10_tellsYear_91 : decode cX10_tellsYear 91 = .ok (.iconst 1, 1) := by decide +kernel
theorem dX10_tellsYear_92 : decode cX10_tellsYear 92 = .ok (.invokevirtual 188, 3) := by decide +kernel
theorem dX10_tellsYear_95 : decode cX10_tellsYear 95 = .ok (.i2l, 1) := by decide +kernel
theorem dX10_tellsYear_96 : decode cX10_tellsYear 96 = .ok (.ladd, 1) := by decide +kernel
theorem dX10_tellsYear_97 : decode cX10_tellsYear 97 = .ok (.lstore 4, 2) := by decide +kernel
theorem dX10_tellsYear_99 : decode cX10_tellsYear 99 = .ok (.ldc2_w 259, 3) := by decide +kernel
theorem dX10_tellsYear_102 : decode cX10_tellsYear 102 = .ok (.lload 4, 2) := by decide +kernel
theorem dX10_tellsYear_104 : decode cX10_tellsYear 104 = .ok (.lmul, 1) := by decide +kernel
theorem dX10_tellsYear_105 : decode cX10_tellsYear 105 = .ok (.aload_n 0, 1) := by decide +kernel
theorem dX10_tellsYear_106 : decode cX10_tellsYear 106 = .ok (.iload_n 3, 1) := by decide +kernel
theorem dX10_tellsYear_107 : decode cX10_tellsYear 107 = .ok (.invokevirtual 202, 3) := by decide +kernel
theorem dX10_tellsYear_110 : decode cX10_tellsYear 110 = .ok (.i2l, 1) := by decide +kernel
theorem dX10_tellsYear_111 : decode cX10_tellsYear 111 = .ok (.ladd, 1) := by decide +kernel
theorem dX10_tellsYear_112 : decode cX10_tellsYear 112 = .ok (.lstore 4, 2) := by decide +kernel
theorem dX10_tellsYear_114 : decode cX10_tellsYear 114 = .ok (.ldc2_w 259, 3) := by decide +kernel
theorem dX10_tellsYear_117 : decode cX10_tellsYear 117 = .ok (.lload 4, 2) := by decide +kernel
theorem dX10_tellsYear_119 : decode cX10_tellsYear 119 = .ok (.lmul, 1) := by decide +kernel
theorem dX10_tellsYear_120 : decode cX10_tellsYear 120 = .ok (.aload_n 0, 1) := by decide +kernel
theorem dX10_tellsYear_121 : decode cX10_tellsYear 121 = .ok (.getfield 199, 3) := by decide +kernel
theorem dX10_tellsYear_124 : decode cX10_tellsYear 124 = .ok (.i2l, 1) := by decide +kernel
theorem dX10_tellsYear_125 : decode cX10_tellsYear 125 = .ok (.ladd, 1) := by decide +kernel
theorem dX10_tellsYear_126 : decode cX10_tellsYear 126 = .ok (.lstore 4, 2) := by decide +kernel
theorem dX10_tellsYear_128 : decode cX10_tellsYear 128 = .ok (.aload_n 0, 1) := by decide +kernel
theorem dX10_tellsYear_129 : decode cX10_tellsYear 129 = .ok (.aload_n 0, 1) := by decide +kernel
theorem dX10_tellsYear_130 : decode cX10_tellsYear 130 = .ok (.aload_n 0, 1) := by decide +kernel
theorem dX10_tellsYear_131 : decode cX10_tellsYear 131 = .ok (.lload 4, 2) := by decide +kernel
theorem dX10_tellsYear_133 : decode cX10_tellsYear 133 = .ok (.iload_n 3, 1) := by decide +kernel
theorem dX10_tellsYear_134 : decode cX10_tellsYear 134 = .ok (.iconst 0, 1) := by decide +kernel
theorem dX10_tellsYear_135 : decode cX10_tellsYear 135 = .ok (.invokevirtual 261, 3) := by decide +kernel
theorem dX10_tellsYear_138 : decode cX10_tellsYear 138 = .ok (.iload_n 3, 1) := by decide +kernel
theorem dX10_tellsYear_139 : decode cX10_tellsYear 139 = .ok (.bipush 8, 2) := by decide +kernel
theorem dX10_tellsYear_141 : decode cX10_tellsYear 141 = .ok (.invokevirtual 261, 3) := by decide +kernel
theorem dX10_tellsYear_144 : decode cX10_tellsYear 144 = .ok (.iload_n 3, 1) := by decide +kernel
theorem dX10_tellsYear_145 : decode cX10_tellsYear 145 = .ok (.bipush 20, 2) := by decide +kernel
theorem dX10_tellsYear_147 : decode cX10_tellsYear 147 = .ok (.invokevirtual 261, 3) := by decide +kernel
theorem dX10_tellsYear_150 : decode cX10_tellsYear 150 = .ok (.lreturn, 1) := by decide +kernel
theorem dX10_digest_0 : decode cX10_digest 0 = .ok (.ldc2_w 265, 3) := by decide +kernel
theorem dX10_digest_3 : decode cX10_digest 3 = .ok (.lstore_n 1, 1) := by decide +kernel
theorem dX10_digest_4 : decode cX10_digest 4 = .ok (.iconst 0, 1) := by decide +kernel
theorem dX10_digest_5 : decode cX10_digest 5 = .ok (.istore_n 3, 1) := by decide +kernel
theorem dX10_digest_6 : decode cX10_digest 6 = .ok (.iload_n 3, 1) := by decide +kernel
theorem dX10_digest_7 : decode cX10_digest 7 = .ok (.bipush 8, 2) := by decide +kernel
theorem dX10_digest_9 : decode cX10_digest 9 = .ok (.if_icmp .ge 22, 3) := by decide +kernel
theorem dX10_digest_12 : decode cX10_digest 12 = .ok (.ldc2_w 259, 3) := by decide +kernel
theorem dX10_digest_15 : decode cX10_digest 15 = .ok (.lload_n 1, 1) := by decide +kernel
theorem dX10_digest_16 : decode cX10_digest 16 = .ok (.lmul, 1) := by decide +kernel
theorem dX10_digest_17 : decode cX10_digest 17 = .ok (.aload_n 0, 1) := by decide +kernel
theorem dX10_digest_18 : decode cX10_digest 18 = .ok (.iload_n 3, 1) := by decide +kernel
theorem dX10_digest_19 : decode cX10_digest 19 = .ok (.invokevirtual 267, 3) := by decide +kernel
theorem dX10_digest_22 : decode cX10_digest 22 = .ok (.i2l, 1) := by decide +kernel
theorem dX10_digest_23 : decode cX10_digest 23 = .ok (.ladd, 1) := by decide +kernel
theorem dX10_digest_24 : decode cX10_digest 24 = .ok (.lstore_n 1, 1) := by decide +kernel
theorem dX10_digest_25 : decode cX10_digest 25 = .ok (.iinc 3 1, 3) := by decide +kernel
theorem dX10_digest_28 : decode cX10_digest 28 = .ok (.goto (-22), 3) := by decide +kernel
theorem dX10_digest_31 : decode cX10_digest 31 = .ok (.ldc2_w 259, 3) := by decide +kernel
theorem dX10_digest_34 : decode cX10_digest 34 = .ok (.lload_n 1, 1) := by decide +kernel
theorem dX10_digest_35 : decode cX10_digest 35 = .ok (.lmul, 1) := by decide +kernel
theorem dX10_digest_36 : decode cX10_digest 36 = .ok (.aload_n 0, 1) := by decide +kernel
theorem dX10_digest_37 : decode cX10_digest 37 = .ok (.iconst 0, 1) := by decide +kernel
theorem dX10_digest_38 : decode cX10_digest 38 = .ok (.invokevirtual 115, 3) := by decide +kernel
theorem dX10_digest_41 : decode cX10_digest 41 = .ok (.i2l, 1) := by decide +kernel
theorem dX10_digest_42 : decode cX10_digest 42 = .ok (.ladd, 1) := by decide +kernel
theorem dX10_digest_43 : decode cX10_digest 43 = .ok (.lstore_n 1, 1) := by decide +kernel
theorem dX10_digest_44 : decode cX10_digest 44 = .ok (.ldc2_w 259, 3) := by decide +kernel
theorem dX10_digest_47 : decode cX10_digest 47 = .ok (.lload_n 1, 1) := by decide +kernel
theorem dX10_digest_48 : decode cX10_digest 48 = .ok (.lmul, 1) := by decide +kernel
theorem dX10_digest_49 : decode cX10_digest 49 = .ok (.aload_n 0, 1) := by decide +kernel
theorem dX10_digest_50 : decode cX10_digest 50 = .ok (.iconst 1, 1) := by decide +kernel
theorem dX10_digest_51 : decode cX10_digest 51 = .ok (.invokevirtual 115, 3) := by decide +kernel
theorem dX10_digest_54 : decode cX10_digest 54 = .ok (.i2l, 1) := by decide +kernel
theorem dX10_digest_55 : decode cX10_digest 55 = .ok (.ladd, 1) := by decide +kernel
theorem dX10_digest_56 : decode cX10_digest 56 = .ok (.lstore_n 1, 1) := by decide +kernel
theorem dX10_digest_57 : decode cX10_digest 57 = .ok (.aload_n 0, 1) := by decide +kernel
theorem dX10_digest_58 : decode cX10_digest 58 = .ok (.invokevirtual 152, 3) := by decide +kernel
theorem dX10_digest_61 : decode cX10_digest 61 = .ok (.iconst 0, 1) := by decide +kernel
theorem dX10_digest_62 : decode cX10_digest 62 = .ok (.istore_n 3, 1) := by decide +kernel
theorem dX10_digest_63 : decode cX10_digest 63 = .ok (.iload_n 3, 1) := by decide +kernel
theorem dX10_digest_64 : decode cX10_digest 64 = .ok (.aload_n 0, 1) := by decide +kernel
theorem dX10_digest_65 : decode cX10_digest 65 = .ok (.getfield 28, 3) := by decide +kernel
theorem dX10_digest_68 : decode cX10_digest 68 = .ok (.iconst 0, 1) := by decide +kernel
theorem dX10_digest_69 : decode cX10_digest 69 = .ok (.iaload, 1) := by decide +kernel
theorem dX10_digest_70 : decode cX10_digest 70 = .ok (.if_icmp .ge 43, 3) := by decide +kernel
theorem dX10_digest_73 : decode cX10_digest 73 = .ok (.iconst 0, 1) := by decide +kernel
theorem dX10_digest_74 : decode cX10_digest 74 = .ok (.istore 4, 2) := by decide +kernel
theorem dX10_digest_76 : decode cX10_digest 76 = .ok (.iload 4, 2) := by decide +kernel
theorem dX10_digest_78 : decode cX10_digest 78 = .ok (.iconst 5, 1) := by decide +kernel
theorem dX10_digest_79 : decode cX10_digest 79 = .ok (.if_icmp .ge 28, 3) := by decide +kernel
theorem dX10_digest_82 : decode cX10_digest 82 = .ok (.ldc2_w 259, 3) := by decide +kernel
theorem dX10_digest_85 : decode cX10_digest 85 = .ok (.lload_n 1, 1) := by decide +kernel
theorem dX10_digest_86 : decode cX10_digest 86 = .ok (.lmul, 1) := by decide +kernel
theorem dX10_digest_87 : decode cX10_digest 87 = .ok (.aload_n 0, 1) := by decide +kernel
theorem dX10_digest_88 : decode cX10_digest 88 = .ok (.getfield 31, 3) := by decide +kernel
theorem dX10_digest_91 : decode cX10_digest 91 = .ok (.iconst 5, 1) := by decide +kernel
theorem dX10_digest_92 : decode cX10_digest 92 = .ok (.iload_n 3, 1) := by decide +kernel
theorem dX10_digest_93 : decode cX10_digest 93 = .ok (.imul, 1) := by decide +kernel
theorem dX10_digest_94 : decode cX10_digest 94 = .ok (.iload 4, 2) := by decide +kernel
theorem dX10_digest_96 : decode cX10_digest 96 = .ok (.iadd, 1) := by decide +kernel
theorem dX10_digest_97 : decode cX10_digest 97 = .ok (.iaload, 1) := by decide +kernel
theorem dX10_digest_98 : decode cX10_digest 98 = .ok (.i2l, 1) := by decide +kernel
theorem dX10_digest_99 : decode cX10_digest 99 = .ok (.ladd, 1) := by decide +kernel
theorem dX10_digest_100 : decode cX10_digest 100 = .ok (.lstore_n 1, 1) := by decide +kernel
theorem dX10_digest_101 : decode cX10_digest 101 = .ok (.iinc 4 1, 3) := by decide +kernel
theorem dX10_digest_104 : decode cX10_digest 104 = .ok (.goto (-28), 3) := by decide +kernel
theorem dX10_digest_107 : decode cX10_digest 107 = .ok (.iinc 3 1, 3) := by decide +kernel
theorem dX10_digest_110 : decode cX10_digest 110 = .ok (.goto (-47), 3) := by decide +kernel
theorem dX10_digest_113 : decode cX10_digest 113 = .ok (.iconst 0, 1) := by decide +kernel
theorem dX10_digest_114 : decode cX10_digest 114 = .ok (.istore_n 3, 1) := by decide +kernel
theorem dX10_digest_115 : decode cX10_digest 115 = .ok (.iload_n 3, 1) := by decide +kernel
theorem dX10_digest_116 : decode cX10_digest 116 = .ok (.aload_n 0, 1) := by decide +kernel
theorem dX10_digest_117 : decode cX10_digest 117 = .ok (.getfield 28, 3) := by decide +kernel
theorem dX10_digest_120 : decode cX10_digest 120 = .ok (.iconst 1, 1) := by decide +kernel
theorem dX10_digest_121 : decode cX10_digest 121 = .ok (.iaload, 1) := by decide +kernel
theorem dX10_digest_122 : decode cX10_digest 122 = .ok (.if_icmp .ge 43, 3) := by decide +kernel
theorem dX10_digest_125 : decode cX10_digest 125 = .ok (.iconst 0, 1) := by decide +kernel
theorem dX10_digest_126 : decode cX10_digest 126 = .ok (.istore 4, 2) := by decide +kernel
theorem dX10_digest_128 : decode cX10_digest 128 = .ok (.iload 4, 2) := by decide +kernel
theorem dX10_digest_130 : decode cX10_digest 130 = .ok (.iconst 3, 1) := by decide +kernel
theorem dX10_digest_131 : decode cX10_digest 131 = .ok (.if_icmp .ge 28, 3) := by decide +kernel
theorem dX10_digest_134 : decode cX10_digest 134 = .ok (.ldc2_w 259, 3) := by decide +kernel
theorem dX10_digest_137 : decode cX10_digest 137 = .ok (.lload_n 1, 1) := by decide +kernel
theorem dX10_digest_138 : decode cX10_digest 138 = .ok (.lmul, 1) := by decide +kernel
theorem dX10_digest_139 : decode cX10_digest 139 = .ok (.aload_n 0, 1) := by decide +kernel
theorem dX10_digest_140 : decode cX10_digest 140 = .ok (.getfield 34, 3) := by decide +kernel
theorem dX10_digest_143 : decode cX10_digest 143 = .ok (.iconst 3, 1) := by decide +kernel
theorem dX10_digest_144 : decode cX10_digest 144 = .ok (.iload_n 3, 1) := by decide +kernel
theorem dX10_digest_145 : decode cX10_digest 145 = .ok (.imul, 1) := by decide +kernel
theorem dX10_digest_146 : decode cX10_digest 146 = .ok (.iload 4, 2) := by decide +kernel
theorem dX10_digest_148 : decode cX10_digest 148 = .ok (.iadd, 1) := by decide +kernel
theorem dX10_digest_149 : decode cX10_digest 149 = .ok (.iaload, 1) := by decide +kernel
theorem dX10_digest_150 : decode cX10_digest 150 = .ok (.i2l, 1) := by decide +kernel
theorem dX10_digest_151 : decode cX10_digest 151 = .ok (.ladd, 1) := by decide +kernel
theorem dX10_digest_152 : decode cX10_digest 152 = .ok (.lstore_n 1, 1) := by decide +kernel
theorem dX10_digest_153 : decode cX10_digest 153 = .ok (.iinc 4 1, 3) := by decide +kernel
theorem dX10_digest_156 : decode cX10_digest 156 = .ok (.goto (-28), 3) := by decide +kernel
theorem dX10_digest_159 : decode cX10_digest 159 = .ok (.iinc 3 1, 3) := by decide +kernel
theorem dX10_digest_162 : decode cX10_digest 162 = .ok (.goto (-47), 3) := by decide +kernel
theorem dX10_digest_165 : decode cX10_digest 165 = .ok (.aload_n 0, 1) := by decide +kernel
theorem dX10_digest_166 : decode cX10_digest 166 = .ok (.aload_n 0, 1) := by decide +kernel
theorem dX10_digest_167 : decode cX10_digest 167 = .ok (.aload_n 0, 1) := by decide +kernel
theorem dX10_digest_168 : decode cX10_digest 168 = .ok (.lload_n 1, 1) := by decide +kernel
theorem dX10_digest_169 : decode cX10_digest 169 = .ok (.iconst 0, 1) := by decide +kernel
theorem dX10_digest_170 : decode cX10_digest 170 = .ok (.invokevirtual 270, 3) := by decide +kernel
theorem dX10_digest_173 : decode cX10_digest 173 = .ok (.iconst 3, 1) := by decide +kernel
theorem dX10_digest_174 : decode cX10_digest 174 = .ok (.invokevirtual 270, 3) := by decide +kernel
theorem dX10_digest_177 : decode cX10_digest 177 = .ok (.bipush 29, 2) := by decide +kernel
theorem dX10_digest_179 : decode cX10_digest 179 = .ok (.invokevirtual 270, 3) := by decide +kernel
theorem dX10_digest_182 : decode cX10_digest 182 = .ok (.lstore_n 1, 1) := by decide +kernel
theorem dX10_digest_183 : decode cX10_digest 183 = .ok (.ldc2_w 259, 3) := by decide +kernel
theorem dX10_digest_186 : decode cX10_digest 186 = .ok (.lload_n 1, 1) := by decide +kernel
theorem dX10_digest_187 : decode cX10_digest 187 = .ok (.lmul, 1) := by decide +kernel
theorem dX10_digest_188 : decode cX10_digest 188 = .ok (.aload_n 0, 1) := by decide +kernel
theorem dX10_digest_189 : decode cX10_digest 189 = .ok (.iconst 3, 1) := by decide +kernel
theorem dX10_digest_190 : decode cX10_digest 190 = .ok (.iconst 2, 1) := by decide +kernel
theorem dX10_digest_191 : decode cX10_digest 191 = .ok (.iconst (-1), 1) := by decide +kernel
theorem dX10_digest_192 : decode cX10_digest 192 = .ok (.invokevirtual 274, 3) := by decide +kernel
theorem dX10_digest_195 : decode cX10_digest 195 = .ok (.i2l, 1) := by decide +kernel
theorem dX10_digest_196 : decode cX10_digest 196 = .ok (.ladd, 1) := by decide +kernel
theorem dX10_digest_197 : decode cX10_digest 197 = .ok (.lstore_n 1, 1) := by decide +kernel
theorem dX10_digest_198 : decode cX10_digest 198 = .ok (.ldc2_w 259, 3) := by decide +kernel
theorem dX10_digest_201 : decode cX10_digest 201 = .ok (.lload_n 1, 1) := by decide +kernel
theorem dX10_digest_202 : decode cX10_digest 202 = .ok (.lmul, 1) := by decide +kernel
theorem dX10_digest_203 : decode cX10_digest 203 = .ok (.aload_n 0, 1) := by decide +kernel
theorem dX10_digest_204 : decode cX10_digest 204 = .ok (.iconst 3, 1) := by decide +kernel
theorem dX10_digest_205 : decode cX10_digest 205 = .ok (.iconst 2, 1) := by decide +kernel
theorem dX10_digest_206 : decode cX10_digest 206 = .ok (.iconst 0, 1) := by decide +kernel
theorem dX10_digest_207 : decode cX10_digest 207 = .ok (.invokevirtual 274, 3) := by decide +kernel
theorem dX10_digest_210 : decode cX10_digest 210 = .ok (.i2l, 1) := by decide +kernel
theorem dX10_digest_211 : decode cX10_digest 211 = .ok (.ladd, 1) := by decide +kernel
theorem dX10_digest_212 : decode cX10_digest 212 = .ok (.lstore_n 1, 1) := by decide +kernel
theorem dX10_digest_213 : decode cX10_digest 213 = .ok (.iconst 0, 1) := by decide +kernel
theorem dX10_digest_214 : decode cX10_digest 214 = .ok (.istore_n 3, 1) := by decide +kernel
theorem dX10_digest_215 : decode cX10_digest 215 = .ok (.iload_n 3, 1) := by decide +kernel
theorem dX10_digest_216 : decode cX10_digest 216 = .ok (.iconst 3, 1) := by decide +kernel
theorem dX10_digest_217 : decode cX10_digest 217 = .ok (.if_icmp .ge 22, 3) := by decide +kernel
theorem dX10_digest_220 : decode cX10_digest 220 = .ok (.ldc2_w 259, 3) := by decide +kernel
theorem dX10_digest_223 : decode cX10_digest 223 = .ok (.lload_n 1, 1) := by decide +kernel
theorem dX10_digest_224 : decode cX10_digest 224 = .ok (.lmul, 1) := by decide +kernel
theorem dX10_digest_225 : decode cX10_digest 225 = .ok (.aload_n 0, 1) := by decide +kernel
theorem dX10_digest_226 : decode cX10_digest 226 = .ok (.iload_n 3, 1) := by decide +kernel
theorem dX10_digest_227 : decode cX10_digest 227 = .ok (.invokevirtual 221, 3) := by decide +kernel
theorem dX10_digest_230 : decode cX10_digest 230 = .ok (.i2l, 1) := by decide +kernel
theorem dX10_digest_231 : decode cX10_digest 231 = .ok (.ladd, 1) := by decide +kernel
theorem dX10_digest_232 : decode cX10_digest 232 = .ok (.lstore_n 1, 1) := by decide +kernel
theorem dX10_digest_233 : decode cX10_digest 233 = .ok (.iinc 3 1, 3) := by decide +kernel
theorem dX10_digest_236 : decode cX10_digest 236 = .ok (.goto (-21), 3) := by decide +kernel
theorem dX10_digest_239 : decode cX10_digest 239 = .ok (.ldc2_w 259, 3) := by decide +kernel
theorem dX10_digest_242 : decode cX10_digest 242 = .ok (.lload_n 1, 1) := by decide +kernel
theorem dX10_digest_243 : decode cX10_digest 243 = .ok (.lmul, 1) := by decide +kernel
theorem dX10_digest_244 : decode cX10_digest 244 = .ok (.aload_n 0, 1) := by decide +kernel
theorem dX10_digest_245 : decode cX10_digest 245 = .ok (.invokevirtual 224, 3) := by decide +kernel
theorem dX10_digest_248 : decode cX10_digest 248 = .ok (.i2l, 1) := by decide +kernel
theorem dX10_digest_249 : decode cX10_digest 249 = .ok (.ladd, 1) := by decide +kernel
theorem dX10_digest_250 : decode cX10_digest 250 = .ok (.lstore_n 1, 1) := by decide +kernel
theorem dX10_digest_251 : decode cX10_digest 251 = .ok (.ldc2_w 259, 3) := by decide +kernel
theorem dX10_digest_254 : decode cX10_digest 254 = .ok (.lload_n 1, 1) := by decide +kernel
theorem dX10_digest_255 : decode cX10_digest 255 = .ok (.lmul, 1) := by decide +kernel
theorem dX10_digest_256 : decode cX10_digest 256 = .ok (.aload_n 0, 1) := by decide +kernel
theorem dX10_digest_257 : decode cX10_digest 257 = .ok (.bipush 7, 2) := by decide +kernel
theorem dX10_digest_259 : decode cX10_digest 259 = .ok (.bipush 20, 2) := by decide +kernel
theorem dX10_digest_261 : decode cX10_digest 261 = .ok (.iconst 0, 1) := by decide +kernel
theorem dX10_digest_262 : decode cX10_digest 262 = .ok (.invokevirtual 277, 3) := by decide +kernel
theorem dX10_digest_265 : decode cX10_digest 265 = .ok (.i2l, 1) := by decide +kernel
theorem dX10_digest_266 : decode cX10_digest 266 = .ok (.ladd, 1) := by decide +kernel
theorem dX10_digest_267 : decode cX10_digest 267 = .ok (.lstore_n 1, 1) := by decide +kernel
theorem dX10_digest_268 : decode cX10_digest 268 = .ok (.ldc2_w 259, 3) := by decide +kernel
theorem dX10_digest_271 : decode cX10_digest 271 = .ok (.lload_n 1, 1) := by decide +kernel
theorem dX10_digest_272 : decode cX10_digest 272 = .ok (.lmul, 1) := by decide +kernel
theorem dX10_digest_273 : decode cX10_digest 273 = .ok (.aload_n 0, 1) := by decide +kernel
theorem dX10_digest_274 : decode cX10_digest 274 = .ok (.bipush 7, 2) := by decide +kernel
theorem dX10_digest_276 : decode cX10_digest 276 = .ok (.bipush 20, 2) := by decide +kernel
theorem dX10_digest_278 : decode cX10_digest 278 = .ok (.iconst 1, 1) := by decide +kernel
theorem dX10_digest_279 : decode cX10_digest 279 = .ok (.invokevirtual 277, 3) := by decide +kernel
theorem dX10_digest_282 : decode cX10_digest 282 = .ok (.i2l, 1) := by decide +kernel
theorem dX10_digest_283 : decode cX10_digest 283 = .ok (.ladd, 1) := by decide +kernel
theorem dX10_digest_284 : decode cX10_digest 284 = .ok (.lreturn, 1) := by decide +kernel
