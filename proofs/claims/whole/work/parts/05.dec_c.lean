theorem dX10_init_0 : decode cX10_init 0 = .ok (.aload_n 0, 1) := by decide +kernel
theorem dX10_init_1 : decode cX10_init 1 = .ok (.invokespecial 1, 3) := by decide +kernel
theorem dX10_init_4 : decode cX10_init 4 = .ok (.aload_n 0, 1) := by decide +kernel
theorem dX10_init_5 : decode cX10_init 5 = .ok (.bipush 52, 2) := by decide +kernel
theorem dX10_init_7 : decode cX10_init 7 = .ok (.newarray .int, 2) := by decide +kernel
theorem dX10_init_9 : decode cX10_init 9 = .ok (.putfield 7, 3) := by decide +kernel
theorem dX10_init_12 : decode cX10_init 12 = .ok (.aload_n 0, 1) := by decide +kernel
theorem dX10_init_13 : decode cX10_init 13 = .ok (.iconst 2, 1) := by decide +kernel
theorem dX10_init_14 : decode cX10_init 14 = .ok (.newarray .int, 2) := by decide +kernel
theorem dX10_init_16 : decode cX10_init 16 = .ok (.putfield 13, 3) := by decide +kernel
theorem dX10_init_19 : decode cX10_init 19 = .ok (.aload_n 0, 1) := by decide +kernel
theorem dX10_init_20 : decode cX10_init 20 = .ok (.iconst 2, 1) := by decide +kernel
theorem dX10_init_21 : decode cX10_init 21 = .ok (.newarray .int, 2) := by decide +kernel
theorem dX10_init_23 : decode cX10_init 23 = .ok (.putfield 16, 3) := by decide +kernel
theorem dX10_init_26 : decode cX10_init 26 = .ok (.aload_n 0, 1) := by decide +kernel
theorem dX10_init_27 : decode cX10_init 27 = .ok (.bipush 120, 2) := by decide +kernel
theorem dX10_init_29 : decode cX10_init 29 = .ok (.newarray .int, 2) := by decide +kernel
theorem dX10_init_31 : decode cX10_init 31 = .ok (.putfield 19, 3) := by decide +kernel
theorem dX10_init_34 : decode cX10_init 34 = .ok (.aload_n 0, 1) := by decide +kernel
theorem dX10_init_35 : decode cX10_init 35 = .ok (.bipush 11, 2) := by decide +kernel
theorem dX10_init_37 : decode cX10_init 37 = .ok (.newarray .int, 2) := by decide +kernel
theorem dX10_init_39 : decode cX10_init 39 = .ok (.putfield 22, 3) := by decide +kernel
theorem dX10_init_42 : decode cX10_init 42 = .ok (.aload_n 0, 1) := by decide +kernel
theorem dX10_init_43 : decode cX10_init 43 = .ok (.bipush 11, 2) := by decide +kernel
theorem dX10_init_45 : decode cX10_init 45 = .ok (.newarray .int, 2) := by decide +kernel
theorem dX10_init_47 : decode cX10_init 47 = .ok (.putfield 25, 3) := by decide +kernel
theorem dX10_init_50 : decode cX10_init 50 = .ok (.aload_n 0, 1) := by decide +kernel
theorem dX10_init_51 : decode cX10_init 51 = .ok (.bipush 11, 2) := by decide +kernel
theorem dX10_init_53 : decode cX10_init 53 = .ok (.newarray .int, 2) := by decide +kernel
theorem dX10_init_55 : decode cX10_init 55 = .ok (.putfield 28, 3) := by decide +kernel
theorem dX10_init_58 : decode cX10_init 58 = .ok (.aload_n 0, 1) := by decide +kernel
theorem dX10_init_59 : decode cX10_init 59 = .ok (.bipush 20, 2) := by decide +kernel
theorem dX10_init_61 : decode cX10_init 61 = .ok (.newarray .int, 2) := by decide +kernel
theorem dX10_init_63 : decode cX10_init 63 = .ok (.putfield 31, 3) := by decide +kernel
theorem dX10_init_66 : decode cX10_init 66 = .ok (.aload_n 0, 1) := by decide +kernel
theorem dX10_init_67 : decode cX10_init 67 = .ok (.bipush 20, 2) := by decide +kernel
theorem dX10_init_69 : decode cX10_init 69 = .ok (.newarray .int, 2) := by decide +kernel
theorem dX10_init_71 : decode cX10_init 71 = .ok (.putfield 34, 3) := by decide +kernel
theorem dX10_init_74 : decode cX10_init 74 = .ok (.aload_n 0, 1) := by decide +kernel
theorem dX10_init_75 : decode cX10_init 75 = .ok (.bipush 11, 2) := by decide +kernel
theorem dX10_init_77 : decode cX10_init 77 = .ok (.newarray .int, 2) := by decide +kernel
theorem dX10_init_79 : decode cX10_init 79 = .ok (.putfield 37, 3) := by decide +kernel
theorem dX10_init_82 : decode cX10_init 82 = .ok (.aload_n 0, 1) := by decide +kernel
theorem dX10_init_83 : decode cX10_init 83 = .ok (.bipush 11, 2) := by decide +kernel
theorem dX10_init_85 : decode cX10_init 85 = .ok (.newarray .int, 2) := by decide +kernel
theorem dX10_init_87 : decode cX10_init 87 = .ok (.putfield 40, 3) := by decide +kernel
theorem dX10_init_90 : decode cX10_init 90 = .ok (.aload_n 0, 1) := by decide +kernel
theorem dX10_init_91 : decode cX10_init 91 = .ok (.sipush 512, 3) := by decide +kernel
theorem dX10_init_94 : decode cX10_init 94 = .ok (.newarray .int, 2) := by decide +kernel
theorem dX10_init_96 : decode cX10_init 96 = .ok (.putfield 43, 3) := by decide +kernel
theorem dX10_init_99 : decode cX10_init 99 = .ok (.aload_n 0, 1) := by decide +kernel
theorem dX10_init_100 : decode cX10_init 100 = .ok (.bipush 52, 2) := by decide +kernel
theorem dX10_init_102 : decode cX10_init 102 = .ok (.newarray .int, 2) := by decide +kernel
theorem dX10_init_104 : decode cX10_init 104 = .ok (.putfield 46, 3) := by decide +kernel
theorem dX10_init_107 : decode cX10_init 107 = .ok (.aload_n 0, 1) := by decide +kernel
theorem dX10_init_108 : decode cX10_init 108 = .ok (.sipush 512, 3) := by decide +kernel
theorem dX10_init_111 : decode cX10_init 111 = .ok (.newarray .int, 2) := by decide +kernel
theorem dX10_init_113 : decode cX10_init 113 = .ok (.putfield 49, 3) := by decide +kernel
theorem dX10_init_116 : decode cX10_init 116 = .ok (.aload_n 0, 1) := by decide +kernel
theorem dX10_init_117 : decode cX10_init 117 = .ok (.bipush 10, 2) := by decide +kernel
theorem dX10_init_119 : decode cX10_init 119 = .ok (.newarray .int, 2) := by decide +kernel
theorem dX10_init_121 : decode cX10_init 121 = .ok (.putfield 52, 3) := by decide +kernel
theorem dX10_init_124 : decode cX10_init 124 = .ok (.aload_n 0, 1) := by decide +kernel
theorem dX10_init_125 : decode cX10_init 125 = .ok (.bipush 10, 2) := by decide +kernel
theorem dX10_init_127 : decode cX10_init 127 = .ok (.newarray .int, 2) := by decide +kernel
theorem dX10_init_129 : decode cX10_init 129 = .ok (.putfield 55, 3) := by decide +kernel
theorem dX10_init_132 : decode cX10_init 132 = .ok (.aload_n 0, 1) := by decide +kernel
theorem dX10_init_133 : decode cX10_init 133 = .ok (.bipush 8, 2) := by decide +kernel
theorem dX10_init_135 : decode cX10_init 135 = .ok (.newarray .int, 2) := by decide +kernel
theorem dX10_init_137 : decode cX10_init 137 = .ok (.putfield 58, 3) := by decide +kernel
theorem dX10_init_140 : decode cX10_init 140 = .ok (.aload_n 0, 1) := by decide +kernel
theorem dX10_init_141 : decode cX10_init 141 = .ok (.bipush 20, 2) := by decide +kernel
theorem dX10_init_143 : decode cX10_init 143 = .ok (.newarray .int, 2) := by decide +kernel
theorem dX10_init_145 : decode cX10_init 145 = .ok (.putfield 61, 3) := by decide +kernel
theorem dX10_init_148 : decode cX10_init 148 = .ok (.aload_n 0, 1) := by decide +kernel
theorem dX10_init_149 : decode cX10_init 149 = .ok (.bipush 20, 2) := by decide +kernel
theorem dX10_init_151 : decode cX10_init 151 = .ok (.newarray .int, 2) := by decide +kernel
theorem dX10_init_153 : decode cX10_init 153 = .ok (.putfield 64, 3) := by decide +kernel
theorem dX10_init_156 : decode cX10_init 156 = .ok (.aload_n 0, 1) := by decide +kernel
theorem dX10_init_157 : decode cX10_init 157 = .ok (.bipush 100, 2) := by decide +kernel
theorem dX10_init_159 : decode cX10_init 159 = .ok (.newarray .long, 2) := by decide +kernel
theorem dX10_init_161 : decode cX10_init 161 = .ok (.putfield 67, 3) := by decide +kernel
theorem dX10_init_164 : decode cX10_init 164 = .ok (.aload_n 0, 1) := by decide +kernel
theorem dX10_init_165 : decode cX10_init 165 = .ok (.iconst 4, 1) := by decide +kernel
theorem dX10_init_166 : decode cX10_init 166 = .ok (.newarray .boolean, 2) := by decide +kernel
theorem dX10_init_168 : decode cX10_init 168 = .ok (.putfield 71, 3) := by decide +kernel
theorem dX10_init_171 : decode cX10_init 171 = .ok (.aload_n 0, 1) := by decide +kernel
theorem dX10_init_172 : decode cX10_init 172 = .ok (.iconst 4, 1) := by decide +kernel
theorem dX10_init_173 : decode cX10_init 173 = .ok (.newarray .int, 2) := by decide +kernel
theorem dX10_init_175 : decode cX10_init 175 = .ok (.putfield 75, 3) := by decide +kernel
theorem dX10_init_178 : decode cX10_init 178 = .ok (.aload_n 0, 1) := by decide +kernel
theorem dX10_init_179 : decode cX10_init 179 = .ok (.iconst 4, 1) := by decide +kernel
theorem dX10_init_180 : decode cX10_init 180 = .ok (.newarray .int, 2) := by decide +kernel
theorem dX10_init_182 : decode cX10_init 182 = .ok (.putfield 78, 3) := by decide +kernel
theorem dX10_init_185 : decode cX10_init 185 = .ok (.aload_n 0, 1) := by decide +kernel
theorem dX10_init_186 : decode cX10_init 186 = .ok (.sipush 240, 3) := by decide +kernel
theorem dX10_init_189 : decode cX10_init 189 = .ok (.newarray .int, 2) := by decide +kernel
theorem dX10_init_191 : decode cX10_init 191 = .ok (.putfield 81, 3) := by decide +kernel
theorem dX10_init_194 : decode cX10_init 194 = .ok (.aload_n 0, 1) := by decide +kernel
theorem dX10_init_195 : decode cX10_init 195 = .ok (.bipush 60, 2) := by decide +kernel
theorem dX10_init_197 : decode cX10_init 197 = .ok (.newarray .int, 2) := by decide +kernel
theorem dX10_init_199 : decode cX10_init 199 = .ok (.putfield 84, 3) := by decide +kernel
theorem dX10_init_202 : decode cX10_init 202 = .ok (.aload_n 0, 1) := by decide +kernel
theorem dX10_init_203 : decode cX10_init 203 = .ok (.getfield 13, 3) := by decide +kernel
theorem dX10_init_206 : decode cX10_init 206 = .ok (.iconst 1, 1) := by decide +kernel
theorem dX10_init_207 : decode cX10_init 207 = .ok (.bipush 9, 2) := by decide +kernel
theorem dX10_init_209 : decode cX10_init 209 = .ok (.iastore, 1) := by decide +kernel
theorem dX10_init_210 : decode cX10_init 210 = .ok (.return_, 1) := by decide +kernel
theorem dX10_in_0 : decode cX10_in 0 = .ok (.iload_n 0, 1) := by decide +kernel
theorem dX10_in_1 : decode cX10_in 1 = .ok (.iload_n 1, 1) := by decide +kernel
theorem dX10_in_2 : decode cX10_in 2 = .ok (.if_icmp .lt 12, 3) := by decide +kernel
theorem dX10_in_5 : decode cX10_in 5 = .ok (.iload_n 0, 1) := by decide +kernel
theorem dX10_in_6 : decode cX10_in 6 = .ok (.iload_n 2, 1) := by decide +kernel
theorem dX10_in_7 : decode cX10_in 7 = .ok (.if_icmp .gt 7, 3) := by decide +kernel
theorem dX10_in_10 : decode cX10_in 10 = .ok (.iconst 1, 1) := by decide +kernel
theorem dX10_in_11 : decode cX10_in 11 = .ok (.goto 4, 3) := by decide +kernel
theorem dX10_in_14 : decode cX10_in 14 = .ok (.iconst 0, 1) := by decide +kernel
theorem dX10_in_15 : decode cX10_in 15 = .ok (.ireturn, 1) := by decide +kernel
theorem dX10_amount_0 : decode cX10_amount 0 = .ok (.iload_n 0, 1) := by decide +kernel
theorem dX10_amount_1 : decode cX10_amount 1 = .ok (.ifCond .ge 8, 3) := by decide +kernel
theorem dX10_amount_4 : decode cX10_amount 4 = .ok (.iload_n 0, 1) := by decide +kernel
theorem dX10_amount_5 : decode cX10_amount 5 = .ok (.ineg, 1) := by decide +kernel
theorem dX10_amount_6 : decode cX10_amount 6 = .ok (.goto 4, 3) := by decide +kernel
theorem dX10_amount_9 : decode cX10_amount 9 = .ok (.iload_n 0, 1) := by decide +kernel
theorem dX10_amount_10 : decode cX10_amount 10 = .ok (.ireturn, 1) := by decide +kernel
theorem dX10_no_0 : decode cX10_no 0 = .ok (.ldc2_w 87, 3) := by decide +kernel
theorem dX10_no_3 : decode cX10_no 3 = .ok (.iload_n 0, 1) := by decide +kernel
theorem dX10_no_4 : decode cX10_no 4 = .ok (.i2l, 1) := by decide +kernel
theorem dX10_no_5 : decode cX10_no 5 = .ok (.lsub, 1) := by decide +kernel
theorem dX10_no_6 : decode cX10_no 6 = .ok (.lreturn, 1) := by decide +kernel
theorem dX10_lowest_0 : decode cX10_lowest 0 = .ok (.lload_n 0, 1) := by decide +kernel
theorem dX10_lowest_1 : decode cX10_lowest 1 = .ok (.lstore 5, 2) := by decide +kernel
theorem dX10_lowest_3 : decode cX10_lowest 3 = .ok (.lload_n 2, 1) := by decide +kernel
theorem dX10_lowest_4 : decode cX10_lowest 4 = .ok (.lstore 7, 2) := by decide +kernel
theorem dX10_lowest_6 : decode cX10_lowest 6 = .ok (.lload 7, 2) := by decide +kernel
theorem dX10_lowest_8 : decode cX10_lowest 8 = .ok (.lconst 0, 1) := by decide +kernel
theorem dX10_lowest_9 : decode cX10_lowest 9 = .ok (.lcmp, 1) := by decide +kernel
theorem dX10_lowest_10 : decode cX10_lowest 10 = .ok (.ifCond .eq 21, 3) := by decide +kernel
theorem dX10_lowest_13 : decode cX10_lowest 13 = .ok (.lload 5, 2) := by decide +kernel
theorem dX10_lowest_15 : decode cX10_lowest 15 = .ok (.lload 7, 2) := by decide +kernel
theorem dX10_lowest_17 : decode cX10_lowest 17 = .ok (.lrem, 1) := by decide +kernel
theorem dX10_lowest_18 : decode cX10_lowest 18 = .ok (.lstore 9, 2) := by decide +kernel
theorem dX10_lowest_20 : decode cX10_lowest 20 = .ok (.lload 7, 2) := by decide +kernel
theorem dX10_lowest_22 : decode cX10_lowest 22 = .ok (.lstore 5, 2) := by decide +kernel
theorem dX10_lowest_24 : decode cX10_lowest 24 = .ok (.lload 9, 2) := by decide +kernel
theorem dX10_lowest_26 : decode cX10_lowest 26 = .ok (.lstore 7, 2) := by decide +kernel
theorem dX10_lowest_28 : decode cX10_lowest 28 = .ok (.goto (-22), 3) := by decide +kernel
theorem dX10_lowest_31 : decode cX10_lowest 31 = .ok (.iload 4, 2) := by decide +kernel
theorem dX10_lowest_33 : decode cX10_lowest 33 = .ok (.ifCond .ne 10, 3) := by decide +kernel
theorem dX10_lowest_36 : decode cX10_lowest 36 = .ok (.lload_n 0, 1) := by decide +kernel
theorem dX10_lowest_37 : decode cX10_lowest 37 = .ok (.lload 5, 2) := by decide +kernel
theorem dX10_lowest_39 : decode cX10_lowest 39 = .ok (.ldiv, 1) := by decide +kernel
theorem dX10_lowest_40 : decode cX10_lowest 40 = .ok (.goto 7, 3) := by decide +kernel
theorem dX10_lowest_43 : decode cX10_lowest 43 = .ok (.lload_n 2, 1) := by decide +kernel
theorem dX10_lowest_44 : decode cX10_lowest 44 = .ok (.lload 5, 2) := by decide +kernel
theorem dX10_lowest_46 : decode cX10_lowest 46 = .ok (.ldiv, 1) := by decide +kernel
theorem dX10_lowest_47 : decode cX10_lowest 47 = .ok (.lreturn, 1) := by decide +kernel
theorem dX10_isWeek_0 : decode cX10_isWeek 0 = .ok (.iload_n 0, 1) := by decide +kernel
theorem dX10_isWeek_1 : decode cX10_isWeek 1 = .ok (.iconst 0, 1) := by decide +kernel
theorem dX10_isWeek_2 : decode cX10_isWeek 2 = .ok (.bipush 51, 2) := by decide +kernel
theorem dX10_isWeek_4 : decode cX10_isWeek 4 = .ok (.invokestatic 89, 3) := by decide +kernel
theorem dX10_isWeek_7 : decode cX10_isWeek 7 = .ok (.ireturn, 1) := by decide +kernel
theorem dX10_wind_0 : decode cX10_wind 0 = .ok (.iload_n 1, 1) := by decide +kernel
theorem dX10_wind_1 : decode cX10_wind 1 = .ok (.invokestatic 93, 3) := by decide +kernel
theorem dX10_wind_4 : decode cX10_wind 4 = .ok (.ifCond .eq 13, 3) := by decide +kernel
theorem dX10_wind_7 : decode cX10_wind 7 = .ok (.iload_n 2, 1) := by decide +kernel
theorem dX10_wind_8 : decode cX10_wind 8 = .ok (.iconst 0, 1) := by decide +kernel
theorem dX10_wind_9 : decode cX10_wind 9 = .ok (.bipush 9, 2) := by decide +kernel
theorem dX10_wind_11 : decode cX10_wind 11 = .ok (.invokestatic 89, 3) := by decide +kernel
theorem dX10_wind_14 : decode cX10_wind 14 = .ok (.ifCond .ne 6, 3) := by decide +kernel
theorem dX10_wind_17 : decode cX10_wind 17 = .ok (.bipush (-2), 2) := by decide +kernel
theorem dX10_wind_19 : decode cX10_wind 19 = .ok (.ireturn, 1) := by decide +kernel
theorem dX10_wind_20 : decode cX10_wind 20 = .ok (.aload_n 0, 1) := by decide +kernel
theorem dX10_wind_21 : decode cX10_wind 21 = .ok (.getfield 7, 3) := by decide +kernel
theorem dX10_wind_24 : decode cX10_wind 24 = .ok (.iload_n 1, 1) := by decide +kernel
theorem dX10_wind_25 : decode cX10_wind 25 = .ok (.iaload, 1) := by decide +kernel
theorem dX10_wind_26 : decode cX10_wind 26 = .ok (.istore_n 3, 1) := by decide +kernel
theorem dX10_wind_27 : decode cX10_wind 27 = .ok (.aload_n 0, 1) := by decide +kernel
theorem dX10_wind_28 : decode cX10_wind 28 = .ok (.getfield 7, 3) := by decide +kernel
theorem dX10_wind_31 : decode cX10_wind 31 = .ok (.iload_n 1, 1) := by decide +kernel
theorem dX10_wind_32 : decode cX10_wind 32 = .ok (.iload_n 2, 1) := by decide +kernel
theorem dX10_wind_33 : decode cX10_wind 33 = .ok (.iastore, 1) := by decide +kernel
theorem dX10_wind_34 : decode cX10_wind 34 = .ok (.iload_n 3, 1) := by decide +kernel
theorem dX10_wind_35 : decode cX10_wind 35 = .ok (.ireturn, 1) := by decide +kernel
theorem dX10_read_0 : decode cX10_read 0 = .ok (.iload_n 1, 1) := by decide +kernel
theorem dX10_read_1 : decode cX10_read 1 = .ok (.invokestatic 97, 3) := by decide +kernel
theorem dX10_read_4 : decode cX10_read 4 = .ok (.ifCond .ne 6, 3) := by decide +kernel
theorem dX10_read_7 : decode cX10_read 7 = .ok (.bipush (-2), 2) := by decide +kernel
theorem dX10_read_9 : decode cX10_read 9 = .ok (.ireturn, 1) := by decide +kernel
theorem dX10_read_10 : decode cX10_read 10 = .ok (.aload_n 0, 1) := by decide +kernel
theorem dX10_read_11 : decode cX10_read 11 = .ok (.getfield 71, 3) := by decide +kernel
theorem dX10_read_14 : decode cX10_read 14 = .ok (.iload_n 1, 1) := by decide +kernel
theorem dX10_read_15 : decode cX10_read 15 = .ok (.baload, 1) := by decide +kernel
theorem dX10_read_16 : decode cX10_read 16 = .ok (.ifCond .ne 9, 3) := by decide +kernel
theorem dX10_read_19 : decode cX10_read 19 = .ok (.aload_n 0, 1) := by decide +kernel
theorem dX10_read_20 : decode cX10_read 20 = .ok (.iconst 1, 1) := by decide +kernel
theorem dX10_read_21 : decode cX10_read 21 = .ok (.invokevirtual 100, 3) := by decide +kernel
theorem dX10_read_24 : decode cX10_read 24 = .ok (.ireturn, 1) := by decide +kernel
theorem dX10_read_25 : decode cX10_read 25 = .ok (.iconst 0, 1) := by decide +kernel
theorem dX10_read_26 : decode cX10_read 26 = .ok (.istore_n 2, 1) := by decide +kernel
theorem dX10_read_27 : decode cX10_read 27 = .ok (.iload_n 2, 1) := by decide +kernel
theorem dX10_read_28 : decode cX10_read 28 = .ok (.aload_n 0, 1) := by decide +kernel
theorem dX10_read_29 : decode cX10_read 29 = .ok (.getfield 78, 3) := by decide +kernel
theorem dX10_read_32 : decode cX10_read 32 = .ok (.iload_n 1, 1) := by decide +kernel
theorem dX10_read_33 : decode cX10_read 33 = .ok (.iaload, 1) := by decide +kernel
theorem dX10_read_34 : decode cX10_read 34 = .ok (.if_icmp .ge 52, 3) := by decide +kernel
theorem dX10_read_37 : decode cX10_read 37 = .ok (.iload_n 2, 1) := by decide +kernel
theorem dX10_read_38 : decode cX10_read 38 = .ok (.bipush 52, 2) := by decide +kernel
theorem dX10_read_40 : decode cX10_read 40 = .ok (.if_icmp .ge 46, 3) := by decide +kernel
theorem dX10_read_43 : decode cX10_read 43 = .ok (.aload_n 0, 1) := by decide +kernel
theorem dX10_read_44 : decode cX10_read 44 = .ok (.getfield 81, 3) := by decide +kernel
theorem dX10_read_47 : decode cX10_read 47 = .ok (.bipush 60, 2) := by decide +kernel
theorem dX10_read_49 : decode cX10_read 49 = .ok (.iload_n 1, 1) := by decide +kernel
theorem dX10_read_50 : decode cX10_read 50 = .ok (.imul, 1) := by decide +kernel
theorem dX10_read_51 : decode cX10_read 51 = .ok (.iload_n 2, 1) := by decide +kernel
theorem dX10_read_52 : decode cX10_read 52 = .ok (.iadd, 1) := by decide +kernel
theorem dX10_read_53 : decode cX10_read 53 = .ok (.iaload, 1) := by decide +kernel
theorem dX10_read_54 : decode cX10_read 54 = .ok (.iconst 0, 1) := by decide +kernel
theorem dX10_read_55 : decode cX10_read 55 = .ok (.bipush 9, 2) := by decide +kernel
theorem dX10_read_57 : decode cX10_read 57 = .ok (.invokestatic 89, 3) := by decide +kernel
theorem dX10_read_60 : decode cX10_read 60 = .ok (.ifCond .eq 26, 3) := by decide +kernel
theorem dX10_read_63 : decode cX10_read 63 = .ok (.aload_n 0, 1) := by decide +kernel
theorem dX10_read_64 : decode cX10_read 64 = .ok (.getfield 7, 3) := by decide +kernel
theorem dX10_read_67 : decode cX10_read 67 = .ok (.iload_n 2, 1) := by decide +kernel
theorem dX10_read_68 : decode cX10_read 68 = .ok (.aload_n 0, 1) := by decide +kernel
theorem dX10_read_69 : decode cX10_read 69 = .ok (.getfield 81, 3) := by decide +kernel
theorem dX10_read_72 : decode cX10_read 72 = .ok (.bipush 60, 2) := by decide +kernel
theorem dX10_read_74 : decode cX10_read 74 = .ok (.iload_n 1, 1) := by decide +kernel
theorem dX10_read_75 : decode cX10_read 75 = .ok (.imul, 1) := by decide +kernel
theorem dX10_read_76 : decode cX10_read 76 = .ok (.iload_n 2, 1) := by decide +kernel
theorem dX10_read_77 : decode cX10_read 77 = .ok (.iadd, 1) := by decide +kernel
theorem dX10_read_78 : decode cX10_read 78 = .ok (.iaload, 1) := by decide +kernel
theorem dX10_read_79 : decode cX10_read 79 = .ok (.iastore, 1) := by decide +kernel
theorem dX10_read_80 : decode cX10_read 80 = .ok (.iinc 2 1, 3) := by decide +kernel
theorem dX10_read_83 : decode cX10_read 83 = .ok (.goto (-56), 3) := by decide +kernel
theorem dX10_read_86 : decode cX10_read 86 = .ok (.iload_n 2, 1) := by decide +kernel
theorem dX10_read_87 : decode cX10_read 87 = .ok (.ireturn, 1) := by decide +kernel
theorem dX10_set_0 : decode cX10_set 0 = .ok (.iload_n 1, 1) := by decide +kernel
theorem dX10_set_1 : decode cX10_set 1 = .ok (.iconst 0, 1) := by decide +kernel
theorem dX10_set_2 : decode cX10_set 2 = .ok (.iconst 1, 1) := by decide +kernel
theorem dX10_set_3 : decode cX10_set 3 = .ok (.invokestatic 89, 3) := by decide +kernel
theorem dX10_set_6 : decode cX10_set 6 = .ok (.ifCond .eq 13, 3) := by decide +kernel
theorem dX10_set_9 : decode cX10_set 9 = .ok (.iload_n 2, 1) := by decide +kernel
theorem dX10_set_10 : decode cX10_set 10 = .ok (.iconst 0, 1) := by decide +kernel
theorem dX10_set_11 : decode cX10_set 11 = .ok (.bipush 99, 2) := by decide +kernel
theorem dX10_set_13 : decode cX10_set 13 = .ok (.invokestatic 89, 3) := by decide +kernel
theorem dX10_set_16 : decode cX10_set 16 = .ok (.ifCond .ne 6, 3) := by decide +kernel
theorem dX10_set_19 : decode cX10_set 19 = .ok (.bipush (-2), 2) := by decide +kernel
theorem dX10_set_21 : decode cX10_set 21 = .ok (.ireturn, 1) := by decide +kernel
theorem dX10_set_22 : decode cX10_set 22 = .ok (.aload_n 0, 1) := by decide +kernel
theorem dX10_set_23 : decode cX10_set 23 = .ok (.getfield 13, 3) := by decide +kernel
theorem dX10_set_26 : decode cX10_set 26 = .ok (.iload_n 1, 1) := by decide +kernel
theorem dX10_set_27 : decode cX10_set 27 = .ok (.iaload, 1) := by decide +kernel
theorem dX10_set_28 : decode cX10_set 28 = .ok (.istore_n 3, 1) := by decide +kernel
theorem dX10_set_29 : decode cX10_set 29 = .ok (.aload_n 0, 1) := by decide +kernel
theorem dX10_set_30 : decode cX10_set 30 = .ok (.getfield 13, 3) := by decide +kernel
theorem dX10_set_33 : decode cX10_set 33 = .ok (.iload_n 1, 1) := by decide +kernel
theorem dX10_set_34 : decode cX10_set 34 = .ok (.iload_n 2, 1) := by decide +kernel
theorem dX10_set_35 : decode cX10_set 35 = .ok (.iastore, 1) := by decide +kernel
theorem dX10_set_36 : decode cX10_set 36 = .ok (.iload_n 3, 1) := by decide +kernel
theorem dX10_set_37 : decode cX10_set 37 = .ok (.ireturn, 1) := by decide +kernel
theorem dX10_footOf_0 : decode cX10_footOf 0 = .ok (.aload_n 0, 1) := by decide +kernel
theorem dX10_footOf_1 : decode cX10_footOf 1 = .ok (.getfield 13, 3) := by decide +kernel
theorem dX10_footOf_4 : decode cX10_footOf 4 = .ok (.iconst 0, 1) := by decide +kernel
theorem dX10_footOf_5 : decode cX10_footOf 5 = .ok (.iaload, 1) := by decide +kernel
theorem dX10_footOf_6 : decode cX10_footOf 6 = .ok (.istore_n 2, 1) := by decide +kernel
theorem dX10_footOf_7 : decode cX10_footOf 7 = .ok (.iconst 0, 1) := by decide +kernel
theorem dX10_footOf_8 : decode cX10_footOf 8 = .ok (.istore_n 3, 1) := by decide +kernel
theorem dX10_footOf_9 : decode cX10_footOf 9 = .ok (.iload_n 3, 1) := by decide +kernel
theorem dX10_footOf_10 : decode cX10_footOf 10 = .ok (.iload_n 1, 1) := by decide +kernel
theorem dX10_footOf_11 : decode cX10_footOf 11 = .ok (.if_icmp .gt 18, 3) := by decide +kernel
theorem dX10_footOf_14 : decode cX10_footOf 14 = .ok (.iload_n 2, 1) := by decide +kernel
theorem dX10_footOf_15 : decode cX10_footOf 15 = .ok (.aload_n 0, 1) := by decide +kernel
theorem dX10_footOf_16 : decode cX10_footOf 16 = .ok (.getfield 7, 3) := by decide +kernel
theorem dX10_footOf_19 : decode cX10_footOf 19 = .ok (.iload_n 3, 1) := by decide +kernel
theorem dX10_footOf_20 : decode cX10_footOf 20 = .ok (.iaload, 1) := by decide +kernel
theorem dX10_footOf_21 : decode cX10_footOf 21 = .ok (.iadd, 1) := by decide +kernel
theorem dX10_footOf_22 : decode cX10_footOf 22 = .ok (.istore_n 2, 1) := by decide +kernel
theorem dX10_footOf_23 : decode cX10_footOf 23 = .ok (.iinc 3 1, 3) := by decide +kernel
theorem dX10_footOf_26 : decode cX10_footOf 26 = .ok (.goto (-17), 3) := by decide +kernel
theorem dX10_footOf_29 : decode cX10_footOf 29 = .ok (.iload_n 2, 1) := by decide +kernel
theorem dX10_footOf_30 : decode cX10_footOf 30 = .ok (.ireturn, 1) := by decide +kernel
theorem dX10_foot_0 : decode cX10_foot 0 = .ok (.iload_n 1, 1) := by decide +kernel
theorem dX10_foot_1 : decode cX10_foot 1 = .ok (.invokestatic 93, 3) := by decide +kernel
theorem dX10_foot_4 : decode cX10_foot 4 = .ok (.ifCond .eq 11, 3) := by decide +kernel
theorem dX10_foot_7 : decode cX10_foot 7 = .ok (.aload_n 0, 1) := by decide +kernel
theorem dX10_foot_8 : decode cX10_foot 8 = .ok (.iload_n 1, 1) := by decide +kernel
theorem dX10_foot_9 : decode cX10_foot 9 = .ok (.invokevirtual 104, 3) := by decide +kernel
theorem dX10_foot_12 : decode cX10_foot 12 = .ok (.goto 5, 3) := by decide +kernel
theorem dX10_foot_15 : decode cX10_foot 15 = .ok (.bipush (-2), 2) := by decide +kernel
theorem dX10_foot_17 : decode cX10_foot 17 = .ok (.ireturn, 1) := by decide +kernel
theorem dX10_type_0 : decode cX10_type 0 = .ok (.iload_n 1, 1) := by decide +kernel
theorem dX10_type_1 : decode cX10_type 1 = .ok (.iconst 0, 1) := by decide +kernel
theorem dX10_type_2 : decode cX10_type 2 = .ok (.iconst 1, 1) := by decide +kernel
theorem dX10_type_3 : decode cX10_type 3 = .ok (.invokestatic 89, 3) := by decide +kernel
theorem dX10_type_6 : decode cX10_type 6 = .ok (.ifCond .eq 14, 3) := by decide +kernel
theorem dX10_type_9 : decode cX10_type 9 = .ok (.iload_n 2, 1) := by decide +kernel
theorem dX10_type_10 : decode cX10_type 10 = .ok (.iconst 0, 1) := by decide +kernel
theorem dX10_type_11 : decode cX10_type 11 = .ok (.sipush 255, 3) := by decide +kernel
theorem dX10_type_14 : decode cX10_type 14 = .ok (.invokestatic 89, 3) := by decide +kernel
theorem dX10_type_17 : decode cX10_type 17 = .ok (.ifCond .ne 6, 3) := by decide +kernel
theorem dX10_type_20 : decode cX10_type 20 = .ok (.bipush (-2), 2) := by decide +kernel
theorem dX10_type_22 : decode cX10_type 22 = .ok (.ireturn, 1) := by decide +kernel
theorem dX10_type_23 : decode cX10_type 23 = .ok (.aload_n 0, 1) := by decide +kernel
theorem dX10_type_24 : decode cX10_type 24 = .ok (.getfield 16, 3) := by decide +kernel
theorem dX10_type_27 : decode cX10_type 27 = .ok (.iload_n 1, 1) := by decide +kernel
theorem dX10_type_28 : decode cX10_type 28 = .ok (.iaload, 1) := by decide +kernel
theorem dX10_type_29 : decode cX10_type 29 = .ok (.bipush 60, 2) := by decide +kernel
theorem dX10_type_31 : decode cX10_type 31 = .ok (.if_icmp .ne 6, 3) := by decide +kernel
theorem dX10_type_34 : decode cX10_type 34 = .ok (.bipush (-4), 2) := by decide +kernel
theorem dX10_type_36 : decode cX10_type 36 = .ok (.ireturn, 1) := by decide +kernel
theorem dX10_type_37 : decode cX10_type 37 = .ok (.aload_n 0, 1) := by decide +kernel
theorem dX10_type_38 : decode cX10_type 38 = .ok (.getfield 19, 3) := by decide +kernel
theorem dX10_type_41 : decode cX10_type 41 = .ok (.bipush 60, 2) := by decide +kernel
theorem dX10_type_43 : decode cX10_type 43 = .ok (.iload_n 1, 1) := by decide +kernel
theorem dX10_type_44 : decode cX10_type 44 = .ok (.imul, 1) := by decide +kernel
theorem dX10_type_45 : decode cX10_type 45 = .ok (.aload_n 0, 1) := by decide +kernel
theorem dX10_type_46 : decode cX10_type 46 = .ok (.getfield 16, 3) := by decide +kernel
theorem dX10_type_49 : decode cX10_type 49 = .ok (.iload_n 1, 1) := by decide +kernel
theorem dX10_type_50 : decode cX10_type 50 = .ok (.iaload, 1) := by decide +kernel
theorem dX10_type_51 : decode cX10_type 51 = .ok (.iadd, 1) := by decide +kernel
theorem dX10_type_52 : decode cX10_type 52 = .ok (.iload_n 2, 1) := by decide +kernel
theorem dX10_type_53 : decode cX10_type 53 = .ok (.iastore, 1) := by decide +kernel
theorem dX10_type_54 : decode cX10_type 54 = .ok (.aload_n 0, 1) := by decide +kernel
theorem dX10_type_55 : decode cX10_type 55 = .ok (.getfield 16, 3) := by decide +kernel
theorem dX10_type_58 : decode cX10_type 58 = .ok (.iload_n 1, 1) := by decide +kernel
theorem dX10_type_59 : decode cX10_type 59 = .ok (.dup2, 1) := by decide +kernel
theorem dX10_type_60 : decode cX10_type 60 = .ok (.iaload, 1) := by decide +kernel
theorem dX10_type_61 : decode cX10_type 61 = .ok (.iconst 1, 1) := by decide +kernel
theorem dX10_type_62 : decode cX10_type 62 = .ok (.iadd, 1) := by decide +kernel
theorem dX10_type_63 : decode cX10_type 63 = .ok (.iastore, 1) := by decide +kernel
theorem dX10_type_64 : decode cX10_type 64 = .ok (.aload_n 0, 1) := by decide +kernel
theorem dX10_type_65 : decode cX10_type 65 = .ok (.getfield 16, 3) := by decide +kernel
theorem dX10_type_68 : decode cX10_type 68 = .ok (.iload_n 1, 1) := by decide +kernel
theorem dX10_type_69 : decode cX10_type 69 = .ok (.iaload, 1) := by decide +kernel
theorem dX10_type_70 : decode cX10_type 70 = .ok (.ireturn, 1) := by decide +kernel
theorem dX10_wipe_0 : decode cX10_wipe 0 = .ok (.iload_n 1, 1) := by decide +kernel
theorem dX10_wipe_1 : decode cX10_wipe 1 = .ok (.iconst 0, 1) := by decide +kernel
theorem dX10_wipe_2 : decode cX10_wipe 2 = .ok (.iconst 1, 1) := by decide +kernel
theorem dX10_wipe_3 : decode cX10_wipe 3 = .ok (.invokestatic 89, 3) := by decide +kernel
theorem dX10_wipe_6 : decode cX10_wipe 6 = .ok (.ifCond .ne 6, 3) := by decide +kernel
theorem dX10_wipe_9 : decode cX10_wipe 9 = .ok (.bipush (-2), 2) := by decide +kernel
theorem dX10_wipe_11 : decode cX10_wipe 11 = .ok (.ireturn, 1) := by decide +kernel
theorem dX10_wipe_12 : decode cX10_wipe 12 = .ok (.aload_n 0, 1) := by decide +kernel
theorem dX10_wipe_13 : decode cX10_wipe 13 = .ok (.getfield 16, 3) := by decide +kernel
theorem dX10_wipe_16 : decode cX10_wipe 16 = .ok (.iload_n 1, 1) := by decide +kernel
theorem dX10_wipe_17 : decode cX10_wipe 17 = .ok (.iaload, 1) := by decide +kernel
theorem dX10_wipe_18 : decode cX10_wipe 18 = .ok (.istore_n 2, 1) := by decide +kernel
theorem dX10_wipe_19 : decode cX10_wipe 19 = .ok (.aload_n 0, 1) := by decide +kernel
theorem dX10_wipe_20 : decode cX10_wipe 20 = .ok (.getfield 16, 3) := by decide +kernel
theorem dX10_wipe_23 : decode cX10_wipe 23 = .ok (.iload_n 1, 1) := by decide +kernel
theorem dX10_wipe_24 : decode cX10_wipe 24 = .ok (.iconst 0, 1) := by decide +kernel
theorem dX10_wipe_25 : decode cX10_wipe 25 = .ok (.iastore, 1) := by decide +kernel
theorem dX10_wipe_26 : decode cX10_wipe 26 = .ok (.iload_n 2, 1) := by decide +kernel
theorem dX10_wipe_27 : decode cX10_wipe 27 = .ok (.ireturn, 1) := by decide +kernel
theorem dX10_byteAt_0 : decode cX10_byteAt 0 = .ok (.iload_n 2, 1) := by decide +kernel
theorem dX10_byteAt_1 : decode cX10_byteAt 1 = .ok (.aload_n 0, 1) := by decide +kernel
theorem dX10_byteAt_2 : decode cX10_byteAt 2 = .ok (.getfield 16, 3) := by decide +kernel
theorem dX10_byteAt_5 : decode cX10_byteAt 5 = .ok (.iload_n 1, 1) := by decide +kernel
theorem dX10_byteAt_6 : decode cX10_byteAt 6 = .ok (.iaload, 1) := by decide +kernel
theorem dX10_byteAt_7 : decode cX10_byteAt 7 = .ok (.if_icmp .ge 17, 3) := by decide +kernel
theorem dX10_byteAt_10 : decode cX10_byteAt 10 = .ok (.aload_n 0, 1) := by decide +kernel
theorem dX10_byteAt_11 : decode cX10_byteAt 11 = .ok (.getfield 19, 3) := by decide +kernel
theorem dX10_byteAt_14 : decode cX10_byteAt 14 = .ok (.bipush 60, 2) := by decide +kernel
theorem dX10_byteAt_16 : decode cX10_byteAt 16 = .ok (.iload_n 1, 1) := by decide +kernel
theorem dX10_byteAt_17 : decode cX10_byteAt 17 = .ok (.imul, 1) := by decide +kernel
theorem dX10_byteAt_18 : decode cX10_byteAt 18 = .ok (.iload_n 2, 1) := by decide +kernel
theorem dX10_byteAt_19 : decode cX10_byteAt 19 = .ok (.iadd, 1) := by decide +kernel
theorem dX10_byteAt_20 : decode cX10_byteAt 20 = .ok (.iaload, 1) := by decide +kernel
theorem dX10_byteAt_21 : decode cX10_byteAt 21 = .ok (.goto 4, 3) := by decide +kernel
theorem dX10_byteAt_24 : decode cX10_byteAt 24 = .ok (.iconst (-1), 1) := by decide +kernel
theorem dX10_byteAt_25 : decode cX10_byteAt 25 = .ok (.ireturn, 1) := by decide +kernel
theorem dX10_figureAt_0 : decode cX10_figureAt 0 = .ok (.aload_n 0, 1) := by decide +kernel
theorem dX10_figureAt_1 : decode cX10_figureAt 1 = .ok (.iload_n 1, 1) := by decide +kernel
theorem dX10_figureAt_2 : decode cX10_figureAt 2 = .ok (.iload_n 2, 1) := by decide +kernel
theorem dX10_figureAt_3 : decode cX10_figureAt 3 = .ok (.invokevirtual 107, 3) := by decide +kernel
theorem dX10_figureAt_6 : decode cX10_figureAt 6 = .ok (.istore_n 3, 1) := by decide +kernel
theorem dX10_figureAt_7 : decode cX10_figureAt 7 = .ok (.iload_n 3, 1) := by decide +kernel
theorem dX10_figureAt_8 : decode cX10_figureAt 8 = .ok (.bipush 48, 2) := by decide +kernel
theorem dX10_figureAt_10 : decode cX10_figureAt 10 = .ok (.bipush 57, 2) := by decide +kernel
theorem dX10_figureAt_12 : decode cX10_figureAt 12 = .ok (.invokestatic 89, 3) := by decide +kernel
theorem dX10_figureAt_15 : decode cX10_figureAt 15 = .ok (.ifCond .eq 10, 3) := by decide +kernel
theorem dX10_figureAt_18 : decode cX10_figureAt 18 = .ok (.iload_n 3, 1) := by decide +kernel
theorem dX10_figureAt_19 : decode cX10_figureAt 19 = .ok (.bipush 48, 2) := by decide +kernel
theorem dX10_figureAt_21 : decode cX10_figureAt 21 = .ok (.isub, 1) := by decide +kernel
theorem dX10_figureAt_22 : decode cX10_figureAt 22 = .ok (.goto 4, 3) := by decide +kernel
theorem dX10_figureAt_25 : decode cX10_figureAt 25 = .ok (.iconst (-1), 1) := by decide +kernel
theorem dX10_figureAt_26 : decode cX10_figureAt 26 = .ok (.ireturn, 1) := by decide +kernel
theorem dX10_townFault_0 : decode cX10_townFault 0 = .ok (.aload_n 0, 1) := by decide +kernel
theorem dX10_townFault_1 : decode cX10_townFault 1 = .ok (.iconst 0, 1) := by decide +kernel
theorem dX10_townFault_2 : decode cX10_townFault 2 = .ok (.putfield 111, 3) := by decide +kernel
theorem dX10_townFault_5 : decode cX10_townFault 5 = .ok (.iconst 0, 1) := by decide +kernel
theorem dX10_townFault_6 : decode cX10_townFault 6 = .ok (.istore_n 1, 1) := by decide +kernel
theorem dX10_townFault_7 : decode cX10_townFault 7 = .ok (.iconst 0, 1) := by decide +kernel
theorem dX10_townFault_8 : decode cX10_townFault 8 = .ok (.istore_n 2, 1) := by decide +kernel
theorem dX10_townFault_9 : decode cX10_townFault 9 = .ok (.iload_n 2, 1) := by decide +kernel
theorem dX10_townFault_10 : decode cX10_townFault 10 = .ok (.aload_n 0, 1) := by decide +kernel
theorem dX10_townFault_11 : decode cX10_townFault 11 = .ok (.getfield 16, 3) := by decide +kernel
theorem dX10_townFault_14 : decode cX10_townFault 14 = .ok (.iconst 0, 1) := by decide +kernel
theorem dX10_townFault_15 : decode cX10_townFault 15 = .ok (.iaload, 1) := by decide +kernel
theorem dX10_townFault_16 : decode cX10_townFault 16 = .ok (.if_icmp .lt 7, 3) := by decide +kernel
theorem dX10_townFault_19 : decode cX10_townFault 19 = .ok (.iload_n 2, 1) := by decide +kernel
theorem dX10_townFault_20 : decode cX10_townFault 20 = .ok (.ifCond .le 264, 3) := by decide +kernel
theorem dX10_townFault_23 : decode cX10_townFault 23 = .ok (.aload_n 0, 1) := by decide +kernel
theorem dX10_townFault_24 : decode cX10_townFault 24 = .ok (.iconst 0, 1) := by decide +kernel
theorem dX10_townFault_25 : decode cX10_townFault 25 = .ok (.iload_n 2, 1) := by decide +kernel
theorem dX10_townFault_26 : decode cX10_townFault 26 = .ok (.invokevirtual 107, 3) := by decide +kernel
theorem dX10_townFault_29 : decode cX10_townFault 29 = .ok (.istore_n 3, 1) := by decide +kernel
theorem dX10_townFault_30 : decode cX10_townFault 30 = .ok (.iload_n 1, 1) := by decide +kernel
theorem dX10_townFault_31 : decode cX10_townFault 31 = .ok (.bipush 10, 2) := by decide +kernel
theorem dX10_townFault_33 : decode cX10_townFault 33 = .ok (.if_icmp .eq 27, 3) := by decide +kernel
theorem dX10_townFault_36 : decode cX10_townFault 36 = .ok (.iload_n 3, 1) := by decide +kernel
theorem dX10_townFault_37 : decode cX10_townFault 37 = .ok (.bipush 115, 2) := by decide +kernel
theorem dX10_townFault_39 : decode cX10_townFault 39 = .ok (.if_icmp .eq 23, 3) := by decide +kernel
theorem dX10_townFault_42 : decode cX10_townFault 42 = .ok (.iload_n 3, 1) := by decide +kernel
theorem dX10_townFault_43 : decode cX10_townFault 43 = .ok (.bipush 116, 2) := by decide +kernel
theorem dX10_townFault_45 : decode cX10_townFault 45 = .ok (.if_icmp .eq 17, 3) := by decide +kernel
theorem dX10_townFault_48 : decode cX10_townFault 48 = .ok (.iload_n 3, 1) := by decide +kernel
theorem dX10_townFault_49 : decode cX10_townFault 49 = .ok (.bipush 114, 2) := by decide +kernel
theorem dX10_townFault_51 : decode cX10_townFault 51 = .ok (.if_icmp .eq 11, 3) := by decide +kernel
theorem dX10_townFault_54 : decode cX10_townFault 54 = .ok (.iload_n 3, 1) := by decide +kernel
theorem dX10_townFault_55 : decode cX10_townFault 55 = .ok (.bipush 99, 2) := by decide +kernel
theorem dX10_townFault_57 : decode cX10_townFault 57 = .ok (.if_icmp .eq 5, 3) := by decide +kernel
theorem dX10_townFault_60 : decode cX10_townFault 60 = .ok (.iload_n 2, 1) := by decide +kernel
theorem dX10_townFault_61 : decode cX10_townFault 61 = .ok (.ireturn, 1) := by decide +kernel
theorem dX10_townFault_62 : decode cX10_townFault 62 = .ok (.aload_n 0, 1) := by decide +kernel
theorem dX10_townFault_63 : decode cX10_townFault 63 = .ok (.iconst 0, 1) := by decide +kernel
theorem dX10_townFault_64 : decode cX10_townFault 64 = .ok (.iload_n 2, 1) := by decide +kernel
theorem dX10_townFault_65 : decode cX10_townFault 65 = .ok (.iconst 1, 1) := by decide +kernel
theorem dX10_townFault_66 : decode cX10_townFault 66 = .ok (.iadd, 1) := by decide +kernel
theorem dX10_townFault_67 : decode cX10_townFault 67 = .ok (.invokevirtual 115, 3) := by decide +kernel
theorem dX10_townFault_70 : decode cX10_townFault 70 = .ok (.iconst 0, 1) := by decide +kernel
theorem dX10_townFault_71 : decode cX10_townFault 71 = .ok (.iconst 3, 1) := by decide +kernel
theorem dX10_townFault_72 : decode cX10_townFault 72 = .ok (.invokestatic 89, 3) := by decide +kernel
theorem dX10_townFault_75 : decode cX10_townFault 75 = .ok (.ifCond .ne 7, 3) := by decide +kernel
theorem dX10_townFault_78 : decode cX10_townFault 78 = .ok (.iload_n 2, 1) := by decide +kernel
theorem dX10_townFault_79 : decode cX10_townFault 79 = .ok (.iconst 1, 1) := by decide +kernel
theorem dX10_townFault_80 : decode cX10_townFault 80 = .ok (.iadd, 1) := by decide +kernel
theorem dX10_townFault_81 : decode cX10_townFault 81 = .ok (.ireturn, 1) := by decide +kernel
theorem dX10_townFault_82 : decode cX10_townFault 82 = .ok (.aload_n 0, 1) := by decide +kernel
theorem dX10_townFault_83 : decode cX10_townFault 83 = .ok (.iconst 0, 1) := by decide +kernel
theorem dX10_townFault_84 : decode cX10_townFault 84 = .ok (.iload_n 2, 1) := by decide +kernel
theorem dX10_townFault_85 : decode cX10_townFault 85 = .ok (.iconst 2, 1) := by decide +kernel
theorem dX10_townFault_86 : decode cX10_townFault 86 = .ok (.iadd, 1) := by decide +kernel
theorem dX10_townFault_87 : decode cX10_townFault 87 = .ok (.invokevirtual 115, 3) := by decide +kernel
theorem dX10_townFault_90 : decode cX10_townFault 90 = .ok (.iconst (-1), 1) := by decide +kernel
theorem dX10_townFault_91 : decode cX10_townFault 91 = .ok (.if_icmp .ne 7, 3) := by decide +kernel
theorem dX10_townFault_94 : decode cX10_townFault 94 = .ok (.iload_n 2, 1) := by decide +kernel
theorem dX10_townFault_95 : decode cX10_townFault 95 = .ok (.iconst 2, 1) := by decide +kernel
theorem dX10_townFault_96 : decode cX10_townFault 96 = .ok (.iadd, 1) := by decide +kernel
theorem dX10_townFault_97 : decode cX10_townFault 97 = .ok (.ireturn, 1) := by decide +kernel
theorem dX10_townFault_98 : decode cX10_townFault 98 = .ok (.aload_n 0, 1) := by decide +kernel
theorem dX10_townFault_99 : decode cX10_townFault 99 = .ok (.iconst 0, 1) := by decide +kernel
theorem dX10_townFault_100 : decode cX10_townFault 100 = .ok (.iload_n 2, 1) := by decide +kernel
theorem dX10_townFault_101 : decode cX10_townFault 101 = .ok (.iconst 3, 1) := by decide +kernel
theorem dX10_townFault_102 : decode cX10_townFault 102 = .ok (.iadd, 1) := by decide +kernel
theorem dX10_townFault_103 : decode cX10_townFault 103 = .ok (.invokevirtual 115, 3) := by decide +kernel
theorem dX10_townFault_106 : decode cX10_townFault 106 = .ok (.iconst (-1), 1) := by decide +kernel
theorem dX10_townFault_107 : decode cX10_townFault 107 = .ok (.if_icmp .ne 7, 3) := by decide +kernel
theorem dX10_townFault_110 : decode cX10_townFault 110 = .ok (.iload_n 2, 1) := by decide +kernel
theorem dX10_townFault_111 : decode cX10_townFault 111 = .ok (.iconst 3, 1) := by decide +kernel
theorem dX10_townFault_112 : decode cX10_townFault 112 = .ok (.iadd, 1) := by decide +kernel
theorem dX10_townFault_113 : decode cX10_townFault 113 = .ok (.ireturn, 1) := by decide +kernel
theorem dX10_townFault_114 : decode cX10_townFault 114 = .ok (.aload_n 0, 1) := by decide +kernel
theorem dX10_townFault_115 : decode cX10_townFault 115 = .ok (.getfield 22, 3) := by decide +kernel
theorem dX10_townFault_118 : decode cX10_townFault 118 = .ok (.iload_n 1, 1) := by decide +kernel
theorem dX10_townFault_119 : decode cX10_townFault 119 = .ok (.iload_n 3, 1) := by decide +kernel
theorem dX10_townFault_120 : decode cX10_townFault 120 = .ok (.bipush 115, 2) := by decide +kernel
theorem dX10_townFault_122 : decode cX10_townFault 122 = .ok (.if_icmp .ne 7, 3) := by decide +kernel
theorem dX10_townFault_125 : decode cX10_townFault 125 = .ok (.iconst 0, 1) := by decide +kernel
theorem dX10_townFault_126 : decode cX10_townFault 126 = .ok (.goto 24, 3) := by decide +kernel
theorem dX10_townFault_129 : decode cX10_townFault 129 = .ok (.iload_n 3, 1) := by decide +kernel
theorem dX10_townFault_130 : decode cX10_townFault 130 = .ok (.bipush 116, 2) := by decide +kernel
theorem dX10_townFault_132 : decode cX10_townFault 132 = .ok (.if_icmp .ne 7, 3) := by decide +kernel
theorem dX10_townFault_135 : decode cX10_townFault 135 = .ok (.iconst 1, 1) := by decide +kernel
theorem dX10_townFault_136 : decode cX10_townFault 136 = .ok (.goto 14, 3) := by decide +kernel
theorem dX10_townFault_139 : decode cX10_townFault 139 = .ok (.iload_n 3, 1) := by decide +kernel
theorem dX10_townFault_140 : decode cX10_townFault 140 = .ok (.bipush 114, 2) := by decide +kernel
theorem dX10_townFault_142 : decode cX10_townFault 142 = .ok (.if_icmp .ne 7, 3) := by decide +kernel
theorem dX10_townFault_145 : decode cX10_townFault 145 = .ok (.iconst 2, 1) := by decide +kernel
theorem dX10_townFault_146 : decode cX10_townFault 146 = .ok (.goto 4, 3) := by decide +kernel
theorem dX10_townFault_149 : decode cX10_townFault 149 = .ok (.iconst 3, 1) := by decide +kernel
theorem dX10_townFault_150 : decode cX10_townFault 150 = .ok (.iastore, 1) := by decide +kernel
theorem dX10_townFault_151 : decode cX10_townFault 151 = .ok (.aload_n 0, 1) := by decide +kernel
theorem dX10_townFault_152 : decode cX10_townFault 152 = .ok (.getfield 25, 3) := by decide +kernel
theorem dX10_townFault_155 : decode cX10_townFault 155 = .ok (.iload_n 1, 1) := by decide +kernel
theorem dX10_townFault_156 : decode cX10_townFault 156 = .ok (.aload_n 0, 1) := by decide +kernel
theorem dX10_townFault_157 : decode cX10_townFault 157 = .ok (.iconst 0, 1) := by decide +kernel
theorem dX10_townFault_158 : decode cX10_townFault 158 = .ok (.iload_n 2, 1) := by decide +kernel
theorem dX10_townFault_159 : decode cX10_townFault 159 = .ok (.iconst 1, 1) := by decide +kernel
theorem dX10_townFault_160 : decode cX10_townFault 160 = .ok (.iadd, 1) := by decide +kernel
theorem dX10_townFault_161 : decode cX10_townFault 161 = .ok (.invokevirtual 115, 3) := by decide +kernel
theorem dX10_townFault_164 : decode cX10_townFault 164 = .ok (.iastore, 1) := by decide +kernel
theorem dX10_townFault_165 : decode cX10_townFault 165 = .ok (.aload_n 0, 1) := by decide +kernel
theorem dX10_townFault_166 : decode cX10_townFault 166 = .ok (.getfield 28, 3) := by decide +kernel
theorem dX10_townFault_169 : decode cX10_townFault 169 = .ok (.iload_n 1, 1) := by decide +kernel
theorem dX10_townFault_170 : decode cX10_townFault 170 = .ok (.bipush 10, 2) := by decide +kernel
theorem dX10_townFault_172 : decode cX10_townFault 172 = .ok (.aload_n 0, 1) := by decide +kernel
theorem dX10_townFault_173 : decode cX10_townFault 173 = .ok (.iconst 0, 1) := by decide +kernel
theorem dX10_townFault_174 : decode cX10_townFault 174 = .ok (.iload_n 2, 1) := by decide +kernel
theorem dX10_townFault_175 : decode cX10_townFault 175 = .ok (.iconst 2, 1) := by decide +kernel
theorem dX10_townFault_176 : decode cX10_townFault 176 = .ok (.iadd, 1) := by decide +kernel
theorem dX10_townFault_177 : decode cX10_townFault 177 = .ok (.invokevirtual 115, 3) := by decide +kernel
theorem dX10_townFault_180 : decode cX10_townFault 180 = .ok (.imul, 1) := by decide +kernel
theorem dX10_townFault_181 : decode cX10_townFault 181 = .ok (.aload_n 0, 1) := by decide +kernel
theorem dX10_townFault_182 : decode cX10_townFault 182 = .ok (.iconst 0, 1) := by decide +kernel
theorem dX10_townFault_183 : decode cX10_townFault 183 = .ok (.iload_n 2, 1) := by decide +kernel
theorem dX10_townFault_184 : decode cX10_townFault 184 = .ok (.iconst 3, 1) := by decide +kernel
theorem dX10_townFault_185 : decode cX10_townFault 185 = .ok (.iadd, 1) := by decide +kernel
theorem dX10_townFault_186 : decode cX10_townFault 186 = .ok (.invokevirtual 115, 3) := by decide +kernel
theorem dX10_townFault_189 : decode cX10_townFault 189 = .ok (.iadd, 1) := by decide +kernel
theorem dX10_townFault_190 : decode cX10_townFault 190 = .ok (.iastore, 1) := by decide +kernel
theorem dX10_townFault_191 : decode cX10_townFault 191 = .ok (.iconst 0, 1) := by decide +kernel
theorem dX10_townFault_192 : decode cX10_townFault 192 = .ok (.istore 4, 2) := by decide +kernel
theorem dX10_townFault_194 : decode cX10_townFault 194 = .ok (.iload 4, 2) := by decide +kernel
theorem dX10_townFault_196 : decode cX10_townFault 196 = .ok (.iload_n 1, 1) := by decide +kernel
theorem dX10_townFault_197 : decode cX10_townFault 197 = .ok (.if_icmp .ge 45, 3) := by decide +kernel
theorem dX10_townFault_200 : decode cX10_townFault 200 = .ok (.aload_n 0, 1) := by decide +kernel
theorem dX10_townFault_201 : decode cX10_townFault 201 = .ok (.getfield 25, 3) := by decide +kernel
theorem dX10_townFault_204 : decode cX10_townFault 204 = .ok (.iload 4, 2) := by decide +kernel
theorem dX10_townFault_206 : decode cX10_townFault 206 = .ok (.iaload, 1) := by decide +kernel
theorem dX10_townFault_207 : decode cX10_townFault 207 = .ok (.aload_n 0, 1) := by decide +kernel
theorem dX10_townFault_208 : decode cX10_townFault 208 = .ok (.getfield 25, 3) := by decide +kernel
theorem dX10_townFault_211 : decode cX10_townFault 211 = .ok (.iload_n 1, 1) := by decide +kernel
theorem dX10_townFault_212 : decode cX10_townFault 212 = .ok (.iaload, 1) := by decide +kernel
theorem dX10_townFault_213 : decode cX10_townFault 213 = .ok (.if_icmp .ne 23, 3) := by decide +kernel
theorem dX10_townFault_216 : decode cX10_townFault 216 = .ok (.aload_n 0, 1) := by decide +kernel
theorem dX10_townFault_217 : decode cX10_townFault 217 = .ok (.getfield 28, 3) := by decide +kernel
theorem dX10_townFault_220 : decode cX10_townFault 220 = .ok (.iload 4, 2) := by decide +kernel
theorem dX10_townFault_222 : decode cX10_townFault 222 = .ok (.iaload, 1) := by decide +kernel
theorem dX10_townFault_223 : decode cX10_townFault 223 = .ok (.aload_n 0, 1) := by decide +kernel
theorem dX10_townFault_224 : decode cX10_townFault 224 = .ok (.getfield 28, 3) := by decide +kernel
theorem dX10_townFault_227 : decode cX10_townFault 227 = .ok (.iload_n 1, 1) := by decide +kernel
theorem dX10_townFault_228 : decode cX10_townFault 228 = .ok (.iaload, 1) := by decide +kernel
theorem dX10_townFault_229 : decode cX10_townFault 229 = .ok (.if_icmp .ne 7, 3) := by decide +kernel
theorem dX10_townFault_232 : decode cX10_townFault 232 = .ok (.iload_n 2, 1) := by decide +kernel
theorem dX10_townFault_233 : decode cX10_townFault 233 = .ok (.iconst 2, 1) := by decide +kernel
theorem dX10_townFault_234 : decode cX10_townFault 234 = .ok (.iadd, 1) := by decide +kernel
theorem dX10_townFault_235 : decode cX10_townFault 235 = .ok (.ireturn, 1) := by decide +kernel
theorem dX10_townFault_236 : decode cX10_townFault 236 = .ok (.iinc 4 1, 3) := by decide +kernel
theorem dX10_townFault_239 : decode cX10_townFault 239 = .ok (.goto (-45), 3) := by decide +kernel
theorem dX10_townFault_242 : decode cX10_townFault 242 = .ok (.iinc 1 1, 3) := by decide +kernel
theorem dX10_townFault_245 : decode cX10_townFault 245 = .ok (.iinc 2 4, 3) := by decide +kernel
theorem dX10_townFault_248 : decode cX10_townFault 248 = .ok (.iload_n 2, 1) := by decide +kernel
theorem dX10_townFault_249 : decode cX10_townFault 249 = .ok (.aload_n 0, 1) := by decide +kernel
theorem dX10_townFault_250 : decode cX10_townFault 250 = .ok (.getfield 16, 3) := by decide +kernel
theorem dX10_townFault_253 : decode cX10_townFault 253 = .ok (.iconst 0, 1) := by decide +kernel
theorem dX10_townFault_254 : decode cX10_townFault 254 = .ok (.iaload, 1) := by decide +kernel
theorem dX10_townFault_255 : decode cX10_townFault 255 = .ok (.if_icmp .ne 10, 3) := by decide +kernel
theorem dX10_townFault_258 : decode cX10_townFault 258 = .ok (.aload_n 0, 1) := by decide +kernel
theorem dX10_townFault_259 : decode cX10_townFault 259 = .ok (.iload_n 1, 1) := by decide +kernel
theorem dX10_townFault_260 : decode cX10_townFault 260 = .ok (.putfield 111, 3) := by decide +kernel
theorem dX10_townFault_263 : decode cX10_townFault 263 = .ok (.iconst (-1), 1) := by decide +kernel
theorem dX10_townFault_264 : decode cX10_townFault 264 = .ok (.ireturn, 1) := by decide +kernel
theorem dX10_townFault_265 : decode cX10_townFault 265 = .ok (.aload_n 0, 1) := by decide +kernel
theorem dX10_townFault_266 : decode cX10_townFault 266 = .ok (.iconst 0, 1) := by decide +kernel
theorem dX10_townFault_267 : decode cX10_townFault 267 = .ok (.iload_n 2, 1) := by decide +kernel
theorem dX10_townFault_268 : decode cX10_townFault 268 = .ok (.invokevirtual 107, 3) := by decide +kernel
theorem dX10_townFault_271 : decode cX10_townFault 271 = .ok (.bipush 59, 2) := by decide +kernel
theorem dX10_townFault_273 : decode cX10_townFault 273 = .ok (.if_icmp .eq 5, 3) := by decide +kernel
theorem dX10_townFault_276 : decode cX10_townFault 276 = .ok (.iload_n 2, 1) := by decide +kernel
theorem dX10_townFault_277 : decode cX10_townFault 277 = .ok (.ireturn, 1) := by decide +kernel
theorem dX10_townFault_278 : decode cX10_townFault 278 = .ok (.iinc 2 1, 3) := by decide +kernel
theorem dX10_townFault_281 : decode cX10_townFault 281 = .ok (.goto (-272), 3) := by decide +kernel
theorem dX10_townFault_284 : decode cX10_townFault 284 = .ok (.iconst (-1), 1) := by decide +kernel
theorem dX10_townFault_285 : decode cX10_townFault 285 = .ok (.ireturn, 1) := by decide +kernel
theorem dX10_movesFault_0 : decode cX10_movesFault 0 = .ok (.aload_n 0, 1) := by decide +kernel
theorem dX10_movesFault_1 : decode cX10_movesFault 1 = .ok (.invokevirtual 118, 3) := by decide +kernel
theorem dX10_movesFault_4 : decode cX10_movesFault 4 = .ok (.istore_n 1, 1) := by decide +kernel
theorem dX10_movesFault_5 : decode cX10_movesFault 5 = .ok (.aload_n 0, 1) := by decide +kernel
theorem dX10_movesFault_6 : decode cX10_movesFault 6 = .ok (.iconst 0, 1) := by decide +kernel
theorem dX10_movesFault_7 : decode cX10_movesFault 7 = .ok (.putfield 122, 3) := by decide +kernel
theorem dX10_movesFault_10 : decode cX10_movesFault 10 = .ok (.iconst 0, 1) := by decide +kernel
theorem dX10_movesFault_11 : decode cX10_movesFault 11 = .ok (.istore_n 2, 1) := by decide +kernel
theorem dX10_movesFault_12 : decode cX10_movesFault 12 = .ok (.iconst 0, 1) := by decide +kernel
theorem dX10_movesFault_13 : decode cX10_movesFault 13 = .ok (.istore_n 3, 1) := by decide +kernel
theorem dX10_movesFault_14 : decode cX10_movesFault 14 = .ok (.iconst 0, 1) := by decide +kernel
theorem dX10_movesFault_15 : decode cX10_movesFault 15 = .ok (.istore 4, 2) := by decide +kernel
theorem dX10_movesFault_17 : decode cX10_movesFault 17 = .ok (.iload_n 3, 1) := by decide +kernel
theorem dX10_movesFault_18 : decode cX10_movesFault 18 = .ok (.aload_n 0, 1) := by decide +kernel
theorem dX10_movesFault_19 : decode cX10_movesFault 19 = .ok (.getfield 16, 3) := by decide +kernel
theorem dX10_movesFault_22 : decode cX10_movesFault 22 = .ok (.iconst 1, 1) := by decide +kernel
theorem dX10_movesFault_23 : decode cX10_movesFault 23 = .ok (.iaload, 1) := by decide +kernel
theorem dX10_movesFault_24 : decode cX10_movesFault 24 = .ok (.if_icmp .lt 7, 3) := by decide +kernel
theorem dX10_movesFault_27 : decode cX10_movesFault 27 = .ok (.iload_n 3, 1) := by decide +kernel
theorem dX10_movesFault_28 : decode cX10_movesFault 28 = .ok (.ifCond .le 158, 3) := by decide +kernel
theorem dX10_movesFault_31 : decode cX10_movesFault 31 = .ok (.aload_n 0, 1) := by decide +kernel
theorem dX10_movesFault_32 : decode cX10_movesFault 32 = .ok (.iconst 1, 1) := by decide +kernel
theorem dX10_movesFault_33 : decode cX10_movesFault 33 = .ok (.iload_n 3, 1) := by decide +kernel
theorem dX10_movesFault_34 : decode cX10_movesFault 34 = .ok (.invokevirtual 115, 3) := by decide +kernel
theorem dX10_movesFault_37 : decode cX10_movesFault 37 = .ok (.iconst (-1), 1) := by decide +kernel
theorem dX10_movesFault_38 : decode cX10_movesFault 38 = .ok (.if_icmp .ne 5, 3) := by decide +kernel
theorem dX10_movesFault_41 : decode cX10_movesFault 41 = .ok (.iload_n 3, 1) := by decide +kernel
theorem dX10_movesFault_42 : decode cX10_movesFault 42 = .ok (.ireturn, 1) := by decide +kernel
theorem dX10_movesFault_43 : decode cX10_movesFault 43 = .ok (.aload_n 0, 1) := by decide +kernel
theorem dX10_movesFault_44 : decode cX10_movesFault 44 = .ok (.iconst 1, 1) := by decide +kernel
theorem dX10_movesFault_45 : decode cX10_movesFault 45 = .ok (.iload_n 3, 1) := by decide +kernel
theorem dX10_movesFault_46 : decode cX10_movesFault 46 = .ok (.iconst 1, 1) := by decide +kernel
theorem dX10_movesFault_47 : decode cX10_movesFault 47 = .ok (.iadd, 1) := by decide +kernel
theorem dX10_movesFault_48 : decode cX10_movesFault 48 = .ok (.invokevirtual 115, 3) := by decide +kernel
theorem dX10_movesFault_51 : decode cX10_movesFault 51 = .ok (.iconst (-1), 1) := by decide +kernel
theorem dX10_movesFault_52 : decode cX10_movesFault 52 = .ok (.if_icmp .ne 7, 3) := by decide +kernel
theorem dX10_movesFault_55 : decode cX10_movesFault 55 = .ok (.iload_n 3, 1) := by decide +kernel
theorem dX10_movesFault_56 : decode cX10_movesFault 56 = .ok (.iconst 1, 1) := by decide +kernel
theorem dX10_movesFault_57 : decode cX10_movesFault 57 = .ok (.iadd, 1) := by decide +kernel
theorem dX10_movesFault_58 : decode cX10_movesFault 58 = .ok (.ireturn, 1) := by decide +kernel
theorem dX10_movesFault_59 : decode cX10_movesFault 59 = .ok (.bipush 10, 2) := by decide +kernel
theorem dX10_movesFault_61 : decode cX10_movesFault 61 = .ok (.aload_n 0, 1) := by decide +kernel
theorem dX10_movesFault_62 : decode cX10_movesFault 62 = .ok (.iconst 1, 1) := by decide +kernel
theorem dX10_movesFault_63 : decode cX10_movesFault 63 = .ok (.iload_n 3, 1) := by decide +kernel
theorem dX10_movesFault_64 : decode cX10_movesFault 64 = .ok (.invokevirtual 115, 3) := by decide +kernel
theorem dX10_movesFault_67 : decode cX10_movesFault 67 = .ok (.imul, 1) := by decide +kernel
theorem dX10_movesFault_68 : decode cX10_movesFault 68 = .ok (.aload_n 0, 1) := by decide +kernel
theorem dX10_movesFault_69 : decode cX10_movesFault 69 = .ok (.iconst 1, 1) := by decide +kernel
theorem dX10_movesFault_70 : decode cX10_movesFault 70 = .ok (.iload_n 3, 1) := by decide +kernel
theorem dX10_movesFault_71 : decode cX10_movesFault 71 = .ok (.iconst 1, 1) := by decide +kernel
theorem dX10_movesFault_72 : decode cX10_movesFault 72 = .ok (.iadd, 1) := by decide +kernel
theorem dX10_movesFault_73 : decode cX10_movesFault 73 = .ok (.invokevirtual 115, 3) := by decide +kernel
theorem dX10_movesFault_76 : decode cX10_movesFault 76 = .ok (.iadd, 1) := by decide +kernel
theorem dX10_movesFault_77 : decode cX10_movesFault 77 = .ok (.istore 5, 2) := by decide +kernel
theorem dX10_movesFault_79 : decode cX10_movesFault 79 = .ok (.iload 5, 2) := by decide +kernel
theorem dX10_movesFault_81 : decode cX10_movesFault 81 = .ok (.iload 4, 2) := by decide +kernel
theorem dX10_movesFault_83 : decode cX10_movesFault 83 = .ok (.bipush 51, 2) := by decide +kernel
theorem dX10_movesFault_85 : decode cX10_movesFault 85 = .ok (.invokestatic 89, 3) := by decide +kernel
theorem dX10_movesFault_88 : decode cX10_movesFault 88 = .ok (.ifCond .ne 5, 3) := by decide +kernel
theorem dX10_movesFault_91 : decode cX10_movesFault 91 = .ok (.iload_n 3, 1) := by decide +kernel
theorem dX10_movesFault_92 : decode cX10_movesFault 92 = .ok (.ireturn, 1) := by decide +kernel
theorem dX10_movesFault_93 : decode cX10_movesFault 93 = .ok (.aload_n 0, 1) := by decide +kernel
theorem dX10_movesFault_94 : decode cX10_movesFault 94 = .ok (.iconst 1, 1) := by decide +kernel
theorem dX10_movesFault_95 : decode cX10_movesFault 95 = .ok (.iload_n 3, 1) := by decide +kernel
theorem dX10_movesFault_96 : decode cX10_movesFault 96 = .ok (.iconst 2, 1) := by decide +kernel
theorem dX10_movesFault_97 : decode cX10_movesFault 97 = .ok (.iadd, 1) := by decide +kernel
theorem dX10_movesFault_98 : decode cX10_movesFault 98 = .ok (.invokevirtual 115, 3) := by decide +kernel
theorem dX10_movesFault_101 : decode cX10_movesFault 101 = .ok (.iconst 0, 1) := by decide +kernel
theorem dX10_movesFault_102 : decode cX10_movesFault 102 = .ok (.aload_n 0, 1) := by decide +kernel
theorem dX10_movesFault_103 : decode cX10_movesFault 103 = .ok (.getfield 111, 3) := by decide +kernel
theorem dX10_movesFault_106 : decode cX10_movesFault 106 = .ok (.iconst 1, 1) := by decide +kernel
theorem dX10_movesFault_107 : decode cX10_movesFault 107 = .ok (.isub, 1) := by decide +kernel
theorem dX10_movesFault_108 : decode cX10_movesFault 108 = .ok (.invokestatic 89, 3) := by decide +kernel
theorem dX10_movesFault_111 : decode cX10_movesFault 111 = .ok (.ifCond .ne 7, 3) := by decide +kernel
theorem dX10_movesFault_114 : decode cX10_movesFault 114 = .ok (.iload_n 3, 1) := by decide +kernel
theorem dX10_movesFault_115 : decode cX10_movesFault 115 = .ok (.iconst 2, 1) := by decide +kernel
theorem dX10_movesFault_116 : decode cX10_movesFault 116 = .ok (.iadd, 1) := by decide +kernel
theorem dX10_movesFault_117 : decode cX10_movesFault 117 = .ok (.ireturn, 1) := by decide +kernel
theorem dX10_movesFault_118 : decode cX10_movesFault 118 = .ok (.aload_n 0, 1) := by decide +kernel
theorem dX10_movesFault_119 : decode cX10_movesFault 119 = .ok (.getfield 31, 3) := by decide +kernel
theorem dX10_movesFault_122 : decode cX10_movesFault 122 = .ok (.iload_n 2, 1) := by decide +kernel
theorem dX10_movesFault_123 : decode cX10_movesFault 123 = .ok (.iload 5, 2) := by decide +kernel
theorem dX10_movesFault_125 : decode cX10_movesFault 125 = .ok (.iastore, 1) := by decide +kernel
theorem dX10_movesFault_126 : decode cX10_movesFault 126 = .ok (.aload_n 0, 1) := by decide +kernel
theorem dX10_movesFault_127 : decode cX10_movesFault 127 = .ok (.getfield 34, 3) := by decide +kernel
theorem dX10_movesFault_130 : decode cX10_movesFault 130 = .ok (.iload_n 2, 1) := by decide +kernel
theorem dX10_movesFault_131 : decode cX10_movesFault 131 = .ok (.aload_n 0, 1) := by decide +kernel
theorem dX10_movesFault_132 : decode cX10_movesFault 132 = .ok (.iconst 1, 1) := by decide +kernel
theorem dX10_movesFault_133 : decode cX10_movesFault 133 = .ok (.iload_n 3, 1) := by decide +kernel
theorem dX10_movesFault_134 : decode cX10_movesFault 134 = .ok (.iconst 2, 1) := by decide +kernel
theorem dX10_movesFault_135 : decode cX10_movesFault 135 = .ok (.iadd, 1) := by decide +kernel
theorem dX10_movesFault_136 : decode cX10_movesFault 136 = .ok (.invokevirtual 115, 3) := by decide +kernel
theorem dX10_movesFault_139 : decode cX10_movesFault 139 = .ok (.iastore, 1) := by decide +kernel
theorem dX10_movesFault_140 : decode cX10_movesFault 140 = .ok (.iload 5, 2) := by decide +kernel
theorem dX10_movesFault_142 : decode cX10_movesFault 142 = .ok (.istore 4, 2) := by decide +kernel
theorem dX10_movesFault_144 : decode cX10_movesFault 144 = .ok (.iinc 2 1, 3) := by decide +kernel
theorem dX10_movesFault_147 : decode cX10_movesFault 147 = .ok (.iinc 3 3, 3) := by decide +kernel
theorem dX10_movesFault_150 : decode cX10_movesFault 150 = .ok (.iload_n 3, 1) := by decide +kernel
theorem dX10_movesFault_151 : decode cX10_movesFault 151 = .ok (.aload_n 0, 1) := by decide +kernel
theorem dX10_movesFault_152 : decode cX10_movesFault 152 = .ok (.getfield 16, 3) := by decide +kernel
theorem dX10_movesFault_155 : decode cX10_movesFault 155 = .ok (.iconst 1, 1) := by decide +kernel
theorem dX10_movesFault_156 : decode cX10_movesFault 156 = .ok (.iaload, 1) := by decide +kernel
theorem dX10_movesFault_157 : decode cX10_movesFault 157 = .ok (.if_icmp .ne 10, 3) := by decide +kernel
theorem dX10_movesFault_160 : decode cX10_movesFault 160 = .ok (.aload_n 0, 1) := by decide +kernel
theorem dX10_movesFault_161 : decode cX10_movesFault 161 = .ok (.iload_n 2, 1) := by decide +kernel
theorem dX10_movesFault_162 : decode cX10_movesFault 162 = .ok (.putfield 122, 3) := by decide +kernel
theorem dX10_movesFault_165 : decode cX10_movesFault 165 = .ok (.iconst (-1), 1) := by decide +kernel
theorem dX10_movesFault_166 : decode cX10_movesFault 166 = .ok (.ireturn, 1) := by decide +kernel
theorem dX10_movesFault_167 : decode cX10_movesFault 167 = .ok (.aload_n 0, 1) := by decide +kernel
theorem dX10_movesFault_168 : decode cX10_movesFault 168 = .ok (.iconst 1, 1) := by decide +kernel
theorem dX10_movesFault_169 : decode cX10_movesFault 169 = .ok (.iload_n 3, 1) := by decide +kernel
theorem dX10_movesFault_170 : decode cX10_movesFault 170 = .ok (.invokevirtual 107, 3) := by decide +kernel
theorem dX10_movesFault_173 : decode cX10_movesFault 173 = .ok (.bipush 59, 2) := by decide +kernel
theorem dX10_movesFault_175 : decode cX10_movesFault 175 = .ok (.if_icmp .eq 5, 3) := by decide +kernel
theorem dX10_movesFault_178 : decode cX10_movesFault 178 = .ok (.iload_n 3, 1) := by decide +kernel
theorem dX10_movesFault_179 : decode cX10_movesFault 179 = .ok (.ireturn, 1) := by decide +kernel
theorem dX10_movesFault_180 : decode cX10_movesFault 180 = .ok (.iinc 3 1, 3) := by decide +kernel
theorem dX10_movesFault_183 : decode cX10_movesFault 183 = .ok (.goto (-166), 3) := by decide +kernel
theorem dX10_movesFault_186 : decode cX10_movesFault 186 = .ok (.iconst (-1), 1) := by decide +kernel
theorem dX10_movesFault_187 : decode cX10_movesFault 187 = .ok (.ireturn, 1) := by decide +kernel
theorem dX10_faultOf_0 : decode cX10_faultOf 0 = .ok (.iload_n 1, 1) := by decide +kernel
theorem dX10_faultOf_1 : decode cX10_faultOf 1 = .ok (.ifCond .ne 10, 3) := by decide +kernel
theorem dX10_faultOf_4 : decode cX10_faultOf 4 = .ok (.aload_n 0, 1) := by decide +kernel
theorem dX10_faultOf_5 : decode cX10_faultOf 5 = .ok (.invokevirtual 118, 3) := by decide +kernel
theorem dX10_faultOf_8 : decode cX10_faultOf 8 = .ok (.goto 7, 3) := by decide +kernel
theorem dX10_faultOf_11 : decode cX10_faultOf 11 = .ok (.aload_n 0, 1) := by decide +kernel
theorem dX10_faultOf_12 : decode cX10_faultOf 12 = .ok (.invokevirtual 125, 3) := by decide +kernel
theorem dX10_faultOf_15 : decode cX10_faultOf 15 = .ok (.ireturn, 1) := by decide +kernel
theorem dX10_fault_0 : decode cX10_fault 0 = .ok (.iload_n 1, 1) := by decide +kernel
theorem dX10_fault_1 : decode cX10_fault 1 = .ok (.iconst 0, 1) := by decide +kernel
theorem dX10_fault_2 : decode cX10_fault 2 = .ok (.iconst 1, 1) := by decide +kernel
theorem dX10_fault_3 : decode cX10_fault 3 = .ok (.invokestatic 89, 3) := by decide +kernel
theorem dX10_fault_6 : decode cX10_fault 6 = .ok (.ifCond .eq 11, 3) := by decide +kernel
theorem dX10_fault_9 : decode cX10_fault 9 = .ok (.aload_n 0, 1) := by decide +kernel
theorem dX10_fault_10 : decode cX10_fault 10 = .ok (.iload_n 1, 1) := by decide +kernel
theorem dX10_fault_11 : decode cX10_fault 11 = .ok (.invokevirtual 128, 3) := by decide +kernel
theorem dX10_fault_14 : decode cX10_fault 14 = .ok (.goto 5, 3) := by decide +kernel
theorem dX10_fault_17 : decode cX10_fault 17 = .ok (.bipush (-2), 2) := by decide +kernel
theorem dX10_fault_19 : decode cX10_fault 19 = .ok (.ireturn, 1) := by decide +kernel
theorem dX10_housesNow_0 : decode cX10_housesNow 0 = .ok (.aload_n 0, 1) := by decide +kernel
theorem dX10_housesNow_1 : decode cX10_housesNow 1 = .ok (.invokevirtual 118, 3) := by decide +kernel
theorem dX10_housesNow_4 : decode cX10_housesNow 4 = .ok (.istore_n 1, 1) := by decide +kernel
theorem dX10_housesNow_5 : decode cX10_housesNow 5 = .ok (.aload_n 0, 1) := by decide +kernel
theorem dX10_housesNow_6 : decode cX10_housesNow 6 = .ok (.getfield 111, 3) := by decide +kernel
theorem dX10_housesNow_9 : decode cX10_housesNow 9 = .ok (.ireturn, 1) := by decide +kernel
theorem dX10_isHouse_0 : decode cX10_isHouse 0 = .ok (.iload_n 1, 1) := by decide +kernel
theorem dX10_isHouse_1 : decode cX10_isHouse 1 = .ok (.iconst 0, 1) := by decide +kernel
theorem dX10_isHouse_2 : decode cX10_isHouse 2 = .ok (.aload_n 0, 1) := by decide +kernel
theorem dX10_isHouse_3 : decode cX10_isHouse 3 = .ok (.invokevirtual 131, 3) := by decide +kernel
theorem dX10_isHouse_6 : decode cX10_isHouse 6 = .ok (.iconst 1, 1) := by decide +kernel
theorem dX10_isHouse_7 : decode cX10_isHouse 7 = .ok (.isub, 1) := by decide +kernel
theorem dX10_isHouse_8 : decode cX10_isHouse 8 = .ok (.invokestatic 89, 3) := by decide +kernel
theorem dX10_isHouse_11 : decode cX10_isHouse 11 = .ok (.ireturn, 1) := by decide +kernel
theorem dX10_houseOf_0 : decode cX10_houseOf 0 = .ok (.iload_n 2, 1) := by decide +kernel
theorem dX10_houseOf_1 : decode cX10_houseOf 1 = .ok (.ifCond .ne 12, 3) := by decide +kernel
theorem dX10_houseOf_4 : decode cX10_houseOf 4 = .ok (.aload_n 0, 1) := by decide +kernel
theorem dX10_houseOf_5 : decode cX10_houseOf 5 = .ok (.getfield 22, 3) := by decide +kernel
theorem dX10_houseOf_8 : decode cX10_houseOf 8 = .ok (.iload_n 1, 1) := by decide +kernel
theorem dX10_houseOf_9 : decode cX10_houseOf 9 = .ok (.iaload, 1) := by decide +kernel
theorem dX10_houseOf_10 : decode cX10_houseOf 10 = .ok (.goto 23, 3) := by decide +kernel
theorem dX10_houseOf_13 : decode cX10_houseOf 13 = .ok (.iload_n 2, 1) := by decide +kernel
theorem dX10_houseOf_14 : decode cX10_houseOf 14 = .ok (.iconst 1, 1) := by decide +kernel
theorem dX10_houseOf_15 : decode cX10_houseOf 15 = .ok (.if_icmp .ne 12, 3) := by decide +kernel
theorem dX10_houseOf_18 : decode cX10_houseOf 18 = .ok (.aload_n 0, 1) := by decide +kernel
theorem dX10_houseOf_19 : decode cX10_houseOf 19 = .ok (.getfield 25, 3) := by decide +kernel
theorem dX10_houseOf_22 : decode cX10_houseOf 22 = .ok (.iload_n 1, 1) := by decide +kernel
theorem dX10_houseOf_23 : decode cX10_houseOf 23 = .ok (.iaload, 1) := by decide +kernel
theorem dX10_houseOf_24 : decode cX10_houseOf 24 = .ok (.goto 9, 3) := by decide +kernel
theorem dX10_houseOf_27 : decode cX10_houseOf 27 = .ok (.aload_n 0, 1) := by decide +kernel
theorem dX10_houseOf_28 : decode cX10_houseOf 28 = .ok (.getfield 28, 3) := by decide +kernel
theorem dX10_houseOf_31 : decode cX10_houseOf 31 = .ok (.iload_n 1, 1) := by decide +kernel
theorem dX10_houseOf_32 : decode cX10_houseOf 32 = .ok (.iaload, 1) := by decide +kernel
theorem dX10_houseOf_33 : decode cX10_houseOf 33 = .ok (.ireturn, 1) := by decide +kernel
theorem dX10_house_0 : decode cX10_house 0 = .ok (.aload_n 0, 1) := by decide +kernel
theorem dX10_house_1 : decode cX10_house 1 = .ok (.iload_n 1, 1) := by decide +kernel
theorem dX10_house_2 : decode cX10_house 2 = .ok (.invokevirtual 134, 3) := by decide +kernel
theorem dX10_house_5 : decode cX10_house 5 = .ok (.ifCond .eq 21, 3) := by decide +kernel
theorem dX10_house_8 : decode cX10_house 8 = .ok (.iload_n 2, 1) := by decide +kernel
theorem dX10_house_9 : decode cX10_house 9 = .ok (.iconst 0, 1) := by decide +kernel
theorem dX10_house_10 : decode cX10_house 10 = .ok (.iconst 2, 1) := by decide +kernel
theorem dX10_house_11 : decode cX10_house 11 = .ok (.invokestatic 89, 3) := by decide +kernel
theorem dX10_house_14 : decode cX10_house 14 = .ok (.ifCond .eq 12, 3) := by decide +kernel
theorem dX10_house_17 : decode cX10_house 17 = .ok (.aload_n 0, 1) := by decide +kernel
theorem dX10_house_18 : decode cX10_house 18 = .ok (.iload_n 1, 1) := by decide +kernel
theorem dX10_house_19 : decode cX10_house 19 = .ok (.iload_n 2, 1) := by decide +kernel
theorem dX10_house_20 : decode cX10_house 20 = .ok (.invokevirtual 137, 3) := by decide +kernel
theorem dX10_house_23 : decode cX10_house 23 = .ok (.goto 5, 3) := by decide +kernel
theorem dX10_house_26 : decode cX10_house 26 = .ok (.bipush (-2), 2) := by decide +kernel
theorem dX10_house_28 : decode cX10_house 28 = .ok (.ireturn, 1) := by decide +kernel
theorem dX10_handsOf_0 : decode cX10_handsOf 0 = .ok (.aload_n 0, 1) := by decide +kernel
theorem dX10_handsOf_1 : decode cX10_handsOf 1 = .ok (.getfield 22, 3) := by decide +kernel
theorem dX10_handsOf_4 : decode cX10_handsOf 4 = .ok (.iload_n 1, 1) := by decide +kernel
theorem dX10_handsOf_5 : decode cX10_handsOf 5 = .ok (.iaload, 1) := by decide +kernel
theorem dX10_handsOf_6 : decode cX10_handsOf 6 = .ok (.ifCond .ne 7, 3) := by decide +kernel
theorem dX10_handsOf_9 : decode cX10_handsOf 9 = .ok (.iconst 4, 1) := by decide +kernel
theorem dX10_handsOf_10 : decode cX10_handsOf 10 = .ok (.goto 42, 3) := by decide +kernel
theorem dX10_handsOf_13 : decode cX10_handsOf 13 = .ok (.aload_n 0, 1) := by decide +kernel
theorem dX10_handsOf_14 : decode cX10_handsOf 14 = .ok (.getfield 22, 3) := by decide +kernel
theorem dX10_handsOf_17 : decode cX10_handsOf 17 = .ok (.iload_n 1, 1) := by decide +kernel
theorem dX10_handsOf_18 : decode cX10_handsOf 18 = .ok (.iaload, 1) := by decide +kernel
theorem dX10_handsOf_19 : decode cX10_handsOf 19 = .ok (.iconst 1, 1) := by decide +kernel
theorem dX10_handsOf_20 : decode cX10_handsOf 20 = .ok (.if_icmp .ne 7, 3) := by decide +kernel
theorem dX10_handsOf_23 : decode cX10_handsOf 23 = .ok (.iconst 1, 1) := by decide +kernel
theorem dX10_handsOf_24 : decode cX10_handsOf 24 = .ok (.goto 28, 3) := by decide +kernel
theorem dX10_handsOf_27 : decode cX10_handsOf 27 = .ok (.aload_n 0, 1) := by decide +kernel
theorem dX10_handsOf_28 : decode cX10_handsOf 28 = .ok (.getfield 22, 3) := by decide +kernel
theorem dX10_handsOf_31 : decode cX10_handsOf 31 = .ok (.iload_n 1, 1) := by decide +kernel
theorem dX10_handsOf_32 : decode cX10_handsOf 32 = .ok (.iaload, 1) := by decide +kernel
theorem dX10_handsOf_33 : decode cX10_handsOf 33 = .ok (.iconst 2, 1) := by decide +kernel
theorem dX10_handsOf_34 : decode cX10_handsOf 34 = .ok (.if_icmp .ne 15, 3) := by decide +kernel
theorem dX10_handsOf_37 : decode cX10_handsOf 37 = .ok (.iload_n 2, 1) := by decide +kernel
theorem dX10_handsOf_38 : decode cX10_handsOf 38 = .ok (.ifCond .ne 7, 3) := by decide +kernel
theorem dX10_handsOf_41 : decode cX10_handsOf 41 = .ok (.iconst 2, 1) := by decide +kernel
theorem dX10_handsOf_42 : decode cX10_handsOf 42 = .ok (.goto 10, 3) := by decide +kernel
theorem dX10_handsOf_45 : decode cX10_handsOf 45 = .ok (.iconst 1, 1) := by decide +kernel
theorem dX10_handsOf_46 : decode cX10_handsOf 46 = .ok (.goto 6, 3) := by decide +kernel
theorem dX10_handsOf_49 : decode cX10_handsOf 49 = .ok (.iconst 3, 1) := by decide +kernel
theorem dX10_handsOf_50 : decode cX10_handsOf 50 = .ok (.iload_n 2, 1) := by decide +kernel
theorem dX10_handsOf_51 : decode cX10_handsOf 51 = .ok (.iadd, 1) := by decide +kernel
theorem dX10_handsOf_52 : decode cX10_handsOf 52 = .ok (.ireturn, 1) := by decide +kernel
theorem dX10_takes_0 : decode cX10_takes 0 = .ok (.aload_n 0, 1) := by decide +kernel
theorem dX10_takes_1 : decode cX10_takes 1 = .ok (.iload_n 1, 1) := by decide +kernel
theorem dX10_takes_2 : decode cX10_takes 2 = .ok (.invokevirtual 134, 3) := by decide +kernel
theorem dX10_takes_5 : decode cX10_takes 5 = .ok (.ifCond .eq 22, 3) := by decide +kernel
theorem dX10_takes_8 : decode cX10_takes 8 = .ok (.iload_n 2, 1) := by decide +kernel
theorem dX10_takes_9 : decode cX10_takes 9 = .ok (.iconst 0, 1) := by decide +kernel
theorem dX10_takes_10 : decode cX10_takes 10 = .ok (.bipush 99, 2) := by decide +kernel
theorem dX10_takes_12 : decode cX10_takes 12 = .ok (.invokestatic 89, 3) := by decide +kernel
theorem dX10_takes_15 : decode cX10_takes 15 = .ok (.ifCond .eq 12, 3) := by decide +kernel
theorem dX10_takes_18 : decode cX10_takes 18 = .ok (.aload_n 0, 1) := by decide +kernel
theorem dX10_takes_19 : decode cX10_takes 19 = .ok (.iload_n 1, 1) := by decide +kernel
theorem dX10_takes_20 : decode cX10_takes 20 = .ok (.iload_n 2, 1) := by decide +kernel
theorem dX10_takes_21 : decode cX10_takes 21 = .ok (.invokevirtual 140, 3) := by decide +kernel
theorem dX10_takes_24 : decode cX10_takes 24 = .ok (.goto 5, 3) := by decide +kernel
theorem dX10_takes_27 : decode cX10_takes 27 = .ok (.bipush (-2), 2) := by decide +kernel
theorem dX10_takes_29 : decode cX10_takes 29 = .ok (.ireturn, 1) := by decide +kernel
theorem dX10_begins_0 : decode cX10_begins 0 = .ok (.iconst 0, 1) := by decide +kernel
theorem dX10_begins_1 : decode cX10_begins 1 = .ok (.istore_n 1, 1) := by decide +kernel
theorem dX10_begins_2 : decode cX10_begins 2 = .ok (.iload_n 1, 1) := by decide +kernel
theorem dX10_begins_3 : decode cX10_begins 3 = .ok (.aload_n 0, 1) := by decide +kernel
theorem dX10_begins_4 : decode cX10_begins 4 = .ok (.getfield 111, 3) := by decide +kernel
theorem dX10_begins_7 : decode cX10_begins 7 = .ok (.if_icmp .ge 28, 3) := by decide +kernel
theorem dX10_begins_10 : decode cX10_begins 10 = .ok (.aload_n 0, 1) := by decide +kernel
theorem dX10_begins_11 : decode cX10_begins 11 = .ok (.getfield 37, 3) := by decide +kernel
theorem dX10_begins_14 : decode cX10_begins 14 = .ok (.iload_n 1, 1) := by decide +kernel
theorem dX10_begins_15 : decode cX10_begins 15 = .ok (.aload_n 0, 1) := by decide +kernel
theorem dX10_begins_16 : decode cX10_begins 16 = .ok (.getfield 28, 3) := by decide +kernel
theorem dX10_begins_19 : decode cX10_begins 19 = .ok (.iload_n 1, 1) := by decide +kernel
theorem dX10_begins_20 : decode cX10_begins 20 = .ok (.iaload, 1) := by decide +kernel
theorem dX10_begins_21 : decode cX10_begins 21 = .ok (.iastore, 1) := by decide +kernel
theorem dX10_begins_22 : decode cX10_begins 22 = .ok (.aload_n 0, 1) := by decide +kernel
theorem dX10_begins_23 : decode cX10_begins 23 = .ok (.getfield 40, 3) := by decide +kernel
theorem dX10_begins_26 : decode cX10_begins 26 = .ok (.iload_n 1, 1) := by decide +kernel
theorem dX10_begins_27 : decode cX10_begins 27 = .ok (.iconst 0, 1) := by decide +kernel
theorem dX10_begins_28 : decode cX10_begins 28 = .ok (.iastore, 1) := by decide +kernel
theorem dX10_begins_29 : decode cX10_begins 29 = .ok (.iinc 1 1, 3) := by decide +kernel
theorem dX10_begins_32 : decode cX10_begins 32 = .ok (.goto (-30), 3) := by decide +kernel
theorem dX10_begins_35 : decode cX10_begins 35 = .ok (.return_, 1) := by decide +kernel
theorem dX10_goes_0 : decode cX10_goes 0 = .ok (.iconst 0, 1) := by decide +kernel
theorem dX10_goes_1 : decode cX10_goes 1 = .ok (.istore_n 2, 1) := by decide +kernel
theorem dX10_goes_2 : decode cX10_goes 2 = .ok (.iconst 0, 1) := by decide +kernel
theorem dX10_goes_3 : decode cX10_goes 3 = .ok (.istore_n 3, 1) := by decide +kernel
theorem dX10_goes_4 : decode cX10_goes 4 = .ok (.iload_n 3, 1) := by decide +kernel
theorem dX10_goes_5 : decode cX10_goes 5 = .ok (.aload_n 0, 1) := by decide +kernel
theorem dX10_goes_6 : decode cX10_goes 6 = .ok (.getfield 111, 3) := by decide +kernel
theorem dX10_goes_9 : decode cX10_goes 9 = .ok (.if_icmp .ge 45, 3) := by decide +kernel
theorem dX10_goes_12 : decode cX10_goes 12 = .ok (.aload_n 0, 1) := by decide +kernel
theorem dX10_goes_13 : decode cX10_goes 13 = .ok (.getfield 25, 3) := by decide +kernel
theorem dX10_goes_16 : decode cX10_goes 16 = .ok (.iload_n 3, 1) := by decide +kernel
theorem dX10_goes_17 : decode cX10_goes 17 = .ok (.iaload, 1) := by decide +kernel
theorem dX10_goes_18 : decode cX10_goes 18 = .ok (.aload_n 0, 1) := by decide +kernel
theorem dX10_goes_19 : decode cX10_goes 19 = .ok (.getfield 25, 3) := by decide +kernel
theorem dX10_goes_22 : decode cX10_goes 22 = .ok (.iload_n 1, 1) := by decide +kernel
theorem dX10_goes_23 : decode cX10_goes 23 = .ok (.iaload, 1) := by decide +kernel
theorem dX10_goes_24 : decode cX10_goes 24 = .ok (.if_icmp .ne 22, 3) := by decide +kernel
theorem dX10_goes_27 : decode cX10_goes 27 = .ok (.aload_n 0, 1) := by decide +kernel
theorem dX10_goes_28 : decode cX10_goes 28 = .ok (.getfield 37, 3) := by decide +kernel
theorem dX10_goes_31 : decode cX10_goes 31 = .ok (.iload_n 3, 1) := by decide +kernel
theorem dX10_goes_32 : decode cX10_goes 32 = .ok (.iaload, 1) := by decide +kernel
theorem dX10_goes_33 : decode cX10_goes 33 = .ok (.iload_n 2, 1) := by decide +kernel
theorem dX10_goes_34 : decode cX10_goes 34 = .ok (.if_icmp .le 12, 3) := by decide +kernel
theorem dX10_goes_37 : decode cX10_goes 37 = .ok (.aload_n 0, 1) := by decide +kernel
theorem dX10_goes_38 : decode cX10_goes 38 = .ok (.getfield 37, 3) := by decide +kernel
theorem dX10_goes_41 : decode cX10_goes 41 = .ok (.iload_n 3, 1) := by decide +kernel
theorem dX10_goes_42 : decode cX10_goes 42 = .ok (.iaload, 1) := by decide +kernel
theorem dX10_goes_43 : decode cX10_goes 43 = .ok (.goto 4, 3) := by decide +kernel
theorem dX10_goes_46 : decode cX10_goes 46 = .ok (.iload_n 2, 1) := by decide +kernel
theorem dX10_goes_47 : decode cX10_goes 47 = .ok (.istore_n 2, 1) := by decide +kernel
theorem dX10_goes_48 : decode cX10_goes 48 = .ok (.iinc 3 1, 3) := by decide +kernel
theorem dX10_goes_51 : decode cX10_goes 51 = .ok (.goto (-47), 3) := by decide +kernel
theorem dX10_goes_54 : decode cX10_goes 54 = .ok (.iload_n 2, 1) := by decide +kernel
theorem dX10_goes_55 : decode cX10_goes 55 = .ok (.bipush 98, 2) := by decide +kernel
theorem dX10_goes_57 : decode cX10_goes 57 = .ok (.if_icmp .le 5, 3) := by decide +kernel
theorem dX10_goes_60 : decode cX10_goes 60 = .ok (.iconst 0, 1) := by decide +kernel
theorem dX10_goes_61 : decode cX10_goes 61 = .ok (.ireturn, 1) := by decide +kernel
theorem dX10_goes_62 : decode cX10_goes 62 = .ok (.aload_n 0, 1) := by decide +kernel
theorem dX10_goes_63 : decode cX10_goes 63 = .ok (.getfield 37, 3) := by decide +kernel
theorem dX10_goes_66 : decode cX10_goes 66 = .ok (.iload_n 1, 1) := by decide +kernel
theorem dX10_goes_67 : decode cX10_goes 67 = .ok (.iload_n 2, 1) := by decide +kernel
theorem dX10_goes_68 : decode cX10_goes 68 = .ok (.iconst 1, 1) := by decide +kernel
theorem dX10_goes_69 : decode cX10_goes 69 = .ok (.iadd, 1) := by decide +kernel
theorem dX10_goes_70 : decode cX10_goes 70 = .ok (.iastore, 1) := by decide +kernel
theorem dX10_goes_71 : decode cX10_goes 71 = .ok (.aload_n 0, 1) := by decide +kernel
theorem dX10_goes_72 : decode cX10_goes 72 = .ok (.getfield 40, 3) := by decide +kernel
theorem dX10_goes_75 : decode cX10_goes 75 = .ok (.iload_n 1, 1) := by decide +kernel
theorem dX10_goes_76 : decode cX10_goes 76 = .ok (.dup2, 1) := by decide +kernel
theorem dX10_goes_77 : decode cX10_goes 77 = .ok (.iaload, 1) := by decide +kernel
theorem dX10_goes_78 : decode cX10_goes 78 = .ok (.iconst 1, 1) := by decide +kernel
theorem dX10_goes_79 : decode cX10_goes 79 = .ok (.iadd, 1) := by decide +kernel
theorem dX10_goes_80 : decode cX10_goes 80 = .ok (.iastore, 1) := by decide +kernel
theorem dX10_goes_81 : decode cX10_goes 81 = .ok (.iconst 1, 1) := by decide +kernel
theorem dX10_goes_82 : decode cX10_goes 82 = .ok (.ireturn, 1) := by decide +kernel
theorem dX10_judges_0 : decode cX10_judges 0 = .ok (.aload_n 0, 1) := by decide +kernel
theorem dX10_judges_1 : decode cX10_judges 1 = .ok (.invokevirtual 125, 3) := by decide +kernel
theorem dX10_judges_4 : decode cX10_judges 4 = .ok (.istore_n 1, 1) := by decide +kernel
theorem dX10_judges_5 : decode cX10_judges 5 = .ok (.aload_n 0, 1) := by decide +kernel
theorem dX10_judges_6 : decode cX10_judges 6 = .ok (.invokevirtual 143, 3) := by decide +kernel
theorem dX10_judges_9 : decode cX10_judges 9 = .ok (.aload_n 0, 1) := by decide +kernel
theorem dX10_judges_10 : decode cX10_judges 10 = .ok (.iconst (-1), 1) := by decide +kernel
theorem dX10_judges_11 : decode cX10_judges 11 = .ok (.putfield 146, 3) := by decide +kernel
theorem dX10_judges_14 : decode cX10_judges 14 = .ok (.aload_n 0, 1) := by decide +kernel
theorem dX10_judges_15 : decode cX10_judges 15 = .ok (.iconst 0, 1) := by decide +kernel
theorem dX10_judges_16 : decode cX10_judges 16 = .ok (.putfield 149, 3) := by decide +kernel
theorem dX10_judges_19 : decode cX10_judges 19 = .ok (.iconst 0, 1) := by decide +kernel
theorem dX10_judges_20 : decode cX10_judges 20 = .ok (.istore_n 2, 1) := by decide +kernel
theorem dX10_judges_21 : decode cX10_judges 21 = .ok (.iconst 0, 1) := by decide +kernel
theorem dX10_judges_22 : decode cX10_judges 22 = .ok (.istore_n 3, 1) := by decide +kernel
theorem dX10_judges_23 : decode cX10_judges 23 = .ok (.iload_n 3, 1) := by decide +kernel
theorem dX10_judges_24 : decode cX10_judges 24 = .ok (.bipush 52, 2) := by decide +kernel
theorem dX10_judges_26 : decode cX10_judges 26 = .ok (.if_icmp .ge 233, 3) := by decide +kernel
theorem dX10_judges_29 : decode cX10_judges 29 = .ok (.iconst 0, 1) := by decide +kernel
theorem dX10_judges_30 : decode cX10_judges 30 = .ok (.istore 4, 2) := by decide +kernel
theorem dX10_judges_32 : decode cX10_judges 32 = .ok (.iconst 0, 1) := by decide +kernel
theorem dX10_judges_33 : decode cX10_judges 33 = .ok (.istore 5, 2) := by decide +kernel
theorem dX10_judges_35 : decode cX10_judges 35 = .ok (.iload_n 2, 1) := by decide +kernel
theorem dX10_judges_36 : decode cX10_judges 36 = .ok (.aload_n 0, 1) := by decide +kernel
theorem dX10_judges_37 : decode cX10_judges 37 = .ok (.getfield 122, 3) := by decide +kernel
theorem dX10_judges_40 : decode cX10_judges 40 = .ok (.if_icmp .ge 83, 3) := by decide +kernel
theorem dX10_judges_43 : decode cX10_judges 43 = .ok (.aload_n 0, 1) := by decide +kernel
theorem dX10_judges_44 : decode cX10_judges 44 = .ok (.getfield 31, 3) := by decide +kernel
theorem dX10_judges_47 : decode cX10_judges 47 = .ok (.iload_n 2, 1) := by decide +kernel
theorem dX10_judges_48 : decode cX10_judges 48 = .ok (.iaload, 1) := by decide +kernel
theorem dX10_judges_49 : decode cX10_judges 49 = .ok (.iload_n 3, 1) := by decide +kernel
theorem dX10_judges_50 : decode cX10_judges 50 = .ok (.if_icmp .ne 73, 3) := by decide +kernel
theorem dX10_judges_53 : decode cX10_judges 53 = .ok (.aload_n 0, 1) := by decide +kernel
theorem dX10_judges_54 : decode cX10_judges 54 = .ok (.getfield 34, 3) := by decide +kernel
theorem dX10_judges_57 : decode cX10_judges 57 = .ok (.iload_n 2, 1) := by decide +kernel
theorem dX10_judges_58 : decode cX10_judges 58 = .ok (.iaload, 1) := by decide +kernel
theorem dX10_judges_59 : decode cX10_judges 59 = .ok (.istore 6, 2) := by decide +kernel
theorem dX10_judges_61 : decode cX10_judges 61 = .ok (.aload_n 0, 1) := by decide +kernel
theorem dX10_judges_62 : decode cX10_judges 62 = .ok (.iload 6, 2) := by decide +kernel
theorem dX10_judges_64 : decode cX10_judges 64 = .ok (.aload_n 0, 1) := by decide +kernel
theorem dX10_judges_65 : decode cX10_judges 65 = .ok (.getfield 40, 3) := by decide +kernel
theorem dX10_judges_68 : decode cX10_judges 68 = .ok (.iload 6, 2) := by decide +kernel
theorem dX10_judges_70 : decode cX10_judges 70 = .ok (.iaload, 1) := by decide +kernel
theorem dX10_judges_71 : decode cX10_judges 71 = .ok (.invokevirtual 140, 3) := by decide +kernel
theorem dX10_judges_74 : decode cX10_judges 74 = .ok (.istore 7, 2) := by decide +kernel
theorem dX10_judges_76 : decode cX10_judges 76 = .ok (.aload_n 0, 1) := by decide +kernel
theorem dX10_judges_77 : decode cX10_judges 77 = .ok (.iload 6, 2) := by decide +kernel
theorem dX10_judges_79 : decode cX10_judges 79 = .ok (.invokevirtual 152, 3) := by decide +kernel
theorem dX10_judges_82 : decode cX10_judges 82 = .ok (.istore 8, 2) := by decide +kernel
theorem dX10_judges_84 : decode cX10_judges 84 = .ok (.iload 4, 2) := by decide +kernel
theorem dX10_judges_86 : decode cX10_judges 86 = .ok (.iload 8, 2) := by decide +kernel
theorem dX10_judges_88 : decode cX10_judges 88 = .ok (.ifCond .eq 8, 3) := by decide +kernel
theorem dX10_judges_91 : decode cX10_judges 91 = .ok (.iload 7, 2) := by decide +kernel
theorem dX10_judges_93 : decode cX10_judges 93 = .ok (.goto 4, 3) := by decide +kernel
theorem dX10_judges_96 : decode cX10_judges 96 = .ok (.iconst 0, 1) := by decide +kernel
theorem dX10_judges_97 : decode cX10_judges 97 = .ok (.iadd, 1) := by decide +kernel
theorem dX10_judges_98 : decode cX10_judges 98 = .ok (.istore 4, 2) := by decide +kernel
theorem dX10_judges_100 : decode cX10_judges 100 = .ok (.iload 5, 2) := by decide +kernel
theorem dX10_judges_102 : decode cX10_judges 102 = .ok (.ifCond .ne 8, 3) := by decide +kernel
theorem dX10_judges_105 : decode cX10_judges 105 = .ok (.iload 8, 2) := by decide +kernel
theorem dX10_judges_107 : decode cX10_judges 107 = .ok (.ifCond .ne 7, 3) := by decide +kernel
theorem dX10_judges_110 : decode cX10_judges 110 = .ok (.iconst 1, 1) := by decide +kernel
theorem dX10_judges_111 : decode cX10_judges 111 = .ok (.goto 4, 3) := by decide +kernel
theorem dX10_judges_114 : decode cX10_judges 114 = .ok (.iconst 0, 1) := by decide +kernel
theorem dX10_judges_115 : decode cX10_judges 115 = .ok (.istore 5, 2) := by decide +kernel
theorem dX10_judges_117 : decode cX10_judges 117 = .ok (.iinc 2 1, 3) := by decide +kernel
theorem dX10_judges_120 : decode cX10_judges 120 = .ok (.goto (-85), 3) := by decide +kernel
theorem dX10_judges_123 : decode cX10_judges 123 = .ok (.iconst 0, 1) := by decide +kernel
theorem dX10_judges_124 : decode cX10_judges 124 = .ok (.istore 6, 2) := by decide +kernel
theorem dX10_judges_126 : decode cX10_judges 126 = .ok (.iconst 0, 1) := by decide +kernel
theorem dX10_judges_127 : decode cX10_judges 127 = .ok (.istore 7, 2) := by decide +kernel
theorem dX10_judges_129 : decode cX10_judges 129 = .ok (.iload 7, 2) := by decide +kernel
theorem dX10_judges_131 : decode cX10_judges 131 = .ok (.aload_n 0, 1) := by decide +kernel
theorem dX10_judges_132 : decode cX10_judges 132 = .ok (.getfield 111, 3) := by decide +kernel
theorem dX10_judges_135 : decode cX10_judges 135 = .ok (.if_icmp .ge 36, 3) := by decide +kernel
theorem dX10_judges_138 : decode cX10_judges 138 = .ok (.iload 6, 2) := by decide +kernel
theorem dX10_judges_140 : decode cX10_judges 140 = .ok (.ifCond .ne 18, 3) := by decide +kernel
theorem dX10_judges_143 : decode cX10_judges 143 = .ok (.aload_n 0, 1) := by decide +kernel
theorem dX10_judges_144 : decode cX10_judges 144 = .ok (.getfield 37, 3) := by decide +kernel
theorem dX10_judges_147 : decode cX10_judges 147 = .ok (.iload 7, 2) := by decide +kernel
theorem dX10_judges_149 : decode cX10_judges 149 = .ok (.iaload, 1) := by decide +kernel
theorem dX10_judges_150 : decode cX10_judges 150 = .ok (.aload_n 0, 1) := by decide +kernel
theorem dX10_judges_151 : decode cX10_judges 151 = .ok (.iload_n 3, 1) := by decide +kernel
theorem dX10_judges_152 : decode cX10_judges 152 = .ok (.invokevirtual 104, 3) := by decide +kernel
theorem dX10_judges_155 : decode cX10_judges 155 = .ok (.if_icmp .ge 7, 3) := by decide +kernel
theorem dX10_judges_158 : decode cX10_judges 158 = .ok (.iconst 1, 1) := by decide +kernel
theorem dX10_judges_159 : decode cX10_judges 159 = .ok (.goto 4, 3) := by decide +kernel
theorem dX10_judges_162 : decode cX10_judges 162 = .ok (.iconst 0, 1) := by decide +kernel
theorem dX10_judges_163 : decode cX10_judges 163 = .ok (.istore 6, 2) := by decide +kernel
theorem dX10_judges_165 : decode cX10_judges 165 = .ok (.iinc 7 1, 3) := by decide +kernel
theorem dX10_judges_168 : decode cX10_judges 168 = .ok (.goto (-39), 3) := by decide +kernel
theorem dX10_judges_171 : decode cX10_judges 171 = .ok (.iload 5, 2) := by decide +kernel
theorem dX10_judges_173 : decode cX10_judges 173 = .ok (.ifCond .eq 7, 3) := by decide +kernel
theorem dX10_judges_176 : decode cX10_judges 176 = .ok (.iconst 3, 1) := by decide +kernel
theorem dX10_judges_177 : decode cX10_judges 177 = .ok (.goto 28, 3) := by decide +kernel
theorem dX10_judges_180 : decode cX10_judges 180 = .ok (.iload 4, 2) := by decide +kernel
theorem dX10_judges_182 : decode cX10_judges 182 = .ok (.aload_n 0, 1) := by decide +kernel
theorem dX10_judges_183 : decode cX10_judges 183 = .ok (.getfield 13, 3) := by decide +kernel
theorem dX10_judges_186 : decode cX10_judges 186 = .ok (.iconst 1, 1) := by decide +kernel
theorem dX10_judges_187 : decode cX10_judges 187 = .ok (.iaload, 1) := by decide +kernel
theorem dX10_judges_188 : decode cX10_judges 188 = .ok (.if_icmp .le 7, 3) := by decide +kernel
theorem dX10_judges_191 : decode cX10_judges 191 = .ok (.iconst 2, 1) := by decide +kernel
theorem dX10_judges_192 : decode cX10_judges 192 = .ok (.goto 13, 3) := by decide +kernel
theorem dX10_judges_195 : decode cX10_judges 195 = .ok (.iload 6, 2) := by decide +kernel
theorem dX10_judges_197 : decode cX10_judges 197 = .ok (.ifCond .eq 7, 3) := by decide +kernel
theorem dX10_judges_200 : decode cX10_judges 200 = .ok (.iconst 1, 1) := by decide +kernel
theorem dX10_judges_201 : decode cX10_judges 201 = .ok (.goto 4, 3) := by decide +kernel
theorem dX10_judges_204 : decode cX10_judges 204 = .ok (.iconst 0, 1) := by decide +kernel
theorem dX10_judges_205 : decode cX10_judges 205 = .ok (.istore 7, 2) := by decide +kernel
theorem dX10_judges_207 : decode cX10_judges 207 = .ok (.aload_n 0, 1) := by decide +kernel
theorem dX10_judges_208 : decode cX10_judges 208 = .ok (.aload_n 0, 1) := by decide +kernel
theorem dX10_judges_209 : decode cX10_judges 209 = .ok (.getfield 146, 3) := by decide +kernel
theorem dX10_judges_212 : decode cX10_judges 212 = .ok (.iconst (-1), 1) := by decide +kernel
theorem dX10_judges_213 : decode cX10_judges 213 = .ok (.if_icmp .ne 8, 3) := by decide +kernel
theorem dX10_judges_216 : decode cX10_judges 216 = .ok (.iload 7, 2) := by decide +kernel
theorem dX10_judges_218 : decode cX10_judges 218 = .ok (.goto 7, 3) := by decide +kernel
theorem dX10_judges_221 : decode cX10_judges 221 = .ok (.aload_n 0, 1) := by decide +kernel
theorem dX10_judges_222 : decode cX10_judges 222 = .ok (.getfield 149, 3) := by decide +kernel
theorem dX10_judges_225 : decode cX10_judges 225 = .ok (.putfield 149, 3) := by decide +kernel
theorem dX10_judges_228 : decode cX10_judges 228 = .ok (.aload_n 0, 1) := by decide +kernel
theorem dX10_judges_229 : decode cX10_judges 229 = .ok (.aload_n 0, 1) := by decide +kernel
theorem dX10_judges_230 : decode cX10_judges 230 = .ok (.getfield 146, 3) := by decide +kernel
theorem dX10_judges_233 : decode cX10_judges 233 = .ok (.iconst (-1), 1) := by decide +kernel
theorem dX10_judges_234 : decode cX10_judges 234 = .ok (.if_icmp .ne 12, 3) := by decide +kernel
theorem dX10_judges_237 : decode cX10_judges 237 = .ok (.iload 7, 2) := by decide +kernel
theorem dX10_judges_239 : decode cX10_judges 239 = .ok (.ifCond .le 7, 3) := by decide +kernel
theorem dX10_judges_242 : decode cX10_judges 242 = .ok (.iload_n 3, 1) := by decide +kernel
theorem dX10_judges_243 : decode cX10_judges 243 = .ok (.goto 7, 3) := by decide +kernel
theorem dX10_judges_246 : decode cX10_judges 246 = .ok (.aload_n 0, 1) := by decide +kernel
theorem dX10_judges_247 : decode cX10_judges 247 = .ok (.getfield 146, 3) := by decide +kernel
theorem dX10_judges_250 : decode cX10_judges 250 = .ok (.putfield 146, 3) := by decide +kernel
theorem dX10_judges_253 : decode cX10_judges 253 = .ok (.iinc 3 1, 3) := by decide +kernel
theorem dX10_judges_256 : decode cX10_judges 256 = .ok (.goto (-233), 3) := by decide +kernel
theorem dX10_judges_259 : decode cX10_judges 259 = .ok (.return_, 1) := by decide +kernel
theorem dX10_judgedOf_0 : decode cX10_judgedOf 0 = .ok (.aload_n 0, 1) := by decide +kernel
theorem dX10_judgedOf_1 : decode cX10_judgedOf 1 = .ok (.invokevirtual 155, 3) := by decide +kernel
theorem dX10_judgedOf_4 : decode cX10_judgedOf 4 = .ok (.iload_n 1, 1) := by decide +kernel
theorem dX10_judgedOf_5 : decode cX10_judgedOf 5 = .ok (.ifCond .ne 10, 3) := by decide +kernel
theorem dX10_judgedOf_8 : decode cX10_judgedOf 8 = .ok (.aload_n 0, 1) := by decide +kernel
theorem dX10_judgedOf_9 : decode cX10_judgedOf 9 = .ok (.getfield 146, 3) := by decide +kernel
theorem dX10_judgedOf_12 : decode cX10_judgedOf 12 = .ok (.goto 7, 3) := by decide +kernel
theorem dX10_judgedOf_15 : decode cX10_judgedOf 15 = .ok (.aload_n 0, 1) := by decide +kernel
theorem dX10_judgedOf_16 : decode cX10_judgedOf 16 = .ok (.getfield 149, 3) := by decide +kernel
theorem dX10_judgedOf_19 : decode cX10_judgedOf 19 = .ok (.ireturn, 1) := by decide +kernel
theorem dX10_judged_0 : decode cX10_judged 0 = .ok (.iload_n 1, 1) := by decide +kernel
theorem dX10_judged_1 : decode cX10_judged 1 = .ok (.iconst 0, 1) := by decide +kernel
theorem dX10_judged_2 : decode cX10_judged 2 = .ok (.iconst 1, 1) := by decide +kernel
theorem dX10_judged_3 : decode cX10_judged 3 = .ok (.invokestatic 89, 3) := by decide +kernel
theorem dX10_judged_6 : decode cX10_judged 6 = .ok (.ifCond .eq 11, 3) := by decide +kernel
theorem dX10_judged_9 : decode cX10_judged 9 = .ok (.aload_n 0, 1) := by decide +kernel
theorem dX10_judged_10 : decode cX10_judged 10 = .ok (.iload_n 1, 1) := by decide +kernel
theorem dX10_judged_11 : decode cX10_judged 11 = .ok (.invokevirtual 158, 3) := by decide +kernel
theorem dX10_judged_14 : decode cX10_judged 14 = .ok (.goto 5, 3) := by decide +kernel
theorem dX10_judged_17 : decode cX10_judged 17 = .ok (.bipush (-2), 2) := by decide +kernel
theorem dX10_judged_19 : decode cX10_judged 19 = .ok (.ireturn, 1) := by decide +kernel
theorem dX10_endsOf_0 : decode cX10_endsOf 0 = .ok (.aload_n 0, 1) := by decide +kernel
theorem dX10_endsOf_1 : decode cX10_endsOf 1 = .ok (.invokevirtual 155, 3) := by decide +kernel
theorem dX10_endsOf_4 : decode cX10_endsOf 4 = .ok (.aload_n 0, 1) := by decide +kernel
theorem dX10_endsOf_5 : decode cX10_endsOf 5 = .ok (.getfield 37, 3) := by decide +kernel
theorem dX10_endsOf_8 : decode cX10_endsOf 8 = .ok (.iload_n 1, 1) := by decide +kernel
theorem dX10_endsOf_9 : decode cX10_endsOf 9 = .ok (.iaload, 1) := by decide +kernel
theorem dX10_endsOf_10 : decode cX10_endsOf 10 = .ok (.ireturn, 1) := by decide +kernel
theorem dX10_ends_0 : decode cX10_ends 0 = .ok (.aload_n 0, 1) := by decide +kernel
theorem dX10_ends_1 : decode cX10_ends 1 = .ok (.iload_n 1, 1) := by decide +kernel
theorem dX10_ends_2 : decode cX10_ends 2 = .ok (.invokevirtual 134, 3) := by decide +kernel
theorem dX10_ends_5 : decode cX10_ends 5 = .ok (.ifCond .eq 11, 3) := by decide +kernel
theorem dX10_ends_8 : decode cX10_ends 8 = .ok (.aload_n 0, 1) := by decide +kernel
theorem dX10_ends_9 : decode cX10_ends 9 = .ok (.iload_n 1, 1) := by decide +kernel
theorem dX10_ends_10 : decode cX10_ends 10 = .ok (.invokevirtual 161, 3) := by decide +kernel
theorem dX10_ends_13 : decode cX10_ends 13 = .ok (.goto 5, 3) := by decide +kernel
theorem dX10_ends_16 : decode cX10_ends 16 = .ok (.bipush (-2), 2) := by decide +kernel
theorem dX10_ends_18 : decode cX10_ends 18 = .ok (.ireturn, 1) := by decide +kernel
theorem dX10_nextOne_0 : decode cX10_nextOne 0 = .ok (.iconst (-1), 1) := by decide +kernel
theorem dX10_nextOne_1 : decode cX10_nextOne 1 = .ok (.istore_n 1, 1) := by decide +kernel
theorem dX10_nextOne_2 : decode cX10_nextOne 2 = .ok (.iconst 0, 1) := by decide +kernel
theorem dX10_nextOne_3 : decode cX10_nextOne 3 = .ok (.istore_n 2, 1) := by decide +kernel
theorem dX10_nextOne_4 : decode cX10_nextOne 4 = .ok (.iload_n 2, 1) := by decide +kernel
theorem dX10_nextOne_5 : decode cX10_nextOne 5 = .ok (.aload_n 0, 1) := by decide +kernel
theorem dX10_nextOne_6 : decode cX10_nextOne 6 = .ok (.getfield 111, 3) := by decide +kernel
theorem dX10_nextOne_9 : decode cX10_nextOne 9 = .ok (.if_icmp .ge 35, 3) := by decide +kernel
theorem dX10_nextOne_12 : decode cX10_nextOne 12 = .ok (.iload_n 1, 1) := by decide +kernel
theorem dX10_nextOne_13 : decode cX10_nextOne 13 = .ok (.iconst (-1), 1) := by decide +kernel
theorem dX10_nextOne_14 : decode cX10_nextOne 14 = .ok (.if_icmp .eq 18, 3) := by decide +kernel
theorem dX10_nextOne_17 : decode cX10_nextOne 17 = .ok (.aload_n 0, 1) := by decide +kernel
theorem dX10_nextOne_18 : decode cX10_nextOne 18 = .ok (.getfield 37, 3) := by decide +kernel
theorem dX10_nextOne_21 : decode cX10_nextOne 21 = .ok (.iload_n 2, 1) := by decide +kernel
theorem dX10_nextOne_22 : decode cX10_nextOne 22 = .ok (.iaload, 1) := by decide +kernel
theorem dX10_nextOne_23 : decode cX10_nextOne 23 = .ok (.aload_n 0, 1) := by decide +kernel
theorem dX10_nextOne_24 : decode cX10_nextOne 24 = .ok (.getfield 37, 3) := by decide +kernel
theorem dX10_nextOne_27 : decode cX10_nextOne 27 = .ok (.iload_n 1, 1) := by decide +kernel
theorem dX10_nextOne_28 : decode cX10_nextOne 28 = .ok (.iaload, 1) := by decide +kernel
theorem dX10_nextOne_29 : decode cX10_nextOne 29 = .ok (.if_icmp .ge 7, 3) := by decide +kernel
theorem dX10_nextOne_32 : decode cX10_nextOne 32 = .ok (.iload_n 2, 1) := by decide +kernel
theorem dX10_nextOne_33 : decode cX10_nextOne 33 = .ok (.goto 4, 3) := by decide +kernel
theorem dX10_nextOne_36 : decode cX10_nextOne 36 = .ok (.iload_n 1, 1) := by decide +kernel
theorem dX10_nextOne_37 : decode cX10_nextOne 37 = .ok (.istore_n 1, 1) := by decide +kernel
theorem dX10_nextOne_38 : decode cX10_nextOne 38 = .ok (.iinc 2 1, 3) := by decide +kernel
theorem dX10_nextOne_41 : decode cX10_nextOne 41 = .ok (.goto (-37), 3) := by decide +kernel
theorem dX10_nextOne_44 : decode cX10_nextOne 44 = .ok (.iload_n 1, 1) := by decide +kernel
theorem dX10_nextOne_45 : decode cX10_nextOne 45 = .ok (.ireturn, 1) := by decide +kernel
theorem dX10_queues_0 : decode cX10_queues 0 = .ok (.aload_n 0, 1) := by decide +kernel
theorem dX10_queues_1 : decode cX10_queues 1 = .ok (.invokevirtual 118, 3) := by decide +kernel
theorem dX10_queues_4 : decode cX10_queues 4 = .ok (.istore_n 2, 1) := by decide +kernel
theorem dX10_queues_5 : decode cX10_queues 5 = .ok (.aload_n 0, 1) := by decide +kernel
theorem dX10_queues_6 : decode cX10_queues 6 = .ok (.invokevirtual 143, 3) := by decide +kernel
theorem dX10_queues_9 : decode cX10_queues 9 = .ok (.iconst 0, 1) := by decide +kernel
theorem dX10_queues_10 : decode cX10_queues 10 = .ok (.istore_n 3, 1) := by decide +kernel
theorem dX10_queues_11 : decode cX10_queues 11 = .ok (.iload_n 3, 1) := by decide +kernel
theorem dX10_queues_12 : decode cX10_queues 12 = .ok (.iload_n 1, 1) := by decide +kernel
theorem dX10_queues_13 : decode cX10_queues 13 = .ok (.if_icmp .ge 26, 3) := by decide +kernel
theorem dX10_queues_16 : decode cX10_queues 16 = .ok (.aload_n 0, 1) := by decide +kernel
theorem dX10_queues_17 : decode cX10_queues 17 = .ok (.getfield 111, 3) := by decide +kernel
theorem dX10_queues_20 : decode cX10_queues 20 = .ok (.ifCond .le 19, 3) := by decide +kernel
theorem dX10_queues_23 : decode cX10_queues 23 = .ok (.aload_n 0, 1) := by decide +kernel
theorem dX10_queues_24 : decode cX10_queues 24 = .ok (.aload_n 0, 1) := by decide +kernel
theorem dX10_queues_25 : decode cX10_queues 25 = .ok (.invokevirtual 164, 3) := by decide +kernel
theorem dX10_queues_28 : decode cX10_queues 28 = .ok (.invokevirtual 152, 3) := by decide +kernel
theorem dX10_queues_31 : decode cX10_queues 31 = .ok (.istore 4, 2) := by decide +kernel
theorem dX10_queues_33 : decode cX10_queues 33 = .ok (.iinc 3 1, 3) := by decide +kernel
theorem dX10_queues_36 : decode cX10_queues 36 = .ok (.goto (-25), 3) := by decide +kernel
theorem dX10_queues_39 : decode cX10_queues 39 = .ok (.return_, 1) := by decide +kernel
theorem dX10_queueOf_0 : decode cX10_queueOf 0 = .ok (.aload_n 0, 1) := by decide +kernel
theorem dX10_queueOf_1 : decode cX10_queueOf 1 = .ok (.iload_n 1, 1) := by decide +kernel
theorem dX10_queueOf_2 : decode cX10_queueOf 2 = .ok (.invokevirtual 167, 3) := by decide +kernel
theorem dX10_queueOf_5 : decode cX10_queueOf 5 = .ok (.iload_n 2, 1) := by decide +kernel
theorem dX10_queueOf_6 : decode cX10_queueOf 6 = .ok (.iconst (-1), 1) := by decide +kernel
theorem dX10_queueOf_7 : decode cX10_queueOf 7 = .ok (.if_icmp .ne 10, 3) := by decide +kernel
theorem dX10_queueOf_10 : decode cX10_queueOf 10 = .ok (.aload_n 0, 1) := by decide +kernel
theorem dX10_queueOf_11 : decode cX10_queueOf 11 = .ok (.invokevirtual 164, 3) := by decide +kernel
theorem dX10_queueOf_14 : decode cX10_queueOf 14 = .ok (.goto 9, 3) := by decide +kernel
theorem dX10_queueOf_17 : decode cX10_queueOf 17 = .ok (.aload_n 0, 1) := by decide +kernel
theorem dX10_queueOf_18 : decode cX10_queueOf 18 = .ok (.getfield 37, 3) := by decide +kernel
theorem dX10_queueOf_21 : decode cX10_queueOf 21 = .ok (.iload_n 2, 1) := by decide +kernel
theorem dX10_queueOf_22 : decode cX10_queueOf 22 = .ok (.iaload, 1) := by decide +kernel
theorem dX10_queueOf_23 : decode cX10_queueOf 23 = .ok (.ireturn, 1) := by decide +kernel
theorem dX10_queue_0 : decode cX10_queue 0 = .ok (.iload_n 1, 1) := by decide +kernel
theorem dX10_queue_1 : decode cX10_queue 1 = .ok (.iconst 0, 1) := by decide +kernel
theorem dX10_queue_2 : decode cX10_queue 2 = .ok (.bipush 40, 2) := by decide +kernel
theorem dX10_queue_4 : decode cX10_queue 4 = .ok (.invokestatic 89, 3) := by decide +kernel
theorem dX10_queue_7 : decode cX10_queue 7 = .ok (.ifCond .eq 25, 3) := by decide +kernel
theorem dX10_queue_10 : decode cX10_queue 10 = .ok (.iload_n 2, 1) := by decide +kernel
theorem dX10_queue_11 : decode cX10_queue 11 = .ok (.iconst (-1), 1) := by decide +kernel
theorem dX10_queue_12 : decode cX10_queue 12 = .ok (.if_icmp .eq 11, 3) := by decide +kernel
theorem dX10_queue_15 : decode cX10_queue 15 = .ok (.aload_n 0, 1) := by decide +kernel
theorem dX10_queue_16 : decode cX10_queue 16 = .ok (.iload_n 2, 1) := by decide +kernel
theorem dX10_queue_17 : decode cX10_queue 17 = .ok (.invokevirtual 134, 3) := by decide +kernel
theorem dX10_queue_20 : decode cX10_queue 20 = .ok (.ifCond .eq 12, 3) := by decide +kernel
theorem dX10_queue_23 : decode cX10_queue 23 = .ok (.aload_n 0, 1) := by decide +kernel
theorem dX10_queue_24 : decode cX10_queue 24 = .ok (.iload_n 1, 1) := by decide +kernel
theorem dX10_queue_25 : decode cX10_queue 25 = .ok (.iload_n 2, 1) := by decide +kernel
theorem dX10_queue_26 : decode cX10_queue 26 = .ok (.invokevirtual 171, 3) := by decide +kernel
theorem dX10_queue_29 : decode cX10_queue 29 = .ok (.goto 5, 3) := by decide +kernel
theorem dX10_queue_32 : decode cX10_queue 32 = .ok (.bipush (-2), 2) := by decide +kernel
theorem dX10_queue_34 : decode cX10_queue 34 = .ok (.ireturn, 1) := by decide +kernel
theorem dX10_needsBy_0 : decode cX10_needsBy 0 = .ok (.aload_n 0, 1) := by decide +kernel
theorem dX10_needsBy_1 : decode cX10_needsBy 1 = .ok (.invokevirtual 143, 3) := by decide +kernel
theorem dX10_needsBy_4 : decode cX10_needsBy 4 = .ok (.iconst 0, 1) := by decide +kernel
theorem dX10_needsBy_5 : decode cX10_needsBy 5 = .ok (.istore_n 2, 1) := by decide +kernel
theorem dX10_needsBy_6 : decode cX10_needsBy 6 = .ok (.aload_n 0, 1) := by decide +kernel
theorem dX10_needsBy_7 : decode cX10_needsBy 7 = .ok (.getfield 111, 3) := by decide +kernel
theorem dX10_needsBy_10 : decode cX10_needsBy 10 = .ok (.ifCond .le 59, 3) := by decide +kernel
theorem dX10_needsBy_13 : decode cX10_needsBy 13 = .ok (.aload_n 0, 1) := by decide +kernel
theorem dX10_needsBy_14 : decode cX10_needsBy 14 = .ok (.getfield 37, 3) := by decide +kernel
theorem dX10_needsBy_17 : decode cX10_needsBy 17 = .ok (.aload_n 0, 1) := by decide +kernel
theorem dX10_needsBy_18 : decode cX10_needsBy 18 = .ok (.invokevirtual 164, 3) := by decide +kernel
theorem dX10_needsBy_21 : decode cX10_needsBy 21 = .ok (.iaload, 1) := by decide +kernel
theorem dX10_needsBy_22 : decode cX10_needsBy 22 = .ok (.iload_n 1, 1) := by decide +kernel
theorem dX10_needsBy_23 : decode cX10_needsBy 23 = .ok (.if_icmp .ge 46, 3) := by decide +kernel
theorem dX10_needsBy_26 : decode cX10_needsBy 26 = .ok (.aload_n 0, 1) := by decide +kernel
theorem dX10_needsBy_27 : decode cX10_needsBy 27 = .ok (.invokevirtual 164, 3) := by decide +kernel
theorem dX10_needsBy_30 : decode cX10_needsBy 30 = .ok (.istore_n 3, 1) := by decide +kernel
theorem dX10_needsBy_31 : decode cX10_needsBy 31 = .ok (.aload_n 0, 1) := by decide +kernel
theorem dX10_needsBy_32 : decode cX10_needsBy 32 = .ok (.iload_n 3, 1) := by decide +kernel
theorem dX10_needsBy_33 : decode cX10_needsBy 33 = .ok (.aload_n 0, 1) := by decide +kernel
theorem dX10_needsBy_34 : decode cX10_needsBy 34 = .ok (.getfield 40, 3) := by decide +kernel
theorem dX10_needsBy_37 : decode cX10_needsBy 37 = .ok (.iload_n 3, 1) := by decide +kernel
theorem dX10_needsBy_38 : decode cX10_needsBy 38 = .ok (.iaload, 1) := by decide +kernel
theorem dX10_needsBy_39 : decode cX10_needsBy 39 = .ok (.invokevirtual 140, 3) := by decide +kernel
theorem dX10_needsBy_42 : decode cX10_needsBy 42 = .ok (.istore 4, 2) := by decide +kernel
theorem dX10_needsBy_44 : decode cX10_needsBy 44 = .ok (.aload_n 0, 1) := by decide +kernel
theorem dX10_needsBy_45 : decode cX10_needsBy 45 = .ok (.iload_n 3, 1) := by decide +kernel
theorem dX10_needsBy_46 : decode cX10_needsBy 46 = .ok (.invokevirtual 152, 3) := by decide +kernel
theorem dX10_needsBy_49 : decode cX10_needsBy 49 = .ok (.ifCond .ne 6, 3) := by decide +kernel
theorem dX10_needsBy_52 : decode cX10_needsBy 52 = .ok (.bipush (-3), 2) := by decide +kernel
theorem dX10_needsBy_54 : decode cX10_needsBy 54 = .ok (.ireturn, 1) := by decide +kernel
theorem dX10_needsBy_55 : decode cX10_needsBy 55 = .ok (.aload_n 0, 1) := by decide +kernel
theorem dX10_needsBy_56 : decode cX10_needsBy 56 = .ok (.getfield 43, 3) := by decide +kernel
theorem dX10_needsBy_59 : decode cX10_needsBy 59 = .ok (.iload_n 2, 1) := by decide +kernel
theorem dX10_needsBy_60 : decode cX10_needsBy 60 = .ok (.iload 4, 2) := by decide +kernel
theorem dX10_needsBy_62 : decode cX10_needsBy 62 = .ok (.iastore, 1) := by decide +kernel
theorem dX10_needsBy_63 : decode cX10_needsBy 63 = .ok (.iinc 2 1, 3) := by decide +kernel
theorem dX10_needsBy_66 : decode cX10_needsBy 66 = .ok (.goto (-60), 3) := by decide +kernel
theorem dX10_needsBy_69 : decode cX10_needsBy 69 = .ok (.iload_n 2, 1) := by decide +kernel
theorem dX10_needsBy_70 : decode cX10_needsBy 70 = .ok (.ireturn, 1) := by decide +kernel
theorem dX10_needsOf_0 : decode cX10_needsOf 0 = .ok (.aload_n 0, 1) := by decide +kernel
theorem dX10_needsOf_1 : decode cX10_needsOf 1 = .ok (.invokevirtual 118, 3) := by decide +kernel
theorem dX10_needsOf_4 : decode cX10_needsOf 4 = .ok (.istore_n 2, 1) := by decide +kernel
theorem dX10_needsOf_5 : decode cX10_needsOf 5 = .ok (.aload_n 0, 1) := by decide +kernel
theorem dX10_needsOf_6 : decode cX10_needsOf 6 = .ok (.aload_n 0, 1) := by decide +kernel
theorem dX10_needsOf_7 : decode cX10_needsOf 7 = .ok (.iload_n 1, 1) := by decide +kernel
theorem dX10_needsOf_8 : decode cX10_needsOf 8 = .ok (.invokevirtual 104, 3) := by decide +kernel
theorem dX10_needsOf_11 : decode cX10_needsOf 11 = .ok (.invokevirtual 174, 3) := by decide +kernel
theorem dX10_needsOf_14 : decode cX10_needsOf 14 = .ok (.ireturn, 1) := by decide +kernel
theorem dX10_needs_0 : decode cX10_needs 0 = .ok (.iload_n 1, 1) := by decide +kernel
theorem dX10_needs_1 : decode cX10_needs 1 = .ok (.invokestatic 93, 3) := by decide +kernel
theorem dX10_needs_4 : decode cX10_needs 4 = .ok (.ifCond .eq 11, 3) := by decide +kernel
theorem dX10_needs_7 : decode cX10_needs 7 = .ok (.aload_n 0, 1) := by decide +kernel
theorem dX10_needs_8 : decode cX10_needs 8 = .ok (.iload_n 1, 1) := by decide +kernel
theorem dX10_needs_9 : decode cX10_needs 9 = .ok (.invokevirtual 177, 3) := by decide +kernel
theorem dX10_needs_12 : decode cX10_needs 12 = .ok (.goto 5, 3) := by decide +kernel
theorem dX10_needs_15 : decode cX10_needs 15 = .ok (.bipush (-2), 2) := by decide +kernel
theorem dX10_needs_17 : decode cX10_needs 17 = .ok (.ireturn, 1) := by decide +kernel
theorem dX10_areEnough_0 : decode cX10_areEnough 0 = .ok (.iconst 0, 1) := by decide +kernel
theorem dX10_areEnough_1 : decode cX10_areEnough 1 = .ok (.istore 4, 2) := by decide +kernel
theorem dX10_areEnough_3 : decode cX10_areEnough 3 = .ok (.iconst 0, 1) := by decide +kernel
theorem dX10_areEnough_4 : decode cX10_areEnough 4 = .ok (.istore 5, 2) := by decide +kernel
theorem dX10_areEnough_6 : decode cX10_areEnough 6 = .ok (.iload 5, 2) := by decide +kernel
theorem dX10_areEnough_8 : decode cX10_areEnough 8 = .ok (.iload_n 2, 1) := by decide +kernel
theorem dX10_areEnough_9 : decode cX10_areEnough 9 = .ok (.if_icmp .gt 71, 3) := by decide +kernel
theorem dX10_areEnough_12 : decode cX10_areEnough 12 = .ok (.iload_n 1, 1) := by decide +kernel
theorem dX10_areEnough_13 : decode cX10_areEnough 13 = .ok (.istore 6, 2) := by decide +kernel
theorem dX10_areEnough_15 : decode cX10_areEnough 15 = .ok (.iload 4, 2) := by decide +kernel
theorem dX10_areEnough_17 : decode cX10_areEnough 17 = .ok (.iload_n 3, 1) := by decide +kernel
theorem dX10_areEnough_18 : decode cX10_areEnough 18 = .ok (.if_icmp .ge 42, 3) := by decide +kernel
theorem dX10_areEnough_21 : decode cX10_areEnough 21 = .ok (.aload_n 0, 1) := by decide +kernel
theorem dX10_areEnough_22 : decode cX10_areEnough 22 = .ok (.getfield 43, 3) := by decide +kernel
theorem dX10_areEnough_25 : decode cX10_areEnough 25 = .ok (.iload 4, 2) := by decide +kernel
theorem dX10_areEnough_27 : decode cX10_areEnough 27 = .ok (.iaload, 1) := by decide +kernel
theorem dX10_areEnough_28 : decode cX10_areEnough 28 = .ok (.iload 6, 2) := by decide +kernel
theorem dX10_areEnough_30 : decode cX10_areEnough 30 = .ok (.if_icmp .gt 30, 3) := by decide +kernel
theorem dX10_areEnough_33 : decode cX10_areEnough 33 = .ok (.iload 6, 2) := by decide +kernel
theorem dX10_areEnough_35 : decode cX10_areEnough 35 = .ok (.aload_n 0, 1) := by decide +kernel
theorem dX10_areEnough_36 : decode cX10_areEnough 36 = .ok (.getfield 43, 3) := by decide +kernel
theorem dX10_areEnough_39 : decode cX10_areEnough 39 = .ok (.iload 4, 2) := by decide +kernel
theorem dX10_areEnough_41 : decode cX10_areEnough 41 = .ok (.iaload, 1) := by decide +kernel
theorem dX10_areEnough_42 : decode cX10_areEnough 42 = .ok (.isub, 1) := by decide +kernel
theorem dX10_areEnough_43 : decode cX10_areEnough 43 = .ok (.istore 6, 2) := by decide +kernel
theorem dX10_areEnough_45 : decode cX10_areEnough 45 = .ok (.aload_n 0, 1) := by decide +kernel
theorem dX10_areEnough_46 : decode cX10_areEnough 46 = .ok (.getfield 49, 3) := by decide +kernel
theorem dX10_areEnough_49 : decode cX10_areEnough 49 = .ok (.iload 4, 2) := by decide +kernel
theorem dX10_areEnough_51 : decode cX10_areEnough 51 = .ok (.iload 5, 2) := by decide +kernel
theorem dX10_areEnough_53 : decode cX10_areEnough 53 = .ok (.iastore, 1) := by decide +kernel
theorem dX10_areEnough_54 : decode cX10_areEnough 54 = .ok (.iinc 4 1, 3) := by decide +kernel
theorem dX10_areEnough_57 : decode cX10_areEnough 57 = .ok (.goto (-42), 3) := by decide +kernel
theorem dX10_areEnough_60 : decode cX10_areEnough 60 = .ok (.iload 4, 2) := by decide +kernel
theorem dX10_areEnough_62 : decode cX10_areEnough 62 = .ok (.aload_n 0, 1) := by decide +kernel
theorem dX10_areEnough_63 : decode cX10_areEnough 63 = .ok (.getfield 46, 3) := by decide +kernel
theorem dX10_areEnough_66 : decode cX10_areEnough 66 = .ok (.iload 5, 2) := by decide +kernel
theorem dX10_areEnough_68 : decode cX10_areEnough 68 = .ok (.iaload, 1) := by decide +kernel
theorem dX10_areEnough_69 : decode cX10_areEnough 69 = .ok (.if_icmp .ge 5, 3) := by decide +kernel
theorem dX10_areEnough_72 : decode cX10_areEnough 72 = .ok (.iconst 0, 1) := by decide +kernel
theorem dX10_areEnough_73 : decode cX10_areEnough 73 = .ok (.ireturn, 1) := by decide +kernel
theorem dX10_areEnough_74 : decode cX10_areEnough 74 = .ok (.iinc 5 1, 3) := by decide +kernel
theorem dX10_areEnough_77 : decode cX10_areEnough 77 = .ok (.goto (-71), 3) := by decide +kernel
theorem dX10_areEnough_80 : decode cX10_areEnough 80 = .ok (.iconst 1, 1) := by decide +kernel
theorem dX10_areEnough_81 : decode cX10_areEnough 81 = .ok (.ireturn, 1) := by decide +kernel
theorem dX10_fewestBy_0 : decode cX10_fewestBy 0 = .ok (.iconst 0, 1) := by decide +kernel
theorem dX10_fewestBy_1 : decode cX10_fewestBy 1 = .ok (.istore_n 2, 1) := by decide +kernel
theorem dX10_fewestBy_2 : decode cX10_fewestBy 2 = .ok (.iload_n 2, 1) := by decide +kernel
theorem dX10_fewestBy_3 : decode cX10_fewestBy 3 = .ok (.iload_n 1, 1) := by decide +kernel
theorem dX10_fewestBy_4 : decode cX10_fewestBy 4 = .ok (.if_icmp .gt 24, 3) := by decide +kernel
theorem dX10_fewestBy_7 : decode cX10_fewestBy 7 = .ok (.aload_n 0, 1) := by decide +kernel
theorem dX10_fewestBy_8 : decode cX10_fewestBy 8 = .ok (.getfield 46, 3) := by decide +kernel
theorem dX10_fewestBy_11 : decode cX10_fewestBy 11 = .ok (.iload_n 2, 1) := by decide +kernel
theorem dX10_fewestBy_12 : decode cX10_fewestBy 12 = .ok (.aload_n 0, 1) := by decide +kernel
theorem dX10_fewestBy_13 : decode cX10_fewestBy 13 = .ok (.aload_n 0, 1) := by decide +kernel
theorem dX10_fewestBy_14 : decode cX10_fewestBy 14 = .ok (.iload_n 2, 1) := by decide +kernel
theorem dX10_fewestBy_15 : decode cX10_fewestBy 15 = .ok (.invokevirtual 104, 3) := by decide +kernel
theorem dX10_fewestBy_18 : decode cX10_fewestBy 18 = .ok (.invokevirtual 174, 3) := by decide +kernel
theorem dX10_fewestBy_21 : decode cX10_fewestBy 21 = .ok (.iastore, 1) := by decide +kernel
theorem dX10_fewestBy_22 : decode cX10_fewestBy 22 = .ok (.iinc 2 1, 3) := by decide +kernel
theorem dX10_fewestBy_25 : decode cX10_fewestBy 25 = .ok (.goto (-23), 3) := by decide +kernel
theorem dX10_fewestBy_28 : decode cX10_fewestBy 28 = .ok (.aload_n 0, 1) := by decide +kernel
theorem dX10_fewestBy_29 : decode cX10_fewestBy 29 = .ok (.getfield 46, 3) := by decide +kernel
theorem dX10_fewestBy_32 : decode cX10_fewestBy 32 = .ok (.iload_n 1, 1) := by decide +kernel
theorem dX10_fewestBy_33 : decode cX10_fewestBy 33 = .ok (.iaload, 1) := by decide +kernel
theorem dX10_fewestBy_34 : decode cX10_fewestBy 34 = .ok (.istore_n 2, 1) := by decide +kernel
theorem dX10_fewestBy_35 : decode cX10_fewestBy 35 = .ok (.iload_n 2, 1) := by decide +kernel
theorem dX10_fewestBy_36 : decode cX10_fewestBy 36 = .ok (.bipush (-3), 2) := by decide +kernel
theorem dX10_fewestBy_38 : decode cX10_fewestBy 38 = .ok (.if_icmp .ne 6, 3) := by decide +kernel
theorem dX10_fewestBy_41 : decode cX10_fewestBy 41 = .ok (.bipush (-3), 2) := by decide +kernel
theorem dX10_fewestBy_43 : decode cX10_fewestBy 43 = .ok (.ireturn, 1) := by decide +kernel
theorem dX10_fewestBy_44 : decode cX10_fewestBy 44 = .ok (.iconst 0, 1) := by decide +kernel
theorem dX10_fewestBy_45 : decode cX10_fewestBy 45 = .ok (.istore_n 3, 1) := by decide +kernel
theorem dX10_fewestBy_46 : decode cX10_fewestBy 46 = .ok (.aload_n 0, 1) := by decide +kernel
theorem dX10_fewestBy_47 : decode cX10_fewestBy 47 = .ok (.iload_n 3, 1) := by decide +kernel
theorem dX10_fewestBy_48 : decode cX10_fewestBy 48 = .ok (.iload_n 1, 1) := by decide +kernel
theorem dX10_fewestBy_49 : decode cX10_fewestBy 49 = .ok (.iload_n 2, 1) := by decide +kernel
theorem dX10_fewestBy_50 : decode cX10_fewestBy 50 = .ok (.invokevirtual 180, 3) := by decide +kernel
theorem dX10_fewestBy_53 : decode cX10_fewestBy 53 = .ok (.ifCond .ne 9, 3) := by decide +kernel
theorem dX10_fewestBy_56 : decode cX10_fewestBy 56 = .ok (.iinc 3 1, 3) := by decide +kernel
theorem dX10_fewestBy_59 : decode cX10_fewestBy 59 = .ok (.goto (-13), 3) := by decide +kernel
theorem dX10_fewestBy_62 : decode cX10_fewestBy 62 = .ok (.iload_n 3, 1) := by decide +kernel
theorem dX10_fewestBy_63 : decode cX10_fewestBy 63 = .ok (.ireturn, 1) := by decide +kernel
theorem dX10_fewestOf_0 : decode cX10_fewestOf 0 = .ok (.aload_n 0, 1) := by decide +kernel
theorem dX10_fewestOf_1 : decode cX10_fewestOf 1 = .ok (.invokevirtual 118, 3) := by decide +kernel
theorem dX10_fewestOf_4 : decode cX10_fewestOf 4 = .ok (.istore_n 2, 1) := by decide +kernel
theorem dX10_fewestOf_5 : decode cX10_fewestOf 5 = .ok (.aload_n 0, 1) := by decide +kernel
theorem dX10_fewestOf_6 : decode cX10_fewestOf 6 = .ok (.iload_n 1, 1) := by decide +kernel
theorem dX10_fewestOf_7 : decode cX10_fewestOf 7 = .ok (.invokevirtual 183, 3) := by decide +kernel
theorem dX10_fewestOf_10 : decode cX10_fewestOf 10 = .ok (.ireturn, 1) := by decide +kernel
theorem dX10_fewest_0 : decode cX10_fewest 0 = .ok (.iload_n 1, 1) := by decide +kernel
theorem dX10_fewest_1 : decode cX10_fewest 1 = .ok (.invokestatic 93, 3) := by decide +kernel
theorem dX10_fewest_4 : decode cX10_fewest 4 = .ok (.ifCond .eq 11, 3) := by decide +kernel
theorem dX10_fewest_7 : decode cX10_fewest 7 = .ok (.aload_n 0, 1) := by decide +kernel
theorem dX10_fewest_8 : decode cX10_fewest 8 = .ok (.iload_n 1, 1) := by decide +kernel
theorem dX10_fewest_9 : decode cX10_fewest 9 = .ok (.invokevirtual 186, 3) := by decide +kernel
theorem dX10_fewest_12 : decode cX10_fewest 12 = .ok (.goto 5, 3) := by decide +kernel
theorem dX10_fewest_15 : decode cX10_fewest 15 = .ok (.bipush (-2), 2) := by decide +kernel
theorem dX10_fewest_17 : decode cX10_fewest 17 = .ok (.ireturn, 1) := by decide +kernel
theorem dX10_turnOf_0 : decode cX10_turnOf 0 = .ok (.aload_n 0, 1) := by decide +kernel
theorem dX10_turnOf_1 : decode cX10_turnOf 1 = .ok (.iload_n 1, 1) := by decide +kernel
theorem dX10_turnOf_2 : decode cX10_turnOf 2 = .ok (.invokevirtual 186, 3) := by decide +kernel
theorem dX10_turnOf_5 : decode cX10_turnOf 5 = .ok (.istore_n 3, 1) := by decide +kernel
theorem dX10_turnOf_6 : decode cX10_turnOf 6 = .ok (.iload_n 3, 1) := by decide +kernel
theorem dX10_turnOf_7 : decode cX10_turnOf 7 = .ok (.bipush (-3), 2) := by decide +kernel
theorem dX10_turnOf_9 : decode cX10_turnOf 9 = .ok (.if_icmp .ne 8, 3) := by decide +kernel
theorem dX10_turnOf_12 : decode cX10_turnOf 12 = .ok (.bipush (-3), 2) := by decide +kernel
theorem dX10_turnOf_14 : decode cX10_turnOf 14 = .ok (.goto 23, 3) := by decide +kernel
theorem dX10_turnOf_17 : decode cX10_turnOf 17 = .ok (.iload_n 2, 1) := by decide +kernel
theorem dX10_turnOf_18 : decode cX10_turnOf 18 = .ok (.aload_n 0, 1) := by decide +kernel
theorem dX10_turnOf_19 : decode cX10_turnOf 19 = .ok (.getfield 46, 3) := by decide +kernel
theorem dX10_turnOf_22 : decode cX10_turnOf 22 = .ok (.iload_n 1, 1) := by decide +kernel
theorem dX10_turnOf_23 : decode cX10_turnOf 23 = .ok (.iaload, 1) := by decide +kernel
theorem dX10_turnOf_24 : decode cX10_turnOf 24 = .ok (.if_icmp .ge 12, 3) := by decide +kernel
theorem dX10_turnOf_27 : decode cX10_turnOf 27 = .ok (.aload_n 0, 1) := by decide +kernel
theorem dX10_turnOf_28 : decode cX10_turnOf 28 = .ok (.getfield 49, 3) := by decide +kernel
theorem dX10_turnOf_31 : decode cX10_turnOf 31 = .ok (.iload_n 2, 1) := by decide +kernel
theorem dX10_turnOf_32 : decode cX10_turnOf 32 = .ok (.iaload, 1) := by decide +kernel
theorem dX10_turnOf_33 : decode cX10_turnOf 33 = .ok (.goto 4, 3) := by decide +kernel
theorem dX10_turnOf_36 : decode cX10_turnOf 36 = .ok (.iconst (-1), 1) := by decide +kernel
theorem dX10_turnOf_37 : decode cX10_turnOf 37 = .ok (.ireturn, 1) := by decide +kernel
theorem dX10_turn_0 : decode cX10_turn 0 = .ok (.iload_n 1, 1) := by decide +kernel
theorem dX10_turn_1 : decode cX10_turn 1 = .ok (.invokestatic 93, 3) := by decide +kernel
theorem dX10_turn_4 : decode cX10_turn 4 = .ok (.ifCond .eq 16, 3) := by decide +kernel
theorem dX10_turn_7 : decode cX10_turn 7 = .ok (.iload_n 2, 1) := by decide +kernel
theorem dX10_turn_8 : decode cX10_turn 8 = .ok (.ifCond .lt 12, 3) := by decide +kernel
theorem dX10_turn_11 : decode cX10_turn 11 = .ok (.aload_n 0, 1) := by decide +kernel
theorem dX10_turn_12 : decode cX10_turn 12 = .ok (.iload_n 1, 1) := by decide +kernel
theorem dX10_turn_13 : decode cX10_turn 13 = .ok (.iload_n 2, 1) := by decide +kernel
theorem dX10_turn_14 : decode cX10_turn 14 = .ok (.invokevirtual 189, 3) := by decide +kernel
theorem dX10_turn_17 : decode cX10_turn 17 = .ok (.goto 5, 3) := by decide +kernel
theorem dX10_turn_20 : decode cX10_turn 20 = .ok (.bipush (-2), 2) := by decide +kernel
theorem dX10_turn_22 : decode cX10_turn 22 = .ok (.ireturn, 1) := by decide +kernel
theorem dX10_owed_0 : decode cX10_owed 0 = .ok (.iload_n 1, 1) := by decide +kernel
theorem dX10_owed_1 : decode cX10_owed 1 = .ok (.iconst 0, 1) := by decide +kernel
theorem dX10_owed_2 : decode cX10_owed 2 = .ok (.bipush 9, 2) := by decide +kernel
theorem dX10_owed_4 : decode cX10_owed 4 = .ok (.invokestatic 89, 3) := by decide +kernel
theorem dX10_owed_7 : decode cX10_owed 7 = .ok (.ifCond .eq 18, 3) := by decide +kernel
theorem dX10_owed_10 : decode cX10_owed 10 = .ok (.iload_n 2, 1) := by decide +kernel
theorem dX10_owed_11 : decode cX10_owed 11 = .ok (.iconst 0, 1) := by decide +kernel
theorem dX10_owed_12 : decode cX10_owed 12 = .ok (.bipush 9, 2) := by decide +kernel
theorem dX10_owed_14 : decode cX10_owed 14 = .ok (.invokestatic 89, 3) := by decide +kernel
theorem dX10_owed_17 : decode cX10_owed 17 = .ok (.ifCond .eq 8, 3) := by decide +kernel
theorem dX10_owed_20 : decode cX10_owed 20 = .ok (.iload_n 1, 1) := by decide +kernel
theorem dX10_owed_21 : decode cX10_owed 21 = .ok (.iload_n 2, 1) := by decide +kernel
theorem dX10_owed_22 : decode cX10_owed 22 = .ok (.if_icmp .ne 6, 3) := by decide +kernel
theorem dX10_owed_25 : decode cX10_owed 25 = .ok (.bipush (-2), 2) := by decide +kernel
theorem dX10_owed_27 : decode cX10_owed 27 = .ok (.ireturn, 1) := by decide +kernel
theorem dX10_owed_28 : decode cX10_owed 28 = .ok (.aload_n 0, 1) := by decide +kernel
theorem dX10_owed_29 : decode cX10_owed 29 = .ok (.getfield 192, 3) := by decide +kernel
theorem dX10_owed_32 : decode cX10_owed 32 = .ok (.bipush 10, 2) := by decide +kernel
theorem dX10_owed_34 : decode cX10_owed 34 = .ok (.if_icmp .ne 6, 3) := by decide +kernel
theorem dX10_owed_37 : decode cX10_owed 37 = .ok (.bipush (-4), 2) := by decide +kernel
theorem dX10_owed_39 : decode cX10_owed 39 = .ok (.ireturn, 1) := by decide +kernel
theorem dX10_owed_40 : decode cX10_owed 40 = .ok (.aload_n 0, 1) := by decide +kernel
theorem dX10_owed_41 : decode cX10_owed 41 = .ok (.getfield 52, 3) := by decide +kernel
theorem dX10_owed_44 : decode cX10_owed 44 = .ok (.aload_n 0, 1) := by decide +kernel
theorem dX10_owed_45 : decode cX10_owed 45 = .ok (.getfield 192, 3) := by decide +kernel
theorem dX10_owed_48 : decode cX10_owed 48 = .ok (.iload_n 1, 1) := by decide +kernel
theorem dX10_owed_49 : decode cX10_owed 49 = .ok (.iastore, 1) := by decide +kernel
theorem dX10_owed_50 : decode cX10_owed 50 = .ok (.aload_n 0, 1) := by decide +kernel
theorem dX10_owed_51 : decode cX10_owed 51 = .ok (.getfield 55, 3) := by decide +kernel
theorem dX10_owed_54 : decode cX10_owed 54 = .ok (.aload_n 0, 1) := by decide +kernel
theorem dX10_owed_55 : decode cX10_owed 55 = .ok (.getfield 192, 3) := by decide +kernel
theorem dX10_owed_58 : decode cX10_owed 58 = .ok (.iload_n 2, 1) := by decide +kernel
theorem dX10_owed_59 : decode cX10_owed 59 = .ok (.iastore, 1) := by decide +kernel
theorem dX10_owed_60 : decode cX10_owed 60 = .ok (.aload_n 0, 1) := by decide +kernel
theorem dX10_owed_61 : decode cX10_owed 61 = .ok (.dup, 1) := by decide +kernel
theorem dX10_owed_62 : decode cX10_owed 62 = .ok (.getfield 192, 3) := by decide +kernel
theorem dX10_owed_65 : decode cX10_owed 65 = .ok (.iconst 1, 1) := by decide +kernel
theorem dX10_owed_66 : decode cX10_owed 66 = .ok (.iadd, 1) := by decide +kernel
theorem dX10_owed_67 : decode cX10_owed 67 = .ok (.putfield 192, 3) := by decide +kernel
theorem dX10_owed_70 : decode cX10_owed 70 = .ok (.aload_n 0, 1) := by decide +kernel
theorem dX10_owed_71 : decode cX10_owed 71 = .ok (.getfield 192, 3) := by decide +kernel
theorem dX10_owed_74 : decode cX10_owed 74 = .ok (.ireturn, 1) := by decide +kernel
theorem dX10_brokenNow_0 : decode cX10_brokenNow 0 = .ok (.iconst 0, 1) := by decide +kernel
theorem dX10_brokenNow_1 : decode cX10_brokenNow 1 = .ok (.istore_n 1, 1) := by decide +kernel
theorem dX10_brokenNow_2 : decode cX10_brokenNow 2 = .ok (.iconst 0, 1) := by decide +kernel
theorem dX10_brokenNow_3 : decode cX10_brokenNow 3 = .ok (.istore_n 2, 1) := by decide +kernel
theorem dX10_brokenNow_4 : decode cX10_brokenNow 4 = .ok (.iload_n 2, 1) := by decide +kernel
theorem dX10_brokenNow_5 : decode cX10_brokenNow 5 = .ok (.aload_n 0, 1) := by decide +kernel
theorem dX10_brokenNow_6 : decode cX10_brokenNow 6 = .ok (.getfield 192, 3) := by decide +kernel
theorem dX10_brokenNow_9 : decode cX10_brokenNow 9 = .ok (.if_icmp .ge 108, 3) := by decide +kernel
theorem dX10_brokenNow_12 : decode cX10_brokenNow 12 = .ok (.aload_n 0, 1) := by decide +kernel
theorem dX10_brokenNow_13 : decode cX10_brokenNow 13 = .ok (.getfield 52, 3) := by decide +kernel
theorem dX10_brokenNow_16 : decode cX10_brokenNow 16 = .ok (.iload_n 2, 1) := by decide +kernel
theorem dX10_brokenNow_17 : decode cX10_brokenNow 17 = .ok (.iaload, 1) := by decide +kernel
theorem dX10_brokenNow_18 : decode cX10_brokenNow 18 = .ok (.istore_n 3, 1) := by decide +kernel
theorem dX10_brokenNow_19 : decode cX10_brokenNow 19 = .ok (.aload_n 0, 1) := by decide +kernel
theorem dX10_brokenNow_20 : decode cX10_brokenNow 20 = .ok (.getfield 55, 3) := by decide +kernel
theorem dX10_brokenNow_23 : decode cX10_brokenNow 23 = .ok (.iload_n 2, 1) := by decide +kernel
theorem dX10_brokenNow_24 : decode cX10_brokenNow 24 = .ok (.iaload, 1) := by decide +kernel
theorem dX10_brokenNow_25 : decode cX10_brokenNow 25 = .ok (.istore 4, 2) := by decide +kernel
theorem dX10_brokenNow_27 : decode cX10_brokenNow 27 = .ok (.iload_n 3, 1) := by decide +kernel
theorem dX10_brokenNow_28 : decode cX10_brokenNow 28 = .ok (.aload_n 0, 1) := by decide +kernel
theorem dX10_brokenNow_29 : decode cX10_brokenNow 29 = .ok (.getfield 111, 3) := by decide +kernel
theorem dX10_brokenNow_32 : decode cX10_brokenNow 32 = .ok (.if_icmp .ge 16, 3) := by decide +kernel
theorem dX10_brokenNow_35 : decode cX10_brokenNow 35 = .ok (.iload 4, 2) := by decide +kernel
theorem dX10_brokenNow_37 : decode cX10_brokenNow 37 = .ok (.aload_n 0, 1) := by decide +kernel
theorem dX10_brokenNow_38 : decode cX10_brokenNow 38 = .ok (.getfield 111, 3) := by decide +kernel
theorem dX10_brokenNow_41 : decode cX10_brokenNow 41 = .ok (.if_icmp .ge 7, 3) := by decide +kernel
theorem dX10_brokenNow_44 : decode cX10_brokenNow 44 = .ok (.iconst 1, 1) := by decide +kernel
theorem dX10_brokenNow_45 : decode cX10_brokenNow 45 = .ok (.goto 4, 3) := by decide +kernel
theorem dX10_brokenNow_48 : decode cX10_brokenNow 48 = .ok (.iconst 0, 1) := by decide +kernel
theorem dX10_brokenNow_49 : decode cX10_brokenNow 49 = .ok (.istore 5, 2) := by decide +kernel
theorem dX10_brokenNow_51 : decode cX10_brokenNow 51 = .ok (.iload 5, 2) := by decide +kernel
theorem dX10_brokenNow_53 : decode cX10_brokenNow 53 = .ok (.ifCond .eq 41, 3) := by decide +kernel
theorem dX10_brokenNow_56 : decode cX10_brokenNow 56 = .ok (.aload_n 0, 1) := by decide +kernel
theorem dX10_brokenNow_57 : decode cX10_brokenNow 57 = .ok (.getfield 25, 3) := by decide +kernel
theorem dX10_brokenNow_60 : decode cX10_brokenNow 60 = .ok (.iload_n 3, 1) := by decide +kernel
theorem dX10_brokenNow_61 : decode cX10_brokenNow 61 = .ok (.iaload, 1) := by decide +kernel
theorem dX10_brokenNow_62 : decode cX10_brokenNow 62 = .ok (.aload_n 0, 1) := by decide +kernel
theorem dX10_brokenNow_63 : decode cX10_brokenNow 63 = .ok (.getfield 25, 3) := by decide +kernel
theorem dX10_brokenNow_66 : decode cX10_brokenNow 66 = .ok (.iload 4, 2) := by decide +kernel
theorem dX10_brokenNow_68 : decode cX10_brokenNow 68 = .ok (.iaload, 1) := by decide +kernel
theorem dX10_brokenNow_69 : decode cX10_brokenNow 69 = .ok (.isub, 1) := by decide +kernel
theorem dX10_brokenNow_70 : decode cX10_brokenNow 70 = .ok (.invokestatic 195, 3) := by decide +kernel
theorem dX10_brokenNow_73 : decode cX10_brokenNow 73 = .ok (.aload_n 0, 1) := by decide +kernel
theorem dX10_brokenNow_74 : decode cX10_brokenNow 74 = .ok (.getfield 37, 3) := by decide +kernel
theorem dX10_brokenNow_77 : decode cX10_brokenNow 77 = .ok (.iload_n 3, 1) := by decide +kernel
theorem dX10_brokenNow_78 : decode cX10_brokenNow 78 = .ok (.iaload, 1) := by decide +kernel
theorem dX10_brokenNow_79 : decode cX10_brokenNow 79 = .ok (.aload_n 0, 1) := by decide +kernel
theorem dX10_brokenNow_80 : decode cX10_brokenNow 80 = .ok (.getfield 37, 3) := by decide +kernel
theorem dX10_brokenNow_83 : decode cX10_brokenNow 83 = .ok (.iload 4, 2) := by decide +kernel
theorem dX10_brokenNow_85 : decode cX10_brokenNow 85 = .ok (.iaload, 1) := by decide +kernel
theorem dX10_brokenNow_86 : decode cX10_brokenNow 86 = .ok (.isub, 1) := by decide +kernel
theorem dX10_brokenNow_87 : decode cX10_brokenNow 87 = .ok (.invokestatic 195, 3) := by decide +kernel
theorem dX10_brokenNow_90 : decode cX10_brokenNow 90 = .ok (.iadd, 1) := by decide +kernel
theorem dX10_brokenNow_91 : decode cX10_brokenNow 91 = .ok (.goto 4, 3) := by decide +kernel
theorem dX10_brokenNow_94 : decode cX10_brokenNow 94 = .ok (.iconst 1, 1) := by decide +kernel
theorem dX10_brokenNow_95 : decode cX10_brokenNow 95 = .ok (.istore 6, 2) := by decide +kernel
theorem dX10_brokenNow_97 : decode cX10_brokenNow 97 = .ok (.iload_n 1, 1) := by decide +kernel
theorem dX10_brokenNow_98 : decode cX10_brokenNow 98 = .ok (.iload 6, 2) := by decide +kernel
theorem dX10_brokenNow_100 : decode cX10_brokenNow 100 = .ok (.iconst 1, 1) := by decide +kernel
theorem dX10_brokenNow_101 : decode cX10_brokenNow 101 = .ok (.if_icmp .ne 7, 3) := by decide +kernel
theorem dX10_brokenNow_104 : decode cX10_brokenNow 104 = .ok (.iconst 0, 1) := by decide +kernel
theorem dX10_brokenNow_105 : decode cX10_brokenNow 105 = .ok (.goto 4, 3) := by decide +kernel
theorem dX10_brokenNow_108 : decode cX10_brokenNow 108 = .ok (.iconst 1, 1) := by decide +kernel
theorem dX10_brokenNow_109 : decode cX10_brokenNow 109 = .ok (.iadd, 1) := by decide +kernel
theorem dX10_brokenNow_110 : decode cX10_brokenNow 110 = .ok (.istore_n 1, 1) := by decide +kernel
theorem dX10_brokenNow_111 : decode cX10_brokenNow 111 = .ok (.iinc 2 1, 3) := by decide +kernel
theorem dX10_brokenNow_114 : decode cX10_brokenNow 114 = .ok (.goto (-110), 3) := by decide +kernel
theorem dX10_brokenNow_117 : decode cX10_brokenNow 117 = .ok (.iload_n 1, 1) := by decide +kernel
theorem dX10_brokenNow_118 : decode cX10_brokenNow 118 = .ok (.ireturn, 1) := by decide +kernel
theorem dX10_brokenOf_0 : decode cX10_brokenOf 0 = .ok (.iconst 0, 1) := by decide +kernel
theorem dX10_brokenOf_1 : decode cX10_brokenOf 1 = .ok (.istore_n 3, 1) := by decide +kernel
theorem dX10_brokenOf_2 : decode cX10_brokenOf 2 = .ok (.bipush 11, 2) := by decide +kernel
theorem dX10_brokenOf_4 : decode cX10_brokenOf 4 = .ok (.istore 4, 2) := by decide +kernel
theorem dX10_brokenOf_6 : decode cX10_brokenOf 6 = .ok (.iconst 0, 1) := by decide +kernel
theorem dX10_brokenOf_7 : decode cX10_brokenOf 7 = .ok (.istore 5, 2) := by decide +kernel
theorem dX10_brokenOf_9 : decode cX10_brokenOf 9 = .ok (.iconst 0, 1) := by decide +kernel
theorem dX10_brokenOf_10 : decode cX10_brokenOf 10 = .ok (.istore 6, 2) := by decide +kernel
theorem dX10_brokenOf_12 : decode cX10_brokenOf 12 = .ok (.iload 6, 2) := by decide +kernel
theorem dX10_brokenOf_14 : decode cX10_brokenOf 14 = .ok (.iload_n 1, 1) := by decide +kernel
theorem dX10_brokenOf_15 : decode cX10_brokenOf 15 = .ok (.if_icmp .gt 51, 3) := by decide +kernel
theorem dX10_brokenOf_18 : decode cX10_brokenOf 18 = .ok (.aload_n 0, 1) := by decide +kernel
theorem dX10_brokenOf_19 : decode cX10_brokenOf 19 = .ok (.iload 6, 2) := by decide +kernel
theorem dX10_brokenOf_21 : decode cX10_brokenOf 21 = .ok (.invokevirtual 167, 3) := by decide +kernel
theorem dX10_brokenOf_24 : decode cX10_brokenOf 24 = .ok (.aload_n 0, 1) := by decide +kernel
theorem dX10_brokenOf_25 : decode cX10_brokenOf 25 = .ok (.invokevirtual 198, 3) := by decide +kernel
theorem dX10_brokenOf_28 : decode cX10_brokenOf 28 = .ok (.istore 5, 2) := by decide +kernel
theorem dX10_brokenOf_30 : decode cX10_brokenOf 30 = .ok (.iload 5, 2) := by decide +kernel
theorem dX10_brokenOf_32 : decode cX10_brokenOf 32 = .ok (.iload 4, 2) := by decide +kernel
theorem dX10_brokenOf_34 : decode cX10_brokenOf 34 = .ok (.if_icmp .ge 8, 3) := by decide +kernel
theorem dX10_brokenOf_37 : decode cX10_brokenOf 37 = .ok (.iload 6, 2) := by decide +kernel
theorem dX10_brokenOf_39 : decode cX10_brokenOf 39 = .ok (.goto 4, 3) := by decide +kernel
theorem dX10_brokenOf_42 : decode cX10_brokenOf 42 = .ok (.iload_n 3, 1) := by decide +kernel
theorem dX10_brokenOf_43 : decode cX10_brokenOf 43 = .ok (.istore_n 3, 1) := by decide +kernel
theorem dX10_brokenOf_44 : decode cX10_brokenOf 44 = .ok (.iload 5, 2) := by decide +kernel
theorem dX10_brokenOf_46 : decode cX10_brokenOf 46 = .ok (.iload 4, 2) := by decide +kernel
theorem dX10_brokenOf_48 : decode cX10_brokenOf 48 = .ok (.if_icmp .ge 8, 3) := by decide +kernel
theorem dX10_brokenOf_51 : decode cX10_brokenOf 51 = .ok (.iload 5, 2) := by decide +kernel
theorem dX10_brokenOf_53 : decode cX10_brokenOf 53 = .ok (.goto 5, 3) := by decide +kernel
theorem dX10_brokenOf_56 : decode cX10_brokenOf 56 = .ok (.iload 4, 2) := by decide +kernel
theorem dX10_brokenOf_58 : decode cX10_brokenOf 58 = .ok (.istore 4, 2) := by decide +kernel
theorem dX10_brokenOf_60 : decode cX10_brokenOf 60 = .ok (.iinc 6 1, 3) := by decide +kernel
theorem dX10_brokenOf_63 : decode cX10_brokenOf 63 = .ok (.goto (-51), 3) := by decide +kernel
theorem dX10_brokenOf_66 : decode cX10_brokenOf 66 = .ok (.iload_n 2, 1) := by decide +kernel
theorem dX10_brokenOf_67 : decode cX10_brokenOf 67 = .ok (.ifCond .ne 8, 3) := by decide +kernel
theorem dX10_brokenOf_70 : decode cX10_brokenOf 70 = .ok (.iload 5, 2) := by decide +kernel
theorem dX10_brokenOf_72 : decode cX10_brokenOf 72 = .ok (.goto 4, 3) := by decide +kernel
theorem dX10_brokenOf_75 : decode cX10_brokenOf 75 = .ok (.iload_n 3, 1) := by decide +kernel
theorem dX10_brokenOf_76 : decode cX10_brokenOf 76 = .ok (.ireturn, 1) := by decide +kernel
theorem dX10_broken_0 : decode cX10_broken 0 = .ok (.iload_n 1, 1) := by decide +kernel
theorem dX10_broken_1 : decode cX10_broken 1 = .ok (.iconst 0, 1) := by decide +kernel
theorem dX10_broken_2 : decode cX10_broken 2 = .ok (.bipush 40, 2) := by decide +kernel
theorem dX10_broken_4 : decode cX10_broken 4 = .ok (.invokestatic 89, 3) := by decide +kernel
theorem dX10_broken_7 : decode cX10_broken 7 = .ok (.ifCond .eq 21, 3) := by decide +kernel
theorem dX10_broken_10 : decode cX10_broken 10 = .ok (.iload_n 2, 1) := by decide +kernel
theorem dX10_broken_11 : decode cX10_broken 11 = .ok (.iconst 0, 1) := by decide +kernel
theorem dX10_broken_12 : decode cX10_broken 12 = .ok (.iconst 1, 1) := by decide +kernel
theorem dX10_broken_13 : decode cX10_broken 13 = .ok (.invokestatic 89, 3) := by decide +kernel
theorem dX10_broken_16 : decode cX10_broken 16 = .ok (.ifCond .eq 12, 3) := by decide +kernel
theorem dX10_broken_19 : decode cX10_broken 19 = .ok (.aload_n 0, 1) := by decide +kernel
theorem dX10_broken_20 : decode cX10_broken 20 = .ok (.iload_n 1, 1) := by decide +kernel
theorem dX10_broken_21 : decode cX10_broken 21 = .ok (.iload_n 2, 1) := by decide +kernel
theorem dX10_broken_22 : decode cX10_broken 22 = .ok (.invokevirtual 201, 3) := by decide +kernel
theorem dX10_broken_25 : decode cX10_broken 25 = .ok (.goto 5, 3) := by decide +kernel
theorem dX10_broken_28 : decode cX10_broken 28 = .ok (.bipush (-2), 2) := by decide +kernel
theorem dX10_broken_30 : decode cX10_broken 30 = .ok (.ireturn, 1) := by decide +kernel
theorem dX10_isPlot_0 : decode cX10_isPlot 0 = .ok (.iload_n 0, 1) := by decide +kernel
theorem dX10_isPlot_1 : decode cX10_isPlot 1 = .ok (.iconst 0, 1) := by decide +kernel
theorem dX10_isPlot_2 : decode cX10_isPlot 2 = .ok (.iconst 3, 1) := by decide +kernel
theorem dX10_isPlot_3 : decode cX10_isPlot 3 = .ok (.invokestatic 89, 3) := by decide +kernel
theorem dX10_isPlot_6 : decode cX10_isPlot 6 = .ok (.ifCond .eq 17, 3) := by decide +kernel
theorem dX10_isPlot_9 : decode cX10_isPlot 9 = .ok (.iload_n 1, 1) := by decide +kernel
theorem dX10_isPlot_10 : decode cX10_isPlot 10 = .ok (.iconst 0, 1) := by decide +kernel
theorem dX10_isPlot_11 : decode cX10_isPlot 11 = .ok (.bipush 99, 2) := by decide +kernel
theorem dX10_isPlot_13 : decode cX10_isPlot 13 = .ok (.invokestatic 89, 3) := by decide +kernel
theorem dX10_isPlot_16 : decode cX10_isPlot 16 = .ok (.ifCond .eq 7, 3) := by decide +kernel
theorem dX10_isPlot_19 : decode cX10_isPlot 19 = .ok (.iconst 1, 1) := by decide +kernel
theorem dX10_isPlot_20 : decode cX10_isPlot 20 = .ok (.goto 4, 3) := by decide +kernel
theorem dX10_isPlot_23 : decode cX10_isPlot 23 = .ok (.iconst 0, 1) := by decide +kernel
theorem dX10_isPlot_24 : decode cX10_isPlot 24 = .ok (.ireturn, 1) := by decide +kernel
theorem dX10_well_0 : decode cX10_well 0 = .ok (.iload_n 1, 1) := by decide +kernel
theorem dX10_well_1 : decode cX10_well 1 = .ok (.iload_n 2, 1) := by decide +kernel
theorem dX10_well_2 : decode cX10_well 2 = .ok (.invokestatic 204, 3) := by decide +kernel
theorem dX10_well_5 : decode cX10_well 5 = .ok (.ifCond .ne 6, 3) := by decide +kernel
theorem dX10_well_8 : decode cX10_well 8 = .ok (.bipush (-2), 2) := by decide +kernel
theorem dX10_well_10 : decode cX10_well 10 = .ok (.ireturn, 1) := by decide +kernel
theorem dX10_well_11 : decode cX10_well 11 = .ok (.aload_n 0, 1) := by decide +kernel
theorem dX10_well_12 : decode cX10_well 12 = .ok (.getfield 208, 3) := by decide +kernel
theorem dX10_well_15 : decode cX10_well 15 = .ok (.bipush 8, 2) := by decide +kernel
theorem dX10_well_17 : decode cX10_well 17 = .ok (.if_icmp .ne 6, 3) := by decide +kernel
theorem dX10_well_20 : decode cX10_well 20 = .ok (.bipush (-4), 2) := by decide +kernel
theorem dX10_well_22 : decode cX10_well 22 = .ok (.ireturn, 1) := by decide +kernel
theorem dX10_well_23 : decode cX10_well 23 = .ok (.aload_n 0, 1) := by decide +kernel
theorem dX10_well_24 : decode cX10_well 24 = .ok (.getfield 58, 3) := by decide +kernel
theorem dX10_well_27 : decode cX10_well 27 = .ok (.aload_n 0, 1) := by decide +kernel
theorem dX10_well_28 : decode cX10_well 28 = .ok (.getfield 208, 3) := by decide +kernel
theorem dX10_well_31 : decode cX10_well 31 = .ok (.iload_n 2, 1) := by decide +kernel
theorem dX10_well_32 : decode cX10_well 32 = .ok (.iastore, 1) := by decide +kernel
theorem dX10_well_33 : decode cX10_well 33 = .ok (.aload_n 0, 1) := by decide +kernel
theorem dX10_well_34 : decode cX10_well 34 = .ok (.dup, 1) := by decide +kernel
theorem dX10_well_35 : decode cX10_well 35 = .ok (.getfield 208, 3) := by decide +kernel
theorem dX10_well_38 : decode cX10_well 38 = .ok (.iconst 1, 1) := by decide +kernel
theorem dX10_well_39 : decode cX10_well 39 = .ok (.iadd, 1) := by decide +kernel
theorem dX10_well_40 : decode cX10_well 40 = .ok (.putfield 208, 3) := by decide +kernel
theorem dX10_well_43 : decode cX10_well 43 = .ok (.aload_n 0, 1) := by decide +kernel
theorem dX10_well_44 : decode cX10_well 44 = .ok (.getfield 208, 3) := by decide +kernel
theorem dX10_well_47 : decode cX10_well 47 = .ok (.iconst 1, 1) := by decide +kernel
theorem dX10_well_48 : decode cX10_well 48 = .ok (.isub, 1) := by decide +kernel
theorem dX10_well_49 : decode cX10_well 49 = .ok (.ireturn, 1) := by decide +kernel
theorem dX10_metOf_0 : decode cX10_metOf 0 = .ok (.aload_n 0, 1) := by decide +kernel
theorem dX10_metOf_1 : decode cX10_metOf 1 = .ok (.iload_n 1, 1) := by decide +kernel
theorem dX10_metOf_2 : decode cX10_metOf 2 = .ok (.invokevirtual 177, 3) := by decide +kernel
theorem dX10_metOf_5 : decode cX10_metOf 5 = .ok (.istore_n 2, 1) := by decide +kernel
theorem dX10_metOf_6 : decode cX10_metOf 6 = .ok (.iload_n 2, 1) := by decide +kernel
theorem dX10_metOf_7 : decode cX10_metOf 7 = .ok (.bipush (-3), 2) := by decide +kernel
theorem dX10_metOf_9 : decode cX10_metOf 9 = .ok (.if_icmp .ne 6, 3) := by decide +kernel
theorem dX10_metOf_12 : decode cX10_metOf 12 = .ok (.bipush (-3), 2) := by decide +kernel
theorem dX10_metOf_14 : decode cX10_metOf 14 = .ok (.ireturn, 1) := by decide +kernel
theorem dX10_metOf_15 : decode cX10_metOf 15 = .ok (.iconst (-1), 1) := by decide +kernel
theorem dX10_metOf_16 : decode cX10_metOf 16 = .ok (.istore_n 3, 1) := by decide +kernel
theorem dX10_metOf_17 : decode cX10_metOf 17 = .ok (.iconst 0, 1) := by decide +kernel
theorem dX10_metOf_18 : decode cX10_metOf 18 = .ok (.istore 4, 2) := by decide +kernel
theorem dX10_metOf_20 : decode cX10_metOf 20 = .ok (.iload 4, 2) := by decide +kernel
theorem dX10_metOf_22 : decode cX10_metOf 22 = .ok (.aload_n 0, 1) := by decide +kernel
theorem dX10_metOf_23 : decode cX10_metOf 23 = .ok (.getfield 111, 3) := by decide +kernel
theorem dX10_metOf_26 : decode cX10_metOf 26 = .ok (.if_icmp .ge 32, 3) := by decide +kernel
theorem dX10_metOf_29 : decode cX10_metOf 29 = .ok (.aload_n 0, 1) := by decide +kernel
theorem dX10_metOf_30 : decode cX10_metOf 30 = .ok (.getfield 37, 3) := by decide +kernel
theorem dX10_metOf_33 : decode cX10_metOf 33 = .ok (.iload 4, 2) := by decide +kernel
theorem dX10_metOf_35 : decode cX10_metOf 35 = .ok (.iaload, 1) := by decide +kernel
theorem dX10_metOf_36 : decode cX10_metOf 36 = .ok (.iload_n 3, 1) := by decide +kernel
theorem dX10_metOf_37 : decode cX10_metOf 37 = .ok (.if_icmp .le 13, 3) := by decide +kernel
theorem dX10_metOf_40 : decode cX10_metOf 40 = .ok (.aload_n 0, 1) := by decide +kernel
theorem dX10_metOf_41 : decode cX10_metOf 41 = .ok (.getfield 37, 3) := by decide +kernel
theorem dX10_metOf_44 : decode cX10_metOf 44 = .ok (.iload 4, 2) := by decide +kernel
theorem dX10_metOf_46 : decode cX10_metOf 46 = .ok (.iaload, 1) := by decide +kernel
theorem dX10_metOf_47 : decode cX10_metOf 47 = .ok (.goto 4, 3) := by decide +kernel
theorem dX10_metOf_50 : decode cX10_metOf 50 = .ok (.iload_n 3, 1) := by decide +kernel
theorem dX10_metOf_51 : decode cX10_metOf 51 = .ok (.istore_n 3, 1) := by decide +kernel
theorem dX10_metOf_52 : decode cX10_metOf 52 = .ok (.iinc 4 1, 3) := by decide +kernel
theorem dX10_metOf_55 : decode cX10_metOf 55 = .ok (.goto (-35), 3) := by decide +kernel
theorem dX10_metOf_58 : decode cX10_metOf 58 = .ok (.iconst 0, 1) := by decide +kernel
theorem dX10_metOf_59 : decode cX10_metOf 59 = .ok (.istore 4, 2) := by decide +kernel
theorem dX10_metOf_61 : decode cX10_metOf 61 = .ok (.iconst 0, 1) := by decide +kernel
theorem dX10_metOf_62 : decode cX10_metOf 62 = .ok (.istore 5, 2) := by decide +kernel
theorem dX10_metOf_64 : decode cX10_metOf 64 = .ok (.iload 5, 2) := by decide +kernel
theorem dX10_metOf_66 : decode cX10_metOf 66 = .ok (.aload_n 0, 1) := by decide +kernel
theorem dX10_metOf_67 : decode cX10_metOf 67 = .ok (.getfield 208, 3) := by decide +kernel
theorem dX10_metOf_70 : decode cX10_metOf 70 = .ok (.if_icmp .ge 45, 3) := by decide +kernel
theorem dX10_metOf_73 : decode cX10_metOf 73 = .ok (.iload 4, 2) := by decide +kernel
theorem dX10_metOf_75 : decode cX10_metOf 75 = .ok (.aload_n 0, 1) := by decide +kernel
theorem dX10_metOf_76 : decode cX10_metOf 76 = .ok (.getfield 58, 3) := by decide +kernel
theorem dX10_metOf_79 : decode cX10_metOf 79 = .ok (.iload 5, 2) := by decide +kernel
theorem dX10_metOf_81 : decode cX10_metOf 81 = .ok (.iaload, 1) := by decide +kernel
theorem dX10_metOf_82 : decode cX10_metOf 82 = .ok (.aload_n 0, 1) := by decide +kernel
theorem dX10_metOf_83 : decode cX10_metOf 83 = .ok (.iload_n 1, 1) := by decide +kernel
theorem dX10_metOf_84 : decode cX10_metOf 84 = .ok (.invokevirtual 104, 3) := by decide +kernel
theorem dX10_metOf_87 : decode cX10_metOf 87 = .ok (.if_icmp .lt 18, 3) := by decide +kernel
theorem dX10_metOf_90 : decode cX10_metOf 90 = .ok (.aload_n 0, 1) := by decide +kernel
theorem dX10_metOf_91 : decode cX10_metOf 91 = .ok (.getfield 58, 3) := by decide +kernel
theorem dX10_metOf_94 : decode cX10_metOf 94 = .ok (.iload 5, 2) := by decide +kernel
theorem dX10_metOf_96 : decode cX10_metOf 96 = .ok (.iaload, 1) := by decide +kernel
theorem dX10_metOf_97 : decode cX10_metOf 97 = .ok (.iload_n 3, 1) := by decide +kernel
theorem dX10_metOf_98 : decode cX10_metOf 98 = .ok (.if_icmp .gt 7, 3) := by decide +kernel
theorem dX10_metOf_101 : decode cX10_metOf 101 = .ok (.iconst 1, 1) := by decide +kernel
theorem dX10_metOf_102 : decode cX10_metOf 102 = .ok (.goto 4, 3) := by decide +kernel
theorem dX10_metOf_105 : decode cX10_metOf 105 = .ok (.iconst 0, 1) := by decide +kernel
theorem dX10_metOf_106 : decode cX10_metOf 106 = .ok (.iadd, 1) := by decide +kernel
theorem dX10_metOf_107 : decode cX10_metOf 107 = .ok (.istore 4, 2) := by decide +kernel
theorem dX10_metOf_109 : decode cX10_metOf 109 = .ok (.iinc 5 1, 3) := by decide +kernel
theorem dX10_metOf_112 : decode cX10_metOf 112 = .ok (.goto (-48), 3) := by decide +kernel
theorem dX10_metOf_115 : decode cX10_metOf 115 = .ok (.iload 4, 2) := by decide +kernel
theorem dX10_metOf_117 : decode cX10_metOf 117 = .ok (.ireturn, 1) := by decide +kernel
theorem dX10_met_0 : decode cX10_met 0 = .ok (.iload_n 1, 1) := by decide +kernel
theorem dX10_met_1 : decode cX10_met 1 = .ok (.invokestatic 93, 3) := by decide +kernel
theorem dX10_met_4 : decode cX10_met 4 = .ok (.ifCond .eq 11, 3) := by decide +kernel
theorem dX10_met_7 : decode cX10_met 7 = .ok (.aload_n 0, 1) := by decide +kernel
theorem dX10_met_8 : decode cX10_met 8 = .ok (.iload_n 1, 1) := by decide +kernel
theorem dX10_met_9 : decode cX10_met 9 = .ok (.invokevirtual 211, 3) := by decide +kernel
theorem dX10_met_12 : decode cX10_met 12 = .ok (.goto 5, 3) := by decide +kernel
theorem dX10_met_15 : decode cX10_met 15 = .ok (.bipush (-2), 2) := by decide +kernel
theorem dX10_met_17 : decode cX10_met 17 = .ok (.ireturn, 1) := by decide +kernel
theorem dX10_dryOf_0 : decode cX10_dryOf 0 = .ok (.iconst 0, 1) := by decide +kernel
theorem dX10_dryOf_1 : decode cX10_dryOf 1 = .ok (.istore_n 2, 1) := by decide +kernel
theorem dX10_dryOf_2 : decode cX10_dryOf 2 = .ok (.iconst 0, 1) := by decide +kernel
theorem dX10_dryOf_3 : decode cX10_dryOf 3 = .ok (.istore_n 3, 1) := by decide +kernel
theorem dX10_dryOf_4 : decode cX10_dryOf 4 = .ok (.iconst 0, 1) := by decide +kernel
theorem dX10_dryOf_5 : decode cX10_dryOf 5 = .ok (.istore 4, 2) := by decide +kernel
theorem dX10_dryOf_7 : decode cX10_dryOf 7 = .ok (.iload 4, 2) := by decide +kernel
theorem dX10_dryOf_9 : decode cX10_dryOf 9 = .ok (.iload_n 1, 1) := by decide +kernel
theorem dX10_dryOf_10 : decode cX10_dryOf 10 = .ok (.if_icmp .gt 51, 3) := by decide +kernel
theorem dX10_dryOf_13 : decode cX10_dryOf 13 = .ok (.aload_n 0, 1) := by decide +kernel
theorem dX10_dryOf_14 : decode cX10_dryOf 14 = .ok (.iload 4, 2) := by decide +kernel
theorem dX10_dryOf_16 : decode cX10_dryOf 16 = .ok (.invokevirtual 211, 3) := by decide +kernel
theorem dX10_dryOf_19 : decode cX10_dryOf 19 = .ok (.istore 5, 2) := by decide +kernel
theorem dX10_dryOf_21 : decode cX10_dryOf 21 = .ok (.iload 5, 2) := by decide +kernel
theorem dX10_dryOf_23 : decode cX10_dryOf 23 = .ok (.bipush (-3), 2) := by decide +kernel
theorem dX10_dryOf_25 : decode cX10_dryOf 25 = .ok (.if_icmp .ne 6, 3) := by decide +kernel
theorem dX10_dryOf_28 : decode cX10_dryOf 28 = .ok (.bipush (-3), 2) := by decide +kernel
theorem dX10_dryOf_30 : decode cX10_dryOf 30 = .ok (.ireturn, 1) := by decide +kernel
theorem dX10_dryOf_31 : decode cX10_dryOf 31 = .ok (.iload 5, 2) := by decide +kernel
theorem dX10_dryOf_33 : decode cX10_dryOf 33 = .ok (.ifCond .ne 9, 3) := by decide +kernel
theorem dX10_dryOf_36 : decode cX10_dryOf 36 = .ok (.iload_n 3, 1) := by decide +kernel
theorem dX10_dryOf_37 : decode cX10_dryOf 37 = .ok (.iconst 1, 1) := by decide +kernel
theorem dX10_dryOf_38 : decode cX10_dryOf 38 = .ok (.iadd, 1) := by decide +kernel
theorem dX10_dryOf_39 : decode cX10_dryOf 39 = .ok (.goto 4, 3) := by decide +kernel
theorem dX10_dryOf_42 : decode cX10_dryOf 42 = .ok (.iconst 0, 1) := by decide +kernel
theorem dX10_dryOf_43 : decode cX10_dryOf 43 = .ok (.istore_n 3, 1) := by decide +kernel
theorem dX10_dryOf_44 : decode cX10_dryOf 44 = .ok (.iload_n 3, 1) := by decide +kernel
theorem dX10_dryOf_45 : decode cX10_dryOf 45 = .ok (.iload_n 2, 1) := by decide +kernel
theorem dX10_dryOf_46 : decode cX10_dryOf 46 = .ok (.if_icmp .le 7, 3) := by decide +kernel
theorem dX10_dryOf_49 : decode cX10_dryOf 49 = .ok (.iload_n 3, 1) := by decide +kernel
theorem dX10_dryOf_50 : decode cX10_dryOf 50 = .ok (.goto 4, 3) := by decide +kernel
theorem dX10_dryOf_53 : decode cX10_dryOf 53 = .ok (.iload_n 2, 1) := by decide +kernel
theorem dX10_dryOf_54 : decode cX10_dryOf 54 = .ok (.istore_n 2, 1) := by decide +kernel
theorem dX10_dryOf_55 : decode cX10_dryOf 55 = .ok (.iinc 4 1, 3) := by decide +kernel
theorem dX10_dryOf_58 : decode cX10_dryOf 58 = .ok (.goto (-51), 3) := by decide +kernel
theorem dX10_dryOf_61 : decode cX10_dryOf 61 = .ok (.iload_n 2, 1) := by decide +kernel
theorem dX10_dryOf_62 : decode cX10_dryOf 62 = .ok (.ireturn, 1) := by decide +kernel
theorem dX10_dry_0 : decode cX10_dry 0 = .ok (.iload_n 1, 1) := by decide +kernel
theorem dX10_dry_1 : decode cX10_dry 1 = .ok (.invokestatic 93, 3) := by decide +kernel
theorem dX10_dry_4 : decode cX10_dry 4 = .ok (.ifCond .eq 11, 3) := by decide +kernel
theorem dX10_dry_7 : decode cX10_dry 7 = .ok (.aload_n 0, 1) := by decide +kernel
theorem dX10_dry_8 : decode cX10_dry 8 = .ok (.iload_n 1, 1) := by decide +kernel
theorem dX10_dry_9 : decode cX10_dry 9 = .ok (.invokevirtual 214, 3) := by decide +kernel
theorem dX10_dry_12 : decode cX10_dry 12 = .ok (.goto 5, 3) := by decide +kernel
theorem dX10_dry_15 : decode cX10_dry 15 = .ok (.bipush (-2), 2) := by decide +kernel
theorem dX10_dry_17 : decode cX10_dry 17 = .ok (.ireturn, 1) := by decide +kernel
theorem dX10_changes_0 : decode cX10_changes 0 = .ok (.aload_n 0, 1) := by decide +kernel
theorem dX10_changes_1 : decode cX10_changes 1 = .ok (.getfield 25, 3) := by decide +kernel
theorem dX10_changes_4 : decode cX10_changes 4 = .ok (.iload_n 1, 1) := by decide +kernel
theorem dX10_changes_5 : decode cX10_changes 5 = .ok (.iaload, 1) := by decide +kernel
theorem dX10_changes_6 : decode cX10_changes 6 = .ok (.istore_n 3, 1) := by decide +kernel
theorem dX10_changes_7 : decode cX10_changes 7 = .ok (.aload_n 0, 1) := by decide +kernel
theorem dX10_changes_8 : decode cX10_changes 8 = .ok (.getfield 28, 3) := by decide +kernel
theorem dX10_changes_11 : decode cX10_changes 11 = .ok (.iload_n 1, 1) := by decide +kernel
theorem dX10_changes_12 : decode cX10_changes 12 = .ok (.iaload, 1) := by decide +kernel
theorem dX10_changes_13 : decode cX10_changes 13 = .ok (.istore 4, 2) := by decide +kernel
theorem dX10_changes_15 : decode cX10_changes 15 = .ok (.aload_n 0, 1) := by decide +kernel
theorem dX10_changes_16 : decode cX10_changes 16 = .ok (.getfield 25, 3) := by decide +kernel
theorem dX10_changes_19 : decode cX10_changes 19 = .ok (.iload_n 1, 1) := by decide +kernel
theorem dX10_changes_20 : decode cX10_changes 20 = .ok (.aload_n 0, 1) := by decide +kernel
theorem dX10_changes_21 : decode cX10_changes 21 = .ok (.getfield 25, 3) := by decide +kernel
theorem dX10_changes_24 : decode cX10_changes 24 = .ok (.iload_n 2, 1) := by decide +kernel
theorem dX10_changes_25 : decode cX10_changes 25 = .ok (.iaload, 1) := by decide +kernel
theorem dX10_changes_26 : decode cX10_changes 26 = .ok (.iastore, 1) := by decide +kernel
theorem dX10_changes_27 : decode cX10_changes 27 = .ok (.aload_n 0, 1) := by decide +kernel
theorem dX10_changes_28 : decode cX10_changes 28 = .ok (.getfield 28, 3) := by decide +kernel
theorem dX10_changes_31 : decode cX10_changes 31 = .ok (.iload_n 1, 1) := by decide +kernel
theorem dX10_changes_32 : decode cX10_changes 32 = .ok (.aload_n 0, 1) := by decide +kernel
theorem dX10_changes_33 : decode cX10_changes 33 = .ok (.getfield 28, 3) := by decide +kernel
theorem dX10_changes_36 : decode cX10_changes 36 = .ok (.iload_n 2, 1) := by decide +kernel
theorem dX10_changes_37 : decode cX10_changes 37 = .ok (.iaload, 1) := by decide +kernel
theorem dX10_changes_38 : decode cX10_changes 38 = .ok (.iastore, 1) := by decide +kernel
theorem dX10_changes_39 : decode cX10_changes 39 = .ok (.aload_n 0, 1) := by decide +kernel
theorem dX10_changes_40 : decode cX10_changes 40 = .ok (.getfield 25, 3) := by decide +kernel
theorem dX10_changes_43 : decode cX10_changes 43 = .ok (.iload_n 2, 1) := by decide +kernel
theorem dX10_changes_44 : decode cX10_changes 44 = .ok (.iload_n 3, 1) := by decide +kernel
theorem dX10_changes_45 : decode cX10_changes 45 = .ok (.iastore, 1) := by decide +kernel
theorem dX10_changes_46 : decode cX10_changes 46 = .ok (.aload_n 0, 1) := by decide +kernel
theorem dX10_changes_47 : decode cX10_changes 47 = .ok (.getfield 28, 3) := by decide +kernel
theorem dX10_changes_50 : decode cX10_changes 50 = .ok (.iload_n 2, 1) := by decide +kernel
theorem dX10_changes_51 : decode cX10_changes 51 = .ok (.iload 4, 2) := by decide +kernel
theorem dX10_changes_53 : decode cX10_changes 53 = .ok (.iastore, 1) := by decide +kernel
theorem dX10_changes_54 : decode cX10_changes 54 = .ok (.return_, 1) := by decide +kernel
theorem dX10_soldOf_0 : decode cX10_soldOf 0 = .ok (.aload_n 0, 1) := by decide +kernel
theorem dX10_soldOf_1 : decode cX10_soldOf 1 = .ok (.iload_n 3, 1) := by decide +kernel
theorem dX10_soldOf_2 : decode cX10_soldOf 2 = .ok (.invokevirtual 186, 3) := by decide +kernel
theorem dX10_soldOf_5 : decode cX10_soldOf 5 = .ok (.istore 4, 2) := by decide +kernel
theorem dX10_soldOf_7 : decode cX10_soldOf 7 = .ok (.aload_n 0, 1) := by decide +kernel
theorem dX10_soldOf_8 : decode cX10_soldOf 8 = .ok (.iload_n 1, 1) := by decide +kernel
theorem dX10_soldOf_9 : decode cX10_soldOf 9 = .ok (.iload_n 2, 1) := by decide +kernel
theorem dX10_soldOf_10 : decode cX10_soldOf 10 = .ok (.invokevirtual 217, 3) := by decide +kernel
theorem dX10_soldOf_13 : decode cX10_soldOf 13 = .ok (.aload_n 0, 1) := by decide +kernel
theorem dX10_soldOf_14 : decode cX10_soldOf 14 = .ok (.iload_n 3, 1) := by decide +kernel
theorem dX10_soldOf_15 : decode cX10_soldOf 15 = .ok (.invokevirtual 183, 3) := by decide +kernel
theorem dX10_soldOf_18 : decode cX10_soldOf 18 = .ok (.istore 5, 2) := by decide +kernel
theorem dX10_soldOf_20 : decode cX10_soldOf 20 = .ok (.aload_n 0, 1) := by decide +kernel
theorem dX10_soldOf_21 : decode cX10_soldOf 21 = .ok (.iload_n 1, 1) := by decide +kernel
theorem dX10_soldOf_22 : decode cX10_soldOf 22 = .ok (.iload_n 2, 1) := by decide +kernel
theorem dX10_soldOf_23 : decode cX10_soldOf 23 = .ok (.invokevirtual 217, 3) := by decide +kernel
theorem dX10_soldOf_26 : decode cX10_soldOf 26 = .ok (.iload 4, 2) := by decide +kernel
theorem dX10_soldOf_28 : decode cX10_soldOf 28 = .ok (.bipush (-3), 2) := by decide +kernel
theorem dX10_soldOf_30 : decode cX10_soldOf 30 = .ok (.if_icmp .eq 10, 3) := by decide +kernel
theorem dX10_soldOf_33 : decode cX10_soldOf 33 = .ok (.iload 5, 2) := by decide +kernel
theorem dX10_soldOf_35 : decode cX10_soldOf 35 = .ok (.bipush (-3), 2) := by decide +kernel
theorem dX10_soldOf_37 : decode cX10_soldOf 37 = .ok (.if_icmp .ne 9, 3) := by decide +kernel
theorem dX10_soldOf_40 : decode cX10_soldOf 40 = .ok (.sipush (-10003), 3) := by decide +kernel
theorem dX10_soldOf_43 : decode cX10_soldOf 43 = .ok (.goto 8, 3) := by decide +kernel
theorem dX10_soldOf_46 : decode cX10_soldOf 46 = .ok (.iload 4, 2) := by decide +kernel
theorem dX10_soldOf_48 : decode cX10_soldOf 48 = .ok (.iload 5, 2) := by decide +kernel
theorem dX10_soldOf_50 : decode cX10_soldOf 50 = .ok (.isub, 1) := by decide +kernel
theorem dX10_soldOf_51 : decode cX10_soldOf 51 = .ok (.ireturn, 1) := by decide +kernel
theorem dX10_sold_0 : decode cX10_sold 0 = .ok (.aload_n 0, 1) := by decide +kernel
theorem dX10_sold_1 : decode cX10_sold 1 = .ok (.iload_n 1, 1) := by decide +kernel
theorem dX10_sold_2 : decode cX10_sold 2 = .ok (.invokevirtual 134, 3) := by decide +kernel
theorem dX10_sold_5 : decode cX10_sold 5 = .ok (.ifCond .eq 33, 3) := by decide +kernel
theorem dX10_sold_8 : decode cX10_sold 8 = .ok (.aload_n 0, 1) := by decide +kernel
theorem dX10_sold_9 : decode cX10_sold 9 = .ok (.iload_n 2, 1) := by decide +kernel
theorem dX10_sold_10 : decode cX10_sold 10 = .ok (.invokevirtual 134, 3) := by decide +kernel
theorem dX10_sold_13 : decode cX10_sold 13 = .ok (.ifCond .eq 25, 3) := by decide +kernel
theorem dX10_sold_16 : decode cX10_sold 16 = .ok (.iload_n 1, 1) := by decide +kernel
theorem dX10_sold_17 : decode cX10_sold 17 = .ok (.iload_n 2, 1) := by decide +kernel
theorem dX10_sold_18 : decode cX10_sold 18 = .ok (.if_icmp .eq 20, 3) := by decide +kernel
theorem dX10_sold_21 : decode cX10_sold 21 = .ok (.iload_n 3, 1) := by decide +kernel
theorem dX10_sold_22 : decode cX10_sold 22 = .ok (.invokestatic 93, 3) := by decide +kernel
theorem dX10_sold_25 : decode cX10_sold 25 = .ok (.ifCond .eq 13, 3) := by decide +kernel
theorem dX10_sold_28 : decode cX10_sold 28 = .ok (.aload_n 0, 1) := by decide +kernel
theorem dX10_sold_29 : decode cX10_sold 29 = .ok (.iload_n 1, 1) := by decide +kernel
theorem dX10_sold_30 : decode cX10_sold 30 = .ok (.iload_n 2, 1) := by decide +kernel
theorem dX10_sold_31 : decode cX10_sold 31 = .ok (.iload_n 3, 1) := by decide +kernel
theorem dX10_sold_32 : decode cX10_sold 32 = .ok (.invokevirtual 221, 3) := by decide +kernel
theorem dX10_sold_35 : decode cX10_sold 35 = .ok (.goto 6, 3) := by decide +kernel
theorem dX10_sold_38 : decode cX10_sold 38 = .ok (.sipush (-10002), 3) := by decide +kernel
theorem dX10_sold_41 : decode cX10_sold 41 = .ok (.ireturn, 1) := by decide +kernel
theorem dX10_debt_0 : decode cX10_debt 0 = .ok (.iload_n 1, 1) := by decide +kernel
theorem dX10_debt_1 : decode cX10_debt 1 = .ok (.iload_n 2, 1) := by decide +kernel
theorem dX10_debt_2 : decode cX10_debt 2 = .ok (.invokestatic 204, 3) := by decide +kernel
theorem dX10_debt_5 : decode cX10_debt 5 = .ok (.ifCond .eq 13, 3) := by decide +kernel
theorem dX10_debt_8 : decode cX10_debt 8 = .ok (.iload_n 3, 1) := by decide +kernel
theorem dX10_debt_9 : decode cX10_debt 9 = .ok (.iconst 1, 1) := by decide +kernel
theorem dX10_debt_10 : decode cX10_debt 10 = .ok (.bipush 99, 2) := by decide +kernel
theorem dX10_debt_12 : decode cX10_debt 12 = .ok (.invokestatic 89, 3) := by decide +kernel
theorem dX10_debt_15 : decode cX10_debt 15 = .ok (.ifCond .ne 6, 3) := by decide +kernel
theorem dX10_debt_18 : decode cX10_debt 18 = .ok (.bipush (-2), 2) := by decide +kernel
theorem dX10_debt_20 : decode cX10_debt 20 = .ok (.ireturn, 1) := by decide +kernel
theorem dX10_debt_21 : decode cX10_debt 21 = .ok (.aload_n 0, 1) := by decide +kernel
theorem dX10_debt_22 : decode cX10_debt 22 = .ok (.getfield 225, 3) := by decide +kernel
theorem dX10_debt_25 : decode cX10_debt 25 = .ok (.bipush 20, 2) := by decide +kernel
theorem dX10_debt_27 : decode cX10_debt 27 = .ok (.if_icmp .ne 6, 3) := by decide +kernel
theorem dX10_debt_30 : decode cX10_debt 30 = .ok (.bipush (-4), 2) := by decide +kernel
theorem dX10_debt_32 : decode cX10_debt 32 = .ok (.ireturn, 1) := by decide +kernel
theorem dX10_debt_33 : decode cX10_debt 33 = .ok (.aload_n 0, 1) := by decide +kernel
theorem dX10_debt_34 : decode cX10_debt 34 = .ok (.getfield 61, 3) := by decide +kernel
theorem dX10_debt_37 : decode cX10_debt 37 = .ok (.aload_n 0, 1) := by decide +kernel
theorem dX10_debt_38 : decode cX10_debt 38 = .ok (.getfield 225, 3) := by decide +kernel
theorem dX10_debt_41 : decode cX10_debt 41 = .ok (.bipush 100, 2) := by decide +kernel
theorem dX10_debt_43 : decode cX10_debt 43 = .ok (.iload_n 1, 1) := by decide +kernel
theorem dX10_debt_44 : decode cX10_debt 44 = .ok (.imul, 1) := by decide +kernel
theorem dX10_debt_45 : decode cX10_debt 45 = .ok (.iload_n 2, 1) := by decide +kernel
theorem dX10_debt_46 : decode cX10_debt 46 = .ok (.iadd, 1) := by decide +kernel
theorem dX10_debt_47 : decode cX10_debt 47 = .ok (.iastore, 1) := by decide +kernel
theorem dX10_debt_48 : decode cX10_debt 48 = .ok (.aload_n 0, 1) := by decide +kernel
theorem dX10_debt_49 : decode cX10_debt 49 = .ok (.getfield 64, 3) := by decide +kernel
theorem dX10_debt_52 : decode cX10_debt 52 = .ok (.aload_n 0, 1) := by decide +kernel
theorem dX10_debt_53 : decode cX10_debt 53 = .ok (.getfield 225, 3) := by decide +kernel
theorem dX10_debt_56 : decode cX10_debt 56 = .ok (.iload_n 3, 1) := by decide +kernel
theorem dX10_debt_57 : decode cX10_debt 57 = .ok (.iastore, 1) := by decide +kernel
theorem dX10_debt_58 : decode cX10_debt 58 = .ok (.aload_n 0, 1) := by decide +kernel
theorem dX10_debt_59 : decode cX10_debt 59 = .ok (.dup, 1) := by decide +kernel
theorem dX10_debt_60 : decode cX10_debt 60 = .ok (.getfield 225, 3) := by decide +kernel
theorem dX10_debt_63 : decode cX10_debt 63 = .ok (.iconst 1, 1) := by decide +kernel
theorem dX10_debt_64 : decode cX10_debt 64 = .ok (.iadd, 1) := by decide +kernel
theorem dX10_debt_65 : decode cX10_debt 65 = .ok (.putfield 225, 3) := by decide +kernel
theorem dX10_debt_68 : decode cX10_debt 68 = .ok (.aload_n 0, 1) := by decide +kernel
theorem dX10_debt_69 : decode cX10_debt 69 = .ok (.getfield 225, 3) := by decide +kernel
theorem dX10_debt_72 : decode cX10_debt 72 = .ok (.ireturn, 1) := by decide +kernel
theorem dX10_owesOf_0 : decode cX10_owesOf 0 = .ok (.aload_n 0, 1) := by decide +kernel
theorem dX10_owesOf_1 : decode cX10_owesOf 1 = .ok (.iload_n 2, 1) := by decide +kernel
theorem dX10_owesOf_2 : decode cX10_owesOf 2 = .ok (.invokevirtual 177, 3) := by decide +kernel
theorem dX10_owesOf_5 : decode cX10_owesOf 5 = .ok (.istore_n 3, 1) := by decide +kernel
theorem dX10_owesOf_6 : decode cX10_owesOf 6 = .ok (.iload_n 3, 1) := by decide +kernel
theorem dX10_owesOf_7 : decode cX10_owesOf 7 = .ok (.bipush (-3), 2) := by decide +kernel
theorem dX10_owesOf_9 : decode cX10_owesOf 9 = .ok (.if_icmp .ne 6, 3) := by decide +kernel
theorem dX10_owesOf_12 : decode cX10_owesOf 12 = .ok (.bipush (-3), 2) := by decide +kernel
theorem dX10_owesOf_14 : decode cX10_owesOf 14 = .ok (.ireturn, 1) := by decide +kernel
theorem dX10_owesOf_15 : decode cX10_owesOf 15 = .ok (.iconst 0, 1) := by decide +kernel
theorem dX10_owesOf_16 : decode cX10_owesOf 16 = .ok (.istore 4, 2) := by decide +kernel
theorem dX10_owesOf_18 : decode cX10_owesOf 18 = .ok (.iconst 0, 1) := by decide +kernel
theorem dX10_owesOf_19 : decode cX10_owesOf 19 = .ok (.istore 5, 2) := by decide +kernel
theorem dX10_owesOf_21 : decode cX10_owesOf 21 = .ok (.iload 5, 2) := by decide +kernel
theorem dX10_owesOf_23 : decode cX10_owesOf 23 = .ok (.aload_n 0, 1) := by decide +kernel
theorem dX10_owesOf_24 : decode cX10_owesOf 24 = .ok (.getfield 225, 3) := by decide +kernel
theorem dX10_owesOf_27 : decode cX10_owesOf 27 = .ok (.if_icmp .ge 65, 3) := by decide +kernel
theorem dX10_owesOf_30 : decode cX10_owesOf 30 = .ok (.iload 4, 2) := by decide +kernel
theorem dX10_owesOf_32 : decode cX10_owesOf 32 = .ok (.aload_n 0, 1) := by decide +kernel
theorem dX10_owesOf_33 : decode cX10_owesOf 33 = .ok (.getfield 61, 3) := by decide +kernel
theorem dX10_owesOf_36 : decode cX10_owesOf 36 = .ok (.iload 5, 2) := by decide +kernel
theorem dX10_owesOf_38 : decode cX10_owesOf 38 = .ok (.iaload, 1) := by decide +kernel
theorem dX10_owesOf_39 : decode cX10_owesOf 39 = .ok (.bipush 100, 2) := by decide +kernel
theorem dX10_owesOf_41 : decode cX10_owesOf 41 = .ok (.aload_n 0, 1) := by decide +kernel
theorem dX10_owesOf_42 : decode cX10_owesOf 42 = .ok (.getfield 25, 3) := by decide +kernel
theorem dX10_owesOf_45 : decode cX10_owesOf 45 = .ok (.iload_n 1, 1) := by decide +kernel
theorem dX10_owesOf_46 : decode cX10_owesOf 46 = .ok (.iaload, 1) := by decide +kernel
theorem dX10_owesOf_47 : decode cX10_owesOf 47 = .ok (.imul, 1) := by decide +kernel
theorem dX10_owesOf_48 : decode cX10_owesOf 48 = .ok (.aload_n 0, 1) := by decide +kernel
theorem dX10_owesOf_49 : decode cX10_owesOf 49 = .ok (.getfield 37, 3) := by decide +kernel
theorem dX10_owesOf_52 : decode cX10_owesOf 52 = .ok (.iload_n 1, 1) := by decide +kernel
theorem dX10_owesOf_53 : decode cX10_owesOf 53 = .ok (.iaload, 1) := by decide +kernel
theorem dX10_owesOf_54 : decode cX10_owesOf 54 = .ok (.iadd, 1) := by decide +kernel
theorem dX10_owesOf_55 : decode cX10_owesOf 55 = .ok (.if_icmp .ne 27, 3) := by decide +kernel
theorem dX10_owesOf_58 : decode cX10_owesOf 58 = .ok (.aload_n 0, 1) := by decide +kernel
theorem dX10_owesOf_59 : decode cX10_owesOf 59 = .ok (.getfield 37, 3) := by decide +kernel
theorem dX10_owesOf_62 : decode cX10_owesOf 62 = .ok (.iload_n 1, 1) := by decide +kernel
theorem dX10_owesOf_63 : decode cX10_owesOf 63 = .ok (.iaload, 1) := by decide +kernel
theorem dX10_owesOf_64 : decode cX10_owesOf 64 = .ok (.aload_n 0, 1) := by decide +kernel
theorem dX10_owesOf_65 : decode cX10_owesOf 65 = .ok (.iload_n 2, 1) := by decide +kernel
theorem dX10_owesOf_66 : decode cX10_owesOf 66 = .ok (.invokevirtual 104, 3) := by decide +kernel
theorem dX10_owesOf_69 : decode cX10_owesOf 69 = .ok (.if_icmp .lt 13, 3) := by decide +kernel
theorem dX10_owesOf_72 : decode cX10_owesOf 72 = .ok (.aload_n 0, 1) := by decide +kernel
theorem dX10_owesOf_73 : decode cX10_owesOf 73 = .ok (.getfield 64, 3) := by decide +kernel
theorem dX10_owesOf_76 : decode cX10_owesOf 76 = .ok (.iload 5, 2) := by decide +kernel
theorem dX10_owesOf_78 : decode cX10_owesOf 78 = .ok (.iaload, 1) := by decide +kernel
theorem dX10_owesOf_79 : decode cX10_owesOf 79 = .ok (.goto 4, 3) := by decide +kernel
theorem dX10_owesOf_82 : decode cX10_owesOf 82 = .ok (.iconst 0, 1) := by decide +kernel
theorem dX10_owesOf_83 : decode cX10_owesOf 83 = .ok (.iadd, 1) := by decide +kernel
theorem dX10_owesOf_84 : decode cX10_owesOf 84 = .ok (.istore 4, 2) := by decide +kernel
theorem dX10_owesOf_86 : decode cX10_owesOf 86 = .ok (.iinc 5 1, 3) := by decide +kernel
theorem dX10_owesOf_89 : decode cX10_owesOf 89 = .ok (.goto (-68), 3) := by decide +kernel
theorem dX10_owesOf_92 : decode cX10_owesOf 92 = .ok (.iload 4, 2) := by decide +kernel
theorem dX10_owesOf_94 : decode cX10_owesOf 94 = .ok (.ireturn, 1) := by decide +kernel
theorem dX10_owes_0 : decode cX10_owes 0 = .ok (.aload_n 0, 1) := by decide +kernel
theorem dX10_owes_1 : decode cX10_owes 1 = .ok (.iload_n 1, 1) := by decide +kernel
theorem dX10_owes_2 : decode cX10_owes 2 = .ok (.invokevirtual 134, 3) := by decide +kernel
theorem dX10_owes_5 : decode cX10_owes 5 = .ok (.ifCond .eq 19, 3) := by decide +kernel
theorem dX10_owes_8 : decode cX10_owes 8 = .ok (.iload_n 2, 1) := by decide +kernel
theorem dX10_owes_9 : decode cX10_owes 9 = .ok (.invokestatic 93, 3) := by decide +kernel
theorem dX10_owes_12 : decode cX10_owes 12 = .ok (.ifCond .eq 12, 3) := by decide +kernel
theorem dX10_owes_15 : decode cX10_owes 15 = .ok (.aload_n 0, 1) := by decide +kernel
theorem dX10_owes_16 : decode cX10_owes 16 = .ok (.iload_n 1, 1) := by decide +kernel
theorem dX10_owes_17 : decode cX10_owes 17 = .ok (.iload_n 2, 1) := by decide +kernel
theorem dX10_owes_18 : decode cX10_owes 18 = .ok (.invokevirtual 228, 3) := by decide +kernel
theorem dX10_owes_21 : decode cX10_owes 21 = .ok (.goto 5, 3) := by decide +kernel
theorem dX10_owes_24 : decode cX10_owes 24 = .ok (.bipush (-2), 2) := by decide +kernel
theorem dX10_owes_26 : decode cX10_owes 26 = .ok (.ireturn, 1) := by decide +kernel
theorem dX10_lostOf_0 : decode cX10_lostOf 0 = .ok (.iconst 0, 1) := by decide +kernel
theorem dX10_lostOf_1 : decode cX10_lostOf 1 = .ok (.istore_n 2, 1) := by decide +kernel
theorem dX10_lostOf_2 : decode cX10_lostOf 2 = .ok (.iconst 0, 1) := by decide +kernel
theorem dX10_lostOf_3 : decode cX10_lostOf 3 = .ok (.istore_n 3, 1) := by decide +kernel
theorem dX10_lostOf_4 : decode cX10_lostOf 4 = .ok (.iload_n 3, 1) := by decide +kernel
theorem dX10_lostOf_5 : decode cX10_lostOf 5 = .ok (.aload_n 0, 1) := by decide +kernel
theorem dX10_lostOf_6 : decode cX10_lostOf 6 = .ok (.getfield 225, 3) := by decide +kernel
theorem dX10_lostOf_9 : decode cX10_lostOf 9 = .ok (.if_icmp .ge 39, 3) := by decide +kernel
theorem dX10_lostOf_12 : decode cX10_lostOf 12 = .ok (.iload_n 2, 1) := by decide +kernel
theorem dX10_lostOf_13 : decode cX10_lostOf 13 = .ok (.aload_n 0, 1) := by decide +kernel
theorem dX10_lostOf_14 : decode cX10_lostOf 14 = .ok (.getfield 61, 3) := by decide +kernel
theorem dX10_lostOf_17 : decode cX10_lostOf 17 = .ok (.iload_n 3, 1) := by decide +kernel
theorem dX10_lostOf_18 : decode cX10_lostOf 18 = .ok (.iaload, 1) := by decide +kernel
theorem dX10_lostOf_19 : decode cX10_lostOf 19 = .ok (.bipush 100, 2) := by decide +kernel
theorem dX10_lostOf_21 : decode cX10_lostOf 21 = .ok (.irem, 1) := by decide +kernel
theorem dX10_lostOf_22 : decode cX10_lostOf 22 = .ok (.aload_n 0, 1) := by decide +kernel
theorem dX10_lostOf_23 : decode cX10_lostOf 23 = .ok (.iload_n 1, 1) := by decide +kernel
theorem dX10_lostOf_24 : decode cX10_lostOf 24 = .ok (.invokevirtual 104, 3) := by decide +kernel
theorem dX10_lostOf_27 : decode cX10_lostOf 27 = .ok (.if_icmp .ge 12, 3) := by decide +kernel
theorem dX10_lostOf_30 : decode cX10_lostOf 30 = .ok (.aload_n 0, 1) := by decide +kernel
theorem dX10_lostOf_31 : decode cX10_lostOf 31 = .ok (.getfield 64, 3) := by decide +kernel
theorem dX10_lostOf_34 : decode cX10_lostOf 34 = .ok (.iload_n 3, 1) := by decide +kernel
theorem dX10_lostOf_35 : decode cX10_lostOf 35 = .ok (.iaload, 1) := by decide +kernel
theorem dX10_lostOf_36 : decode cX10_lostOf 36 = .ok (.goto 4, 3) := by decide +kernel
theorem dX10_lostOf_39 : decode cX10_lostOf 39 = .ok (.iconst 0, 1) := by decide +kernel
theorem dX10_lostOf_40 : decode cX10_lostOf 40 = .ok (.iadd, 1) := by decide +kernel
theorem dX10_lostOf_41 : decode cX10_lostOf 41 = .ok (.istore_n 2, 1) := by decide +kernel
theorem dX10_lostOf_42 : decode cX10_lostOf 42 = .ok (.iinc 3 1, 3) := by decide +kernel
theorem dX10_lostOf_45 : decode cX10_lostOf 45 = .ok (.goto (-41), 3) := by decide +kernel
theorem dX10_lostOf_48 : decode cX10_lostOf 48 = .ok (.iload_n 2, 1) := by decide +kernel
theorem dX10_lostOf_49 : decode cX10_lostOf 49 = .ok (.ireturn, 1) := by decide +kernel
theorem dX10_lost_0 : decode cX10_lost 0 = .ok (.iload_n 1, 1) := by decide +kernel
theorem dX10_lost_1 : decode cX10_lost 1 = .ok (.invokestatic 93, 3) := by decide +kernel
theorem dX10_lost_4 : decode cX10_lost 4 = .ok (.ifCond .eq 11, 3) := by decide +kernel
theorem dX10_lost_7 : decode cX10_lost 7 = .ok (.aload_n 0, 1) := by decide +kernel
theorem dX10_lost_8 : decode cX10_lost 8 = .ok (.iload_n 1, 1) := by decide +kernel
theorem dX10_lost_9 : decode cX10_lost 9 = .ok (.invokevirtual 231, 3) := by decide +kernel
theorem dX10_lost_12 : decode cX10_lost 12 = .ok (.goto 5, 3) := by decide +kernel
theorem dX10_lost_15 : decode cX10_lost 15 = .ok (.bipush (-2), 2) := by decide +kernel
theorem dX10_lost_17 : decode cX10_lost 17 = .ok (.ireturn, 1) := by decide +kernel
theorem dX10_church_0 : decode cX10_church 0 = .ok (.iload_n 1, 1) := by decide +kernel
theorem dX10_church_1 : decode cX10_church 1 = .ok (.iconst 1, 1) := by decide +kernel
theorem dX10_church_2 : decode cX10_church 2 = .ok (.sipush 999, 3) := by decide +kernel
theorem dX10_church_5 : decode cX10_church 5 = .ok (.invokestatic 89, 3) := by decide +kernel
theorem dX10_church_8 : decode cX10_church 8 = .ok (.ifCond .eq 21, 3) := by decide +kernel
theorem dX10_church_11 : decode cX10_church 11 = .ok (.iload_n 2, 1) := by decide +kernel
theorem dX10_church_12 : decode cX10_church 12 = .ok (.iconst 0, 1) := by decide +kernel
theorem dX10_church_13 : decode cX10_church 13 = .ok (.sipush 999, 3) := by decide +kernel
theorem dX10_church_16 : decode cX10_church 16 = .ok (.invokestatic 89, 3) := by decide +kernel
theorem dX10_church_19 : decode cX10_church 19 = .ok (.ifCond .eq 10, 3) := by decide +kernel
theorem dX10_church_22 : decode cX10_church 22 = .ok (.iload_n 3, 1) := by decide +kernel
theorem dX10_church_23 : decode cX10_church 23 = .ok (.invokestatic 93, 3) := by decide +kernel
theorem dX10_church_26 : decode cX10_church 26 = .ok (.ifCond .ne 6, 3) := by decide +kernel
theorem dX10_church_29 : decode cX10_church 29 = .ok (.bipush (-2), 2) := by decide +kernel
theorem dX10_church_31 : decode cX10_church 31 = .ok (.ireturn, 1) := by decide +kernel
theorem dX10_church_32 : decode cX10_church 32 = .ok (.iconst 1, 1) := by decide +kernel
theorem dX10_church_33 : decode cX10_church 33 = .ok (.istore 4, 2) := by decide +kernel
theorem dX10_church_35 : decode cX10_church 35 = .ok (.iload 4, 2) := by decide +kernel
theorem dX10_church_37 : decode cX10_church 37 = .ok (.bipush 10, 2) := by decide +kernel
theorem dX10_church_39 : decode cX10_church 39 = .ok (.if_icmp .ge 36, 3) := by decide +kernel
theorem dX10_church_42 : decode cX10_church 42 = .ok (.iload 4, 2) := by decide +kernel
theorem dX10_church_44 : decode cX10_church 44 = .ok (.iload_n 3, 1) := by decide +kernel
theorem dX10_church_45 : decode cX10_church 45 = .ok (.iconst 1, 1) := by decide +kernel
theorem dX10_church_46 : decode cX10_church 46 = .ok (.iadd, 1) := by decide +kernel
theorem dX10_church_47 : decode cX10_church 47 = .ok (.if_icmp .gt 28, 3) := by decide +kernel
theorem dX10_church_50 : decode cX10_church 50 = .ok (.iload_n 1, 1) := by decide +kernel
theorem dX10_church_51 : decode cX10_church 51 = .ok (.iload 4, 2) := by decide +kernel
theorem dX10_church_53 : decode cX10_church 53 = .ok (.iadd, 1) := by decide +kernel
theorem dX10_church_54 : decode cX10_church 54 = .ok (.iconst 1, 1) := by decide +kernel
theorem dX10_church_55 : decode cX10_church 55 = .ok (.isub, 1) := by decide +kernel
theorem dX10_church_56 : decode cX10_church 56 = .ok (.iload 4, 2) := by decide +kernel
theorem dX10_church_58 : decode cX10_church 58 = .ok (.idiv, 1) := by decide +kernel
theorem dX10_church_59 : decode cX10_church 59 = .ok (.iload 4, 2) := by decide +kernel
theorem dX10_church_61 : decode cX10_church 61 = .ok (.iadd, 1) := by decide +kernel
theorem dX10_church_62 : decode cX10_church 62 = .ok (.iload_n 2, 1) := by decide +kernel
theorem dX10_church_63 : decode cX10_church 63 = .ok (.if_icmp .gt 6, 3) := by decide +kernel
theorem dX10_church_66 : decode cX10_church 66 = .ok (.iload 4, 2) := by decide +kernel
theorem dX10_church_68 : decode cX10_church 68 = .ok (.ireturn, 1) := by decide +kernel
theorem dX10_church_69 : decode cX10_church 69 = .ok (.iinc 4 1, 3) := by decide +kernel
theorem dX10_church_72 : decode cX10_church 72 = .ok (.goto (-37), 3) := by decide +kernel
theorem dX10_church_75 : decode cX10_church 75 = .ok (.iconst (-1), 1) := by decide +kernel
theorem dX10_church_76 : decode cX10_church 76 = .ok (.ireturn, 1) := by decide +kernel
theorem dX10_likely_0 : decode cX10_likely 0 = .ok (.iload_n 1, 1) := by decide +kernel
theorem dX10_likely_1 : decode cX10_likely 1 = .ok (.iconst 0, 1) := by decide +kernel
theorem dX10_likely_2 : decode cX10_likely 2 = .ok (.bipush 9, 2) := by decide +kernel
theorem dX10_likely_4 : decode cX10_likely 4 = .ok (.invokestatic 89, 3) := by decide +kernel
theorem dX10_likely_7 : decode cX10_likely 7 = .ok (.ifCond .eq 33, 3) := by decide +kernel
theorem dX10_likely_10 : decode cX10_likely 10 = .ok (.iload_n 2, 1) := by decide +kernel
theorem dX10_likely_11 : decode cX10_likely 11 = .ok (.iconst 0, 1) := by decide +kernel
theorem dX10_likely_12 : decode cX10_likely 12 = .ok (.bipush 99, 2) := by decide +kernel
theorem dX10_likely_14 : decode cX10_likely 14 = .ok (.invokestatic 89, 3) := by decide +kernel
theorem dX10_likely_17 : decode cX10_likely 17 = .ok (.ifCond .eq 23, 3) := by decide +kernel
theorem dX10_likely_20 : decode cX10_likely 20 = .ok (.iload_n 3, 1) := by decide +kernel
theorem dX10_likely_21 : decode cX10_likely 21 = .ok (.iconst 0, 1) := by decide +kernel
theorem dX10_likely_22 : decode cX10_likely 22 = .ok (.bipush 9, 2) := by decide +kernel
theorem dX10_likely_24 : decode cX10_likely 24 = .ok (.invokestatic 89, 3) := by decide +kernel
theorem dX10_likely_27 : decode cX10_likely 27 = .ok (.ifCond .eq 13, 3) := by decide +kernel
theorem dX10_likely_30 : decode cX10_likely 30 = .ok (.iload 4, 2) := by decide +kernel
theorem dX10_likely_32 : decode cX10_likely 32 = .ok (.iconst 0, 1) := by decide +kernel
theorem dX10_likely_33 : decode cX10_likely 33 = .ok (.iconst 1, 1) := by decide +kernel
theorem dX10_likely_34 : decode cX10_likely 34 = .ok (.invokestatic 89, 3) := by decide +kernel
theorem dX10_likely_37 : decode cX10_likely 37 = .ok (.ifCond .ne 9, 3) := by decide +kernel
theorem dX10_likely_40 : decode cX10_likely 40 = .ok (.bipush (-2), 2) := by decide +kernel
theorem dX10_likely_42 : decode cX10_likely 42 = .ok (.invokestatic 234, 3) := by decide +kernel
theorem dX10_likely_45 : decode cX10_likely 45 = .ok (.lreturn, 1) := by decide +kernel
theorem dX10_likely_46 : decode cX10_likely 46 = .ok (.iconst 0, 1) := by decide +kernel
theorem dX10_likely_47 : decode cX10_likely 47 = .ok (.istore 5, 2) := by decide +kernel
theorem dX10_likely_49 : decode cX10_likely 49 = .ok (.iload 5, 2) := by decide +kernel
theorem dX10_likely_51 : decode cX10_likely 51 = .ok (.bipush 100, 2) := by decide +kernel
theorem dX10_likely_53 : decode cX10_likely 53 = .ok (.if_icmp .ge 26, 3) := by decide +kernel
theorem dX10_likely_56 : decode cX10_likely 56 = .ok (.aload_n 0, 1) := by decide +kernel
theorem dX10_likely_57 : decode cX10_likely 57 = .ok (.getfield 67, 3) := by decide +kernel
theorem dX10_likely_60 : decode cX10_likely 60 = .ok (.iload 5, 2) := by decide +kernel
theorem dX10_likely_62 : decode cX10_likely 62 = .ok (.iload 5, 2) := by decide +kernel
theorem dX10_likely_64 : decode cX10_likely 64 = .ok (.ifCond .ne 7, 3) := by decide +kernel
theorem dX10_likely_67 : decode cX10_likely 67 = .ok (.lconst 1, 1) := by decide +kernel
theorem dX10_likely_68 : decode cX10_likely 68 = .ok (.goto 4, 3) := by decide +kernel
theorem dX10_likely_71 : decode cX10_likely 71 = .ok (.lconst 0, 1) := by decide +kernel
theorem dX10_likely_72 : decode cX10_likely 72 = .ok (.lastore, 1) := by decide +kernel
theorem dX10_likely_73 : decode cX10_likely 73 = .ok (.iinc 5 1, 3) := by decide +kernel
theorem dX10_likely_76 : decode cX10_likely 76 = .ok (.goto (-27), 3) := by decide +kernel
theorem dX10_likely_79 : decode cX10_likely 79 = .ok (.lconst 1, 1) := by decide +kernel
theorem dX10_likely_80 : decode cX10_likely 80 = .ok (.lstore 5, 2) := by decide +kernel
theorem dX10_likely_82 : decode cX10_likely 82 = .ok (.iconst 0, 1) := by decide +kernel
theorem dX10_likely_83 : decode cX10_likely 83 = .ok (.istore 7, 2) := by decide +kernel
theorem dX10_likely_85 : decode cX10_likely 85 = .ok (.iload 7, 2) := by decide +kernel
theorem dX10_likely_87 : decode cX10_likely 87 = .ok (.iload_n 3, 1) := by decide +kernel
theorem dX10_likely_88 : decode cX10_likely 88 = .ok (.if_icmp .ge 82, 3) := by decide +kernel
theorem dX10_likely_91 : decode cX10_likely 91 = .ok (.bipush 99, 2) := by decide +kernel
theorem dX10_likely_93 : decode cX10_likely 93 = .ok (.istore 8, 2) := by decide +kernel
theorem dX10_likely_95 : decode cX10_likely 95 = .ok (.iload 8, 2) := by decide +kernel
theorem dX10_likely_97 : decode cX10_likely 97 = .ok (.ifCond .lt 58, 3) := by decide +kernel
theorem dX10_likely_100 : decode cX10_likely 100 = .ok (.lconst 0, 1) := by decide +kernel
theorem dX10_likely_101 : decode cX10_likely 101 = .ok (.lstore 9, 2) := by decide +kernel
theorem dX10_likely_103 : decode cX10_likely 103 = .ok (.iconst 0, 1) := by decide +kernel
theorem dX10_likely_104 : decode cX10_likely 104 = .ok (.istore 11, 2) := by decide +kernel
theorem dX10_likely_106 : decode cX10_likely 106 = .ok (.iload 11, 2) := by decide +kernel
theorem dX10_likely_108 : decode cX10_likely 108 = .ok (.iload_n 1, 1) := by decide +kernel
theorem dX10_likely_109 : decode cX10_likely 109 = .ok (.if_icmp .gt 31, 3) := by decide +kernel
theorem dX10_likely_112 : decode cX10_likely 112 = .ok (.iload 11, 2) := by decide +kernel
theorem dX10_likely_114 : decode cX10_likely 114 = .ok (.iload 8, 2) := by decide +kernel
theorem dX10_likely_116 : decode cX10_likely 116 = .ok (.if_icmp .gt 24, 3) := by decide +kernel
theorem dX10_likely_119 : decode cX10_likely 119 = .ok (.lload 9, 2) := by decide +kernel
theorem dX10_likely_121 : decode cX10_likely 121 = .ok (.aload_n 0, 1) := by decide +kernel
theorem dX10_likely_122 : decode cX10_likely 122 = .ok (.getfield 67, 3) := by decide +kernel
theorem dX10_likely_125 : decode cX10_likely 125 = .ok (.iload 8, 2) := by decide +kernel
theorem dX10_likely_127 : decode cX10_likely 127 = .ok (.iload 11, 2) := by decide +kernel
theorem dX10_likely_129 : decode cX10_likely 129 = .ok (.isub, 1) := by decide +kernel
theorem dX10_likely_130 : decode cX10_likely 130 = .ok (.laload, 1) := by decide +kernel
theorem dX10_likely_131 : decode cX10_likely 131 = .ok (.ladd, 1) := by decide +kernel
theorem dX10_likely_132 : decode cX10_likely 132 = .ok (.lstore 9, 2) := by decide +kernel
theorem dX10_likely_134 : decode cX10_likely 134 = .ok (.iinc 11 1, 3) := by decide +kernel
theorem dX10_likely_137 : decode cX10_likely 137 = .ok (.goto (-31), 3) := by decide +kernel
theorem dX10_likely_140 : decode cX10_likely 140 = .ok (.aload_n 0, 1) := by decide +kernel
theorem dX10_likely_141 : decode cX10_likely 141 = .ok (.getfield 67, 3) := by decide +kernel
theorem dX10_likely_144 : decode cX10_likely 144 = .ok (.iload 8, 2) := by decide +kernel
theorem dX10_likely_146 : decode cX10_likely 146 = .ok (.lload 9, 2) := by decide +kernel
theorem dX10_likely_148 : decode cX10_likely 148 = .ok (.lastore, 1) := by decide +kernel
theorem dX10_likely_149 : decode cX10_likely 149 = .ok (.iinc 8 (-1), 3) := by decide +kernel
theorem dX10_likely_152 : decode cX10_likely 152 = .ok (.goto (-57), 3) := by decide +kernel
theorem dX10_likely_155 : decode cX10_likely 155 = .ok (.lload 5, 2) := by decide +kernel
theorem dX10_likely_157 : decode cX10_likely 157 = .ok (.iload_n 1, 1) := by decide +kernel
theorem dX10_likely_158 : decode cX10_likely 158 = .ok (.i2l, 1) := by decide +kernel
theorem dX10_likely_159 : decode cX10_likely 159 = .ok (.lconst 1, 1) := by decide +kernel
theorem dX10_likely_160 : decode cX10_likely 160 = .ok (.ladd, 1) := by decide +kernel
theorem dX10_likely_161 : decode cX10_likely 161 = .ok (.lmul, 1) := by decide +kernel
theorem dX10_likely_162 : decode cX10_likely 162 = .ok (.lstore 5, 2) := by decide +kernel
theorem dX10_likely_164 : decode cX10_likely 164 = .ok (.iinc 7 1, 3) := by decide +kernel
theorem dX10_likely_167 : decode cX10_likely 167 = .ok (.goto (-82), 3) := by decide +kernel
theorem dX10_likely_170 : decode cX10_likely 170 = .ok (.lconst 0, 1) := by decide +kernel
theorem dX10_likely_171 : decode cX10_likely 171 = .ok (.lstore 7, 2) := by decide +kernel
theorem dX10_likely_173 : decode cX10_likely 173 = .ok (.iconst 0, 1) := by decide +kernel
theorem dX10_likely_174 : decode cX10_likely 174 = .ok (.istore 9, 2) := by decide +kernel
theorem dX10_likely_176 : decode cX10_likely 176 = .ok (.iload 9, 2) := by decide +kernel
theorem dX10_likely_178 : decode cX10_likely 178 = .ok (.bipush 100, 2) := by decide +kernel
theorem dX10_likely_180 : decode cX10_likely 180 = .ok (.if_icmp .ge 38, 3) := by decide +kernel
theorem dX10_likely_183 : decode cX10_likely 183 = .ok (.lload 7, 2) := by decide +kernel
theorem dX10_likely_185 : decode cX10_likely 185 = .ok (.aload_n 0, 1) := by decide +kernel
theorem dX10_likely_186 : decode cX10_likely 186 = .ok (.getfield 13, 3) := by decide +kernel
theorem dX10_likely_189 : decode cX10_likely 189 = .ok (.iconst 0, 1) := by decide +kernel
theorem dX10_likely_190 : decode cX10_likely 190 = .ok (.iaload, 1) := by decide +kernel
theorem dX10_likely_191 : decode cX10_likely 191 = .ok (.iload 9, 2) := by decide +kernel
theorem dX10_likely_193 : decode cX10_likely 193 = .ok (.iadd, 1) := by decide +kernel
theorem dX10_likely_194 : decode cX10_likely 194 = .ok (.iload_n 2, 1) := by decide +kernel
theorem dX10_likely_195 : decode cX10_likely 195 = .ok (.if_icmp .le 13, 3) := by decide +kernel
theorem dX10_likely_198 : decode cX10_likely 198 = .ok (.aload_n 0, 1) := by decide +kernel
theorem dX10_likely_199 : decode cX10_likely 199 = .ok (.getfield 67, 3) := by decide +kernel
theorem dX10_likely_202 : decode cX10_likely 202 = .ok (.iload 9, 2) := by decide +kernel
theorem dX10_likely_204 : decode cX10_likely 204 = .ok (.laload, 1) := by decide +kernel
theorem dX10_likely_205 : decode cX10_likely 205 = .ok (.goto 4, 3) := by decide +kernel
theorem dX10_likely_208 : decode cX10_likely 208 = .ok (.lconst 0, 1) := by decide +kernel
theorem dX10_likely_209 : decode cX10_likely 209 = .ok (.ladd, 1) := by decide +kernel
theorem dX10_likely_210 : decode cX10_likely 210 = .ok (.lstore 7, 2) := by decide +kernel
theorem dX10_likely_212 : decode cX10_likely 212 = .ok (.iinc 9 1, 3) := by decide +kernel
theorem dX10_likely_215 : decode cX10_likely 215 = .ok (.goto (-39), 3) := by decide +kernel
theorem dX10_likely_218 : decode cX10_likely 218 = .ok (.lload 7, 2) := by decide +kernel
theorem dX10_likely_220 : decode cX10_likely 220 = .ok (.lload 5, 2) := by decide +kernel
theorem dX10_likely_222 : decode cX10_likely 222 = .ok (.iload 4, 2) := by decide +kernel
theorem dX10_likely_224 : decode cX10_likely 224 = .ok (.invokestatic 238, 3) := by decide +kernel
theorem dX10_likely_227 : decode cX10_likely 227 = .ok (.lreturn, 1) := by decide +kernel
theorem dX10_stone_0 : decode cX10_stone 0 = .ok (.iload_n 1, 1) := by decide +kernel
theorem dX10_stone_1 : decode cX10_stone 1 = .ok (.iconst 0, 1) := by decide +kernel
theorem dX10_stone_2 : decode cX10_stone 2 = .ok (.bipush 99, 2) := by decide +kernel
theorem dX10_stone_4 : decode cX10_stone 4 = .ok (.invokestatic 89, 3) := by decide +kernel
theorem dX10_stone_7 : decode cX10_stone 7 = .ok (.ifCond .eq 41, 3) := by decide +kernel
theorem dX10_stone_10 : decode cX10_stone 10 = .ok (.iload_n 2, 1) := by decide +kernel
theorem dX10_stone_11 : decode cX10_stone 11 = .ok (.invokestatic 93, 3) := by decide +kernel
theorem dX10_stone_14 : decode cX10_stone 14 = .ok (.ifCond .eq 34, 3) := by decide +kernel
theorem dX10_stone_17 : decode cX10_stone 17 = .ok (.iload 4, 2) := by decide +kernel
theorem dX10_stone_19 : decode cX10_stone 19 = .ok (.iconst 0, 1) := by decide +kernel
theorem dX10_stone_20 : decode cX10_stone 20 = .ok (.bipush 9, 2) := by decide +kernel
theorem dX10_stone_22 : decode cX10_stone 22 = .ok (.invokestatic 89, 3) := by decide +kernel
theorem dX10_stone_25 : decode cX10_stone 25 = .ok (.ifCond .eq 23, 3) := by decide +kernel
theorem dX10_stone_28 : decode cX10_stone 28 = .ok (.iload_n 3, 1) := by decide +kernel
theorem dX10_stone_29 : decode cX10_stone 29 = .ok (.iconst 0, 1) := by decide +kernel
theorem dX10_stone_30 : decode cX10_stone 30 = .ok (.iload 4, 2) := by decide +kernel
theorem dX10_stone_32 : decode cX10_stone 32 = .ok (.invokestatic 89, 3) := by decide +kernel
theorem dX10_stone_35 : decode cX10_stone 35 = .ok (.ifCond .eq 13, 3) := by decide +kernel
theorem dX10_stone_38 : decode cX10_stone 38 = .ok (.iload 5, 2) := by decide +kernel
theorem dX10_stone_40 : decode cX10_stone 40 = .ok (.iconst 0, 1) := by decide +kernel
theorem dX10_stone_41 : decode cX10_stone 41 = .ok (.iconst 1, 1) := by decide +kernel
theorem dX10_stone_42 : decode cX10_stone 42 = .ok (.invokestatic 89, 3) := by decide +kernel
theorem dX10_stone_45 : decode cX10_stone 45 = .ok (.ifCond .ne 6, 3) := by decide +kernel
theorem dX10_stone_48 : decode cX10_stone 48 = .ok (.bipush (-2), 2) := by decide +kernel
theorem dX10_stone_50 : decode cX10_stone 50 = .ok (.ireturn, 1) := by decide +kernel
theorem dX10_stone_51 : decode cX10_stone 51 = .ok (.aload_n 0, 1) := by decide +kernel
theorem dX10_stone_52 : decode cX10_stone 52 = .ok (.iload_n 2, 1) := by decide +kernel
theorem dX10_stone_53 : decode cX10_stone 53 = .ok (.invokevirtual 104, 3) := by decide +kernel
theorem dX10_stone_56 : decode cX10_stone 56 = .ok (.iload_n 1, 1) := by decide +kernel
theorem dX10_stone_57 : decode cX10_stone 57 = .ok (.isub, 1) := by decide +kernel
theorem dX10_stone_58 : decode cX10_stone 58 = .ok (.istore 6, 2) := by decide +kernel
theorem dX10_stone_60 : decode cX10_stone 60 = .ok (.iload 6, 2) := by decide +kernel
theorem dX10_stone_62 : decode cX10_stone 62 = .ok (.iconst 1, 1) := by decide +kernel
theorem dX10_stone_63 : decode cX10_stone 63 = .ok (.if_icmp .lt 8, 3) := by decide +kernel
theorem dX10_stone_66 : decode cX10_stone 66 = .ok (.iload 4, 2) := by decide +kernel
theorem dX10_stone_68 : decode cX10_stone 68 = .ok (.ifCond .ne 5, 3) := by decide +kernel
theorem dX10_stone_71 : decode cX10_stone 71 = .ok (.iconst (-1), 1) := by decide +kernel
theorem dX10_stone_72 : decode cX10_stone 72 = .ok (.ireturn, 1) := by decide +kernel
theorem dX10_stone_73 : decode cX10_stone 73 = .ok (.iload 5, 2) := by decide +kernel
theorem dX10_stone_75 : decode cX10_stone 75 = .ok (.ifCond .ne 18, 3) := by decide +kernel
theorem dX10_stone_78 : decode cX10_stone 78 = .ok (.iload 6, 2) := by decide +kernel
theorem dX10_stone_80 : decode cX10_stone 80 = .ok (.iload 4, 2) := by decide +kernel
theorem dX10_stone_82 : decode cX10_stone 82 = .ok (.iadd, 1) := by decide +kernel
theorem dX10_stone_83 : decode cX10_stone 83 = .ok (.iconst 1, 1) := by decide +kernel
theorem dX10_stone_84 : decode cX10_stone 84 = .ok (.isub, 1) := by decide +kernel
theorem dX10_stone_85 : decode cX10_stone 85 = .ok (.iload 4, 2) := by decide +kernel
theorem dX10_stone_87 : decode cX10_stone 87 = .ok (.idiv, 1) := by decide +kernel
theorem dX10_stone_88 : decode cX10_stone 88 = .ok (.iconst 1, 1) := by decide +kernel
theorem dX10_stone_89 : decode cX10_stone 89 = .ok (.isub, 1) := by decide +kernel
theorem dX10_stone_90 : decode cX10_stone 90 = .ok (.goto 19, 3) := by decide +kernel
theorem dX10_stone_93 : decode cX10_stone 93 = .ok (.iload_n 3, 1) := by decide +kernel
theorem dX10_stone_94 : decode cX10_stone 94 = .ok (.ifCond .ne 9, 3) := by decide +kernel
theorem dX10_stone_97 : decode cX10_stone 97 = .ok (.sipush 999, 3) := by decide +kernel
theorem dX10_stone_100 : decode cX10_stone 100 = .ok (.goto 9, 3) := by decide +kernel
theorem dX10_stone_103 : decode cX10_stone 103 = .ok (.iload 6, 2) := by decide +kernel
theorem dX10_stone_105 : decode cX10_stone 105 = .ok (.iconst 1, 1) := by decide +kernel
theorem dX10_stone_106 : decode cX10_stone 106 = .ok (.isub, 1) := by decide +kernel
theorem dX10_stone_107 : decode cX10_stone 107 = .ok (.iload_n 3, 1) := by decide +kernel
theorem dX10_stone_108 : decode cX10_stone 108 = .ok (.idiv, 1) := by decide +kernel
theorem dX10_stone_109 : decode cX10_stone 109 = .ok (.ireturn, 1) := by decide +kernel
theorem dX10_meets_0 : decode cX10_meets 0 = .ok (.aload_n 0, 1) := by decide +kernel
theorem dX10_meets_1 : decode cX10_meets 1 = .ok (.iload_n 1, 1) := by decide +kernel
theorem dX10_meets_2 : decode cX10_meets 2 = .ok (.putfield 242, 3) := by decide +kernel
theorem dX10_meets_5 : decode cX10_meets 5 = .ok (.bipush (-10), 2) := by decide +kernel
theorem dX10_meets_7 : decode cX10_meets 7 = .ok (.iload_n 1, 1) := by decide +kernel
theorem dX10_meets_8 : decode cX10_meets 8 = .ok (.isub, 1) := by decide +kernel
theorem dX10_meets_9 : decode cX10_meets 9 = .ok (.ireturn, 1) := by decide +kernel
theorem dX10_isSheet_0 : decode cX10_isSheet 0 = .ok (.iload_n 0, 1) := by decide +kernel
theorem dX10_isSheet_1 : decode cX10_isSheet 1 = .ok (.iconst 0, 1) := by decide +kernel
theorem dX10_isSheet_2 : decode cX10_isSheet 2 = .ok (.iconst 3, 1) := by decide +kernel
theorem dX10_isSheet_3 : decode cX10_isSheet 3 = .ok (.invokestatic 89, 3) := by decide +kernel
theorem dX10_isSheet_6 : decode cX10_isSheet 6 = .ok (.ireturn, 1) := by decide +kernel
theorem dX10_sheet_0 : decode cX10_sheet 0 = .ok (.iload_n 1, 1) := by decide +kernel
theorem dX10_sheet_1 : decode cX10_sheet 1 = .ok (.invokestatic 97, 3) := by decide +kernel
theorem dX10_sheet_4 : decode cX10_sheet 4 = .ok (.ifCond .eq 18, 3) := by decide +kernel
theorem dX10_sheet_7 : decode cX10_sheet 7 = .ok (.iload_n 2, 1) := by decide +kernel
theorem dX10_sheet_8 : decode cX10_sheet 8 = .ok (.iconst 0, 1) := by decide +kernel
theorem dX10_sheet_9 : decode cX10_sheet 9 = .ok (.iconst 2, 1) := by decide +kernel
theorem dX10_sheet_10 : decode cX10_sheet 10 = .ok (.invokestatic 89, 3) := by decide +kernel
theorem dX10_sheet_13 : decode cX10_sheet 13 = .ok (.ifCond .eq 9, 3) := by decide +kernel
theorem dX10_sheet_16 : decode cX10_sheet 16 = .ok (.iload_n 3, 1) := by decide +kernel
theorem dX10_sheet_17 : decode cX10_sheet 17 = .ok (.bipush 60, 2) := by decide +kernel
theorem dX10_sheet_19 : decode cX10_sheet 19 = .ok (.if_icmp .le 6, 3) := by decide +kernel
theorem dX10_sheet_22 : decode cX10_sheet 22 = .ok (.bipush (-2), 2) := by decide +kernel
theorem dX10_sheet_24 : decode cX10_sheet 24 = .ok (.ireturn, 1) := by decide +kernel
theorem dX10_sheet_25 : decode cX10_sheet 25 = .ok (.iload_n 3, 1) := by decide +kernel
theorem dX10_sheet_26 : decode cX10_sheet 26 = .ok (.ifCond .ge 9, 3) := by decide +kernel
theorem dX10_sheet_29 : decode cX10_sheet 29 = .ok (.aload_n 0, 1) := by decide +kernel
theorem dX10_sheet_30 : decode cX10_sheet 30 = .ok (.iconst 5, 1) := by decide +kernel
theorem dX10_sheet_31 : decode cX10_sheet 31 = .ok (.invokevirtual 100, 3) := by decide +kernel
theorem dX10_sheet_34 : decode cX10_sheet 34 = .ok (.ireturn, 1) := by decide +kernel
theorem dX10_sheet_35 : decode cX10_sheet 35 = .ok (.aload_n 0, 1) := by decide +kernel
theorem dX10_sheet_36 : decode cX10_sheet 36 = .ok (.getfield 71, 3) := by decide +kernel
theorem dX10_sheet_39 : decode cX10_sheet 39 = .ok (.iload_n 1, 1) := by decide +kernel
theorem dX10_sheet_40 : decode cX10_sheet 40 = .ok (.iconst 1, 1) := by decide +kernel
theorem dX10_sheet_41 : decode cX10_sheet 41 = .ok (.bastore, 1) := by decide +kernel
theorem dX10_sheet_42 : decode cX10_sheet 42 = .ok (.aload_n 0, 1) := by decide +kernel
theorem dX10_sheet_43 : decode cX10_sheet 43 = .ok (.getfield 75, 3) := by decide +kernel
theorem dX10_sheet_46 : decode cX10_sheet 46 = .ok (.iload_n 1, 1) := by decide +kernel
theorem dX10_sheet_47 : decode cX10_sheet 47 = .ok (.iload_n 2, 1) := by decide +kernel
theorem dX10_sheet_48 : decode cX10_sheet 48 = .ok (.iastore, 1) := by decide +kernel
theorem dX10_sheet_49 : decode cX10_sheet 49 = .ok (.aload_n 0, 1) := by decide +kernel
theorem dX10_sheet_50 : decode cX10_sheet 50 = .ok (.getfield 78, 3) := by decide +kernel
theorem dX10_sheet_53 : decode cX10_sheet 53 = .ok (.iload_n 1, 1) := by decide +kernel
theorem dX10_sheet_54 : decode cX10_sheet 54 = .ok (.iload_n 3, 1) := by decide +kernel
theorem dX10_sheet_55 : decode cX10_sheet 55 = .ok (.iastore, 1) := by decide +kernel
theorem dX10_sheet_56 : decode cX10_sheet 56 = .ok (.iconst 0, 1) := by decide +kernel
theorem dX10_sheet_57 : decode cX10_sheet 57 = .ok (.istore 4, 2) := by decide +kernel
theorem dX10_sheet_59 : decode cX10_sheet 59 = .ok (.iload 4, 2) := by decide +kernel
theorem dX10_sheet_61 : decode cX10_sheet 61 = .ok (.bipush 60, 2) := by decide +kernel
theorem dX10_sheet_63 : decode cX10_sheet 63 = .ok (.if_icmp .ge 22, 3) := by decide +kernel
theorem dX10_sheet_66 : decode cX10_sheet 66 = .ok (.aload_n 0, 1) := by decide +kernel
theorem dX10_sheet_67 : decode cX10_sheet 67 = .ok (.getfield 81, 3) := by decide +kernel
theorem dX10_sheet_70 : decode cX10_sheet 70 = .ok (.bipush 60, 2) := by decide +kernel
theorem dX10_sheet_72 : decode cX10_sheet 72 = .ok (.iload_n 1, 1) := by decide +kernel
theorem dX10_sheet_73 : decode cX10_sheet 73 = .ok (.imul, 1) := by decide +kernel
theorem dX10_sheet_74 : decode cX10_sheet 74 = .ok (.iload 4, 2) := by decide +kernel
theorem dX10_sheet_76 : decode cX10_sheet 76 = .ok (.iadd, 1) := by decide +kernel
theorem dX10_sheet_77 : decode cX10_sheet 77 = .ok (.iconst 0, 1) := by decide +kernel
theorem dX10_sheet_78 : decode cX10_sheet 78 = .ok (.iastore, 1) := by decide +kernel
theorem dX10_sheet_79 : decode cX10_sheet 79 = .ok (.iinc 4 1, 3) := by decide +kernel
theorem dX10_sheet_82 : decode cX10_sheet 82 = .ok (.goto (-23), 3) := by decide +kernel
theorem dX10_sheet_85 : decode cX10_sheet 85 = .ok (.iload_n 3, 1) := by decide +kernel
theorem dX10_sheet_86 : decode cX10_sheet 86 = .ok (.ireturn, 1) := by decide +kernel
theorem dX10_lose_0 : decode cX10_lose 0 = .ok (.iload_n 1, 1) := by decide +kernel
theorem dX10_lose_1 : decode cX10_lose 1 = .ok (.invokestatic 97, 3) := by decide +kernel
theorem dX10_lose_4 : decode cX10_lose 4 = .ok (.ifCond .ne 6, 3) := by decide +kernel
theorem dX10_lose_7 : decode cX10_lose 7 = .ok (.bipush (-2), 2) := by decide +kernel
theorem dX10_lose_9 : decode cX10_lose 9 = .ok (.ireturn, 1) := by decide +kernel
theorem dX10_lose_10 : decode cX10_lose 10 = .ok (.aload_n 0, 1) := by decide +kernel
theorem dX10_lose_11 : decode cX10_lose 11 = .ok (.getfield 71, 3) := by decide +kernel
theorem dX10_lose_14 : decode cX10_lose 14 = .ok (.iload_n 1, 1) := by decide +kernel
theorem dX10_lose_15 : decode cX10_lose 15 = .ok (.baload, 1) := by decide +kernel
theorem dX10_lose_16 : decode cX10_lose 16 = .ok (.ifCond .ne 9, 3) := by decide +kernel
theorem dX10_lose_19 : decode cX10_lose 19 = .ok (.aload_n 0, 1) := by decide +kernel
theorem dX10_lose_20 : decode cX10_lose 20 = .ok (.iconst 1, 1) := by decide +kernel
theorem dX10_lose_21 : decode cX10_lose 21 = .ok (.invokevirtual 100, 3) := by decide +kernel
theorem dX10_lose_24 : decode cX10_lose 24 = .ok (.ireturn, 1) := by decide +kernel
theorem dX10_lose_25 : decode cX10_lose 25 = .ok (.aload_n 0, 1) := by decide +kernel
theorem dX10_lose_26 : decode cX10_lose 26 = .ok (.getfield 71, 3) := by decide +kernel
theorem dX10_lose_29 : decode cX10_lose 29 = .ok (.iload_n 1, 1) := by decide +kernel
theorem dX10_lose_30 : decode cX10_lose 30 = .ok (.iconst 0, 1) := by decide +kernel
theorem dX10_lose_31 : decode cX10_lose 31 = .ok (.bastore, 1) := by decide +kernel
theorem dX10_lose_32 : decode cX10_lose 32 = .ok (.aload_n 0, 1) := by decide +kernel
theorem dX10_lose_33 : decode cX10_lose 33 = .ok (.getfield 78, 3) := by decide +kernel
theorem dX10_lose_36 : decode cX10_lose 36 = .ok (.iload_n 1, 1) := by decide +kernel
theorem dX10_lose_37 : decode cX10_lose 37 = .ok (.iaload, 1) := by decide +kernel
theorem dX10_lose_38 : decode cX10_lose 38 = .ok (.ireturn, 1) := by decide +kernel
theorem dX10_lacks_0 : decode cX10_lacks 0 = .ok (.aload_n 0, 1) := by decide +kernel
theorem dX10_lacks_1 : decode cX10_lacks 1 = .ok (.getfield 71, 3) := by decide +kernel
theorem dX10_lacks_4 : decode cX10_lacks 4 = .ok (.iload_n 1, 1) := by decide +kernel
theorem dX10_lacks_5 : decode cX10_lacks 5 = .ok (.baload, 1) := by decide +kernel
theorem dX10_lacks_6 : decode cX10_lacks 6 = .ok (.ifCond .ne 7, 3) := by decide +kernel
theorem dX10_lacks_9 : decode cX10_lacks 9 = .ok (.iconst 1, 1) := by decide +kernel
theorem dX10_lacks_10 : decode cX10_lacks 10 = .ok (.goto 38, 3) := by decide +kernel
theorem dX10_lacks_13 : decode cX10_lacks 13 = .ok (.aload_n 0, 1) := by decide +kernel
theorem dX10_lacks_14 : decode cX10_lacks 14 = .ok (.getfield 75, 3) := by decide +kernel
theorem dX10_lacks_17 : decode cX10_lacks 17 = .ok (.iload_n 1, 1) := by decide +kernel
theorem dX10_lacks_18 : decode cX10_lacks 18 = .ok (.iaload, 1) := by decide +kernel
theorem dX10_lacks_19 : decode cX10_lacks 19 = .ok (.iload_n 2, 1) := by decide +kernel
theorem dX10_lacks_20 : decode cX10_lacks 20 = .ok (.if_icmp .eq 7, 3) := by decide +kernel
theorem dX10_lacks_23 : decode cX10_lacks 23 = .ok (.iconst 3, 1) := by decide +kernel
theorem dX10_lacks_24 : decode cX10_lacks 24 = .ok (.goto 24, 3) := by decide +kernel
theorem dX10_lacks_27 : decode cX10_lacks 27 = .ok (.iload_n 3, 1) := by decide +kernel
theorem dX10_lacks_28 : decode cX10_lacks 28 = .ok (.iconst 0, 1) := by decide +kernel
theorem dX10_lacks_29 : decode cX10_lacks 29 = .ok (.aload_n 0, 1) := by decide +kernel
theorem dX10_lacks_30 : decode cX10_lacks 30 = .ok (.getfield 78, 3) := by decide +kernel
theorem dX10_lacks_33 : decode cX10_lacks 33 = .ok (.iload_n 1, 1) := by decide +kernel
theorem dX10_lacks_34 : decode cX10_lacks 34 = .ok (.iaload, 1) := by decide +kernel
theorem dX10_lacks_35 : decode cX10_lacks 35 = .ok (.iconst 1, 1) := by decide +kernel
theorem dX10_lacks_36 : decode cX10_lacks 36 = .ok (.isub, 1) := by decide +kernel
theorem dX10_lacks_37 : decode cX10_lacks 37 = .ok (.invokestatic 89, 3) := by decide +kernel
theorem dX10_lacks_40 : decode cX10_lacks 40 = .ok (.ifCond .eq 7, 3) := by decide +kernel
theorem dX10_lacks_43 : decode cX10_lacks 43 = .ok (.iconst 0, 1) := by decide +kernel
theorem dX10_lacks_44 : decode cX10_lacks 44 = .ok (.goto 4, 3) := by decide +kernel
theorem dX10_lacks_47 : decode cX10_lacks 47 = .ok (.iconst 2, 1) := by decide +kernel
theorem dX10_lacks_48 : decode cX10_lacks 48 = .ok (.ireturn, 1) := by decide +kernel
theorem dX10_keep_0 : decode cX10_keep 0 = .ok (.aload_n 0, 1) := by decide +kernel
theorem dX10_keep_1 : decode cX10_keep 1 = .ok (.getfield 81, 3) := by decide +kernel
theorem dX10_keep_4 : decode cX10_keep 4 = .ok (.bipush 60, 2) := by decide +kernel
theorem dX10_keep_6 : decode cX10_keep 6 = .ok (.iload_n 1, 1) := by decide +kernel
theorem dX10_keep_7 : decode cX10_keep 7 = .ok (.imul, 1) := by decide +kernel
theorem dX10_keep_8 : decode cX10_keep 8 = .ok (.iload_n 2, 1) := by decide +kernel
theorem dX10_keep_9 : decode cX10_keep 9 = .ok (.iadd, 1) := by decide +kernel
theorem dX10_keep_10 : decode cX10_keep 10 = .ok (.aload_n 0, 1) := by decide +kernel
theorem dX10_keep_11 : decode cX10_keep 11 = .ok (.getfield 75, 3) := by decide +kernel
theorem dX10_keep_14 : decode cX10_keep 14 = .ok (.iload_n 1, 1) := by decide +kernel
theorem dX10_keep_15 : decode cX10_keep 15 = .ok (.iaload, 1) := by decide +kernel
theorem dX10_keep_16 : decode cX10_keep 16 = .ok (.ifCond .ne 8, 3) := by decide +kernel
theorem dX10_keep_19 : decode cX10_keep 19 = .ok (.iload_n 3, 1) := by decide +kernel
theorem dX10_keep_20 : decode cX10_keep 20 = .ok (.i2b, 1) := by decide +kernel
theorem dX10_keep_21 : decode cX10_keep 21 = .ok (.goto 19, 3) := by decide +kernel
theorem dX10_keep_24 : decode cX10_keep 24 = .ok (.aload_n 0, 1) := by decide +kernel
theorem dX10_keep_25 : decode cX10_keep 25 = .ok (.getfield 75, 3) := by decide +kernel
theorem dX10_keep_28 : decode cX10_keep 28 = .ok (.iload_n 1, 1) := by decide +kernel
theorem dX10_keep_29 : decode cX10_keep 29 = .ok (.iaload, 1) := by decide +kernel
theorem dX10_keep_30 : decode cX10_keep 30 = .ok (.iconst 1, 1) := by decide +kernel
theorem dX10_keep_31 : decode cX10_keep 31 = .ok (.if_icmp .ne 8, 3) := by decide +kernel
theorem dX10_keep_34 : decode cX10_keep 34 = .ok (.iload_n 3, 1) := by decide +kernel
theorem dX10_keep_35 : decode cX10_keep 35 = .ok (.i2s, 1) := by decide +kernel
theorem dX10_keep_36 : decode cX10_keep 36 = .ok (.goto 4, 3) := by decide +kernel
theorem dX10_keep_39 : decode cX10_keep 39 = .ok (.iload_n 3, 1) := by decide +kernel
theorem dX10_keep_40 : decode cX10_keep 40 = .ok (.iastore, 1) := by decide +kernel
theorem dX10_keep_41 : decode cX10_keep 41 = .ok (.return_, 1) := by decide +kernel
theorem dX10_put_0 : decode cX10_put 0 = .ok (.iload_n 1, 1) := by decide +kernel
theorem dX10_put_1 : decode cX10_put 1 = .ok (.invokestatic 97, 3) := by decide +kernel
theorem dX10_put_4 : decode cX10_put 4 = .ok (.ifCond .eq 12, 3) := by decide +kernel
theorem dX10_put_7 : decode cX10_put 7 = .ok (.iload_n 2, 1) := by decide +kernel
theorem dX10_put_8 : decode cX10_put 8 = .ok (.iconst 0, 1) := by decide +kernel
theorem dX10_put_9 : decode cX10_put 9 = .ok (.iconst 2, 1) := by decide +kernel
theorem dX10_put_10 : decode cX10_put 10 = .ok (.invokestatic 89, 3) := by decide +kernel
theorem dX10_put_13 : decode cX10_put 13 = .ok (.ifCond .ne 6, 3) := by decide +kernel
theorem dX10_put_16 : decode cX10_put 16 = .ok (.bipush (-2), 2) := by decide +kernel
theorem dX10_put_18 : decode cX10_put 18 = .ok (.ireturn, 1) := by decide +kernel
theorem dX10_put_19 : decode cX10_put 19 = .ok (.aload_n 0, 1) := by decide +kernel
theorem dX10_put_20 : decode cX10_put 20 = .ok (.iload_n 1, 1) := by decide +kernel
theorem dX10_put_21 : decode cX10_put 21 = .ok (.iload_n 2, 1) := by decide +kernel
theorem dX10_put_22 : decode cX10_put 22 = .ok (.iload_n 3, 1) := by decide +kernel
theorem dX10_put_23 : decode cX10_put 23 = .ok (.invokevirtual 245, 3) := by decide +kernel
theorem dX10_put_26 : decode cX10_put 26 = .ok (.istore 5, 2) := by decide +kernel
theorem dX10_put_28 : decode cX10_put 28 = .ok (.iload 5, 2) := by decide +kernel
theorem dX10_put_30 : decode cX10_put 30 = .ok (.ifCond .le 10, 3) := by decide +kernel
theorem dX10_put_33 : decode cX10_put 33 = .ok (.aload_n 0, 1) := by decide +kernel
theorem dX10_put_34 : decode cX10_put 34 = .ok (.iload 5, 2) := by decide +kernel
theorem dX10_put_36 : decode cX10_put 36 = .ok (.invokevirtual 100, 3) := by decide +kernel
theorem dX10_put_39 : decode cX10_put 39 = .ok (.ireturn, 1) := by decide +kernel
theorem dX10_put_40 : decode cX10_put 40 = .ok (.aload_n 0, 1) := by decide +kernel
theorem dX10_put_41 : decode cX10_put 41 = .ok (.iload_n 1, 1) := by decide +kernel
theorem dX10_put_42 : decode cX10_put 42 = .ok (.iload_n 3, 1) := by decide +kernel
theorem dX10_put_43 : decode cX10_put 43 = .ok (.iload 4, 2) := by decide +kernel
theorem dX10_put_45 : decode cX10_put 45 = .ok (.invokevirtual 248, 3) := by decide +kernel
theorem dX10_put_48 : decode cX10_put 48 = .ok (.iconst 1, 1) := by decide +kernel
theorem dX10_put_49 : decode cX10_put 49 = .ok (.ireturn, 1) := by decide +kernel
theorem dX10_get_0 : decode cX10_get 0 = .ok (.iload_n 1, 1) := by decide +kernel
theorem dX10_get_1 : decode cX10_get 1 = .ok (.invokestatic 97, 3) := by decide +kernel
theorem dX10_get_4 : decode cX10_get 4 = .ok (.ifCond .eq 12, 3) := by decide +kernel
theorem dX10_get_7 : decode cX10_get 7 = .ok (.iload_n 2, 1) := by decide +kernel
theorem dX10_get_8 : decode cX10_get 8 = .ok (.iconst 0, 1) := by decide +kernel
theorem dX10_get_9 : decode cX10_get 9 = .ok (.iconst 2, 1) := by decide +kernel
theorem dX10_get_10 : decode cX10_get 10 = .ok (.invokestatic 89, 3) := by decide +kernel
theorem dX10_get_13 : decode cX10_get 13 = .ok (.ifCond .ne 6, 3) := by decide +kernel
theorem dX10_get_16 : decode cX10_get 16 = .ok (.ldc 252, 2) := by decide +kernel
theorem dX10_get_18 : decode cX10_get 18 = .ok (.ireturn, 1) := by decide +kernel
theorem dX10_get_19 : decode cX10_get 19 = .ok (.aload_n 0, 1) := by decide +kernel
theorem dX10_get_20 : decode cX10_get 20 = .ok (.iload_n 1, 1) := by decide +kernel
theorem dX10_get_21 : decode cX10_get 21 = .ok (.iload_n 2, 1) := by decide +kernel
theorem dX10_get_22 : decode cX10_get 22 = .ok (.iload_n 3, 1) := by decide +kernel
theorem dX10_get_23 : decode cX10_get 23 = .ok (.invokevirtual 245, 3) := by decide +kernel
theorem dX10_get_26 : decode cX10_get 26 = .ok (.istore 4, 2) := by decide +kernel
theorem dX10_get_28 : decode cX10_get 28 = .ok (.iload 4, 2) := by decide +kernel
theorem dX10_get_30 : decode cX10_get 30 = .ok (.ifCond .le 12, 3) := by decide +kernel
theorem dX10_get_33 : decode cX10_get 33 = .ok (.aload_n 0, 1) := by decide +kernel
theorem dX10_get_34 : decode cX10_get 34 = .ok (.iload 4, 2) := by decide +kernel
theorem dX10_get_36 : decode cX10_get 36 = .ok (.putfield 242, 3) := by decide +kernel
theorem dX10_get_39 : decode cX10_get 39 = .ok (.ldc 252, 2) := by decide +kernel
theorem dX10_get_41 : decode cX10_get 41 = .ok (.ireturn, 1) := by decide +kernel
theorem dX10_get_42 : decode cX10_get 42 = .ok (.aload_n 0, 1) := by decide +kernel
theorem dX10_get_43 : decode cX10_get 43 = .ok (.getfield 81, 3) := by decide +kernel
theorem dX10_get_46 : decode cX10_get 46 = .ok (.bipush 60, 2) := by decide +kernel
theorem dX10_get_48 : decode cX10_get 48 = .ok (.iload_n 1, 1) := by decide +kernel
theorem dX10_get_49 : decode cX10_get 49 = .ok (.imul, 1) := by decide +kernel
theorem dX10_get_50 : decode cX10_get 50 = .ok (.iload_n 3, 1) := by decide +kernel
theorem dX10_get_51 : decode cX10_get 51 = .ok (.iadd, 1) := by decide +kernel
theorem dX10_get_52 : decode cX10_get 52 = .ok (.iaload, 1) := by decide +kernel
theorem dX10_get_53 : decode cX10_get 53 = .ok (.ireturn, 1) := by decide +kernel
theorem dX10_copy_0 : decode cX10_copy 0 = .ok (.iload_n 1, 1) := by decide +kernel
theorem dX10_copy_1 : decode cX10_copy 1 = .ok (.invokestatic 97, 3) := by decide +kernel
theorem dX10_copy_4 : decode cX10_copy 4 = .ok (.ifCond .eq 10, 3) := by decide +kernel
theorem dX10_copy_7 : decode cX10_copy 7 = .ok (.iload_n 3, 1) := by decide +kernel
theorem dX10_copy_8 : decode cX10_copy 8 = .ok (.invokestatic 97, 3) := by decide +kernel
theorem dX10_copy_11 : decode cX10_copy 11 = .ok (.ifCond .ne 6, 3) := by decide +kernel
theorem dX10_copy_14 : decode cX10_copy 14 = .ok (.bipush (-2), 2) := by decide +kernel
theorem dX10_copy_16 : decode cX10_copy 16 = .ok (.ireturn, 1) := by decide +kernel
theorem dX10_copy_17 : decode cX10_copy 17 = .ok (.aload_n 0, 1) := by decide +kernel
theorem dX10_copy_18 : decode cX10_copy 18 = .ok (.getfield 71, 3) := by decide +kernel
theorem dX10_copy_21 : decode cX10_copy 21 = .ok (.iload_n 1, 1) := by decide +kernel
theorem dX10_copy_22 : decode cX10_copy 22 = .ok (.baload, 1) := by decide +kernel
theorem dX10_copy_23 : decode cX10_copy 23 = .ok (.ifCond .eq 12, 3) := by decide +kernel
theorem dX10_copy_26 : decode cX10_copy 26 = .ok (.aload_n 0, 1) := by decide +kernel
theorem dX10_copy_27 : decode cX10_copy 27 = .ok (.getfield 71, 3) := by decide +kernel
theorem dX10_copy_30 : decode cX10_copy 30 = .ok (.iload_n 3, 1) := by decide +kernel
theorem dX10_copy_31 : decode cX10_copy 31 = .ok (.baload, 1) := by decide +kernel
theorem dX10_copy_32 : decode cX10_copy 32 = .ok (.ifCond .ne 9, 3) := by decide +kernel
theorem dX10_copy_35 : decode cX10_copy 35 = .ok (.aload_n 0, 1) := by decide +kernel
theorem dX10_copy_36 : decode cX10_copy 36 = .ok (.iconst 1, 1) := by decide +kernel
theorem dX10_copy_37 : decode cX10_copy 37 = .ok (.invokevirtual 100, 3) := by decide +kernel
theorem dX10_copy_40 : decode cX10_copy 40 = .ok (.ireturn, 1) := by decide +kernel
theorem dX10_copy_41 : decode cX10_copy 41 = .ok (.aload_n 0, 1) := by decide +kernel
theorem dX10_copy_42 : decode cX10_copy 42 = .ok (.getfield 75, 3) := by decide +kernel
theorem dX10_copy_45 : decode cX10_copy 45 = .ok (.iload_n 1, 1) := by decide +kernel
theorem dX10_copy_46 : decode cX10_copy 46 = .ok (.iaload, 1) := by decide +kernel
theorem dX10_copy_47 : decode cX10_copy 47 = .ok (.aload_n 0, 1) := by decide +kernel
theorem dX10_copy_48 : decode cX10_copy 48 = .ok (.getfield 75, 3) := by decide +kernel
theorem dX10_copy_51 : decode cX10_copy 51 = .ok (.iload_n 3, 1) := by decide +kernel
theorem dX10_copy_52 : decode cX10_copy 52 = .ok (.iaload, 1) := by decide +kernel
theorem dX10_copy_53 : decode cX10_copy 53 = .ok (.if_icmp .eq 9, 3) := by decide +kernel
theorem dX10_copy_56 : decode cX10_copy 56 = .ok (.aload_n 0, 1) := by decide +kernel
theorem dX10_copy_57 : decode cX10_copy 57 = .ok (.iconst 4, 1) := by decide +kernel
theorem dX10_copy_58 : decode cX10_copy 58 = .ok (.invokevirtual 100, 3) := by decide +kernel
theorem dX10_copy_61 : decode cX10_copy 61 = .ok (.ireturn, 1) := by decide +kernel
theorem dX10_copy_62 : decode cX10_copy 62 = .ok (.iload_n 2, 1) := by decide +kernel
theorem dX10_copy_63 : decode cX10_copy 63 = .ok (.ifCond .lt 48, 3) := by decide +kernel
theorem dX10_copy_66 : decode cX10_copy 66 = .ok (.iload 4, 2) := by decide +kernel
theorem dX10_copy_68 : decode cX10_copy 68 = .ok (.ifCond .lt 43, 3) := by decide +kernel
theorem dX10_copy_71 : decode cX10_copy 71 = .ok (.iload 5, 2) := by decide +kernel
theorem dX10_copy_73 : decode cX10_copy 73 = .ok (.ifCond .lt 38, 3) := by decide +kernel
theorem dX10_copy_76 : decode cX10_copy 76 = .ok (.iload_n 2, 1) := by decide +kernel
theorem dX10_copy_77 : decode cX10_copy 77 = .ok (.i2l, 1) := by decide +kernel
theorem dX10_copy_78 : decode cX10_copy 78 = .ok (.iload 5, 2) := by decide +kernel
theorem dX10_copy_80 : decode cX10_copy 80 = .ok (.i2l, 1) := by decide +kernel
theorem dX10_copy_81 : decode cX10_copy 81 = .ok (.ladd, 1) := by decide +kernel
theorem dX10_copy_82 : decode cX10_copy 82 = .ok (.aload_n 0, 1) := by decide +kernel
theorem dX10_copy_83 : decode cX10_copy 83 = .ok (.getfield 78, 3) := by decide +kernel
theorem dX10_copy_86 : decode cX10_copy 86 = .ok (.iload_n 1, 1) := by decide +kernel
theorem dX10_copy_87 : decode cX10_copy 87 = .ok (.iaload, 1) := by decide +kernel
theorem dX10_copy_88 : decode cX10_copy 88 = .ok (.i2l, 1) := by decide +kernel
theorem dX10_copy_89 : decode cX10_copy 89 = .ok (.lcmp, 1) := by decide +kernel
theorem dX10_copy_90 : decode cX10_copy 90 = .ok (.ifCond .gt 21, 3) := by decide +kernel
theorem dX10_copy_93 : decode cX10_copy 93 = .ok (.iload 4, 2) := by decide +kernel
theorem dX10_copy_95 : decode cX10_copy 95 = .ok (.i2l, 1) := by decide +kernel
theorem dX10_copy_96 : decode cX10_copy 96 = .ok (.iload 5, 2) := by decide +kernel
theorem dX10_copy_98 : decode cX10_copy 98 = .ok (.i2l, 1) := by decide +kernel
theorem dX10_copy_99 : decode cX10_copy 99 = .ok (.ladd, 1) := by decide +kernel
theorem dX10_copy_100 : decode cX10_copy 100 = .ok (.aload_n 0, 1) := by decide +kernel
theorem dX10_copy_101 : decode cX10_copy 101 = .ok (.getfield 78, 3) := by decide +kernel
theorem dX10_copy_104 : decode cX10_copy 104 = .ok (.iload_n 3, 1) := by decide +kernel
theorem dX10_copy_105 : decode cX10_copy 105 = .ok (.iaload, 1) := by decide +kernel
theorem dX10_copy_106 : decode cX10_copy 106 = .ok (.i2l, 1) := by decide +kernel
theorem dX10_copy_107 : decode cX10_copy 107 = .ok (.lcmp, 1) := by decide +kernel
theorem dX10_copy_108 : decode cX10_copy 108 = .ok (.ifCond .le 9, 3) := by decide +kernel
theorem dX10_copy_111 : decode cX10_copy 111 = .ok (.aload_n 0, 1) := by decide +kernel
theorem dX10_copy_112 : decode cX10_copy 112 = .ok (.iconst 2, 1) := by decide +kernel
theorem dX10_copy_113 : decode cX10_copy 113 = .ok (.invokevirtual 100, 3) := by decide +kernel
theorem dX10_copy_116 : decode cX10_copy 116 = .ok (.ireturn, 1) := by decide +kernel
theorem dX10_copy_117 : decode cX10_copy 117 = .ok (.iconst 0, 1) := by decide +kernel
theorem dX10_copy_118 : decode cX10_copy 118 = .ok (.istore 6, 2) := by decide +kernel
theorem dX10_copy_120 : decode cX10_copy 120 = .ok (.iload 6, 2) := by decide +kernel
theorem dX10_copy_122 : decode cX10_copy 122 = .ok (.iload 5, 2) := by decide +kernel
theorem dX10_copy_124 : decode cX10_copy 124 = .ok (.if_icmp .ge 30, 3) := by decide +kernel
theorem dX10_copy_127 : decode cX10_copy 127 = .ok (.aload_n 0, 1) := by decide +kernel
theorem dX10_copy_128 : decode cX10_copy 128 = .ok (.getfield 84, 3) := by decide +kernel
theorem dX10_copy_131 : decode cX10_copy 131 = .ok (.iload 6, 2) := by decide +kernel
theorem dX10_copy_133 : decode cX10_copy 133 = .ok (.aload_n 0, 1) := by decide +kernel
theorem dX10_copy_134 : decode cX10_copy 134 = .ok (.getfield 81, 3) := by decide +kernel
theorem dX10_copy_137 : decode cX10_copy 137 = .ok (.bipush 60, 2) := by decide +kernel
theorem dX10_copy_139 : decode cX10_copy 139 = .ok (.iload_n 1, 1) := by decide +kernel
theorem dX10_copy_140 : decode cX10_copy 140 = .ok (.imul, 1) := by decide +kernel
theorem dX10_copy_141 : decode cX10_copy 141 = .ok (.iload_n 2, 1) := by decide +kernel
theorem dX10_copy_142 : decode cX10_copy 142 = .ok (.iadd, 1) := by decide +kernel
theorem dX10_copy_143 : decode cX10_copy 143 = .ok (.iload 6, 2) := by decide +kernel
theorem dX10_copy_145 : decode cX10_copy 145 = .ok (.iadd, 1) := by decide +kernel
theorem dX10_copy_146 : decode cX10_copy 146 = .ok (.iaload, 1) := by decide +kernel
theorem dX10_copy_147 : decode cX10_copy 147 = .ok (.iastore, 1) := by decide +kernel
theorem dX10_copy_148 : decode cX10_copy 148 = .ok (.iinc 6 1, 3) := by decide +kernel
theorem dX10_copy_151 : decode cX10_copy 151 = .ok (.goto (-31), 3) := by decide +kernel
theorem dX10_copy_154 : decode cX10_copy 154 = .ok (.iconst 0, 1) := by decide +kernel
theorem dX10_copy_155 : decode cX10_copy 155 = .ok (.istore 6, 2) := by decide +kernel
theorem dX10_copy_157 : decode cX10_copy 157 = .ok (.iload 6, 2) := by decide +kernel
theorem dX10_copy_159 : decode cX10_copy 159 = .ok (.iload 5, 2) := by decide +kernel
theorem dX10_copy_161 : decode cX10_copy 161 = .ok (.if_icmp .ge 31, 3) := by decide +kernel
theorem dX10_copy_164 : decode cX10_copy 164 = .ok (.aload_n 0, 1) := by decide +kernel
theorem dX10_copy_165 : decode cX10_copy 165 = .ok (.getfield 81, 3) := by decide +kernel
theorem dX10_copy_168 : decode cX10_copy 168 = .ok (.bipush 60, 2) := by decide +kernel
theorem dX10_copy_170 : decode cX10_copy 170 = .ok (.iload_n 3, 1) := by decide +kernel
theorem dX10_copy_171 : decode cX10_copy 171 = .ok (.imul, 1) := by decide +kernel
theorem dX10_copy_172 : decode cX10_copy 172 = .ok (.iload 4, 2) := by decide +kernel
theorem dX10_copy_174 : decode cX10_copy 174 = .ok (.iadd, 1) := by decide +kernel
theorem dX10_copy_175 : decode cX10_copy 175 = .ok (.iload 6, 2) := by decide +kernel
theorem dX10_copy_177 : decode cX10_copy 177 = .ok (.iadd, 1) := by decide +kernel
theorem dX10_copy_178 : decode cX10_copy 178 = .ok (.aload_n 0, 1) := by decide +kernel
theorem dX10_copy_179 : decode cX10_copy 179 = .ok (.getfield 84, 3) := by decide +kernel
theorem dX10_copy_182 : decode cX10_copy 182 = .ok (.iload 6, 2) := by decide +kernel
theorem dX10_copy_184 : decode cX10_copy 184 = .ok (.iaload, 1) := by decide +kernel
theorem dX10_copy_185 : decode cX10_copy 185 = .ok (.iastore, 1) := by decide +kernel
theorem dX10_copy_186 : decode cX10_copy 186 = .ok (.iinc 6 1, 3) := by decide +kernel
theorem dX10_copy_189 : decode cX10_copy 189 = .ok (.goto (-32), 3) := by decide +kernel
theorem dX10_copy_192 : decode cX10_copy 192 = .ok (.iconst 1, 1) := by decide +kernel
theorem dX10_copy_193 : decode cX10_copy 193 = .ok (.ireturn, 1) := by decide +kernel
theorem dX10_write_0 : decode cX10_write 0 = .ok (.iload_n 1, 1) := by decide +kernel
theorem dX10_write_1 : decode cX10_write 1 = .ok (.iconst 0, 1) := by decide +kernel
theorem dX10_write_2 : decode cX10_write 2 = .ok (.bipush 40, 2) := by decide +kernel
theorem dX10_write_4 : decode cX10_write 4 = .ok (.invokestatic 89, 3) := by decide +kernel
theorem dX10_write_7 : decode cX10_write 7 = .ok (.ifCond .eq 10, 3) := by decide +kernel
theorem dX10_write_10 : decode cX10_write 10 = .ok (.iload_n 2, 1) := by decide +kernel
theorem dX10_write_11 : decode cX10_write 11 = .ok (.invokestatic 97, 3) := by decide +kernel
theorem dX10_write_14 : decode cX10_write 14 = .ok (.ifCond .ne 6, 3) := by decide +kernel
theorem dX10_write_17 : decode cX10_write 17 = .ok (.bipush (-2), 2) := by decide +kernel
theorem dX10_write_19 : decode cX10_write 19 = .ok (.ireturn, 1) := by decide +kernel
theorem dX10_write_20 : decode cX10_write 20 = .ok (.aload_n 0, 1) := by decide +kernel
theorem dX10_write_21 : decode cX10_write 21 = .ok (.getfield 71, 3) := by decide +kernel
theorem dX10_write_24 : decode cX10_write 24 = .ok (.iload_n 2, 1) := by decide +kernel
theorem dX10_write_25 : decode cX10_write 25 = .ok (.baload, 1) := by decide +kernel
theorem dX10_write_26 : decode cX10_write 26 = .ok (.ifCond .ne 9, 3) := by decide +kernel
theorem dX10_write_29 : decode cX10_write 29 = .ok (.aload_n 0, 1) := by decide +kernel
theorem dX10_write_30 : decode cX10_write 30 = .ok (.iconst 1, 1) := by decide +kernel
theorem dX10_write_31 : decode cX10_write 31 = .ok (.invokevirtual 100, 3) := by decide +kernel
theorem dX10_write_34 : decode cX10_write 34 = .ok (.ireturn, 1) := by decide +kernel
theorem dX10_write_35 : decode cX10_write 35 = .ok (.aload_n 0, 1) := by decide +kernel
theorem dX10_write_36 : decode cX10_write 36 = .ok (.iload_n 1, 1) := by decide +kernel
theorem dX10_write_37 : decode cX10_write 37 = .ok (.invokevirtual 167, 3) := by decide +kernel
theorem dX10_write_40 : decode cX10_write 40 = .ok (.iconst 0, 1) := by decide +kernel
theorem dX10_write_41 : decode cX10_write 41 = .ok (.istore_n 3, 1) := by decide +kernel
theorem dX10_write_42 : decode cX10_write 42 = .ok (.iload_n 3, 1) := by decide +kernel
theorem dX10_write_43 : decode cX10_write 43 = .ok (.aload_n 0, 1) := by decide +kernel
theorem dX10_write_44 : decode cX10_write 44 = .ok (.getfield 78, 3) := by decide +kernel
theorem dX10_write_47 : decode cX10_write 47 = .ok (.iload_n 2, 1) := by decide +kernel
theorem dX10_write_48 : decode cX10_write 48 = .ok (.iaload, 1) := by decide +kernel
theorem dX10_write_49 : decode cX10_write 49 = .ok (.if_icmp .ge 29, 3) := by decide +kernel
theorem dX10_write_52 : decode cX10_write 52 = .ok (.iload_n 3, 1) := by decide +kernel
theorem dX10_write_53 : decode cX10_write 53 = .ok (.aload_n 0, 1) := by decide +kernel
theorem dX10_write_54 : decode cX10_write 54 = .ok (.getfield 111, 3) := by decide +kernel
theorem dX10_write_57 : decode cX10_write 57 = .ok (.if_icmp .ge 21, 3) := by decide +kernel
theorem dX10_write_60 : decode cX10_write 60 = .ok (.aload_n 0, 1) := by decide +kernel
theorem dX10_write_61 : decode cX10_write 61 = .ok (.iload_n 2, 1) := by decide +kernel
theorem dX10_write_62 : decode cX10_write 62 = .ok (.iload_n 3, 1) := by decide +kernel
theorem dX10_write_63 : decode cX10_write 63 = .ok (.aload_n 0, 1) := by decide +kernel
theorem dX10_write_64 : decode cX10_write 64 = .ok (.getfield 37, 3) := by decide +kernel
theorem dX10_write_67 : decode cX10_write 67 = .ok (.iload_n 3, 1) := by decide +kernel
theorem dX10_write_68 : decode cX10_write 68 = .ok (.iaload, 1) := by decide +kernel
theorem dX10_write_69 : decode cX10_write 69 = .ok (.invokevirtual 248, 3) := by decide +kernel
theorem dX10_write_72 : decode cX10_write 72 = .ok (.iinc 3 1, 3) := by decide +kernel
theorem dX10_write_75 : decode cX10_write 75 = .ok (.goto (-33), 3) := by decide +kernel
theorem dX10_write_78 : decode cX10_write 78 = .ok (.iload_n 3, 1) := by decide +kernel
theorem dX10_write_79 : decode cX10_write 79 = .ok (.ireturn, 1) := by decide +kernel
theorem dX10_movesNow_0 : decode cX10_movesNow 0 = .ok (.aload_n 0, 1) := by decide +kernel
theorem dX10_movesNow_1 : decode cX10_movesNow 1 = .ok (.invokevirtual 125, 3) := by decide +kernel
theorem dX10_movesNow_4 : decode cX10_movesNow 4 = .ok (.istore_n 1, 1) := by decide +kernel
theorem dX10_movesNow_5 : decode cX10_movesNow 5 = .ok (.aload_n 0, 1) := by decide +kernel
theorem dX10_movesNow_6 : decode cX10_movesNow 6 = .ok (.getfield 122, 3) := by decide +kernel
theorem dX10_movesNow_9 : decode cX10_movesNow 9 = .ok (.ireturn, 1) := by decide +kernel
theorem dX10_count_0 : decode cX10_count 0 = .ok (.iload_n 1, 1) := by decide +kernel
theorem dX10_count_1 : decode cX10_count 1 = .ok (.tableswitch 97 0 8 #[51, 56, 56, 65, 70, 75, 80, 85, 92], 51) := by decide +kernel
theorem dX10_count_52 : decode cX10_count 52 = .ok (.aload_n 0, 1) := by decide +kernel
theorem dX10_count_53 : decode cX10_count 53 = .ok (.invokevirtual 131, 3) := by decide +kernel
theorem dX10_count_56 : decode cX10_count 56 = .ok (.ireturn, 1) := by decide +kernel
theorem dX10_count_57 : decode cX10_count 57 = .ok (.aload_n 0, 1) := by decide +kernel
theorem dX10_count_58 : decode cX10_count 58 = .ok (.getfield 16, 3) := by decide +kernel
theorem dX10_count_61 : decode cX10_count 61 = .ok (.iload_n 1, 1) := by decide +kernel
theorem dX10_count_62 : decode cX10_count 62 = .ok (.iconst 1, 1) := by decide +kernel
theorem dX10_count_63 : decode cX10_count 63 = .ok (.isub, 1) := by decide +kernel
theorem dX10_count_64 : decode cX10_count 64 = .ok (.iaload, 1) := by decide +kernel
theorem dX10_count_65 : decode cX10_count 65 = .ok (.ireturn, 1) := by decide +kernel
theorem dX10_count_66 : decode cX10_count 66 = .ok (.aload_n 0, 1) := by decide +kernel
theorem dX10_count_67 : decode cX10_count 67 = .ok (.invokevirtual 253, 3) := by decide +kernel
theorem dX10_count_70 : decode cX10_count 70 = .ok (.ireturn, 1) := by decide +kernel
theorem dX10_count_71 : decode cX10_count 71 = .ok (.aload_n 0, 1) := by decide +kernel
theorem dX10_count_72 : decode cX10_count 72 = .ok (.getfield 192, 3) := by decide +kernel
theorem dX10_count_75 : decode cX10_count 75 = .ok (.ireturn, 1) := by decide +kernel
theorem dX10_count_76 : decode cX10_count 76 = .ok (.aload_n 0, 1) := by decide +kernel
theorem dX10_count_77 : decode cX10_count 77 = .ok (.getfield 208, 3) := by decide +kernel
theorem dX10_count_80 : decode cX10_count 80 = .ok (.ireturn, 1) := by decide +kernel
theorem dX10_count_81 : decode cX10_count 81 = .ok (.aload_n 0, 1) := by decide +kernel
theorem dX10_count_82 : decode cX10_count 82 = .ok (.getfield 225, 3) := by decide +kernel
theorem dX10_count_85 : decode cX10_count 85 = .ok (.ireturn, 1) := by decide +kernel
theorem dX10_count_86 : decode cX10_count 86 = .ok (.aload_n 0, 1) := by decide +kernel
theorem dX10_count_87 : decode cX10_count 87 = .ok (.getfield 13, 3) := by decide +kernel
theorem dX10_count_90 : decode cX10_count 90 = .ok (.iconst 1, 1) := by decide +kernel
theorem dX10_count_91 : decode cX10_count 91 = .ok (.iaload, 1) := by decide +kernel
theorem dX10_count_92 : decode cX10_count 92 = .ok (.ireturn, 1) := by decide +kernel
theorem dX10_count_93 : decode cX10_count 93 = .ok (.aload_n 0, 1) := by decide +kernel
theorem dX10_count_94 : decode cX10_count 94 = .ok (.getfield 242, 3) := by decide +kernel
theorem dX10_count_97 : decode cX10_count 97 = .ok (.ireturn, 1) := by decide +kernel
theorem dX10_count_98 : decode cX10_count 98 = .ok (.bipush (-2), 2) := by decide +kernel
theorem dX10_count_100 : decode cX10_count 100 = .ok (.ireturn, 1) := by decide +kernel
theorem dX10_digest_0 : decode cX10_digest 0 = .ok (.ldc2_w 256, 3) := by decide +kernel
theorem dX10_digest_3 : decode cX10_digest 3 = .ok (.lstore_n 1, 1) := by decide +kernel
theorem dX10_digest_4 : decode cX10_digest 4 = .ok (.iconst 0, 1) := by decide +kernel
theorem dX10_digest_5 : decode cX10_digest 5 = .ok (.istore_n 3, 1) := by decide +kernel
theorem dX10_digest_6 : decode cX10_digest 6 = .ok (.iload_n 3, 1) := by decide +kernel
theorem dX10_digest_7 : decode cX10_digest 7 = .ok (.bipush 8, 2) := by decide +kernel
theorem dX10_digest_9 : decode cX10_digest 9 = .ok (.if_icmp .ge 22, 3) := by decide +kernel
theorem dX10_digest_12 : decode cX10_digest 12 = .ok (.ldc2_w 258, 3) := by decide +kernel
theorem dX10_digest_15 : decode cX10_digest 15 = .ok (.lload_n 1, 1) := by decide +kernel
theorem dX10_digest_16 : decode cX10_digest 16 = .ok (.lmul, 1) := by decide +kernel
theorem dX10_digest_17 : decode cX10_digest 17 = .ok (.aload_n 0, 1) := by decide +kernel
theorem dX10_digest_18 : decode cX10_digest 18 = .ok (.iload_n 3, 1) := by decide +kernel
theorem dX10_digest_19 : decode cX10_digest 19 = .ok (.invokevirtual 260, 3) := by decide +kernel
theorem dX10_digest_22 : decode cX10_digest 22 = .ok (.i2l, 1) := by decide +kernel
theorem dX10_digest_23 : decode cX10_digest 23 = .ok (.ladd, 1) := by decide +kernel
theorem dX10_digest_24 : decode cX10_digest 24 = .ok (.lstore_n 1, 1) := by decide +kernel
theorem dX10_digest_25 : decode cX10_digest 25 = .ok (.iinc 3 1, 3) := by decide +kernel
theorem dX10_digest_28 : decode cX10_digest 28 = .ok (.goto (-22), 3) := by decide +kernel
theorem dX10_digest_31 : decode cX10_digest 31 = .ok (.ldc2_w 258, 3) := by decide +kernel
theorem dX10_digest_34 : decode cX10_digest 34 = .ok (.lload_n 1, 1) := by decide +kernel
theorem dX10_digest_35 : decode cX10_digest 35 = .ok (.lmul, 1) := by decide +kernel
theorem dX10_digest_36 : decode cX10_digest 36 = .ok (.aload_n 0, 1) := by decide +kernel
theorem dX10_digest_37 : decode cX10_digest 37 = .ok (.iconst 0, 1) := by decide +kernel
theorem dX10_digest_38 : decode cX10_digest 38 = .ok (.invokevirtual 128, 3) := by decide +kernel
theorem dX10_digest_41 : decode cX10_digest 41 = .ok (.i2l, 1) := by decide +kernel
theorem dX10_digest_42 : decode cX10_digest 42 = .ok (.ladd, 1) := by decide +kernel
theorem dX10_digest_43 : decode cX10_digest 43 = .ok (.lstore_n 1, 1) := by decide +kernel
theorem dX10_digest_44 : decode cX10_digest 44 = .ok (.ldc2_w 258, 3) := by decide +kernel
theorem dX10_digest_47 : decode cX10_digest 47 = .ok (.lload_n 1, 1) := by decide +kernel
theorem dX10_digest_48 : decode cX10_digest 48 = .ok (.lmul, 1) := by decide +kernel
theorem dX10_digest_49 : decode cX10_digest 49 = .ok (.aload_n 0, 1) := by decide +kernel
theorem dX10_digest_50 : decode cX10_digest 50 = .ok (.iconst 1, 1) := by decide +kernel
theorem dX10_digest_51 : decode cX10_digest 51 = .ok (.invokevirtual 128, 3) := by decide +kernel
theorem dX10_digest_54 : decode cX10_digest 54 = .ok (.i2l, 1) := by decide +kernel
theorem dX10_digest_55 : decode cX10_digest 55 = .ok (.ladd, 1) := by decide +kernel
theorem dX10_digest_56 : decode cX10_digest 56 = .ok (.lstore_n 1, 1) := by decide +kernel
theorem dX10_digest_57 : decode cX10_digest 57 = .ok (.iconst 0, 1) := by decide +kernel
theorem dX10_digest_58 : decode cX10_digest 58 = .ok (.istore_n 3, 1) := by decide +kernel
theorem dX10_digest_59 : decode cX10_digest 59 = .ok (.iload_n 3, 1) := by decide +kernel
theorem dX10_digest_60 : decode cX10_digest 60 = .ok (.aload_n 0, 1) := by decide +kernel
theorem dX10_digest_61 : decode cX10_digest 61 = .ok (.getfield 111, 3) := by decide +kernel
theorem dX10_digest_64 : decode cX10_digest 64 = .ok (.if_icmp .ge 82, 3) := by decide +kernel
theorem dX10_digest_67 : decode cX10_digest 67 = .ok (.iconst 0, 1) := by decide +kernel
theorem dX10_digest_68 : decode cX10_digest 68 = .ok (.istore 4, 2) := by decide +kernel
theorem dX10_digest_70 : decode cX10_digest 70 = .ok (.iload 4, 2) := by decide +kernel
theorem dX10_digest_72 : decode cX10_digest 72 = .ok (.iconst 3, 1) := by decide +kernel
theorem dX10_digest_73 : decode cX10_digest 73 = .ok (.if_icmp .ge 24, 3) := by decide +kernel
theorem dX10_digest_76 : decode cX10_digest 76 = .ok (.ldc2_w 258, 3) := by decide +kernel
theorem dX10_digest_79 : decode cX10_digest 79 = .ok (.lload_n 1, 1) := by decide +kernel
theorem dX10_digest_80 : decode cX10_digest 80 = .ok (.lmul, 1) := by decide +kernel
theorem dX10_digest_81 : decode cX10_digest 81 = .ok (.aload_n 0, 1) := by decide +kernel
theorem dX10_digest_82 : decode cX10_digest 82 = .ok (.iload_n 3, 1) := by decide +kernel
theorem dX10_digest_83 : decode cX10_digest 83 = .ok (.iload 4, 2) := by decide +kernel
theorem dX10_digest_85 : decode cX10_digest 85 = .ok (.invokevirtual 137, 3) := by decide +kernel
theorem dX10_digest_88 : decode cX10_digest 88 = .ok (.i2l, 1) := by decide +kernel
theorem dX10_digest_89 : decode cX10_digest 89 = .ok (.ladd, 1) := by decide +kernel
theorem dX10_digest_90 : decode cX10_digest 90 = .ok (.lstore_n 1, 1) := by decide +kernel
theorem dX10_digest_91 : decode cX10_digest 91 = .ok (.iinc 4 1, 3) := by decide +kernel
theorem dX10_digest_94 : decode cX10_digest 94 = .ok (.goto (-24), 3) := by decide +kernel
theorem dX10_digest_97 : decode cX10_digest 97 = .ok (.ldc2_w 258, 3) := by decide +kernel
theorem dX10_digest_100 : decode cX10_digest 100 = .ok (.lload_n 1, 1) := by decide +kernel
theorem dX10_digest_101 : decode cX10_digest 101 = .ok (.lmul, 1) := by decide +kernel
theorem dX10_digest_102 : decode cX10_digest 102 = .ok (.aload_n 0, 1) := by decide +kernel
theorem dX10_digest_103 : decode cX10_digest 103 = .ok (.iload_n 3, 1) := by decide +kernel
theorem dX10_digest_104 : decode cX10_digest 104 = .ok (.invokevirtual 161, 3) := by decide +kernel
theorem dX10_digest_107 : decode cX10_digest 107 = .ok (.i2l, 1) := by decide +kernel
theorem dX10_digest_108 : decode cX10_digest 108 = .ok (.ladd, 1) := by decide +kernel
theorem dX10_digest_109 : decode cX10_digest 109 = .ok (.lstore_n 1, 1) := by decide +kernel
theorem dX10_digest_110 : decode cX10_digest 110 = .ok (.ldc2_w 258, 3) := by decide +kernel
theorem dX10_digest_113 : decode cX10_digest 113 = .ok (.lload_n 1, 1) := by decide +kernel
theorem dX10_digest_114 : decode cX10_digest 114 = .ok (.lmul, 1) := by decide +kernel
theorem dX10_digest_115 : decode cX10_digest 115 = .ok (.aload_n 0, 1) := by decide +kernel
theorem dX10_digest_116 : decode cX10_digest 116 = .ok (.bipush 9, 2) := by decide +kernel
theorem dX10_digest_118 : decode cX10_digest 118 = .ok (.iload_n 3, 1) := by decide +kernel
theorem dX10_digest_119 : decode cX10_digest 119 = .ok (.invokevirtual 171, 3) := by decide +kernel
theorem dX10_digest_122 : decode cX10_digest 122 = .ok (.i2l, 1) := by decide +kernel
theorem dX10_digest_123 : decode cX10_digest 123 = .ok (.ladd, 1) := by decide +kernel
theorem dX10_digest_124 : decode cX10_digest 124 = .ok (.lstore_n 1, 1) := by decide +kernel
theorem dX10_digest_125 : decode cX10_digest 125 = .ok (.ldc2_w 258, 3) := by decide +kernel
theorem dX10_digest_128 : decode cX10_digest 128 = .ok (.lload_n 1, 1) := by decide +kernel
theorem dX10_digest_129 : decode cX10_digest 129 = .ok (.lmul, 1) := by decide +kernel
theorem dX10_digest_130 : decode cX10_digest 130 = .ok (.aload_n 0, 1) := by decide +kernel
theorem dX10_digest_131 : decode cX10_digest 131 = .ok (.iload_n 3, 1) := by decide +kernel
theorem dX10_digest_132 : decode cX10_digest 132 = .ok (.bipush 10, 2) := by decide +kernel
theorem dX10_digest_134 : decode cX10_digest 134 = .ok (.invokevirtual 228, 3) := by decide +kernel
theorem dX10_digest_137 : decode cX10_digest 137 = .ok (.i2l, 1) := by decide +kernel
theorem dX10_digest_138 : decode cX10_digest 138 = .ok (.ladd, 1) := by decide +kernel
theorem dX10_digest_139 : decode cX10_digest 139 = .ok (.lstore_n 1, 1) := by decide +kernel
theorem dX10_digest_140 : decode cX10_digest 140 = .ok (.iinc 3 1, 3) := by decide +kernel
theorem dX10_digest_143 : decode cX10_digest 143 = .ok (.goto (-84), 3) := by decide +kernel
theorem dX10_digest_146 : decode cX10_digest 146 = .ok (.ldc2_w 258, 3) := by decide +kernel
theorem dX10_digest_149 : decode cX10_digest 149 = .ok (.lload_n 1, 1) := by decide +kernel
theorem dX10_digest_150 : decode cX10_digest 150 = .ok (.lmul, 1) := by decide +kernel
theorem dX10_digest_151 : decode cX10_digest 151 = .ok (.aload_n 0, 1) := by decide +kernel
theorem dX10_digest_152 : decode cX10_digest 152 = .ok (.iconst 0, 1) := by decide +kernel
theorem dX10_digest_153 : decode cX10_digest 153 = .ok (.invokevirtual 158, 3) := by decide +kernel
theorem dX10_digest_156 : decode cX10_digest 156 = .ok (.i2l, 1) := by decide +kernel
theorem dX10_digest_157 : decode cX10_digest 157 = .ok (.ladd, 1) := by decide +kernel
theorem dX10_digest_158 : decode cX10_digest 158 = .ok (.lstore_n 1, 1) := by decide +kernel
theorem dX10_digest_159 : decode cX10_digest 159 = .ok (.ldc2_w 258, 3) := by decide +kernel
theorem dX10_digest_162 : decode cX10_digest 162 = .ok (.lload_n 1, 1) := by decide +kernel
theorem dX10_digest_163 : decode cX10_digest 163 = .ok (.lmul, 1) := by decide +kernel
theorem dX10_digest_164 : decode cX10_digest 164 = .ok (.aload_n 0, 1) := by decide +kernel
theorem dX10_digest_165 : decode cX10_digest 165 = .ok (.iconst 1, 1) := by decide +kernel
theorem dX10_digest_166 : decode cX10_digest 166 = .ok (.invokevirtual 158, 3) := by decide +kernel
theorem dX10_digest_169 : decode cX10_digest 169 = .ok (.i2l, 1) := by decide +kernel
theorem dX10_digest_170 : decode cX10_digest 170 = .ok (.ladd, 1) := by decide +kernel
theorem dX10_digest_171 : decode cX10_digest 171 = .ok (.lstore_n 1, 1) := by decide +kernel
theorem dX10_digest_172 : decode cX10_digest 172 = .ok (.iconst 0, 1) := by decide +kernel
theorem dX10_digest_173 : decode cX10_digest 173 = .ok (.istore_n 3, 1) := by decide +kernel
theorem dX10_digest_174 : decode cX10_digest 174 = .ok (.iload_n 3, 1) := by decide +kernel
theorem dX10_digest_175 : decode cX10_digest 175 = .ok (.iconst 3, 1) := by decide +kernel
theorem dX10_digest_176 : decode cX10_digest 176 = .ok (.if_icmp .ge 105, 3) := by decide +kernel
theorem dX10_digest_179 : decode cX10_digest 179 = .ok (.ldc2_w 258, 3) := by decide +kernel
theorem dX10_digest_182 : decode cX10_digest 182 = .ok (.lload_n 1, 1) := by decide +kernel
theorem dX10_digest_183 : decode cX10_digest 183 = .ok (.lmul, 1) := by decide +kernel
theorem dX10_digest_184 : decode cX10_digest 184 = .ok (.aload_n 0, 1) := by decide +kernel
theorem dX10_digest_185 : decode cX10_digest 185 = .ok (.bipush 10, 2) := by decide +kernel
theorem dX10_digest_187 : decode cX10_digest 187 = .ok (.iload_n 3, 1) := by decide +kernel
theorem dX10_digest_188 : decode cX10_digest 188 = .ok (.imul, 1) := by decide +kernel
theorem dX10_digest_189 : decode cX10_digest 189 = .ok (.invokevirtual 104, 3) := by decide +kernel
theorem dX10_digest_192 : decode cX10_digest 192 = .ok (.i2l, 1) := by decide +kernel
theorem dX10_digest_193 : decode cX10_digest 193 = .ok (.ladd, 1) := by decide +kernel
theorem dX10_digest_194 : decode cX10_digest 194 = .ok (.lstore_n 1, 1) := by decide +kernel
theorem dX10_digest_195 : decode cX10_digest 195 = .ok (.ldc2_w 258, 3) := by decide +kernel
theorem dX10_digest_198 : decode cX10_digest 198 = .ok (.lload_n 1, 1) := by decide +kernel
theorem dX10_digest_199 : decode cX10_digest 199 = .ok (.lmul, 1) := by decide +kernel
theorem dX10_digest_200 : decode cX10_digest 200 = .ok (.aload_n 0, 1) := by decide +kernel
theorem dX10_digest_201 : decode cX10_digest 201 = .ok (.bipush 10, 2) := by decide +kernel
theorem dX10_digest_203 : decode cX10_digest 203 = .ok (.iload_n 3, 1) := by decide +kernel
theorem dX10_digest_204 : decode cX10_digest 204 = .ok (.imul, 1) := by decide +kernel
theorem dX10_digest_205 : decode cX10_digest 205 = .ok (.invokevirtual 177, 3) := by decide +kernel
theorem dX10_digest_208 : decode cX10_digest 208 = .ok (.i2l, 1) := by decide +kernel
theorem dX10_digest_209 : decode cX10_digest 209 = .ok (.ladd, 1) := by decide +kernel
theorem dX10_digest_210 : decode cX10_digest 210 = .ok (.lstore_n 1, 1) := by decide +kernel
theorem dX10_digest_211 : decode cX10_digest 211 = .ok (.ldc2_w 258, 3) := by decide +kernel
theorem dX10_digest_214 : decode cX10_digest 214 = .ok (.lload_n 1, 1) := by decide +kernel
theorem dX10_digest_215 : decode cX10_digest 215 = .ok (.lmul, 1) := by decide +kernel
theorem dX10_digest_216 : decode cX10_digest 216 = .ok (.aload_n 0, 1) := by decide +kernel
theorem dX10_digest_217 : decode cX10_digest 217 = .ok (.bipush 10, 2) := by decide +kernel
theorem dX10_digest_219 : decode cX10_digest 219 = .ok (.iload_n 3, 1) := by decide +kernel
theorem dX10_digest_220 : decode cX10_digest 220 = .ok (.imul, 1) := by decide +kernel
theorem dX10_digest_221 : decode cX10_digest 221 = .ok (.invokevirtual 186, 3) := by decide +kernel
theorem dX10_digest_224 : decode cX10_digest 224 = .ok (.i2l, 1) := by decide +kernel
theorem dX10_digest_225 : decode cX10_digest 225 = .ok (.ladd, 1) := by decide +kernel
theorem dX10_digest_226 : decode cX10_digest 226 = .ok (.lstore_n 1, 1) := by decide +kernel
theorem dX10_digest_227 : decode cX10_digest 227 = .ok (.ldc2_w 258, 3) := by decide +kernel
theorem dX10_digest_230 : decode cX10_digest 230 = .ok (.lload_n 1, 1) := by decide +kernel
theorem dX10_digest_231 : decode cX10_digest 231 = .ok (.lmul, 1) := by decide +kernel
theorem dX10_digest_232 : decode cX10_digest 232 = .ok (.aload_n 0, 1) := by decide +kernel
theorem dX10_digest_233 : decode cX10_digest 233 = .ok (.bipush 10, 2) := by decide +kernel
theorem dX10_digest_235 : decode cX10_digest 235 = .ok (.iload_n 3, 1) := by decide +kernel
theorem dX10_digest_236 : decode cX10_digest 236 = .ok (.imul, 1) := by decide +kernel
theorem dX10_digest_237 : decode cX10_digest 237 = .ok (.invokevirtual 211, 3) := by decide +kernel
theorem dX10_digest_240 : decode cX10_digest 240 = .ok (.i2l, 1) := by decide +kernel
theorem dX10_digest_241 : decode cX10_digest 241 = .ok (.ladd, 1) := by decide +kernel
theorem dX10_digest_242 : decode cX10_digest 242 = .ok (.lstore_n 1, 1) := by decide +kernel
theorem dX10_digest_243 : decode cX10_digest 243 = .ok (.ldc2_w 258, 3) := by decide +kernel
theorem dX10_digest_246 : decode cX10_digest 246 = .ok (.lload_n 1, 1) := by decide +kernel
theorem dX10_digest_247 : decode cX10_digest 247 = .ok (.lmul, 1) := by decide +kernel
theorem dX10_digest_248 : decode cX10_digest 248 = .ok (.aload_n 0, 1) := by decide +kernel
theorem dX10_digest_249 : decode cX10_digest 249 = .ok (.bipush 10, 2) := by decide +kernel
theorem dX10_digest_251 : decode cX10_digest 251 = .ok (.iload_n 3, 1) := by decide +kernel
theorem dX10_digest_252 : decode cX10_digest 252 = .ok (.imul, 1) := by decide +kernel
theorem dX10_digest_253 : decode cX10_digest 253 = .ok (.invokevirtual 214, 3) := by decide +kernel
theorem dX10_digest_256 : decode cX10_digest 256 = .ok (.i2l, 1) := by decide +kernel
theorem dX10_digest_257 : decode cX10_digest 257 = .ok (.ladd, 1) := by decide +kernel
theorem dX10_digest_258 : decode cX10_digest 258 = .ok (.lstore_n 1, 1) := by decide +kernel
theorem dX10_digest_259 : decode cX10_digest 259 = .ok (.ldc2_w 258, 3) := by decide +kernel
theorem dX10_digest_262 : decode cX10_digest 262 = .ok (.lload_n 1, 1) := by decide +kernel
theorem dX10_digest_263 : decode cX10_digest 263 = .ok (.lmul, 1) := by decide +kernel
theorem dX10_digest_264 : decode cX10_digest 264 = .ok (.aload_n 0, 1) := by decide +kernel
theorem dX10_digest_265 : decode cX10_digest 265 = .ok (.bipush 10, 2) := by decide +kernel
theorem dX10_digest_267 : decode cX10_digest 267 = .ok (.iload_n 3, 1) := by decide +kernel
theorem dX10_digest_268 : decode cX10_digest 268 = .ok (.imul, 1) := by decide +kernel
theorem dX10_digest_269 : decode cX10_digest 269 = .ok (.invokevirtual 231, 3) := by decide +kernel
theorem dX10_digest_272 : decode cX10_digest 272 = .ok (.i2l, 1) := by decide +kernel
theorem dX10_digest_273 : decode cX10_digest 273 = .ok (.ladd, 1) := by decide +kernel
theorem dX10_digest_274 : decode cX10_digest 274 = .ok (.lstore_n 1, 1) := by decide +kernel
theorem dX10_digest_275 : decode cX10_digest 275 = .ok (.iinc 3 1, 3) := by decide +kernel
theorem dX10_digest_278 : decode cX10_digest 278 = .ok (.goto (-104), 3) := by decide +kernel
theorem dX10_digest_281 : decode cX10_digest 281 = .ok (.ldc2_w 258, 3) := by decide +kernel
theorem dX10_digest_284 : decode cX10_digest 284 = .ok (.lload_n 1, 1) := by decide +kernel
theorem dX10_digest_285 : decode cX10_digest 285 = .ok (.lmul, 1) := by decide +kernel
theorem dX10_digest_286 : decode cX10_digest 286 = .ok (.aload_n 0, 1) := by decide +kernel
theorem dX10_digest_287 : decode cX10_digest 287 = .ok (.bipush 20, 2) := by decide +kernel
theorem dX10_digest_289 : decode cX10_digest 289 = .ok (.iconst 0, 1) := by decide +kernel
theorem dX10_digest_290 : decode cX10_digest 290 = .ok (.invokevirtual 189, 3) := by decide +kernel
theorem dX10_digest_293 : decode cX10_digest 293 = .ok (.i2l, 1) := by decide +kernel
theorem dX10_digest_294 : decode cX10_digest 294 = .ok (.ladd, 1) := by decide +kernel
theorem dX10_digest_295 : decode cX10_digest 295 = .ok (.lstore_n 1, 1) := by decide +kernel
theorem dX10_digest_296 : decode cX10_digest 296 = .ok (.ldc2_w 258, 3) := by decide +kernel
theorem dX10_digest_299 : decode cX10_digest 299 = .ok (.lload_n 1, 1) := by decide +kernel
theorem dX10_digest_300 : decode cX10_digest 300 = .ok (.lmul, 1) := by decide +kernel
theorem dX10_digest_301 : decode cX10_digest 301 = .ok (.aload_n 0, 1) := by decide +kernel
theorem dX10_digest_302 : decode cX10_digest 302 = .ok (.bipush 20, 2) := by decide +kernel
theorem dX10_digest_304 : decode cX10_digest 304 = .ok (.iconst 5, 1) := by decide +kernel
theorem dX10_digest_305 : decode cX10_digest 305 = .ok (.invokevirtual 189, 3) := by decide +kernel
theorem dX10_digest_308 : decode cX10_digest 308 = .ok (.i2l, 1) := by decide +kernel
theorem dX10_digest_309 : decode cX10_digest 309 = .ok (.ladd, 1) := by decide +kernel
theorem dX10_digest_310 : decode cX10_digest 310 = .ok (.lstore_n 1, 1) := by decide +kernel
theorem dX10_digest_311 : decode cX10_digest 311 = .ok (.ldc2_w 258, 3) := by decide +kernel
theorem dX10_digest_314 : decode cX10_digest 314 = .ok (.lload_n 1, 1) := by decide +kernel
theorem dX10_digest_315 : decode cX10_digest 315 = .ok (.lmul, 1) := by decide +kernel
theorem dX10_digest_316 : decode cX10_digest 316 = .ok (.aload_n 0, 1) := by decide +kernel
theorem dX10_digest_317 : decode cX10_digest 317 = .ok (.bipush 9, 2) := by decide +kernel
theorem dX10_digest_319 : decode cX10_digest 319 = .ok (.iconst (-1), 1) := by decide +kernel
theorem dX10_digest_320 : decode cX10_digest 320 = .ok (.invokevirtual 171, 3) := by decide +kernel
theorem dX10_digest_323 : decode cX10_digest 323 = .ok (.i2l, 1) := by decide +kernel
theorem dX10_digest_324 : decode cX10_digest 324 = .ok (.ladd, 1) := by decide +kernel
theorem dX10_digest_325 : decode cX10_digest 325 = .ok (.lstore_n 1, 1) := by decide +kernel
theorem dX10_digest_326 : decode cX10_digest 326 = .ok (.ldc2_w 258, 3) := by decide +kernel
theorem dX10_digest_329 : decode cX10_digest 329 = .ok (.lload_n 1, 1) := by decide +kernel
theorem dX10_digest_330 : decode cX10_digest 330 = .ok (.lmul, 1) := by decide +kernel
theorem dX10_digest_331 : decode cX10_digest 331 = .ok (.aload_n 0, 1) := by decide +kernel
theorem dX10_digest_332 : decode cX10_digest 332 = .ok (.bipush 12, 2) := by decide +kernel
theorem dX10_digest_334 : decode cX10_digest 334 = .ok (.iconst 0, 1) := by decide +kernel
theorem dX10_digest_335 : decode cX10_digest 335 = .ok (.invokevirtual 201, 3) := by decide +kernel
theorem dX10_digest_338 : decode cX10_digest 338 = .ok (.i2l, 1) := by decide +kernel
theorem dX10_digest_339 : decode cX10_digest 339 = .ok (.ladd, 1) := by decide +kernel
theorem dX10_digest_340 : decode cX10_digest 340 = .ok (.lstore_n 1, 1) := by decide +kernel
theorem dX10_digest_341 : decode cX10_digest 341 = .ok (.ldc2_w 258, 3) := by decide +kernel
theorem dX10_digest_344 : decode cX10_digest 344 = .ok (.lload_n 1, 1) := by decide +kernel
theorem dX10_digest_345 : decode cX10_digest 345 = .ok (.lmul, 1) := by decide +kernel
theorem dX10_digest_346 : decode cX10_digest 346 = .ok (.aload_n 0, 1) := by decide +kernel
theorem dX10_digest_347 : decode cX10_digest 347 = .ok (.bipush 12, 2) := by decide +kernel
theorem dX10_digest_349 : decode cX10_digest 349 = .ok (.iconst 1, 1) := by decide +kernel
theorem dX10_digest_350 : decode cX10_digest 350 = .ok (.invokevirtual 201, 3) := by decide +kernel
theorem dX10_digest_353 : decode cX10_digest 353 = .ok (.i2l, 1) := by decide +kernel
theorem dX10_digest_354 : decode cX10_digest 354 = .ok (.ladd, 1) := by decide +kernel
theorem dX10_digest_355 : decode cX10_digest 355 = .ok (.lstore_n 1, 1) := by decide +kernel
theorem dX10_digest_356 : decode cX10_digest 356 = .ok (.aload_n 0, 1) := by decide +kernel
theorem dX10_digest_357 : decode cX10_digest 357 = .ok (.getfield 111, 3) := by decide +kernel
theorem dX10_digest_360 : decode cX10_digest 360 = .ok (.iconst 1, 1) := by decide +kernel
theorem dX10_digest_361 : decode cX10_digest 361 = .ok (.if_icmp .le 21, 3) := by decide +kernel
theorem dX10_digest_364 : decode cX10_digest 364 = .ok (.ldc2_w 258, 3) := by decide +kernel
theorem dX10_digest_367 : decode cX10_digest 367 = .ok (.lload_n 1, 1) := by decide +kernel
theorem dX10_digest_368 : decode cX10_digest 368 = .ok (.lmul, 1) := by decide +kernel
theorem dX10_digest_369 : decode cX10_digest 369 = .ok (.aload_n 0, 1) := by decide +kernel
theorem dX10_digest_370 : decode cX10_digest 370 = .ok (.iconst 0, 1) := by decide +kernel
theorem dX10_digest_371 : decode cX10_digest 371 = .ok (.iconst 1, 1) := by decide +kernel
theorem dX10_digest_372 : decode cX10_digest 372 = .ok (.bipush 20, 2) := by decide +kernel
theorem dX10_digest_374 : decode cX10_digest 374 = .ok (.invokevirtual 221, 3) := by decide +kernel
theorem dX10_digest_377 : decode cX10_digest 377 = .ok (.i2l, 1) := by decide +kernel
theorem dX10_digest_378 : decode cX10_digest 378 = .ok (.ladd, 1) := by decide +kernel
theorem dX10_digest_379 : decode cX10_digest 379 = .ok (.goto 4, 3) := by decide +kernel
theorem dX10_digest_382 : decode cX10_digest 382 = .ok (.lload_n 1, 1) := by decide +kernel
theorem dX10_digest_383 : decode cX10_digest 383 = .ok (.lreturn, 1) := by decide +kernel
theorem dJ9_abs_0f7a4_0 : decode cJ9_abs_0f7a4 0 = .ok (.iload_n 0, 1) := by decide +kernel
theorem dJ9_abs_0f7a4_1 : decode cJ9_abs_0f7a4 1 = .ok (.ifCond .ge 8, 3) := by decide +kernel
theorem dJ9_abs_0f7a4_4 : decode cJ9_abs_0f7a4 4 = .ok (.iload_n 0, 1) := by decide +kernel
theorem dJ9_abs_0f7a4_5 : decode cJ9_abs_0f7a4 5 = .ok (.ineg, 1) := by decide +kernel
theorem dJ9_abs_0f7a4_6 : decode cJ9_abs_0f7a4 6 = .ok (.goto 4, 3) := by decide +kernel
theorem dJ9_abs_0f7a4_9 : decode cJ9_abs_0f7a4 9 = .ok (.iload_n 0, 1) := by decide +kernel
theorem dJ9_abs_0f7a4_10 : decode cJ9_abs_0f7a4 10 = .ok (.ireturn, 1) := by decide +kernel
theorem dJ9_max_7cf53_0 : decode cJ9_max_7cf53 0 = .ok (.iload_n 0, 1) := by decide +kernel
theorem dJ9_max_7cf53_1 : decode cJ9_max_7cf53 1 = .ok (.iload_n 1, 1) := by decide +kernel
theorem dJ9_max_7cf53_2 : decode cJ9_max_7cf53 2 = .ok (.if_icmp .lt 7, 3) := by decide +kernel
theorem dJ9_max_7cf53_5 : decode cJ9_max_7cf53 5 = .ok (.iload_n 0, 1) := by decide +kernel
theorem dJ9_max_7cf53_6 : decode cJ9_max_7cf53 6 = .ok (.goto 4, 3) := by decide +kernel
theorem dJ9_max_7cf53_9 : decode cJ9_max_7cf53 9 = .ok (.iload_n 1, 1) := by decide +kernel
theorem dJ9_max_7cf53_10 : decode cJ9_max_7cf53 10 = .ok (.ireturn, 1) := by decide +kernel
theorem dJ9_max_f86c9_0 : decode cJ9_max_f86c9 0 = .ok (.lload_n 0, 1) := by decide +kernel
theorem dJ9_max_f86c9_1 : decode cJ9_max_f86c9 1 = .ok (.lload_n 2, 1) := by decide +kernel
theorem dJ9_max_f86c9_2 : decode cJ9_max_f86c9 2 = .ok (.lcmp, 1) := by decide +kernel
theorem dJ9_max_f86c9_3 : decode cJ9_max_f86c9 3 = .ok (.ifCond .lt 7, 3) := by decide +kernel
theorem dJ9_max_f86c9_6 : decode cJ9_max_f86c9 6 = .ok (.lload_n 0, 1) := by decide +kernel
theorem dJ9_max_f86c9_7 : decode cJ9_max_f86c9 7 = .ok (.goto 4, 3) := by decide +kernel
theorem dJ9_max_f86c9_10 : decode cJ9_max_f86c9 10 = .ok (.lload_n 2, 1) := by decide +kernel
theorem dJ9_max_f86c9_11 : decode cJ9_max_f86c9 11 = .ok (.lreturn, 1) := by decide +kernel
theorem dJ9_min_7cf53_0 : decode cJ9_min_7cf53 0 = .ok (.iload_n 0, 1) := by decide +kernel
theorem dJ9_min_7cf53_1 : decode cJ9_min_7cf53 1 = .ok (.iload_n 1, 1) := by decide +kernel
theorem dJ9_min_7cf53_2 : decode cJ9_min_7cf53 2 = .ok (.if_icmp .gt 7, 3) := by decide +kernel
theorem dJ9_min_7cf53_5 : decode cJ9_min_7cf53 5 = .ok (.iload_n 0, 1) := by decide +kernel
theorem dJ9_min_7cf53_6 : decode cJ9_min_7cf53 6 = .ok (.goto 4, 3) := by decide +kernel
theorem dJ9_min_7cf53_9 : decode cJ9_min_7cf53 9 = .ok (.iload_n 1, 1) := by decide +kernel
theorem dJ9_min_7cf53_10 : decode cJ9_min_7cf53 10 = .ok (.ireturn, 1) := by decide +kernel
theorem dJ7_fill_d0a16_0 : decode cJ7_fill_d0a16 0 = .ok (.iconst 0, 1) := by decide +kernel
theorem dJ7_fill_d0a16_1 : decode cJ7_fill_d0a16 1 = .ok (.istore_n 3, 1) := by decide +kernel
theorem dJ7_fill_d0a16_2 : decode cJ7_fill_d0a16 2 = .ok (.aload_n 0, 1) := by decide +kernel
theorem dJ7_fill_d0a16_3 : decode cJ7_fill_d0a16 3 = .ok (.arraylength, 1) := by decide +kernel
theorem dJ7_fill_d0a16_4 : decode cJ7_fill_d0a16 4 = .ok (.istore 4, 2) := by decide +kernel
theorem dJ7_fill_d0a16_6 : decode cJ7_fill_d0a16 6 = .ok (.iload_n 3, 1) := by decide +kernel
theorem dJ7_fill_d0a16_7 : decode cJ7_fill_d0a16 7 = .ok (.iload 4, 2) := by decide +kernel
theorem dJ7_fill_d0a16_9 : decode cJ7_fill_d0a16 9 = .ok (.if_icmp .ge 13, 3) := by decide +kernel
theorem dJ7_fill_d0a16_12 : decode cJ7_fill_d0a16 12 = .ok (.aload_n 0, 1) := by decide +kernel
theorem dJ7_fill_d0a16_13 : decode cJ7_fill_d0a16 13 = .ok (.iload_n 3, 1) := by decide +kernel
theorem dJ7_fill_d0a16_14 : decode cJ7_fill_d0a16 14 = .ok (.lload_n 1, 1) := by decide +kernel
theorem dJ7_fill_d0a16_15 : decode cJ7_fill_d0a16 15 = .ok (.lastore, 1) := by decide +kernel
theorem dJ7_fill_d0a16_16 : decode cJ7_fill_d0a16 16 = .ok (.iinc 3 1, 3) := by decide +kernel
theorem dJ7_fill_d0a16_19 : decode cJ7_fill_d0a16 19 = .ok (.goto (-13), 3) := by decide +kernel
theorem dJ7_fill_d0a16_22 : decode cJ7_fill_d0a16 22 = .ok (.return_, 1) := by decide +kernel
theorem dJ7_fill_53178_0 : decode cJ7_fill_53178 0 = .ok (.iconst 0, 1) := by decide +kernel
theorem dJ7_fill_53178_1 : decode cJ7_fill_53178 1 = .ok (.istore_n 2, 1) := by decide +kernel
theorem dJ7_fill_53178_2 : decode cJ7_fill_53178 2 = .ok (.aload_n 0, 1) := by decide +kernel
theorem dJ7_fill_53178_3 : decode cJ7_fill_53178 3 = .ok (.arraylength, 1) := by decide +kernel
theorem dJ7_fill_53178_4 : decode cJ7_fill_53178 4 = .ok (.istore_n 3, 1) := by decide +kernel
theorem dJ7_fill_53178_5 : decode cJ7_fill_53178 5 = .ok (.iload_n 2, 1) := by decide +kernel
theorem dJ7_fill_53178_6 : decode cJ7_fill_53178 6 = .ok (.iload_n 3, 1) := by decide +kernel
theorem dJ7_fill_53178_7 : decode cJ7_fill_53178 7 = .ok (.if_icmp .ge 13, 3) := by decide +kernel
theorem dJ7_fill_53178_10 : decode cJ7_fill_53178 10 = .ok (.aload_n 0, 1) := by decide +kernel
theorem dJ7_fill_53178_11 : decode cJ7_fill_53178 11 = .ok (.iload_n 2, 1) := by decide +kernel
theorem dJ7_fill_53178_12 : decode cJ7_fill_53178 12 = .ok (.iload_n 1, 1) := by decide +kernel
theorem dJ7_fill_53178_13 : decode cJ7_fill_53178 13 = .ok (.iastore, 1) := by decide +kernel
theorem dJ7_fill_53178_14 : decode cJ7_fill_53178 14 = .ok (.iinc 2 1, 3) := by decide +kernel
theorem dJ7_fill_53178_17 : decode cJ7_fill_53178 17 = .ok (.goto (-12), 3) := by decide +kernel
theorem dJ7_fill_53178_20 : decode cJ7_fill_53178 20 = .ok (.return_, 1) := by decide +kernel
