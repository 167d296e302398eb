theorem dX9_init_0 : decode cX9_init 0 = .ok (.aload_n 0, 1) := by decide +kernel
theorem dX9_init_1 : decode cX9_init 1 = .ok (.invokespecial 1, 3) := by decide +kernel
theorem dX9_init_4 : decode cX9_init 4 = .ok (.aload_n 0, 1) := by decide +kernel
theorem dX9_init_5 : decode cX9_init 5 = .ok (.new 7, 3) := by decide +kernel
theorem dX9_init_8 : decode cX9_init 8 = .ok (.dup, 1) := by decide +kernel
theorem dX9_init_9 : decode cX9_init 9 = .ok (.invokespecial 9, 3) := by decide +kernel
theorem dX9_init_12 : decode cX9_init 12 = .ok (.putfield 10, 3) := by decide +kernel
theorem dX9_init_15 : decode cX9_init 15 = .ok (.aload_n 0, 1) := by decide +kernel
theorem dX9_init_16 : decode cX9_init 16 = .ok (.new 7, 3) := by decide +kernel
theorem dX9_init_19 : decode cX9_init 19 = .ok (.dup, 1) := by decide +kernel
theorem dX9_init_20 : decode cX9_init 20 = .ok (.invokespecial 9, 3) := by decide +kernel
theorem dX9_init_23 : decode cX9_init 23 = .ok (.putfield 16, 3) := by decide +kernel
theorem dX9_init_26 : decode cX9_init 26 = .ok (.aload_n 0, 1) := by decide +kernel
theorem dX9_init_27 : decode cX9_init 27 = .ok (.new 19, 3) := by decide +kernel
theorem dX9_init_30 : decode cX9_init 30 = .ok (.dup, 1) := by decide +kernel
theorem dX9_init_31 : decode cX9_init 31 = .ok (.invokespecial 21, 3) := by decide +kernel
theorem dX9_init_34 : decode cX9_init 34 = .ok (.putfield 22, 3) := by decide +kernel
theorem dX9_init_37 : decode cX9_init 37 = .ok (.aload_n 0, 1) := by decide +kernel
theorem dX9_init_38 : decode cX9_init 38 = .ok (.new 26, 3) := by decide +kernel
theorem dX9_init_41 : decode cX9_init 41 = .ok (.dup, 1) := by decide +kernel
theorem dX9_init_42 : decode cX9_init 42 = .ok (.invokespecial 28, 3) := by decide +kernel
theorem dX9_init_45 : decode cX9_init 45 = .ok (.putfield 29, 3) := by decide +kernel
theorem dX9_init_48 : decode cX9_init 48 = .ok (.aload_n 0, 1) := by decide +kernel
theorem dX9_init_49 : decode cX9_init 49 = .ok (.new 33, 3) := by decide +kernel
theorem dX9_init_52 : decode cX9_init 52 = .ok (.dup, 1) := by decide +kernel
theorem dX9_init_53 : decode cX9_init 53 = .ok (.invokespecial 35, 3) := by decide +kernel
theorem dX9_init_56 : decode cX9_init 56 = .ok (.putfield 36, 3) := by decide +kernel
theorem dX9_init_59 : decode cX9_init 59 = .ok (.aload_n 0, 1) := by decide +kernel
theorem dX9_init_60 : decode cX9_init 60 = .ok (.new 19, 3) := by decide +kernel
theorem dX9_init_63 : decode cX9_init 63 = .ok (.dup, 1) := by decide +kernel
theorem dX9_init_64 : decode cX9_init 64 = .ok (.invokespecial 21, 3) := by decide +kernel
theorem dX9_init_67 : decode cX9_init 67 = .ok (.putfield 40, 3) := by decide +kernel
theorem dX9_init_70 : decode cX9_init 70 = .ok (.aload_n 0, 1) := by decide +kernel
theorem dX9_init_71 : decode cX9_init 71 = .ok (.new 33, 3) := by decide +kernel
theorem dX9_init_74 : decode cX9_init 74 = .ok (.dup, 1) := by decide +kernel
theorem dX9_init_75 : decode cX9_init 75 = .ok (.invokespecial 35, 3) := by decide +kernel
theorem dX9_init_78 : decode cX9_init 78 = .ok (.putfield 43, 3) := by decide +kernel
theorem dX9_init_81 : decode cX9_init 81 = .ok (.aload_n 0, 1) := by decide +kernel
theorem dX9_init_82 : decode cX9_init 82 = .ok (.new 46, 3) := by decide +kernel
theorem dX9_init_85 : decode cX9_init 85 = .ok (.dup, 1) := by decide +kernel
theorem dX9_init_86 : decode cX9_init 86 = .ok (.invokespecial 48, 3) := by decide +kernel
theorem dX9_init_89 : decode cX9_init 89 = .ok (.putfield 49, 3) := by decide +kernel
theorem dX9_init_92 : decode cX9_init 92 = .ok (.aload_n 0, 1) := by decide +kernel
theorem dX9_init_93 : decode cX9_init 93 = .ok (.new 53, 3) := by decide +kernel
theorem dX9_init_96 : decode cX9_init 96 = .ok (.dup, 1) := by decide +kernel
theorem dX9_init_97 : decode cX9_init 97 = .ok (.invokespecial 55, 3) := by decide +kernel
theorem dX9_init_100 : decode cX9_init 100 = .ok (.putfield 56, 3) := by decide +kernel
theorem dX9_init_103 : decode cX9_init 103 = .ok (.aload_n 0, 1) := by decide +kernel
theorem dX9_init_104 : decode cX9_init 104 = .ok (.new 60, 3) := by decide +kernel
theorem dX9_init_107 : decode cX9_init 107 = .ok (.dup, 1) := by decide +kernel
theorem dX9_init_108 : decode cX9_init 108 = .ok (.invokespecial 62, 3) := by decide +kernel
theorem dX9_init_111 : decode cX9_init 111 = .ok (.putfield 63, 3) := by decide +kernel
theorem dX9_init_114 : decode cX9_init 114 = .ok (.aload_n 0, 1) := by decide +kernel
theorem dX9_init_115 : decode cX9_init 115 = .ok (.new 67, 3) := by decide +kernel
theorem dX9_init_118 : decode cX9_init 118 = .ok (.dup, 1) := by decide +kernel
theorem dX9_init_119 : decode cX9_init 119 = .ok (.bipush 8, 2) := by decide +kernel
theorem dX9_init_121 : decode cX9_init 121 = .ok (.invokespecial 69, 3) := by decide +kernel
theorem dX9_init_124 : decode cX9_init 124 = .ok (.putfield 72, 3) := by decide +kernel
theorem dX9_init_127 : decode cX9_init 127 = .ok (.aload_n 0, 1) := by decide +kernel
theorem dX9_init_128 : decode cX9_init 128 = .ok (.new 67, 3) := by decide +kernel
theorem dX9_init_131 : decode cX9_init 131 = .ok (.dup, 1) := by decide +kernel
theorem dX9_init_132 : decode cX9_init 132 = .ok (.bipush 20, 2) := by decide +kernel
theorem dX9_init_134 : decode cX9_init 134 = .ok (.invokespecial 69, 3) := by decide +kernel
theorem dX9_init_137 : decode cX9_init 137 = .ok (.putfield 76, 3) := by decide +kernel
theorem dX9_init_140 : decode cX9_init 140 = .ok (.aload_n 0, 1) := by decide +kernel
theorem dX9_init_141 : decode cX9_init 141 = .ok (.iconst 4, 1) := by decide +kernel
theorem dX9_init_142 : decode cX9_init 142 = .ok (.anewarray 79, 3) := by decide +kernel
theorem dX9_init_145 : decode cX9_init 145 = .ok (.putfield 81, 3) := by decide +kernel
theorem dX9_init_148 : decode cX9_init 148 = .ok (.aload_n 0, 1) := by decide +kernel
theorem dX9_init_149 : decode cX9_init 149 = .ok (.bipush 9, 2) := by decide +kernel
theorem dX9_init_151 : decode cX9_init 151 = .ok (.putfield 85, 3) := by decide +kernel
theorem dX9_init_154 : decode cX9_init 154 = .ok (.aload_n 0, 1) := by decide +kernel
theorem dX9_init_155 : decode cX9_init 155 = .ok (.iconst 0, 1) := by decide +kernel
theorem dX9_init_156 : decode cX9_init 156 = .ok (.putfield 89, 3) := by decide +kernel
theorem dX9_init_159 : decode cX9_init 159 = .ok (.iconst 0, 1) := by decide +kernel
theorem dX9_init_160 : decode cX9_init 160 = .ok (.istore_n 1, 1) := by decide +kernel
theorem dX9_init_161 : decode cX9_init 161 = .ok (.iload_n 1, 1) := by decide +kernel
theorem dX9_init_162 : decode cX9_init 162 = .ok (.iconst 4, 1) := by decide +kernel
theorem dX9_init_163 : decode cX9_init 163 = .ok (.if_icmp .ge 22, 3) := by decide +kernel
theorem dX9_init_166 : decode cX9_init 166 = .ok (.aload_n 0, 1) := by decide +kernel
theorem dX9_init_167 : decode cX9_init 167 = .ok (.getfield 81, 3) := by decide +kernel
theorem dX9_init_170 : decode cX9_init 170 = .ok (.iload_n 1, 1) := by decide +kernel
theorem dX9_init_171 : decode cX9_init 171 = .ok (.new 79, 3) := by decide +kernel
theorem dX9_init_174 : decode cX9_init 174 = .ok (.dup, 1) := by decide +kernel
theorem dX9_init_175 : decode cX9_init 175 = .ok (.invokespecial 92, 3) := by decide +kernel
theorem dX9_init_178 : decode cX9_init 178 = .ok (.aastore, 1) := by decide +kernel
theorem dX9_init_179 : decode cX9_init 179 = .ok (.iinc 1 1, 3) := by decide +kernel
theorem dX9_init_182 : decode cX9_init 182 = .ok (.goto (-21), 3) := by decide +kernel
theorem dX9_init_185 : decode cX9_init 185 = .ok (.return_, 1) := by decide +kernel
theorem dX9_wind_0 : decode cX9_wind 0 = .ok (.iload_n 1, 1) := by decide +kernel
theorem dX9_wind_1 : decode cX9_wind 1 = .ok (.invokestatic 93, 3) := by decide +kernel
theorem dX9_wind_4 : decode cX9_wind 4 = .ok (.ifCond .eq 12, 3) := by decide +kernel
theorem dX9_wind_7 : decode cX9_wind 7 = .ok (.iload_n 2, 1) := by decide +kernel
theorem dX9_wind_8 : decode cX9_wind 8 = .ok (.bipush 9, 2) := by decide +kernel
theorem dX9_wind_10 : decode cX9_wind 10 = .ok (.invokestatic 97, 3) := by decide +kernel
theorem dX9_wind_13 : decode cX9_wind 13 = .ok (.ifCond .ne 6, 3) := by decide +kernel
theorem dX9_wind_16 : decode cX9_wind 16 = .ok (.bipush (-2), 2) := by decide +kernel
theorem dX9_wind_18 : decode cX9_wind 18 = .ok (.ireturn, 1) := by decide +kernel
theorem dX9_wind_19 : decode cX9_wind 19 = .ok (.aload_n 0, 1) := by decide +kernel
theorem dX9_wind_20 : decode cX9_wind 20 = .ok (.getfield 56, 3) := by decide +kernel
theorem dX9_wind_23 : decode cX9_wind 23 = .ok (.getfield 101, 3) := by decide +kernel
theorem dX9_wind_26 : decode cX9_wind 26 = .ok (.iload_n 1, 1) := by decide +kernel
theorem dX9_wind_27 : decode cX9_wind 27 = .ok (.iaload, 1) := by decide +kernel
theorem dX9_wind_28 : decode cX9_wind 28 = .ok (.istore_n 3, 1) := by decide +kernel
theorem dX9_wind_29 : decode cX9_wind 29 = .ok (.aload_n 0, 1) := by decide +kernel
theorem dX9_wind_30 : decode cX9_wind 30 = .ok (.getfield 56, 3) := by decide +kernel
theorem dX9_wind_33 : decode cX9_wind 33 = .ok (.getfield 101, 3) := by decide +kernel
theorem dX9_wind_36 : decode cX9_wind 36 = .ok (.iload_n 1, 1) := by decide +kernel
theorem dX9_wind_37 : decode cX9_wind 37 = .ok (.iload_n 2, 1) := by decide +kernel
theorem dX9_wind_38 : decode cX9_wind 38 = .ok (.iastore, 1) := by decide +kernel
theorem dX9_wind_39 : decode cX9_wind 39 = .ok (.iload_n 3, 1) := by decide +kernel
theorem dX9_wind_40 : decode cX9_wind 40 = .ok (.ireturn, 1) := by decide +kernel
theorem dX9_read_0 : decode cX9_read 0 = .ok (.iload_n 1, 1) := by decide +kernel
theorem dX9_read_1 : decode cX9_read 1 = .ok (.invokestatic 105, 3) := by decide +kernel
theorem dX9_read_4 : decode cX9_read 4 = .ok (.ifCond .ne 6, 3) := by decide +kernel
theorem dX9_read_7 : decode cX9_read 7 = .ok (.bipush (-2), 2) := by decide +kernel
theorem dX9_read_9 : decode cX9_read 9 = .ok (.ireturn, 1) := by decide +kernel
theorem dX9_read_10 : decode cX9_read 10 = .ok (.aload_n 0, 1) := by decide +kernel
theorem dX9_read_11 : decode cX9_read 11 = .ok (.getfield 81, 3) := by decide +kernel
theorem dX9_read_14 : decode cX9_read 14 = .ok (.iload_n 1, 1) := by decide +kernel
theorem dX9_read_15 : decode cX9_read 15 = .ok (.aaload, 1) := by decide +kernel
theorem dX9_read_16 : decode cX9_read 16 = .ok (.astore_n 2, 1) := by decide +kernel
theorem dX9_read_17 : decode cX9_read 17 = .ok (.aload_n 2, 1) := by decide +kernel
theorem dX9_read_18 : decode cX9_read 18 = .ok (.getfield 108, 3) := by decide +kernel
theorem dX9_read_21 : decode cX9_read 21 = .ok (.ifCond .eq 9, 3) := by decide +kernel
theorem dX9_read_24 : decode cX9_read 24 = .ok (.aload_n 0, 1) := by decide +kernel
theorem dX9_read_25 : decode cX9_read 25 = .ok (.iconst 1, 1) := by decide +kernel
theorem dX9_read_26 : decode cX9_read 26 = .ok (.invokevirtual 112, 3) := by decide +kernel
theorem dX9_read_29 : decode cX9_read 29 = .ok (.ireturn, 1) := by decide +kernel
theorem dX9_read_30 : decode cX9_read 30 = .ok (.aload_n 2, 1) := by decide +kernel
theorem dX9_read_31 : decode cX9_read 31 = .ok (.getfield 116, 3) := by decide +kernel
theorem dX9_read_34 : decode cX9_read 34 = .ok (.bipush 52, 2) := by decide +kernel
theorem dX9_read_36 : decode cX9_read 36 = .ok (.invokestatic 119, 3) := by decide +kernel
theorem dX9_read_39 : decode cX9_read 39 = .ok (.istore_n 3, 1) := by decide +kernel
theorem dX9_read_40 : decode cX9_read 40 = .ok (.iconst 0, 1) := by decide +kernel
theorem dX9_read_41 : decode cX9_read 41 = .ok (.istore 4, 2) := by decide +kernel
theorem dX9_read_43 : decode cX9_read 43 = .ok (.iload 4, 2) := by decide +kernel
theorem dX9_read_45 : decode cX9_read 45 = .ok (.iload_n 3, 1) := by decide +kernel
theorem dX9_read_46 : decode cX9_read 46 = .ok (.if_icmp .ge 41, 3) := by decide +kernel
theorem dX9_read_49 : decode cX9_read 49 = .ok (.aload_n 2, 1) := by decide +kernel
theorem dX9_read_50 : decode cX9_read 50 = .ok (.getfield 125, 3) := by decide +kernel
theorem dX9_read_53 : decode cX9_read 53 = .ok (.iload 4, 2) := by decide +kernel
theorem dX9_read_55 : decode cX9_read 55 = .ok (.iaload, 1) := by decide +kernel
theorem dX9_read_56 : decode cX9_read 56 = .ok (.bipush 9, 2) := by decide +kernel
theorem dX9_read_58 : decode cX9_read 58 = .ok (.invokestatic 97, 3) := by decide +kernel
theorem dX9_read_61 : decode cX9_read 61 = .ok (.ifCond .eq 26, 3) := by decide +kernel
theorem dX9_read_64 : decode cX9_read 64 = .ok (.aload_n 0, 1) := by decide +kernel
theorem dX9_read_65 : decode cX9_read 65 = .ok (.getfield 56, 3) := by decide +kernel
theorem dX9_read_68 : decode cX9_read 68 = .ok (.getfield 101, 3) := by decide +kernel
theorem dX9_read_71 : decode cX9_read 71 = .ok (.iload 4, 2) := by decide +kernel
theorem dX9_read_73 : decode cX9_read 73 = .ok (.aload_n 2, 1) := by decide +kernel
theorem dX9_read_74 : decode cX9_read 74 = .ok (.getfield 125, 3) := by decide +kernel
theorem dX9_read_77 : decode cX9_read 77 = .ok (.iload 4, 2) := by decide +kernel
theorem dX9_read_79 : decode cX9_read 79 = .ok (.iaload, 1) := by decide +kernel
theorem dX9_read_80 : decode cX9_read 80 = .ok (.iastore, 1) := by decide +kernel
theorem dX9_read_81 : decode cX9_read 81 = .ok (.iinc 4 1, 3) := by decide +kernel
theorem dX9_read_84 : decode cX9_read 84 = .ok (.goto (-41), 3) := by decide +kernel
theorem dX9_read_87 : decode cX9_read 87 = .ok (.iload 4, 2) := by decide +kernel
theorem dX9_read_89 : decode cX9_read 89 = .ok (.ireturn, 1) := by decide +kernel
theorem dX9_set_0 : decode cX9_set 0 = .ok (.bipush (-2), 2) := by decide +kernel
theorem dX9_set_2 : decode cX9_set 2 = .ok (.istore_n 3, 1) := by decide +kernel
theorem dX9_set_3 : decode cX9_set 3 = .ok (.iload_n 1, 1) := by decide +kernel
theorem dX9_set_4 : decode cX9_set 4 = .ok (.ifCond .ne 31, 3) := by decide +kernel
theorem dX9_set_7 : decode cX9_set 7 = .ok (.iload_n 2, 1) := by decide +kernel
theorem dX9_set_8 : decode cX9_set 8 = .ok (.bipush 99, 2) := by decide +kernel
theorem dX9_set_10 : decode cX9_set 10 = .ok (.invokestatic 97, 3) := by decide +kernel
theorem dX9_set_13 : decode cX9_set 13 = .ok (.ifCond .eq 22, 3) := by decide +kernel
theorem dX9_set_16 : decode cX9_set 16 = .ok (.aload_n 0, 1) := by decide +kernel
theorem dX9_set_17 : decode cX9_set 17 = .ok (.getfield 56, 3) := by decide +kernel
theorem dX9_set_20 : decode cX9_set 20 = .ok (.getfield 128, 3) := by decide +kernel
theorem dX9_set_23 : decode cX9_set 23 = .ok (.istore_n 3, 1) := by decide +kernel
theorem dX9_set_24 : decode cX9_set 24 = .ok (.aload_n 0, 1) := by decide +kernel
theorem dX9_set_25 : decode cX9_set 25 = .ok (.getfield 56, 3) := by decide +kernel
theorem dX9_set_28 : decode cX9_set 28 = .ok (.iload_n 2, 1) := by decide +kernel
theorem dX9_set_29 : decode cX9_set 29 = .ok (.putfield 128, 3) := by decide +kernel
theorem dX9_set_32 : decode cX9_set 32 = .ok (.goto 27, 3) := by decide +kernel
theorem dX9_set_35 : decode cX9_set 35 = .ok (.iload_n 1, 1) := by decide +kernel
theorem dX9_set_36 : decode cX9_set 36 = .ok (.iconst 1, 1) := by decide +kernel
theorem dX9_set_37 : decode cX9_set 37 = .ok (.if_icmp .ne 22, 3) := by decide +kernel
theorem dX9_set_40 : decode cX9_set 40 = .ok (.iload_n 2, 1) := by decide +kernel
theorem dX9_set_41 : decode cX9_set 41 = .ok (.bipush 99, 2) := by decide +kernel
theorem dX9_set_43 : decode cX9_set 43 = .ok (.invokestatic 97, 3) := by decide +kernel
theorem dX9_set_46 : decode cX9_set 46 = .ok (.ifCond .eq 13, 3) := by decide +kernel
theorem dX9_set_49 : decode cX9_set 49 = .ok (.aload_n 0, 1) := by decide +kernel
theorem dX9_set_50 : decode cX9_set 50 = .ok (.getfield 85, 3) := by decide +kernel
theorem dX9_set_53 : decode cX9_set 53 = .ok (.istore_n 3, 1) := by decide +kernel
theorem dX9_set_54 : decode cX9_set 54 = .ok (.aload_n 0, 1) := by decide +kernel
theorem dX9_set_55 : decode cX9_set 55 = .ok (.iload_n 2, 1) := by decide +kernel
theorem dX9_set_56 : decode cX9_set 56 = .ok (.putfield 85, 3) := by decide +kernel
theorem dX9_set_59 : decode cX9_set 59 = .ok (.iload_n 3, 1) := by decide +kernel
theorem dX9_set_60 : decode cX9_set 60 = .ok (.ireturn, 1) := by decide +kernel
theorem dX9_foot_0 : decode cX9_foot 0 = .ok (.iload_n 1, 1) := by decide +kernel
theorem dX9_foot_1 : decode cX9_foot 1 = .ok (.invokestatic 93, 3) := by decide +kernel
theorem dX9_foot_4 : decode cX9_foot 4 = .ok (.ifCond .eq 14, 3) := by decide +kernel
theorem dX9_foot_7 : decode cX9_foot 7 = .ok (.aload_n 0, 1) := by decide +kernel
theorem dX9_foot_8 : decode cX9_foot 8 = .ok (.getfield 56, 3) := by decide +kernel
theorem dX9_foot_11 : decode cX9_foot 11 = .ok (.iload_n 1, 1) := by decide +kernel
theorem dX9_foot_12 : decode cX9_foot 12 = .ok (.invokevirtual 131, 3) := by decide +kernel
theorem dX9_foot_15 : decode cX9_foot 15 = .ok (.goto 5, 3) := by decide +kernel
theorem dX9_foot_18 : decode cX9_foot 18 = .ok (.bipush (-2), 2) := by decide +kernel
theorem dX9_foot_20 : decode cX9_foot 20 = .ok (.ireturn, 1) := by decide +kernel
theorem dX9_type_0 : decode cX9_type 0 = .ok (.iload_n 1, 1) := by decide +kernel
theorem dX9_type_1 : decode cX9_type 1 = .ok (.invokestatic 134, 3) := by decide +kernel
theorem dX9_type_4 : decode cX9_type 4 = .ok (.ifCond .eq 13, 3) := by decide +kernel
theorem dX9_type_7 : decode cX9_type 7 = .ok (.iload_n 2, 1) := by decide +kernel
theorem dX9_type_8 : decode cX9_type 8 = .ok (.sipush 255, 3) := by decide +kernel
theorem dX9_type_11 : decode cX9_type 11 = .ok (.invokestatic 97, 3) := by decide +kernel
theorem dX9_type_14 : decode cX9_type 14 = .ok (.ifCond .ne 6, 3) := by decide +kernel
theorem dX9_type_17 : decode cX9_type 17 = .ok (.bipush (-2), 2) := by decide +kernel
theorem dX9_type_19 : decode cX9_type 19 = .ok (.ireturn, 1) := by decide +kernel
theorem dX9_type_20 : decode cX9_type 20 = .ok (.aload_n 0, 1) := by decide +kernel
theorem dX9_type_21 : decode cX9_type 21 = .ok (.iload_n 1, 1) := by decide +kernel
theorem dX9_type_22 : decode cX9_type 22 = .ok (.invokevirtual 137, 3) := by decide +kernel
theorem dX9_type_25 : decode cX9_type 25 = .ok (.astore_n 3, 1) := by decide +kernel
theorem dX9_type_26 : decode cX9_type 26 = .ok (.aload_n 3, 1) := by decide +kernel
theorem dX9_type_27 : decode cX9_type 27 = .ok (.getfield 141, 3) := by decide +kernel
theorem dX9_type_30 : decode cX9_type 30 = .ok (.bipush 60, 2) := by decide +kernel
theorem dX9_type_32 : decode cX9_type 32 = .ok (.if_icmp .lt 6, 3) := by decide +kernel
theorem dX9_type_35 : decode cX9_type 35 = .ok (.bipush (-4), 2) := by decide +kernel
theorem dX9_type_37 : decode cX9_type 37 = .ok (.ireturn, 1) := by decide +kernel
theorem dX9_type_38 : decode cX9_type 38 = .ok (.aload_n 3, 1) := by decide +kernel
theorem dX9_type_39 : decode cX9_type 39 = .ok (.iload_n 2, 1) := by decide +kernel
theorem dX9_type_40 : decode cX9_type 40 = .ok (.invokevirtual 144, 3) := by decide +kernel
theorem dX9_type_43 : decode cX9_type 43 = .ok (.aload_n 0, 1) := by decide +kernel
theorem dX9_type_44 : decode cX9_type 44 = .ok (.iload_n 1, 1) := by decide +kernel
theorem dX9_type_45 : decode cX9_type 45 = .ok (.invokevirtual 147, 3) := by decide +kernel
theorem dX9_type_48 : decode cX9_type 48 = .ok (.aload_n 3, 1) := by decide +kernel
theorem dX9_type_49 : decode cX9_type 49 = .ok (.getfield 141, 3) := by decide +kernel
theorem dX9_type_52 : decode cX9_type 52 = .ok (.ireturn, 1) := by decide +kernel
theorem dX9_wipe_0 : decode cX9_wipe 0 = .ok (.iload_n 1, 1) := by decide +kernel
theorem dX9_wipe_1 : decode cX9_wipe 1 = .ok (.invokestatic 134, 3) := by decide +kernel
theorem dX9_wipe_4 : decode cX9_wipe 4 = .ok (.ifCond .ne 6, 3) := by decide +kernel
theorem dX9_wipe_7 : decode cX9_wipe 7 = .ok (.bipush (-2), 2) := by decide +kernel
theorem dX9_wipe_9 : decode cX9_wipe 9 = .ok (.ireturn, 1) := by decide +kernel
theorem dX9_wipe_10 : decode cX9_wipe 10 = .ok (.aload_n 0, 1) := by decide +kernel
theorem dX9_wipe_11 : decode cX9_wipe 11 = .ok (.iload_n 1, 1) := by decide +kernel
theorem dX9_wipe_12 : decode cX9_wipe 12 = .ok (.invokevirtual 137, 3) := by decide +kernel
theorem dX9_wipe_15 : decode cX9_wipe 15 = .ok (.astore_n 2, 1) := by decide +kernel
theorem dX9_wipe_16 : decode cX9_wipe 16 = .ok (.aload_n 2, 1) := by decide +kernel
theorem dX9_wipe_17 : decode cX9_wipe 17 = .ok (.getfield 141, 3) := by decide +kernel
theorem dX9_wipe_20 : decode cX9_wipe 20 = .ok (.istore_n 3, 1) := by decide +kernel
theorem dX9_wipe_21 : decode cX9_wipe 21 = .ok (.aload_n 2, 1) := by decide +kernel
theorem dX9_wipe_22 : decode cX9_wipe 22 = .ok (.iconst 0, 1) := by decide +kernel
theorem dX9_wipe_23 : decode cX9_wipe 23 = .ok (.putfield 141, 3) := by decide +kernel
theorem dX9_wipe_26 : decode cX9_wipe 26 = .ok (.aload_n 0, 1) := by decide +kernel
theorem dX9_wipe_27 : decode cX9_wipe 27 = .ok (.iload_n 1, 1) := by decide +kernel
theorem dX9_wipe_28 : decode cX9_wipe 28 = .ok (.invokevirtual 147, 3) := by decide +kernel
theorem dX9_wipe_31 : decode cX9_wipe 31 = .ok (.iload_n 3, 1) := by decide +kernel
theorem dX9_wipe_32 : decode cX9_wipe 32 = .ok (.ireturn, 1) := by decide +kernel
theorem dX9_fault_0 : decode cX9_fault 0 = .ok (.iload_n 1, 1) := by decide +kernel
theorem dX9_fault_1 : decode cX9_fault 1 = .ok (.invokestatic 134, 3) := by decide +kernel
theorem dX9_fault_4 : decode cX9_fault 4 = .ok (.ifCond .ne 6, 3) := by decide +kernel
theorem dX9_fault_7 : decode cX9_fault 7 = .ok (.bipush (-2), 2) := by decide +kernel
theorem dX9_fault_9 : decode cX9_fault 9 = .ok (.ireturn, 1) := by decide +kernel
theorem dX9_fault_10 : decode cX9_fault 10 = .ok (.iload_n 1, 1) := by decide +kernel
theorem dX9_fault_11 : decode cX9_fault 11 = .ok (.ifCond .ne 13, 3) := by decide +kernel
theorem dX9_fault_14 : decode cX9_fault 14 = .ok (.aload_n 0, 1) := by decide +kernel
theorem dX9_fault_15 : decode cX9_fault 15 = .ok (.getfield 22, 3) := by decide +kernel
theorem dX9_fault_18 : decode cX9_fault 18 = .ok (.getfield 150, 3) := by decide +kernel
theorem dX9_fault_21 : decode cX9_fault 21 = .ok (.goto 10, 3) := by decide +kernel
theorem dX9_fault_24 : decode cX9_fault 24 = .ok (.aload_n 0, 1) := by decide +kernel
theorem dX9_fault_25 : decode cX9_fault 25 = .ok (.getfield 29, 3) := by decide +kernel
theorem dX9_fault_28 : decode cX9_fault 28 = .ok (.getfield 153, 3) := by decide +kernel
theorem dX9_fault_31 : decode cX9_fault 31 = .ok (.ireturn, 1) := by decide +kernel
theorem dX9_house_0 : decode cX9_house 0 = .ok (.aload_n 0, 1) := by decide +kernel
theorem dX9_house_1 : decode cX9_house 1 = .ok (.iload_n 1, 1) := by decide +kernel
theorem dX9_house_2 : decode cX9_house 2 = .ok (.invokevirtual 154, 3) := by decide +kernel
theorem dX9_house_5 : decode cX9_house 5 = .ok (.ifCond .ne 6, 3) := by decide +kernel
theorem dX9_house_8 : decode cX9_house 8 = .ok (.bipush (-2), 2) := by decide +kernel
theorem dX9_house_10 : decode cX9_house 10 = .ok (.ireturn, 1) := by decide +kernel
theorem dX9_house_11 : decode cX9_house 11 = .ok (.iload_n 2, 1) := by decide +kernel
theorem dX9_house_12 : decode cX9_house 12 = .ok (.tableswitch 58 0 2 #[28, 38, 48], 28) := by decide +kernel
theorem dX9_house_40 : decode cX9_house 40 = .ok (.aload_n 0, 1) := by decide +kernel
theorem dX9_house_41 : decode cX9_house 41 = .ok (.getfield 22, 3) := by decide +kernel
theorem dX9_house_44 : decode cX9_house 44 = .ok (.getfield 157, 3) := by decide +kernel
theorem dX9_house_47 : decode cX9_house 47 = .ok (.iload_n 1, 1) := by decide +kernel
theorem dX9_house_48 : decode cX9_house 48 = .ok (.iaload, 1) := by decide +kernel
theorem dX9_house_49 : decode cX9_house 49 = .ok (.ireturn, 1) := by decide +kernel
theorem dX9_house_50 : decode cX9_house 50 = .ok (.aload_n 0, 1) := by decide +kernel
theorem dX9_house_51 : decode cX9_house 51 = .ok (.getfield 22, 3) := by decide +kernel
theorem dX9_house_54 : decode cX9_house 54 = .ok (.getfield 160, 3) := by decide +kernel
theorem dX9_house_57 : decode cX9_house 57 = .ok (.iload_n 1, 1) := by decide +kernel
theorem dX9_house_58 : decode cX9_house 58 = .ok (.iaload, 1) := by decide +kernel
theorem dX9_house_59 : decode cX9_house 59 = .ok (.ireturn, 1) := by decide +kernel
theorem dX9_house_60 : decode cX9_house 60 = .ok (.aload_n 0, 1) := by decide +kernel
theorem dX9_house_61 : decode cX9_house 61 = .ok (.getfield 22, 3) := by decide +kernel
theorem dX9_house_64 : decode cX9_house 64 = .ok (.getfield 163, 3) := by decide +kernel
theorem dX9_house_67 : decode cX9_house 67 = .ok (.iload_n 1, 1) := by decide +kernel
theorem dX9_house_68 : decode cX9_house 68 = .ok (.iaload, 1) := by decide +kernel
theorem dX9_house_69 : decode cX9_house 69 = .ok (.ireturn, 1) := by decide +kernel
theorem dX9_house_70 : decode cX9_house 70 = .ok (.bipush (-2), 2) := by decide +kernel
theorem dX9_house_72 : decode cX9_house 72 = .ok (.ireturn, 1) := by decide +kernel
theorem dX9_takes_0 : decode cX9_takes 0 = .ok (.aload_n 0, 1) := by decide +kernel
theorem dX9_takes_1 : decode cX9_takes 1 = .ok (.iload_n 1, 1) := by decide +kernel
theorem dX9_takes_2 : decode cX9_takes 2 = .ok (.invokevirtual 154, 3) := by decide +kernel
theorem dX9_takes_5 : decode cX9_takes 5 = .ok (.ifCond .eq 12, 3) := by decide +kernel
theorem dX9_takes_8 : decode cX9_takes 8 = .ok (.iload_n 2, 1) := by decide +kernel
theorem dX9_takes_9 : decode cX9_takes 9 = .ok (.bipush 99, 2) := by decide +kernel
theorem dX9_takes_11 : decode cX9_takes 11 = .ok (.invokestatic 97, 3) := by decide +kernel
theorem dX9_takes_14 : decode cX9_takes 14 = .ok (.ifCond .ne 6, 3) := by decide +kernel
theorem dX9_takes_17 : decode cX9_takes 17 = .ok (.bipush (-2), 2) := by decide +kernel
theorem dX9_takes_19 : decode cX9_takes 19 = .ok (.ireturn, 1) := by decide +kernel
theorem dX9_takes_20 : decode cX9_takes 20 = .ok (.aload_n 0, 1) := by decide +kernel
theorem dX9_takes_21 : decode cX9_takes 21 = .ok (.getfield 22, 3) := by decide +kernel
theorem dX9_takes_24 : decode cX9_takes 24 = .ok (.iload_n 1, 1) := by decide +kernel
theorem dX9_takes_25 : decode cX9_takes 25 = .ok (.iload_n 2, 1) := by decide +kernel
theorem dX9_takes_26 : decode cX9_takes 26 = .ok (.invokevirtual 166, 3) := by decide +kernel
theorem dX9_takes_29 : decode cX9_takes 29 = .ok (.ireturn, 1) := by decide +kernel
theorem dX9_judged_0 : decode cX9_judged 0 = .ok (.iload_n 1, 1) := by decide +kernel
theorem dX9_judged_1 : decode cX9_judged 1 = .ok (.iconst 1, 1) := by decide +kernel
theorem dX9_judged_2 : decode cX9_judged 2 = .ok (.invokestatic 97, 3) := by decide +kernel
theorem dX9_judged_5 : decode cX9_judged 5 = .ok (.ifCond .ne 6, 3) := by decide +kernel
theorem dX9_judged_8 : decode cX9_judged 8 = .ok (.bipush (-2), 2) := by decide +kernel
theorem dX9_judged_10 : decode cX9_judged 10 = .ok (.ireturn, 1) := by decide +kernel
theorem dX9_judged_11 : decode cX9_judged 11 = .ok (.aload_n 0, 1) := by decide +kernel
theorem dX9_judged_12 : decode cX9_judged 12 = .ok (.getfield 49, 3) := by decide +kernel
theorem dX9_judged_15 : decode cX9_judged 15 = .ok (.aload_n 0, 1) := by decide +kernel
theorem dX9_judged_16 : decode cX9_judged 16 = .ok (.getfield 22, 3) := by decide +kernel
theorem dX9_judged_19 : decode cX9_judged 19 = .ok (.invokevirtual 169, 3) := by decide +kernel
theorem dX9_judged_22 : decode cX9_judged 22 = .ok (.iconst 0, 1) := by decide +kernel
theorem dX9_judged_23 : decode cX9_judged 23 = .ok (.istore_n 2, 1) := by decide +kernel
theorem dX9_judged_24 : decode cX9_judged 24 = .ok (.iconst 0, 1) := by decide +kernel
theorem dX9_judged_25 : decode cX9_judged 25 = .ok (.istore_n 3, 1) := by decide +kernel
theorem dX9_judged_26 : decode cX9_judged 26 = .ok (.iload_n 3, 1) := by decide +kernel
theorem dX9_judged_27 : decode cX9_judged 27 = .ok (.bipush 52, 2) := by decide +kernel
theorem dX9_judged_29 : decode cX9_judged 29 = .ok (.if_icmp .ge 56, 3) := by decide +kernel
theorem dX9_judged_32 : decode cX9_judged 32 = .ok (.aload_n 0, 1) := by decide +kernel
theorem dX9_judged_33 : decode cX9_judged 33 = .ok (.getfield 29, 3) := by decide +kernel
theorem dX9_judged_36 : decode cX9_judged 36 = .ok (.iload_n 2, 1) := by decide +kernel
theorem dX9_judged_37 : decode cX9_judged 37 = .ok (.iload_n 3, 1) := by decide +kernel
theorem dX9_judged_38 : decode cX9_judged 38 = .ok (.invokevirtual 172, 3) := by decide +kernel
theorem dX9_judged_41 : decode cX9_judged 41 = .ok (.istore 4, 2) := by decide +kernel
theorem dX9_judged_43 : decode cX9_judged 43 = .ok (.aload_n 0, 1) := by decide +kernel
theorem dX9_judged_44 : decode cX9_judged 44 = .ok (.iload_n 2, 1) := by decide +kernel
theorem dX9_judged_45 : decode cX9_judged 45 = .ok (.iload 4, 2) := by decide +kernel
theorem dX9_judged_47 : decode cX9_judged 47 = .ok (.aload_n 0, 1) := by decide +kernel
theorem dX9_judged_48 : decode cX9_judged 48 = .ok (.getfield 56, 3) := by decide +kernel
theorem dX9_judged_51 : decode cX9_judged 51 = .ok (.iload_n 3, 1) := by decide +kernel
theorem dX9_judged_52 : decode cX9_judged 52 = .ok (.invokevirtual 131, 3) := by decide +kernel
theorem dX9_judged_55 : decode cX9_judged 55 = .ok (.invokevirtual 175, 3) := by decide +kernel
theorem dX9_judged_58 : decode cX9_judged 58 = .ok (.istore 5, 2) := by decide +kernel
theorem dX9_judged_60 : decode cX9_judged 60 = .ok (.iload 5, 2) := by decide +kernel
theorem dX9_judged_62 : decode cX9_judged 62 = .ok (.ifCond .eq 14, 3) := by decide +kernel
theorem dX9_judged_65 : decode cX9_judged 65 = .ok (.iload_n 1, 1) := by decide +kernel
theorem dX9_judged_66 : decode cX9_judged 66 = .ok (.ifCond .ne 7, 3) := by decide +kernel
theorem dX9_judged_69 : decode cX9_judged 69 = .ok (.iload_n 3, 1) := by decide +kernel
theorem dX9_judged_70 : decode cX9_judged 70 = .ok (.goto 5, 3) := by decide +kernel
theorem dX9_judged_73 : decode cX9_judged 73 = .ok (.iload 5, 2) := by decide +kernel
theorem dX9_judged_75 : decode cX9_judged 75 = .ok (.ireturn, 1) := by decide +kernel
theorem dX9_judged_76 : decode cX9_judged 76 = .ok (.iload 4, 2) := by decide +kernel
theorem dX9_judged_78 : decode cX9_judged 78 = .ok (.istore_n 2, 1) := by decide +kernel
theorem dX9_judged_79 : decode cX9_judged 79 = .ok (.iinc 3 1, 3) := by decide +kernel
theorem dX9_judged_82 : decode cX9_judged 82 = .ok (.goto (-56), 3) := by decide +kernel
theorem dX9_judged_85 : decode cX9_judged 85 = .ok (.iload_n 1, 1) := by decide +kernel
theorem dX9_judged_86 : decode cX9_judged 86 = .ok (.ifCond .ne 7, 3) := by decide +kernel
theorem dX9_judged_89 : decode cX9_judged 89 = .ok (.iconst (-1), 1) := by decide +kernel
theorem dX9_judged_90 : decode cX9_judged 90 = .ok (.goto 4, 3) := by decide +kernel
theorem dX9_judged_93 : decode cX9_judged 93 = .ok (.iconst 0, 1) := by decide +kernel
theorem dX9_judged_94 : decode cX9_judged 94 = .ok (.ireturn, 1) := by decide +kernel
theorem dX9_ends_0 : decode cX9_ends 0 = .ok (.aload_n 0, 1) := by decide +kernel
theorem dX9_ends_1 : decode cX9_ends 1 = .ok (.iload_n 1, 1) := by decide +kernel
theorem dX9_ends_2 : decode cX9_ends 2 = .ok (.invokevirtual 154, 3) := by decide +kernel
theorem dX9_ends_5 : decode cX9_ends 5 = .ok (.ifCond .ne 6, 3) := by decide +kernel
theorem dX9_ends_8 : decode cX9_ends 8 = .ok (.bipush (-2), 2) := by decide +kernel
theorem dX9_ends_10 : decode cX9_ends 10 = .ok (.ireturn, 1) := by decide +kernel
theorem dX9_ends_11 : decode cX9_ends 11 = .ok (.aload_n 0, 1) := by decide +kernel
theorem dX9_ends_12 : decode cX9_ends 12 = .ok (.getfield 49, 3) := by decide +kernel
theorem dX9_ends_15 : decode cX9_ends 15 = .ok (.aload_n 0, 1) := by decide +kernel
theorem dX9_ends_16 : decode cX9_ends 16 = .ok (.getfield 22, 3) := by decide +kernel
theorem dX9_ends_19 : decode cX9_ends 19 = .ok (.invokevirtual 169, 3) := by decide +kernel
theorem dX9_ends_22 : decode cX9_ends 22 = .ok (.iconst 0, 1) := by decide +kernel
theorem dX9_ends_23 : decode cX9_ends 23 = .ok (.istore_n 2, 1) := by decide +kernel
theorem dX9_ends_24 : decode cX9_ends 24 = .ok (.iload_n 2, 1) := by decide +kernel
theorem dX9_ends_25 : decode cX9_ends 25 = .ok (.aload_n 0, 1) := by decide +kernel
theorem dX9_ends_26 : decode cX9_ends 26 = .ok (.getfield 29, 3) := by decide +kernel
theorem dX9_ends_29 : decode cX9_ends 29 = .ok (.getfield 179, 3) := by decide +kernel
theorem dX9_ends_32 : decode cX9_ends 32 = .ok (.if_icmp .ge 30, 3) := by decide +kernel
theorem dX9_ends_35 : decode cX9_ends 35 = .ok (.aload_n 0, 1) := by decide +kernel
theorem dX9_ends_36 : decode cX9_ends 36 = .ok (.getfield 49, 3) := by decide +kernel
theorem dX9_ends_39 : decode cX9_ends 39 = .ok (.aload_n 0, 1) := by decide +kernel
theorem dX9_ends_40 : decode cX9_ends 40 = .ok (.getfield 22, 3) := by decide +kernel
theorem dX9_ends_43 : decode cX9_ends 43 = .ok (.aload_n 0, 1) := by decide +kernel
theorem dX9_ends_44 : decode cX9_ends 44 = .ok (.getfield 29, 3) := by decide +kernel
theorem dX9_ends_47 : decode cX9_ends 47 = .ok (.getfield 180, 3) := by decide +kernel
theorem dX9_ends_50 : decode cX9_ends 50 = .ok (.iload_n 2, 1) := by decide +kernel
theorem dX9_ends_51 : decode cX9_ends 51 = .ok (.iaload, 1) := by decide +kernel
theorem dX9_ends_52 : decode cX9_ends 52 = .ok (.invokevirtual 183, 3) := by decide +kernel
theorem dX9_ends_55 : decode cX9_ends 55 = .ok (.pop, 1) := by decide +kernel
theorem dX9_ends_56 : decode cX9_ends 56 = .ok (.iinc 2 1, 3) := by decide +kernel
theorem dX9_ends_59 : decode cX9_ends 59 = .ok (.goto (-35), 3) := by decide +kernel
theorem dX9_ends_62 : decode cX9_ends 62 = .ok (.aload_n 0, 1) := by decide +kernel
theorem dX9_ends_63 : decode cX9_ends 63 = .ok (.getfield 49, 3) := by decide +kernel
theorem dX9_ends_66 : decode cX9_ends 66 = .ok (.getfield 187, 3) := by decide +kernel
theorem dX9_ends_69 : decode cX9_ends 69 = .ok (.iload_n 1, 1) := by decide +kernel
theorem dX9_ends_70 : decode cX9_ends 70 = .ok (.iaload, 1) := by decide +kernel
theorem dX9_ends_71 : decode cX9_ends 71 = .ok (.ireturn, 1) := by decide +kernel
theorem dX9_queue_0 : decode cX9_queue 0 = .ok (.iload_n 1, 1) := by decide +kernel
theorem dX9_queue_1 : decode cX9_queue 1 = .ok (.bipush 40, 2) := by decide +kernel
theorem dX9_queue_3 : decode cX9_queue 3 = .ok (.invokestatic 97, 3) := by decide +kernel
theorem dX9_queue_6 : decode cX9_queue 6 = .ok (.ifCond .eq 16, 3) := by decide +kernel
theorem dX9_queue_9 : decode cX9_queue 9 = .ok (.iload_n 2, 1) := by decide +kernel
theorem dX9_queue_10 : decode cX9_queue 10 = .ok (.iconst (-1), 1) := by decide +kernel
theorem dX9_queue_11 : decode cX9_queue 11 = .ok (.if_icmp .eq 14, 3) := by decide +kernel
theorem dX9_queue_14 : decode cX9_queue 14 = .ok (.aload_n 0, 1) := by decide +kernel
theorem dX9_queue_15 : decode cX9_queue 15 = .ok (.iload_n 2, 1) := by decide +kernel
theorem dX9_queue_16 : decode cX9_queue 16 = .ok (.invokevirtual 154, 3) := by decide +kernel
theorem dX9_queue_19 : decode cX9_queue 19 = .ok (.ifCond .ne 6, 3) := by decide +kernel
theorem dX9_queue_22 : decode cX9_queue 22 = .ok (.bipush (-2), 2) := by decide +kernel
theorem dX9_queue_24 : decode cX9_queue 24 = .ok (.ireturn, 1) := by decide +kernel
theorem dX9_queue_25 : decode cX9_queue 25 = .ok (.iload_n 2, 1) := by decide +kernel
theorem dX9_queue_26 : decode cX9_queue 26 = .ok (.iconst (-1), 1) := by decide +kernel
theorem dX9_queue_27 : decode cX9_queue 27 = .ok (.if_icmp .ne 14, 3) := by decide +kernel
theorem dX9_queue_30 : decode cX9_queue 30 = .ok (.aload_n 0, 1) := by decide +kernel
theorem dX9_queue_31 : decode cX9_queue 31 = .ok (.getfield 36, 3) := by decide +kernel
theorem dX9_queue_34 : decode cX9_queue 34 = .ok (.iload_n 1, 1) := by decide +kernel
theorem dX9_queue_35 : decode cX9_queue 35 = .ok (.invokevirtual 188, 3) := by decide +kernel
theorem dX9_queue_38 : decode cX9_queue 38 = .ok (.goto 16, 3) := by decide +kernel
theorem dX9_queue_41 : decode cX9_queue 41 = .ok (.aload_n 0, 1) := by decide +kernel
theorem dX9_queue_42 : decode cX9_queue 42 = .ok (.getfield 36, 3) := by decide +kernel
theorem dX9_queue_45 : decode cX9_queue 45 = .ok (.aload_n 0, 1) := by decide +kernel
theorem dX9_queue_46 : decode cX9_queue 46 = .ok (.getfield 22, 3) := by decide +kernel
theorem dX9_queue_49 : decode cX9_queue 49 = .ok (.iload_n 1, 1) := by decide +kernel
theorem dX9_queue_50 : decode cX9_queue 50 = .ok (.iload_n 2, 1) := by decide +kernel
theorem dX9_queue_51 : decode cX9_queue 51 = .ok (.invokevirtual 191, 3) := by decide +kernel
theorem dX9_queue_54 : decode cX9_queue 54 = .ok (.ireturn, 1) := by decide +kernel
theorem dX9_needs_0 : decode cX9_needs 0 = .ok (.iload_n 1, 1) := by decide +kernel
theorem dX9_needs_1 : decode cX9_needs 1 = .ok (.invokestatic 93, 3) := by decide +kernel
theorem dX9_needs_4 : decode cX9_needs 4 = .ok (.ifCond .eq 21, 3) := by decide +kernel
theorem dX9_needs_7 : decode cX9_needs 7 = .ok (.aload_n 0, 1) := by decide +kernel
theorem dX9_needs_8 : decode cX9_needs 8 = .ok (.getfield 36, 3) := by decide +kernel
theorem dX9_needs_11 : decode cX9_needs 11 = .ok (.aload_n 0, 1) := by decide +kernel
theorem dX9_needs_12 : decode cX9_needs 12 = .ok (.getfield 56, 3) := by decide +kernel
theorem dX9_needs_15 : decode cX9_needs 15 = .ok (.iload_n 1, 1) := by decide +kernel
theorem dX9_needs_16 : decode cX9_needs 16 = .ok (.invokevirtual 131, 3) := by decide +kernel
theorem dX9_needs_19 : decode cX9_needs 19 = .ok (.invokevirtual 195, 3) := by decide +kernel
theorem dX9_needs_22 : decode cX9_needs 22 = .ok (.goto 5, 3) := by decide +kernel
theorem dX9_needs_25 : decode cX9_needs 25 = .ok (.bipush (-2), 2) := by decide +kernel
theorem dX9_needs_27 : decode cX9_needs 27 = .ok (.ireturn, 1) := by decide +kernel
theorem dX9_fewest_0 : decode cX9_fewest 0 = .ok (.iload_n 1, 1) := by decide +kernel
theorem dX9_fewest_1 : decode cX9_fewest 1 = .ok (.invokestatic 93, 3) := by decide +kernel
theorem dX9_fewest_4 : decode cX9_fewest 4 = .ok (.ifCond .eq 15, 3) := by decide +kernel
theorem dX9_fewest_7 : decode cX9_fewest 7 = .ok (.aload_n 0, 1) := by decide +kernel
theorem dX9_fewest_8 : decode cX9_fewest 8 = .ok (.aload_n 0, 1) := by decide +kernel
theorem dX9_fewest_9 : decode cX9_fewest 9 = .ok (.getfield 36, 3) := by decide +kernel
theorem dX9_fewest_12 : decode cX9_fewest 12 = .ok (.iload_n 1, 1) := by decide +kernel
theorem dX9_fewest_13 : decode cX9_fewest 13 = .ok (.invokevirtual 198, 3) := by decide +kernel
theorem dX9_fewest_16 : decode cX9_fewest 16 = .ok (.goto 5, 3) := by decide +kernel
theorem dX9_fewest_19 : decode cX9_fewest 19 = .ok (.bipush (-2), 2) := by decide +kernel
theorem dX9_fewest_21 : decode cX9_fewest 21 = .ok (.ireturn, 1) := by decide +kernel
theorem dX9_turn_0 : decode cX9_turn 0 = .ok (.iload_n 1, 1) := by decide +kernel
theorem dX9_turn_1 : decode cX9_turn 1 = .ok (.invokestatic 93, 3) := by decide +kernel
theorem dX9_turn_4 : decode cX9_turn 4 = .ok (.ifCond .eq 7, 3) := by decide +kernel
theorem dX9_turn_7 : decode cX9_turn 7 = .ok (.iload_n 2, 1) := by decide +kernel
theorem dX9_turn_8 : decode cX9_turn 8 = .ok (.ifCond .ge 6, 3) := by decide +kernel
theorem dX9_turn_11 : decode cX9_turn 11 = .ok (.bipush (-2), 2) := by decide +kernel
theorem dX9_turn_13 : decode cX9_turn 13 = .ok (.ireturn, 1) := by decide +kernel
theorem dX9_turn_14 : decode cX9_turn 14 = .ok (.aload_n 0, 1) := by decide +kernel
theorem dX9_turn_15 : decode cX9_turn 15 = .ok (.aload_n 0, 1) := by decide +kernel
theorem dX9_turn_16 : decode cX9_turn 16 = .ok (.getfield 36, 3) := by decide +kernel
theorem dX9_turn_19 : decode cX9_turn 19 = .ok (.iload_n 1, 1) := by decide +kernel
theorem dX9_turn_20 : decode cX9_turn 20 = .ok (.invokevirtual 198, 3) := by decide +kernel
theorem dX9_turn_23 : decode cX9_turn 23 = .ok (.istore_n 3, 1) := by decide +kernel
theorem dX9_turn_24 : decode cX9_turn 24 = .ok (.iload_n 3, 1) := by decide +kernel
theorem dX9_turn_25 : decode cX9_turn 25 = .ok (.bipush (-3), 2) := by decide +kernel
theorem dX9_turn_27 : decode cX9_turn 27 = .ok (.if_icmp .ne 6, 3) := by decide +kernel
theorem dX9_turn_30 : decode cX9_turn 30 = .ok (.bipush (-3), 2) := by decide +kernel
theorem dX9_turn_32 : decode cX9_turn 32 = .ok (.ireturn, 1) := by decide +kernel
theorem dX9_turn_33 : decode cX9_turn 33 = .ok (.aload_n 0, 1) := by decide +kernel
theorem dX9_turn_34 : decode cX9_turn 34 = .ok (.getfield 36, 3) := by decide +kernel
theorem dX9_turn_37 : decode cX9_turn 37 = .ok (.aload_n 0, 1) := by decide +kernel
theorem dX9_turn_38 : decode cX9_turn 38 = .ok (.getfield 56, 3) := by decide +kernel
theorem dX9_turn_41 : decode cX9_turn 41 = .ok (.iload_n 1, 1) := by decide +kernel
theorem dX9_turn_42 : decode cX9_turn 42 = .ok (.invokevirtual 131, 3) := by decide +kernel
theorem dX9_turn_45 : decode cX9_turn 45 = .ok (.invokevirtual 195, 3) := by decide +kernel
theorem dX9_turn_48 : decode cX9_turn 48 = .ok (.istore 4, 2) := by decide +kernel
theorem dX9_turn_50 : decode cX9_turn 50 = .ok (.iconst 0, 1) := by decide +kernel
theorem dX9_turn_51 : decode cX9_turn 51 = .ok (.istore 5, 2) := by decide +kernel
theorem dX9_turn_53 : decode cX9_turn 53 = .ok (.iconst 0, 1) := by decide +kernel
theorem dX9_turn_54 : decode cX9_turn 54 = .ok (.istore 6, 2) := by decide +kernel
theorem dX9_turn_56 : decode cX9_turn 56 = .ok (.iload 6, 2) := by decide +kernel
theorem dX9_turn_58 : decode cX9_turn 58 = .ok (.iload_n 1, 1) := by decide +kernel
theorem dX9_turn_59 : decode cX9_turn 59 = .ok (.if_icmp .gt 32, 3) := by decide +kernel
theorem dX9_turn_62 : decode cX9_turn 62 = .ok (.aload_n 0, 1) := by decide +kernel
theorem dX9_turn_63 : decode cX9_turn 63 = .ok (.getfield 36, 3) := by decide +kernel
theorem dX9_turn_66 : decode cX9_turn 66 = .ok (.iload 5, 2) := by decide +kernel
theorem dX9_turn_68 : decode cX9_turn 68 = .ok (.iload 4, 2) := by decide +kernel
theorem dX9_turn_70 : decode cX9_turn 70 = .ok (.iload_n 3, 1) := by decide +kernel
theorem dX9_turn_71 : decode cX9_turn 71 = .ok (.invokevirtual 202, 3) := by decide +kernel
theorem dX9_turn_74 : decode cX9_turn 74 = .ok (.istore 5, 2) := by decide +kernel
theorem dX9_turn_76 : decode cX9_turn 76 = .ok (.iload_n 2, 1) := by decide +kernel
theorem dX9_turn_77 : decode cX9_turn 77 = .ok (.iload 5, 2) := by decide +kernel
theorem dX9_turn_79 : decode cX9_turn 79 = .ok (.if_icmp .ge 6, 3) := by decide +kernel
theorem dX9_turn_82 : decode cX9_turn 82 = .ok (.iload 6, 2) := by decide +kernel
theorem dX9_turn_84 : decode cX9_turn 84 = .ok (.ireturn, 1) := by decide +kernel
theorem dX9_turn_85 : decode cX9_turn 85 = .ok (.iinc 6 1, 3) := by decide +kernel
theorem dX9_turn_88 : decode cX9_turn 88 = .ok (.goto (-32), 3) := by decide +kernel
theorem dX9_turn_91 : decode cX9_turn 91 = .ok (.iconst (-1), 1) := by decide +kernel
theorem dX9_turn_92 : decode cX9_turn 92 = .ok (.ireturn, 1) := by decide +kernel
theorem dX9_owed_0 : decode cX9_owed 0 = .ok (.iload_n 1, 1) := by decide +kernel
theorem dX9_owed_1 : decode cX9_owed 1 = .ok (.bipush 9, 2) := by decide +kernel
theorem dX9_owed_3 : decode cX9_owed 3 = .ok (.invokestatic 97, 3) := by decide +kernel
theorem dX9_owed_6 : decode cX9_owed 6 = .ok (.ifCond .eq 17, 3) := by decide +kernel
theorem dX9_owed_9 : decode cX9_owed 9 = .ok (.iload_n 2, 1) := by decide +kernel
theorem dX9_owed_10 : decode cX9_owed 10 = .ok (.bipush 9, 2) := by decide +kernel
theorem dX9_owed_12 : decode cX9_owed 12 = .ok (.invokestatic 97, 3) := by decide +kernel
theorem dX9_owed_15 : decode cX9_owed 15 = .ok (.ifCond .eq 8, 3) := by decide +kernel
theorem dX9_owed_18 : decode cX9_owed 18 = .ok (.iload_n 1, 1) := by decide +kernel
theorem dX9_owed_19 : decode cX9_owed 19 = .ok (.iload_n 2, 1) := by decide +kernel
theorem dX9_owed_20 : decode cX9_owed 20 = .ok (.if_icmp .ne 6, 3) := by decide +kernel
theorem dX9_owed_23 : decode cX9_owed 23 = .ok (.bipush (-2), 2) := by decide +kernel
theorem dX9_owed_25 : decode cX9_owed 25 = .ok (.ireturn, 1) := by decide +kernel
theorem dX9_owed_26 : decode cX9_owed 26 = .ok (.aload_n 0, 1) := by decide +kernel
theorem dX9_owed_27 : decode cX9_owed 27 = .ok (.getfield 63, 3) := by decide +kernel
theorem dX9_owed_30 : decode cX9_owed 30 = .ok (.iload_n 1, 1) := by decide +kernel
theorem dX9_owed_31 : decode cX9_owed 31 = .ok (.iload_n 2, 1) := by decide +kernel
theorem dX9_owed_32 : decode cX9_owed 32 = .ok (.invokevirtual 205, 3) := by decide +kernel
theorem dX9_owed_35 : decode cX9_owed 35 = .ok (.ifCond .eq 13, 3) := by decide +kernel
theorem dX9_owed_38 : decode cX9_owed 38 = .ok (.aload_n 0, 1) := by decide +kernel
theorem dX9_owed_39 : decode cX9_owed 39 = .ok (.getfield 63, 3) := by decide +kernel
theorem dX9_owed_42 : decode cX9_owed 42 = .ok (.getfield 208, 3) := by decide +kernel
theorem dX9_owed_45 : decode cX9_owed 45 = .ok (.goto 5, 3) := by decide +kernel
theorem dX9_owed_48 : decode cX9_owed 48 = .ok (.bipush (-4), 2) := by decide +kernel
theorem dX9_owed_50 : decode cX9_owed 50 = .ok (.ireturn, 1) := by decide +kernel
theorem dX9_broken_0 : decode cX9_broken 0 = .ok (.iload_n 1, 1) := by decide +kernel
theorem dX9_broken_1 : decode cX9_broken 1 = .ok (.bipush 40, 2) := by decide +kernel
theorem dX9_broken_3 : decode cX9_broken 3 = .ok (.invokestatic 97, 3) := by decide +kernel
theorem dX9_broken_6 : decode cX9_broken 6 = .ok (.ifCond .eq 11, 3) := by decide +kernel
theorem dX9_broken_9 : decode cX9_broken 9 = .ok (.iload_n 2, 1) := by decide +kernel
theorem dX9_broken_10 : decode cX9_broken 10 = .ok (.iconst 1, 1) := by decide +kernel
theorem dX9_broken_11 : decode cX9_broken 11 = .ok (.invokestatic 97, 3) := by decide +kernel
theorem dX9_broken_14 : decode cX9_broken 14 = .ok (.ifCond .ne 6, 3) := by decide +kernel
theorem dX9_broken_17 : decode cX9_broken 17 = .ok (.bipush (-2), 2) := by decide +kernel
theorem dX9_broken_19 : decode cX9_broken 19 = .ok (.ireturn, 1) := by decide +kernel
theorem dX9_broken_20 : decode cX9_broken 20 = .ok (.aload_n 0, 1) := by decide +kernel
theorem dX9_broken_21 : decode cX9_broken 21 = .ok (.getfield 49, 3) := by decide +kernel
theorem dX9_broken_24 : decode cX9_broken 24 = .ok (.aload_n 0, 1) := by decide +kernel
theorem dX9_broken_25 : decode cX9_broken 25 = .ok (.getfield 22, 3) := by decide +kernel
theorem dX9_broken_28 : decode cX9_broken 28 = .ok (.invokevirtual 169, 3) := by decide +kernel
theorem dX9_broken_31 : decode cX9_broken 31 = .ok (.aload_n 0, 1) := by decide +kernel
theorem dX9_broken_32 : decode cX9_broken 32 = .ok (.getfield 63, 3) := by decide +kernel
theorem dX9_broken_35 : decode cX9_broken 35 = .ok (.aload_n 0, 1) := by decide +kernel
theorem dX9_broken_36 : decode cX9_broken 36 = .ok (.getfield 22, 3) := by decide +kernel
theorem dX9_broken_39 : decode cX9_broken 39 = .ok (.aload_n 0, 1) := by decide +kernel
theorem dX9_broken_40 : decode cX9_broken 40 = .ok (.getfield 49, 3) := by decide +kernel
theorem dX9_broken_43 : decode cX9_broken 43 = .ok (.getfield 187, 3) := by decide +kernel
theorem dX9_broken_46 : decode cX9_broken 46 = .ok (.invokevirtual 209, 3) := by decide +kernel
theorem dX9_broken_49 : decode cX9_broken 49 = .ok (.istore_n 3, 1) := by decide +kernel
theorem dX9_broken_50 : decode cX9_broken 50 = .ok (.iload_n 3, 1) := by decide +kernel
theorem dX9_broken_51 : decode cX9_broken 51 = .ok (.istore 4, 2) := by decide +kernel
theorem dX9_broken_53 : decode cX9_broken 53 = .ok (.iconst 0, 1) := by decide +kernel
theorem dX9_broken_54 : decode cX9_broken 54 = .ok (.istore 5, 2) := by decide +kernel
theorem dX9_broken_56 : decode cX9_broken 56 = .ok (.iconst 1, 1) := by decide +kernel
theorem dX9_broken_57 : decode cX9_broken 57 = .ok (.istore 6, 2) := by decide +kernel
theorem dX9_broken_59 : decode cX9_broken 59 = .ok (.iload 6, 2) := by decide +kernel
theorem dX9_broken_61 : decode cX9_broken 61 = .ok (.iload_n 1, 1) := by decide +kernel
theorem dX9_broken_62 : decode cX9_broken 62 = .ok (.if_icmp .gt 59, 3) := by decide +kernel
theorem dX9_broken_65 : decode cX9_broken 65 = .ok (.aload_n 0, 1) := by decide +kernel
theorem dX9_broken_66 : decode cX9_broken 66 = .ok (.getfield 36, 3) := by decide +kernel
theorem dX9_broken_69 : decode cX9_broken 69 = .ok (.iload 6, 2) := by decide +kernel
theorem dX9_broken_71 : decode cX9_broken 71 = .ok (.iconst 1, 1) := by decide +kernel
theorem dX9_broken_72 : decode cX9_broken 72 = .ok (.isub, 1) := by decide +kernel
theorem dX9_broken_73 : decode cX9_broken 73 = .ok (.aload_n 0, 1) := by decide +kernel
theorem dX9_broken_74 : decode cX9_broken 74 = .ok (.getfield 49, 3) := by decide +kernel
theorem dX9_broken_77 : decode cX9_broken 77 = .ok (.getfield 187, 3) := by decide +kernel
theorem dX9_broken_80 : decode cX9_broken 80 = .ok (.invokevirtual 213, 3) := by decide +kernel
theorem dX9_broken_83 : decode cX9_broken 83 = .ok (.aload_n 0, 1) := by decide +kernel
theorem dX9_broken_84 : decode cX9_broken 84 = .ok (.getfield 63, 3) := by decide +kernel
theorem dX9_broken_87 : decode cX9_broken 87 = .ok (.aload_n 0, 1) := by decide +kernel
theorem dX9_broken_88 : decode cX9_broken 88 = .ok (.getfield 22, 3) := by decide +kernel
theorem dX9_broken_91 : decode cX9_broken 91 = .ok (.aload_n 0, 1) := by decide +kernel
theorem dX9_broken_92 : decode cX9_broken 92 = .ok (.getfield 49, 3) := by decide +kernel
theorem dX9_broken_95 : decode cX9_broken 95 = .ok (.getfield 187, 3) := by decide +kernel
theorem dX9_broken_98 : decode cX9_broken 98 = .ok (.invokevirtual 209, 3) := by decide +kernel
theorem dX9_broken_101 : decode cX9_broken 101 = .ok (.istore_n 3, 1) := by decide +kernel
theorem dX9_broken_102 : decode cX9_broken 102 = .ok (.iload_n 3, 1) := by decide +kernel
theorem dX9_broken_103 : decode cX9_broken 103 = .ok (.iload 4, 2) := by decide +kernel
theorem dX9_broken_105 : decode cX9_broken 105 = .ok (.if_icmp .ge 10, 3) := by decide +kernel
theorem dX9_broken_108 : decode cX9_broken 108 = .ok (.iload_n 3, 1) := by decide +kernel
theorem dX9_broken_109 : decode cX9_broken 109 = .ok (.istore 4, 2) := by decide +kernel
theorem dX9_broken_111 : decode cX9_broken 111 = .ok (.iload 6, 2) := by decide +kernel
theorem dX9_broken_113 : decode cX9_broken 113 = .ok (.istore 5, 2) := by decide +kernel
theorem dX9_broken_115 : decode cX9_broken 115 = .ok (.iinc 6 1, 3) := by decide +kernel
theorem dX9_broken_118 : decode cX9_broken 118 = .ok (.goto (-59), 3) := by decide +kernel
theorem dX9_broken_121 : decode cX9_broken 121 = .ok (.iload_n 2, 1) := by decide +kernel
theorem dX9_broken_122 : decode cX9_broken 122 = .ok (.ifCond .ne 7, 3) := by decide +kernel
theorem dX9_broken_125 : decode cX9_broken 125 = .ok (.iload_n 3, 1) := by decide +kernel
theorem dX9_broken_126 : decode cX9_broken 126 = .ok (.goto 5, 3) := by decide +kernel
theorem dX9_broken_129 : decode cX9_broken 129 = .ok (.iload 5, 2) := by decide +kernel
theorem dX9_broken_131 : decode cX9_broken 131 = .ok (.ireturn, 1) := by decide +kernel
theorem dX9_well_0 : decode cX9_well 0 = .ok (.iload_n 1, 1) := by decide +kernel
theorem dX9_well_1 : decode cX9_well 1 = .ok (.iload_n 2, 1) := by decide +kernel
theorem dX9_well_2 : decode cX9_well 2 = .ok (.invokestatic 217, 3) := by decide +kernel
theorem dX9_well_5 : decode cX9_well 5 = .ok (.ifCond .ne 6, 3) := by decide +kernel
theorem dX9_well_8 : decode cX9_well 8 = .ok (.bipush (-2), 2) := by decide +kernel
theorem dX9_well_10 : decode cX9_well 10 = .ok (.ireturn, 1) := by decide +kernel
theorem dX9_well_11 : decode cX9_well 11 = .ok (.aload_n 0, 1) := by decide +kernel
theorem dX9_well_12 : decode cX9_well 12 = .ok (.getfield 72, 3) := by decide +kernel
theorem dX9_well_15 : decode cX9_well 15 = .ok (.iload_n 1, 1) := by decide +kernel
theorem dX9_well_16 : decode cX9_well 16 = .ok (.iload_n 2, 1) := by decide +kernel
theorem dX9_well_17 : decode cX9_well 17 = .ok (.iconst 0, 1) := by decide +kernel
theorem dX9_well_18 : decode cX9_well 18 = .ok (.invokevirtual 220, 3) := by decide +kernel
theorem dX9_well_21 : decode cX9_well 21 = .ok (.ifCond .eq 15, 3) := by decide +kernel
theorem dX9_well_24 : decode cX9_well 24 = .ok (.aload_n 0, 1) := by decide +kernel
theorem dX9_well_25 : decode cX9_well 25 = .ok (.getfield 72, 3) := by decide +kernel
theorem dX9_well_28 : decode cX9_well 28 = .ok (.getfield 223, 3) := by decide +kernel
theorem dX9_well_31 : decode cX9_well 31 = .ok (.iconst 1, 1) := by decide +kernel
theorem dX9_well_32 : decode cX9_well 32 = .ok (.isub, 1) := by decide +kernel
theorem dX9_well_33 : decode cX9_well 33 = .ok (.goto 5, 3) := by decide +kernel
theorem dX9_well_36 : decode cX9_well 36 = .ok (.bipush (-4), 2) := by decide +kernel
theorem dX9_well_38 : decode cX9_well 38 = .ok (.ireturn, 1) := by decide +kernel
theorem dX9_met_0 : decode cX9_met 0 = .ok (.iload_n 1, 1) := by decide +kernel
theorem dX9_met_1 : decode cX9_met 1 = .ok (.invokestatic 93, 3) := by decide +kernel
theorem dX9_met_4 : decode cX9_met 4 = .ok (.ifCond .eq 18, 3) := by decide +kernel
theorem dX9_met_7 : decode cX9_met 7 = .ok (.aload_n 0, 1) := by decide +kernel
theorem dX9_met_8 : decode cX9_met 8 = .ok (.aload_n 0, 1) := by decide +kernel
theorem dX9_met_9 : decode cX9_met 9 = .ok (.getfield 56, 3) := by decide +kernel
theorem dX9_met_12 : decode cX9_met 12 = .ok (.iload_n 1, 1) := by decide +kernel
theorem dX9_met_13 : decode cX9_met 13 = .ok (.invokevirtual 131, 3) := by decide +kernel
theorem dX9_met_16 : decode cX9_met 16 = .ok (.invokevirtual 224, 3) := by decide +kernel
theorem dX9_met_19 : decode cX9_met 19 = .ok (.goto 5, 3) := by decide +kernel
theorem dX9_met_22 : decode cX9_met 22 = .ok (.bipush (-2), 2) := by decide +kernel
theorem dX9_met_24 : decode cX9_met 24 = .ok (.ireturn, 1) := by decide +kernel
theorem dX9_dry_0 : decode cX9_dry 0 = .ok (.iload_n 1, 1) := by decide +kernel
theorem dX9_dry_1 : decode cX9_dry 1 = .ok (.invokestatic 93, 3) := by decide +kernel
theorem dX9_dry_4 : decode cX9_dry 4 = .ok (.ifCond .ne 6, 3) := by decide +kernel
theorem dX9_dry_7 : decode cX9_dry 7 = .ok (.bipush (-2), 2) := by decide +kernel
theorem dX9_dry_9 : decode cX9_dry 9 = .ok (.ireturn, 1) := by decide +kernel
theorem dX9_dry_10 : decode cX9_dry 10 = .ok (.iconst 0, 1) := by decide +kernel
theorem dX9_dry_11 : decode cX9_dry 11 = .ok (.istore_n 2, 1) := by decide +kernel
theorem dX9_dry_12 : decode cX9_dry 12 = .ok (.iconst 0, 1) := by decide +kernel
theorem dX9_dry_13 : decode cX9_dry 13 = .ok (.istore_n 3, 1) := by decide +kernel
theorem dX9_dry_14 : decode cX9_dry 14 = .ok (.iconst 0, 1) := by decide +kernel
theorem dX9_dry_15 : decode cX9_dry 15 = .ok (.istore 4, 2) := by decide +kernel
theorem dX9_dry_17 : decode cX9_dry 17 = .ok (.iload 4, 2) := by decide +kernel
theorem dX9_dry_19 : decode cX9_dry 19 = .ok (.iload_n 1, 1) := by decide +kernel
theorem dX9_dry_20 : decode cX9_dry 20 = .ok (.if_icmp .gt 53, 3) := by decide +kernel
theorem dX9_dry_23 : decode cX9_dry 23 = .ok (.aload_n 0, 1) := by decide +kernel
theorem dX9_dry_24 : decode cX9_dry 24 = .ok (.aload_n 0, 1) := by decide +kernel
theorem dX9_dry_25 : decode cX9_dry 25 = .ok (.getfield 56, 3) := by decide +kernel
theorem dX9_dry_28 : decode cX9_dry 28 = .ok (.iload 4, 2) := by decide +kernel
theorem dX9_dry_30 : decode cX9_dry 30 = .ok (.invokevirtual 131, 3) := by decide +kernel
theorem dX9_dry_33 : decode cX9_dry 33 = .ok (.invokevirtual 224, 3) := by decide +kernel
theorem dX9_dry_36 : decode cX9_dry 36 = .ok (.istore 5, 2) := by decide +kernel
theorem dX9_dry_38 : decode cX9_dry 38 = .ok (.iload 5, 2) := by decide +kernel
theorem dX9_dry_40 : decode cX9_dry 40 = .ok (.bipush (-3), 2) := by decide +kernel
theorem dX9_dry_42 : decode cX9_dry 42 = .ok (.if_icmp .ne 6, 3) := by decide +kernel
theorem dX9_dry_45 : decode cX9_dry 45 = .ok (.bipush (-3), 2) := by decide +kernel
theorem dX9_dry_47 : decode cX9_dry 47 = .ok (.ireturn, 1) := by decide +kernel
theorem dX9_dry_48 : decode cX9_dry 48 = .ok (.iload 5, 2) := by decide +kernel
theorem dX9_dry_50 : decode cX9_dry 50 = .ok (.ifCond .ne 9, 3) := by decide +kernel
theorem dX9_dry_53 : decode cX9_dry 53 = .ok (.iload_n 2, 1) := by decide +kernel
theorem dX9_dry_54 : decode cX9_dry 54 = .ok (.iconst 1, 1) := by decide +kernel
theorem dX9_dry_55 : decode cX9_dry 55 = .ok (.iadd, 1) := by decide +kernel
theorem dX9_dry_56 : decode cX9_dry 56 = .ok (.goto 4, 3) := by decide +kernel
theorem dX9_dry_59 : decode cX9_dry 59 = .ok (.iconst 0, 1) := by decide +kernel
theorem dX9_dry_60 : decode cX9_dry 60 = .ok (.istore_n 2, 1) := by decide +kernel
theorem dX9_dry_61 : decode cX9_dry 61 = .ok (.iload_n 3, 1) := by decide +kernel
theorem dX9_dry_62 : decode cX9_dry 62 = .ok (.iload_n 2, 1) := by decide +kernel
theorem dX9_dry_63 : decode cX9_dry 63 = .ok (.invokestatic 227, 3) := by decide +kernel
theorem dX9_dry_66 : decode cX9_dry 66 = .ok (.istore_n 3, 1) := by decide +kernel
theorem dX9_dry_67 : decode cX9_dry 67 = .ok (.iinc 4 1, 3) := by decide +kernel
theorem dX9_dry_70 : decode cX9_dry 70 = .ok (.goto (-53), 3) := by decide +kernel
theorem dX9_dry_73 : decode cX9_dry 73 = .ok (.iload_n 3, 1) := by decide +kernel
theorem dX9_dry_74 : decode cX9_dry 74 = .ok (.ireturn, 1) := by decide +kernel
theorem dX9_sold_0 : decode cX9_sold 0 = .ok (.aload_n 0, 1) := by decide +kernel
theorem dX9_sold_1 : decode cX9_sold 1 = .ok (.iload_n 1, 1) := by decide +kernel
theorem dX9_sold_2 : decode cX9_sold 2 = .ok (.invokevirtual 154, 3) := by decide +kernel
theorem dX9_sold_5 : decode cX9_sold 5 = .ok (.ifCond .eq 23, 3) := by decide +kernel
theorem dX9_sold_8 : decode cX9_sold 8 = .ok (.aload_n 0, 1) := by decide +kernel
theorem dX9_sold_9 : decode cX9_sold 9 = .ok (.iload_n 2, 1) := by decide +kernel
theorem dX9_sold_10 : decode cX9_sold 10 = .ok (.invokevirtual 154, 3) := by decide +kernel
theorem dX9_sold_13 : decode cX9_sold 13 = .ok (.ifCond .eq 15, 3) := by decide +kernel
theorem dX9_sold_16 : decode cX9_sold 16 = .ok (.iload_n 1, 1) := by decide +kernel
theorem dX9_sold_17 : decode cX9_sold 17 = .ok (.iload_n 2, 1) := by decide +kernel
theorem dX9_sold_18 : decode cX9_sold 18 = .ok (.if_icmp .eq 10, 3) := by decide +kernel
theorem dX9_sold_21 : decode cX9_sold 21 = .ok (.iload_n 3, 1) := by decide +kernel
theorem dX9_sold_22 : decode cX9_sold 22 = .ok (.invokestatic 93, 3) := by decide +kernel
theorem dX9_sold_25 : decode cX9_sold 25 = .ok (.ifCond .ne 7, 3) := by decide +kernel
theorem dX9_sold_28 : decode cX9_sold 28 = .ok (.sipush (-10002), 3) := by decide +kernel
theorem dX9_sold_31 : decode cX9_sold 31 = .ok (.ireturn, 1) := by decide +kernel
theorem dX9_sold_32 : decode cX9_sold 32 = .ok (.aload_n 0, 1) := by decide +kernel
theorem dX9_sold_33 : decode cX9_sold 33 = .ok (.getfield 40, 3) := by decide +kernel
theorem dX9_sold_36 : decode cX9_sold 36 = .ok (.aload_n 0, 1) := by decide +kernel
theorem dX9_sold_37 : decode cX9_sold 37 = .ok (.getfield 22, 3) := by decide +kernel
theorem dX9_sold_40 : decode cX9_sold 40 = .ok (.iload_n 1, 1) := by decide +kernel
theorem dX9_sold_41 : decode cX9_sold 41 = .ok (.iload_n 2, 1) := by decide +kernel
theorem dX9_sold_42 : decode cX9_sold 42 = .ok (.invokevirtual 230, 3) := by decide +kernel
theorem dX9_sold_45 : decode cX9_sold 45 = .ok (.aload_n 0, 1) := by decide +kernel
theorem dX9_sold_46 : decode cX9_sold 46 = .ok (.getfield 43, 3) := by decide +kernel
theorem dX9_sold_49 : decode cX9_sold 49 = .ok (.aload_n 0, 1) := by decide +kernel
theorem dX9_sold_50 : decode cX9_sold 50 = .ok (.getfield 40, 3) := by decide +kernel
theorem dX9_sold_53 : decode cX9_sold 53 = .ok (.invokevirtual 234, 3) := by decide +kernel
theorem dX9_sold_56 : decode cX9_sold 56 = .ok (.aload_n 0, 1) := by decide +kernel
theorem dX9_sold_57 : decode cX9_sold 57 = .ok (.aload_n 0, 1) := by decide +kernel
theorem dX9_sold_58 : decode cX9_sold 58 = .ok (.getfield 36, 3) := by decide +kernel
theorem dX9_sold_61 : decode cX9_sold 61 = .ok (.iload_n 3, 1) := by decide +kernel
theorem dX9_sold_62 : decode cX9_sold 62 = .ok (.invokevirtual 198, 3) := by decide +kernel
theorem dX9_sold_65 : decode cX9_sold 65 = .ok (.istore 4, 2) := by decide +kernel
theorem dX9_sold_67 : decode cX9_sold 67 = .ok (.aload_n 0, 1) := by decide +kernel
theorem dX9_sold_68 : decode cX9_sold 68 = .ok (.aload_n 0, 1) := by decide +kernel
theorem dX9_sold_69 : decode cX9_sold 69 = .ok (.getfield 43, 3) := by decide +kernel
theorem dX9_sold_72 : decode cX9_sold 72 = .ok (.iload_n 3, 1) := by decide +kernel
theorem dX9_sold_73 : decode cX9_sold 73 = .ok (.invokevirtual 198, 3) := by decide +kernel
theorem dX9_sold_76 : decode cX9_sold 76 = .ok (.istore 5, 2) := by decide +kernel
theorem dX9_sold_78 : decode cX9_sold 78 = .ok (.iload 4, 2) := by decide +kernel
theorem dX9_sold_80 : decode cX9_sold 80 = .ok (.bipush (-3), 2) := by decide +kernel
theorem dX9_sold_82 : decode cX9_sold 82 = .ok (.if_icmp .eq 10, 3) := by decide +kernel
theorem dX9_sold_85 : decode cX9_sold 85 = .ok (.iload 5, 2) := by decide +kernel
theorem dX9_sold_87 : decode cX9_sold 87 = .ok (.bipush (-3), 2) := by decide +kernel
theorem dX9_sold_89 : decode cX9_sold 89 = .ok (.if_icmp .ne 7, 3) := by decide +kernel
theorem dX9_sold_92 : decode cX9_sold 92 = .ok (.sipush (-10003), 3) := by decide +kernel
theorem dX9_sold_95 : decode cX9_sold 95 = .ok (.ireturn, 1) := by decide +kernel
theorem dX9_sold_96 : decode cX9_sold 96 = .ok (.iload 4, 2) := by decide +kernel
theorem dX9_sold_98 : decode cX9_sold 98 = .ok (.iload 5, 2) := by decide +kernel
theorem dX9_sold_100 : decode cX9_sold 100 = .ok (.isub, 1) := by decide +kernel
theorem dX9_sold_101 : decode cX9_sold 101 = .ok (.ireturn, 1) := by decide +kernel
theorem dX9_debt_0 : decode cX9_debt 0 = .ok (.iload_n 1, 1) := by decide +kernel
theorem dX9_debt_1 : decode cX9_debt 1 = .ok (.iload_n 2, 1) := by decide +kernel
theorem dX9_debt_2 : decode cX9_debt 2 = .ok (.invokestatic 217, 3) := by decide +kernel
theorem dX9_debt_5 : decode cX9_debt 5 = .ok (.ifCond .eq 14, 3) := by decide +kernel
theorem dX9_debt_8 : decode cX9_debt 8 = .ok (.iload_n 3, 1) := by decide +kernel
theorem dX9_debt_9 : decode cX9_debt 9 = .ok (.iconst 1, 1) := by decide +kernel
theorem dX9_debt_10 : decode cX9_debt 10 = .ok (.if_icmp .lt 9, 3) := by decide +kernel
theorem dX9_debt_13 : decode cX9_debt 13 = .ok (.iload_n 3, 1) := by decide +kernel
theorem dX9_debt_14 : decode cX9_debt 14 = .ok (.bipush 99, 2) := by decide +kernel
theorem dX9_debt_16 : decode cX9_debt 16 = .ok (.if_icmp .le 6, 3) := by decide +kernel
theorem dX9_debt_19 : decode cX9_debt 19 = .ok (.bipush (-2), 2) := by decide +kernel
theorem dX9_debt_21 : decode cX9_debt 21 = .ok (.ireturn, 1) := by decide +kernel
theorem dX9_debt_22 : decode cX9_debt 22 = .ok (.aload_n 0, 1) := by decide +kernel
theorem dX9_debt_23 : decode cX9_debt 23 = .ok (.getfield 76, 3) := by decide +kernel
theorem dX9_debt_26 : decode cX9_debt 26 = .ok (.iload_n 1, 1) := by decide +kernel
theorem dX9_debt_27 : decode cX9_debt 27 = .ok (.iload_n 2, 1) := by decide +kernel
theorem dX9_debt_28 : decode cX9_debt 28 = .ok (.iload_n 3, 1) := by decide +kernel
theorem dX9_debt_29 : decode cX9_debt 29 = .ok (.invokevirtual 220, 3) := by decide +kernel
theorem dX9_debt_32 : decode cX9_debt 32 = .ok (.ifCond .eq 13, 3) := by decide +kernel
theorem dX9_debt_35 : decode cX9_debt 35 = .ok (.aload_n 0, 1) := by decide +kernel
theorem dX9_debt_36 : decode cX9_debt 36 = .ok (.getfield 76, 3) := by decide +kernel
theorem dX9_debt_39 : decode cX9_debt 39 = .ok (.getfield 223, 3) := by decide +kernel
theorem dX9_debt_42 : decode cX9_debt 42 = .ok (.goto 5, 3) := by decide +kernel
theorem dX9_debt_45 : decode cX9_debt 45 = .ok (.bipush (-4), 2) := by decide +kernel
theorem dX9_debt_47 : decode cX9_debt 47 = .ok (.ireturn, 1) := by decide +kernel
theorem dX9_owes_0 : decode cX9_owes 0 = .ok (.aload_n 0, 1) := by decide +kernel
theorem dX9_owes_1 : decode cX9_owes 1 = .ok (.iload_n 1, 1) := by decide +kernel
theorem dX9_owes_2 : decode cX9_owes 2 = .ok (.invokevirtual 154, 3) := by decide +kernel
theorem dX9_owes_5 : decode cX9_owes 5 = .ok (.ifCond .eq 10, 3) := by decide +kernel
theorem dX9_owes_8 : decode cX9_owes 8 = .ok (.iload_n 2, 1) := by decide +kernel
theorem dX9_owes_9 : decode cX9_owes 9 = .ok (.invokestatic 93, 3) := by decide +kernel
theorem dX9_owes_12 : decode cX9_owes 12 = .ok (.ifCond .ne 6, 3) := by decide +kernel
theorem dX9_owes_15 : decode cX9_owes 15 = .ok (.bipush (-2), 2) := by decide +kernel
theorem dX9_owes_17 : decode cX9_owes 17 = .ok (.ireturn, 1) := by decide +kernel
theorem dX9_owes_18 : decode cX9_owes 18 = .ok (.aload_n 0, 1) := by decide +kernel
theorem dX9_owes_19 : decode cX9_owes 19 = .ok (.getfield 56, 3) := by decide +kernel
theorem dX9_owes_22 : decode cX9_owes 22 = .ok (.iload_n 2, 1) := by decide +kernel
theorem dX9_owes_23 : decode cX9_owes 23 = .ok (.invokevirtual 131, 3) := by decide +kernel
theorem dX9_owes_26 : decode cX9_owes 26 = .ok (.istore_n 3, 1) := by decide +kernel
theorem dX9_owes_27 : decode cX9_owes 27 = .ok (.aload_n 0, 1) := by decide +kernel
theorem dX9_owes_28 : decode cX9_owes 28 = .ok (.getfield 36, 3) := by decide +kernel
theorem dX9_owes_31 : decode cX9_owes 31 = .ok (.iload_n 3, 1) := by decide +kernel
theorem dX9_owes_32 : decode cX9_owes 32 = .ok (.invokevirtual 195, 3) := by decide +kernel
theorem dX9_owes_35 : decode cX9_owes 35 = .ok (.istore 4, 2) := by decide +kernel
theorem dX9_owes_37 : decode cX9_owes 37 = .ok (.iload 4, 2) := by decide +kernel
theorem dX9_owes_39 : decode cX9_owes 39 = .ok (.bipush (-3), 2) := by decide +kernel
theorem dX9_owes_41 : decode cX9_owes 41 = .ok (.if_icmp .ne 6, 3) := by decide +kernel
theorem dX9_owes_44 : decode cX9_owes 44 = .ok (.bipush (-3), 2) := by decide +kernel
theorem dX9_owes_46 : decode cX9_owes 46 = .ok (.ireturn, 1) := by decide +kernel
theorem dX9_owes_47 : decode cX9_owes 47 = .ok (.aload_n 0, 1) := by decide +kernel
theorem dX9_owes_48 : decode cX9_owes 48 = .ok (.getfield 36, 3) := by decide +kernel
theorem dX9_owes_51 : decode cX9_owes 51 = .ok (.aload_n 0, 1) := by decide +kernel
theorem dX9_owes_52 : decode cX9_owes 52 = .ok (.getfield 22, 3) := by decide +kernel
theorem dX9_owes_55 : decode cX9_owes 55 = .ok (.iload 4, 2) := by decide +kernel
theorem dX9_owes_57 : decode cX9_owes 57 = .ok (.iload_n 1, 1) := by decide +kernel
theorem dX9_owes_58 : decode cX9_owes 58 = .ok (.invokevirtual 191, 3) := by decide +kernel
theorem dX9_owes_61 : decode cX9_owes 61 = .ok (.istore 5, 2) := by decide +kernel
theorem dX9_owes_63 : decode cX9_owes 63 = .ok (.iload 5, 2) := by decide +kernel
theorem dX9_owes_65 : decode cX9_owes 65 = .ok (.iload_n 3, 1) := by decide +kernel
theorem dX9_owes_66 : decode cX9_owes 66 = .ok (.if_icmp .ge 7, 3) := by decide +kernel
theorem dX9_owes_69 : decode cX9_owes 69 = .ok (.iconst 0, 1) := by decide +kernel
theorem dX9_owes_70 : decode cX9_owes 70 = .ok (.goto 21, 3) := by decide +kernel
theorem dX9_owes_73 : decode cX9_owes 73 = .ok (.aload_n 0, 1) := by decide +kernel
theorem dX9_owes_74 : decode cX9_owes 74 = .ok (.getfield 76, 3) := by decide +kernel
theorem dX9_owes_77 : decode cX9_owes 77 = .ok (.aload_n 0, 1) := by decide +kernel
theorem dX9_owes_78 : decode cX9_owes 78 = .ok (.getfield 22, 3) := by decide +kernel
theorem dX9_owes_81 : decode cX9_owes 81 = .ok (.getfield 160, 3) := by decide +kernel
theorem dX9_owes_84 : decode cX9_owes 84 = .ok (.iload_n 1, 1) := by decide +kernel
theorem dX9_owes_85 : decode cX9_owes 85 = .ok (.iaload, 1) := by decide +kernel
theorem dX9_owes_86 : decode cX9_owes 86 = .ok (.iload 5, 2) := by decide +kernel
theorem dX9_owes_88 : decode cX9_owes 88 = .ok (.invokevirtual 237, 3) := by decide +kernel
theorem dX9_owes_91 : decode cX9_owes 91 = .ok (.ireturn, 1) := by decide +kernel
theorem dX9_lost_0 : decode cX9_lost 0 = .ok (.iload_n 1, 1) := by decide +kernel
theorem dX9_lost_1 : decode cX9_lost 1 = .ok (.invokestatic 93, 3) := by decide +kernel
theorem dX9_lost_4 : decode cX9_lost 4 = .ok (.ifCond .eq 21, 3) := by decide +kernel
theorem dX9_lost_7 : decode cX9_lost 7 = .ok (.aload_n 0, 1) := by decide +kernel
theorem dX9_lost_8 : decode cX9_lost 8 = .ok (.getfield 76, 3) := by decide +kernel
theorem dX9_lost_11 : decode cX9_lost 11 = .ok (.aload_n 0, 1) := by decide +kernel
theorem dX9_lost_12 : decode cX9_lost 12 = .ok (.getfield 56, 3) := by decide +kernel
theorem dX9_lost_15 : decode cX9_lost 15 = .ok (.iload_n 1, 1) := by decide +kernel
theorem dX9_lost_16 : decode cX9_lost 16 = .ok (.invokevirtual 131, 3) := by decide +kernel
theorem dX9_lost_19 : decode cX9_lost 19 = .ok (.invokevirtual 240, 3) := by decide +kernel
theorem dX9_lost_22 : decode cX9_lost 22 = .ok (.goto 5, 3) := by decide +kernel
theorem dX9_lost_25 : decode cX9_lost 25 = .ok (.bipush (-2), 2) := by decide +kernel
theorem dX9_lost_27 : decode cX9_lost 27 = .ok (.ireturn, 1) := by decide +kernel
theorem dX9_church_0 : decode cX9_church 0 = .ok (.iload_n 1, 1) := by decide +kernel
theorem dX9_church_1 : decode cX9_church 1 = .ok (.iconst 1, 1) := by decide +kernel
theorem dX9_church_2 : decode cX9_church 2 = .ok (.if_icmp .lt 27, 3) := by decide +kernel
theorem dX9_church_5 : decode cX9_church 5 = .ok (.iload_n 1, 1) := by decide +kernel
theorem dX9_church_6 : decode cX9_church 6 = .ok (.sipush 999, 3) := by decide +kernel
theorem dX9_church_9 : decode cX9_church 9 = .ok (.if_icmp .gt 20, 3) := by decide +kernel
theorem dX9_church_12 : decode cX9_church 12 = .ok (.iload_n 2, 1) := by decide +kernel
theorem dX9_church_13 : decode cX9_church 13 = .ok (.sipush 999, 3) := by decide +kernel
theorem dX9_church_16 : decode cX9_church 16 = .ok (.invokestatic 97, 3) := by decide +kernel
theorem dX9_church_19 : decode cX9_church 19 = .ok (.ifCond .eq 10, 3) := by decide +kernel
theorem dX9_church_22 : decode cX9_church 22 = .ok (.iload_n 3, 1) := by decide +kernel
theorem dX9_church_23 : decode cX9_church 23 = .ok (.invokestatic 93, 3) := by decide +kernel
theorem dX9_church_26 : decode cX9_church 26 = .ok (.ifCond .ne 6, 3) := by decide +kernel
theorem dX9_church_29 : decode cX9_church 29 = .ok (.bipush (-2), 2) := by decide +kernel
theorem dX9_church_31 : decode cX9_church 31 = .ok (.ireturn, 1) := by decide +kernel
theorem dX9_church_32 : decode cX9_church 32 = .ok (.bipush 9, 2) := by decide +kernel
theorem dX9_church_34 : decode cX9_church 34 = .ok (.iload_n 3, 1) := by decide +kernel
theorem dX9_church_35 : decode cX9_church 35 = .ok (.iconst 1, 1) := by decide +kernel
theorem dX9_church_36 : decode cX9_church 36 = .ok (.iadd, 1) := by decide +kernel
theorem dX9_church_37 : decode cX9_church 37 = .ok (.invokestatic 119, 3) := by decide +kernel
theorem dX9_church_40 : decode cX9_church 40 = .ok (.istore 4, 2) := by decide +kernel
theorem dX9_church_42 : decode cX9_church 42 = .ok (.iconst 1, 1) := by decide +kernel
theorem dX9_church_43 : decode cX9_church 43 = .ok (.istore 5, 2) := by decide +kernel
theorem dX9_church_45 : decode cX9_church 45 = .ok (.iload 5, 2) := by decide +kernel
theorem dX9_church_47 : decode cX9_church 47 = .ok (.iload 4, 2) := by decide +kernel
theorem dX9_church_49 : decode cX9_church 49 = .ok (.if_icmp .gt 25, 3) := by decide +kernel
theorem dX9_church_52 : decode cX9_church 52 = .ok (.iload_n 1, 1) := by decide +kernel
theorem dX9_church_53 : decode cX9_church 53 = .ok (.iload 5, 2) := by decide +kernel
theorem dX9_church_55 : decode cX9_church 55 = .ok (.invokestatic 243, 3) := by decide +kernel
theorem dX9_church_58 : decode cX9_church 58 = .ok (.iload 5, 2) := by decide +kernel
theorem dX9_church_60 : decode cX9_church 60 = .ok (.iadd, 1) := by decide +kernel
theorem dX9_church_61 : decode cX9_church 61 = .ok (.iload_n 2, 1) := by decide +kernel
theorem dX9_church_62 : decode cX9_church 62 = .ok (.if_icmp .gt 6, 3) := by decide +kernel
theorem dX9_church_65 : decode cX9_church 65 = .ok (.iload 5, 2) := by decide +kernel
theorem dX9_church_67 : decode cX9_church 67 = .ok (.ireturn, 1) := by decide +kernel
theorem dX9_church_68 : decode cX9_church 68 = .ok (.iinc 5 1, 3) := by decide +kernel
theorem dX9_church_71 : decode cX9_church 71 = .ok (.goto (-26), 3) := by decide +kernel
theorem dX9_church_74 : decode cX9_church 74 = .ok (.iconst (-1), 1) := by decide +kernel
theorem dX9_church_75 : decode cX9_church 75 = .ok (.ireturn, 1) := by decide +kernel
theorem dX9_likely_0 : decode cX9_likely 0 = .ok (.iload_n 1, 1) := by decide +kernel
theorem dX9_likely_1 : decode cX9_likely 1 = .ok (.bipush 9, 2) := by decide +kernel
theorem dX9_likely_3 : decode cX9_likely 3 = .ok (.invokestatic 97, 3) := by decide +kernel
theorem dX9_likely_6 : decode cX9_likely 6 = .ok (.ifCond .eq 34, 3) := by decide +kernel
theorem dX9_likely_9 : decode cX9_likely 9 = .ok (.iload_n 2, 1) := by decide +kernel
theorem dX9_likely_10 : decode cX9_likely 10 = .ok (.bipush 99, 2) := by decide +kernel
theorem dX9_likely_12 : decode cX9_likely 12 = .ok (.invokestatic 97, 3) := by decide +kernel
theorem dX9_likely_15 : decode cX9_likely 15 = .ok (.ifCond .eq 25, 3) := by decide +kernel
theorem dX9_likely_18 : decode cX9_likely 18 = .ok (.iload_n 3, 1) := by decide +kernel
theorem dX9_likely_19 : decode cX9_likely 19 = .ok (.bipush 9, 2) := by decide +kernel
theorem dX9_likely_21 : decode cX9_likely 21 = .ok (.invokestatic 97, 3) := by decide +kernel
theorem dX9_likely_24 : decode cX9_likely 24 = .ok (.ifCond .eq 16, 3) := by decide +kernel
theorem dX9_likely_27 : decode cX9_likely 27 = .ok (.iload 4, 2) := by decide +kernel
theorem dX9_likely_29 : decode cX9_likely 29 = .ok (.iconst 1, 1) := by decide +kernel
theorem dX9_likely_30 : decode cX9_likely 30 = .ok (.invokestatic 97, 3) := by decide +kernel
theorem dX9_likely_33 : decode cX9_likely 33 = .ok (.ifCond .eq 7, 3) := by decide +kernel
theorem dX9_likely_36 : decode cX9_likely 36 = .ok (.iconst 1, 1) := by decide +kernel
theorem dX9_likely_37 : decode cX9_likely 37 = .ok (.goto 4, 3) := by decide +kernel
theorem dX9_likely_40 : decode cX9_likely 40 = .ok (.iconst 0, 1) := by decide +kernel
theorem dX9_likely_41 : decode cX9_likely 41 = .ok (.istore 5, 2) := by decide +kernel
theorem dX9_likely_43 : decode cX9_likely 43 = .ok (.iload 5, 2) := by decide +kernel
theorem dX9_likely_45 : decode cX9_likely 45 = .ok (.ifCond .ne 7, 3) := by decide +kernel
theorem dX9_likely_48 : decode cX9_likely 48 = .ok (.ldc2_w 246, 3) := by decide +kernel
theorem dX9_likely_51 : decode cX9_likely 51 = .ok (.lreturn, 1) := by decide +kernel
theorem dX9_likely_52 : decode cX9_likely 52 = .ok (.aload_n 0, 1) := by decide +kernel
theorem dX9_likely_53 : decode cX9_likely 53 = .ok (.getfield 56, 3) := by decide +kernel
theorem dX9_likely_56 : decode cX9_likely 56 = .ok (.iload_n 1, 1) := by decide +kernel
theorem dX9_likely_57 : decode cX9_likely 57 = .ok (.iload_n 3, 1) := by decide +kernel
theorem dX9_likely_58 : decode cX9_likely 58 = .ok (.invokevirtual 248, 3) := by decide +kernel
theorem dX9_likely_61 : decode cX9_likely 61 = .ok (.aload_n 0, 1) := by decide +kernel
theorem dX9_likely_62 : decode cX9_likely 62 = .ok (.getfield 56, 3) := by decide +kernel
theorem dX9_likely_65 : decode cX9_likely 65 = .ok (.iload_n 2, 1) := by decide +kernel
theorem dX9_likely_66 : decode cX9_likely 66 = .ok (.invokevirtual 252, 3) := by decide +kernel
theorem dX9_likely_69 : decode cX9_likely 69 = .ok (.lstore 6, 2) := by decide +kernel
theorem dX9_likely_71 : decode cX9_likely 71 = .ok (.aload_n 0, 1) := by decide +kernel
theorem dX9_likely_72 : decode cX9_likely 72 = .ok (.getfield 56, 3) := by decide +kernel
theorem dX9_likely_75 : decode cX9_likely 75 = .ok (.iconst (-1), 1) := by decide +kernel
theorem dX9_likely_76 : decode cX9_likely 76 = .ok (.invokevirtual 252, 3) := by decide +kernel
theorem dX9_likely_79 : decode cX9_likely 79 = .ok (.lstore 8, 2) := by decide +kernel
theorem dX9_likely_81 : decode cX9_likely 81 = .ok (.lconst 1, 1) := by decide +kernel
theorem dX9_likely_82 : decode cX9_likely 82 = .ok (.lload 6, 2) := by decide +kernel
theorem dX9_likely_84 : decode cX9_likely 84 = .ok (.lload 8, 2) := by decide +kernel
theorem dX9_likely_86 : decode cX9_likely 86 = .ok (.invokestatic 256, 3) := by decide +kernel
theorem dX9_likely_89 : decode cX9_likely 89 = .ok (.invokestatic 260, 3) := by decide +kernel
theorem dX9_likely_92 : decode cX9_likely 92 = .ok (.lstore 10, 2) := by decide +kernel
theorem dX9_likely_94 : decode cX9_likely 94 = .ok (.iload 4, 2) := by decide +kernel
theorem dX9_likely_96 : decode cX9_likely 96 = .ok (.ifCond .ne 11, 3) := by decide +kernel
theorem dX9_likely_99 : decode cX9_likely 99 = .ok (.lload 6, 2) := by decide +kernel
theorem dX9_likely_101 : decode cX9_likely 101 = .ok (.lload 10, 2) := by decide +kernel
theorem dX9_likely_103 : decode cX9_likely 103 = .ok (.ldiv, 1) := by decide +kernel
theorem dX9_likely_104 : decode cX9_likely 104 = .ok (.goto 8, 3) := by decide +kernel
theorem dX9_likely_107 : decode cX9_likely 107 = .ok (.lload 8, 2) := by decide +kernel
theorem dX9_likely_109 : decode cX9_likely 109 = .ok (.lload 10, 2) := by decide +kernel
theorem dX9_likely_111 : decode cX9_likely 111 = .ok (.ldiv, 1) := by decide +kernel
theorem dX9_likely_112 : decode cX9_likely 112 = .ok (.lreturn, 1) := by decide +kernel
theorem dX9_stone_0 : decode cX9_stone 0 = .ok (.iload_n 1, 1) := by decide +kernel
theorem dX9_stone_1 : decode cX9_stone 1 = .ok (.bipush 99, 2) := by decide +kernel
theorem dX9_stone_3 : decode cX9_stone 3 = .ok (.invokestatic 97, 3) := by decide +kernel
theorem dX9_stone_6 : decode cX9_stone 6 = .ok (.ifCond .eq 48, 3) := by decide +kernel
theorem dX9_stone_9 : decode cX9_stone 9 = .ok (.iload_n 2, 1) := by decide +kernel
theorem dX9_stone_10 : decode cX9_stone 10 = .ok (.invokestatic 93, 3) := by decide +kernel
theorem dX9_stone_13 : decode cX9_stone 13 = .ok (.ifCond .eq 41, 3) := by decide +kernel
theorem dX9_stone_16 : decode cX9_stone 16 = .ok (.iload_n 3, 1) := by decide +kernel
theorem dX9_stone_17 : decode cX9_stone 17 = .ok (.bipush 9, 2) := by decide +kernel
theorem dX9_stone_19 : decode cX9_stone 19 = .ok (.invokestatic 97, 3) := by decide +kernel
theorem dX9_stone_22 : decode cX9_stone 22 = .ok (.ifCond .eq 32, 3) := by decide +kernel
theorem dX9_stone_25 : decode cX9_stone 25 = .ok (.iload 4, 2) := by decide +kernel
theorem dX9_stone_27 : decode cX9_stone 27 = .ok (.bipush 9, 2) := by decide +kernel
theorem dX9_stone_29 : decode cX9_stone 29 = .ok (.invokestatic 97, 3) := by decide +kernel
theorem dX9_stone_32 : decode cX9_stone 32 = .ok (.ifCond .eq 22, 3) := by decide +kernel
theorem dX9_stone_35 : decode cX9_stone 35 = .ok (.iload_n 3, 1) := by decide +kernel
theorem dX9_stone_36 : decode cX9_stone 36 = .ok (.iload 4, 2) := by decide +kernel
theorem dX9_stone_38 : decode cX9_stone 38 = .ok (.if_icmp .gt 16, 3) := by decide +kernel
theorem dX9_stone_41 : decode cX9_stone 41 = .ok (.iload 5, 2) := by decide +kernel
theorem dX9_stone_43 : decode cX9_stone 43 = .ok (.iconst 1, 1) := by decide +kernel
theorem dX9_stone_44 : decode cX9_stone 44 = .ok (.invokestatic 97, 3) := by decide +kernel
theorem dX9_stone_47 : decode cX9_stone 47 = .ok (.ifCond .eq 7, 3) := by decide +kernel
theorem dX9_stone_50 : decode cX9_stone 50 = .ok (.iconst 1, 1) := by decide +kernel
theorem dX9_stone_51 : decode cX9_stone 51 = .ok (.goto 4, 3) := by decide +kernel
theorem dX9_stone_54 : decode cX9_stone 54 = .ok (.iconst 0, 1) := by decide +kernel
theorem dX9_stone_55 : decode cX9_stone 55 = .ok (.istore 6, 2) := by decide +kernel
theorem dX9_stone_57 : decode cX9_stone 57 = .ok (.iload 6, 2) := by decide +kernel
theorem dX9_stone_59 : decode cX9_stone 59 = .ok (.ifCond .ne 6, 3) := by decide +kernel
theorem dX9_stone_62 : decode cX9_stone 62 = .ok (.bipush (-2), 2) := by decide +kernel
theorem dX9_stone_64 : decode cX9_stone 64 = .ok (.ireturn, 1) := by decide +kernel
theorem dX9_stone_65 : decode cX9_stone 65 = .ok (.aload_n 0, 1) := by decide +kernel
theorem dX9_stone_66 : decode cX9_stone 66 = .ok (.getfield 56, 3) := by decide +kernel
theorem dX9_stone_69 : decode cX9_stone 69 = .ok (.iload_n 2, 1) := by decide +kernel
theorem dX9_stone_70 : decode cX9_stone 70 = .ok (.invokevirtual 131, 3) := by decide +kernel
theorem dX9_stone_73 : decode cX9_stone 73 = .ok (.iload_n 1, 1) := by decide +kernel
theorem dX9_stone_74 : decode cX9_stone 74 = .ok (.isub, 1) := by decide +kernel
theorem dX9_stone_75 : decode cX9_stone 75 = .ok (.istore 7, 2) := by decide +kernel
theorem dX9_stone_77 : decode cX9_stone 77 = .ok (.iload 7, 2) := by decide +kernel
theorem dX9_stone_79 : decode cX9_stone 79 = .ok (.iconst 1, 1) := by decide +kernel
theorem dX9_stone_80 : decode cX9_stone 80 = .ok (.if_icmp .lt 9, 3) := by decide +kernel
theorem dX9_stone_83 : decode cX9_stone 83 = .ok (.iload 4, 2) := by decide +kernel
theorem dX9_stone_85 : decode cX9_stone 85 = .ok (.iconst 1, 1) := by decide +kernel
theorem dX9_stone_86 : decode cX9_stone 86 = .ok (.if_icmp .ge 5, 3) := by decide +kernel
theorem dX9_stone_89 : decode cX9_stone 89 = .ok (.iconst (-1), 1) := by decide +kernel
theorem dX9_stone_90 : decode cX9_stone 90 = .ok (.ireturn, 1) := by decide +kernel
theorem dX9_stone_91 : decode cX9_stone 91 = .ok (.iload 5, 2) := by decide +kernel
theorem dX9_stone_93 : decode cX9_stone 93 = .ok (.ifCond .ne 13, 3) := by decide +kernel
theorem dX9_stone_96 : decode cX9_stone 96 = .ok (.iload 7, 2) := by decide +kernel
theorem dX9_stone_98 : decode cX9_stone 98 = .ok (.iload 4, 2) := by decide +kernel
theorem dX9_stone_100 : decode cX9_stone 100 = .ok (.invokestatic 243, 3) := by decide +kernel
theorem dX9_stone_103 : decode cX9_stone 103 = .ok (.iconst 1, 1) := by decide +kernel
theorem dX9_stone_104 : decode cX9_stone 104 = .ok (.isub, 1) := by decide +kernel
theorem dX9_stone_105 : decode cX9_stone 105 = .ok (.ireturn, 1) := by decide +kernel
theorem dX9_stone_106 : decode cX9_stone 106 = .ok (.iload_n 3, 1) := by decide +kernel
theorem dX9_stone_107 : decode cX9_stone 107 = .ok (.iconst 1, 1) := by decide +kernel
theorem dX9_stone_108 : decode cX9_stone 108 = .ok (.if_icmp .ge 9, 3) := by decide +kernel
theorem dX9_stone_111 : decode cX9_stone 111 = .ok (.sipush 999, 3) := by decide +kernel
theorem dX9_stone_114 : decode cX9_stone 114 = .ok (.goto 9, 3) := by decide +kernel
theorem dX9_stone_117 : decode cX9_stone 117 = .ok (.iload 7, 2) := by decide +kernel
theorem dX9_stone_119 : decode cX9_stone 119 = .ok (.iconst 1, 1) := by decide +kernel
theorem dX9_stone_120 : decode cX9_stone 120 = .ok (.isub, 1) := by decide +kernel
theorem dX9_stone_121 : decode cX9_stone 121 = .ok (.iload_n 3, 1) := by decide +kernel
theorem dX9_stone_122 : decode cX9_stone 122 = .ok (.idiv, 1) := by decide +kernel
theorem dX9_stone_123 : decode cX9_stone 123 = .ok (.ireturn, 1) := by decide +kernel
theorem dX9_sheet_0 : decode cX9_sheet 0 = .ok (.iload_n 1, 1) := by decide +kernel
theorem dX9_sheet_1 : decode cX9_sheet 1 = .ok (.invokestatic 105, 3) := by decide +kernel
theorem dX9_sheet_4 : decode cX9_sheet 4 = .ok (.ifCond .eq 16, 3) := by decide +kernel
theorem dX9_sheet_7 : decode cX9_sheet 7 = .ok (.iload_n 2, 1) := by decide +kernel
theorem dX9_sheet_8 : decode cX9_sheet 8 = .ok (.invokestatic 262, 3) := by decide +kernel
theorem dX9_sheet_11 : decode cX9_sheet 11 = .ok (.ifCond .eq 9, 3) := by decide +kernel
theorem dX9_sheet_14 : decode cX9_sheet 14 = .ok (.iload_n 3, 1) := by decide +kernel
theorem dX9_sheet_15 : decode cX9_sheet 15 = .ok (.bipush 60, 2) := by decide +kernel
theorem dX9_sheet_17 : decode cX9_sheet 17 = .ok (.if_icmp .le 6, 3) := by decide +kernel
theorem dX9_sheet_20 : decode cX9_sheet 20 = .ok (.bipush (-2), 2) := by decide +kernel
theorem dX9_sheet_22 : decode cX9_sheet 22 = .ok (.ireturn, 1) := by decide +kernel
theorem dX9_sheet_23 : decode cX9_sheet 23 = .ok (.iload_n 3, 1) := by decide +kernel
theorem dX9_sheet_24 : decode cX9_sheet 24 = .ok (.ifCond .ge 9, 3) := by decide +kernel
theorem dX9_sheet_27 : decode cX9_sheet 27 = .ok (.aload_n 0, 1) := by decide +kernel
theorem dX9_sheet_28 : decode cX9_sheet 28 = .ok (.iconst 5, 1) := by decide +kernel
theorem dX9_sheet_29 : decode cX9_sheet 29 = .ok (.invokevirtual 112, 3) := by decide +kernel
theorem dX9_sheet_32 : decode cX9_sheet 32 = .ok (.ireturn, 1) := by decide +kernel
theorem dX9_sheet_33 : decode cX9_sheet 33 = .ok (.aload_n 0, 1) := by decide +kernel
theorem dX9_sheet_34 : decode cX9_sheet 34 = .ok (.getfield 81, 3) := by decide +kernel
theorem dX9_sheet_37 : decode cX9_sheet 37 = .ok (.iload_n 1, 1) := by decide +kernel
theorem dX9_sheet_38 : decode cX9_sheet 38 = .ok (.aaload, 1) := by decide +kernel
theorem dX9_sheet_39 : decode cX9_sheet 39 = .ok (.iload_n 2, 1) := by decide +kernel
theorem dX9_sheet_40 : decode cX9_sheet 40 = .ok (.iload_n 3, 1) := by decide +kernel
theorem dX9_sheet_41 : decode cX9_sheet 41 = .ok (.invokevirtual 265, 3) := by decide +kernel
theorem dX9_sheet_44 : decode cX9_sheet 44 = .ok (.iload_n 3, 1) := by decide +kernel
theorem dX9_sheet_45 : decode cX9_sheet 45 = .ok (.ireturn, 1) := by decide +kernel
theorem dX9_lose_0 : decode cX9_lose 0 = .ok (.iload_n 1, 1) := by decide +kernel
theorem dX9_lose_1 : decode cX9_lose 1 = .ok (.invokestatic 105, 3) := by decide +kernel
theorem dX9_lose_4 : decode cX9_lose 4 = .ok (.ifCond .ne 6, 3) := by decide +kernel
theorem dX9_lose_7 : decode cX9_lose 7 = .ok (.bipush (-2), 2) := by decide +kernel
theorem dX9_lose_9 : decode cX9_lose 9 = .ok (.ireturn, 1) := by decide +kernel
theorem dX9_lose_10 : decode cX9_lose 10 = .ok (.aload_n 0, 1) := by decide +kernel
theorem dX9_lose_11 : decode cX9_lose 11 = .ok (.getfield 81, 3) := by decide +kernel
theorem dX9_lose_14 : decode cX9_lose 14 = .ok (.iload_n 1, 1) := by decide +kernel
theorem dX9_lose_15 : decode cX9_lose 15 = .ok (.aaload, 1) := by decide +kernel
theorem dX9_lose_16 : decode cX9_lose 16 = .ok (.getfield 108, 3) := by decide +kernel
theorem dX9_lose_19 : decode cX9_lose 19 = .ok (.ifCond .eq 9, 3) := by decide +kernel
theorem dX9_lose_22 : decode cX9_lose 22 = .ok (.aload_n 0, 1) := by decide +kernel
theorem dX9_lose_23 : decode cX9_lose 23 = .ok (.iconst 1, 1) := by decide +kernel
theorem dX9_lose_24 : decode cX9_lose 24 = .ok (.invokevirtual 112, 3) := by decide +kernel
theorem dX9_lose_27 : decode cX9_lose 27 = .ok (.ireturn, 1) := by decide +kernel
theorem dX9_lose_28 : decode cX9_lose 28 = .ok (.aload_n 0, 1) := by decide +kernel
theorem dX9_lose_29 : decode cX9_lose 29 = .ok (.getfield 81, 3) := by decide +kernel
theorem dX9_lose_32 : decode cX9_lose 32 = .ok (.iload_n 1, 1) := by decide +kernel
theorem dX9_lose_33 : decode cX9_lose 33 = .ok (.aaload, 1) := by decide +kernel
theorem dX9_lose_34 : decode cX9_lose 34 = .ok (.iconst 1, 1) := by decide +kernel
theorem dX9_lose_35 : decode cX9_lose 35 = .ok (.putfield 108, 3) := by decide +kernel
theorem dX9_lose_38 : decode cX9_lose 38 = .ok (.aload_n 0, 1) := by decide +kernel
theorem dX9_lose_39 : decode cX9_lose 39 = .ok (.getfield 81, 3) := by decide +kernel
theorem dX9_lose_42 : decode cX9_lose 42 = .ok (.iload_n 1, 1) := by decide +kernel
theorem dX9_lose_43 : decode cX9_lose 43 = .ok (.aaload, 1) := by decide +kernel
theorem dX9_lose_44 : decode cX9_lose 44 = .ok (.getfield 116, 3) := by decide +kernel
theorem dX9_lose_47 : decode cX9_lose 47 = .ok (.ireturn, 1) := by decide +kernel
theorem dX9_put_0 : decode cX9_put 0 = .ok (.iload_n 1, 1) := by decide +kernel
theorem dX9_put_1 : decode cX9_put 1 = .ok (.invokestatic 105, 3) := by decide +kernel
theorem dX9_put_4 : decode cX9_put 4 = .ok (.ifCond .eq 10, 3) := by decide +kernel
theorem dX9_put_7 : decode cX9_put 7 = .ok (.iload_n 2, 1) := by decide +kernel
theorem dX9_put_8 : decode cX9_put 8 = .ok (.invokestatic 262, 3) := by decide +kernel
theorem dX9_put_11 : decode cX9_put 11 = .ok (.ifCond .ne 6, 3) := by decide +kernel
theorem dX9_put_14 : decode cX9_put 14 = .ok (.bipush (-2), 2) := by decide +kernel
theorem dX9_put_16 : decode cX9_put 16 = .ok (.ireturn, 1) := by decide +kernel
theorem dX9_put_17 : decode cX9_put 17 = .ok (.aload_n 0, 1) := by decide +kernel
theorem dX9_put_18 : decode cX9_put 18 = .ok (.getfield 81, 3) := by decide +kernel
theorem dX9_put_21 : decode cX9_put 21 = .ok (.iload_n 1, 1) := by decide +kernel
theorem dX9_put_22 : decode cX9_put 22 = .ok (.aaload, 1) := by decide +kernel
theorem dX9_put_23 : decode cX9_put 23 = .ok (.iload_n 2, 1) := by decide +kernel
theorem dX9_put_24 : decode cX9_put 24 = .ok (.iload_n 3, 1) := by decide +kernel
theorem dX9_put_25 : decode cX9_put 25 = .ok (.invokevirtual 268, 3) := by decide +kernel
theorem dX9_put_28 : decode cX9_put 28 = .ok (.istore 5, 2) := by decide +kernel
theorem dX9_put_30 : decode cX9_put 30 = .ok (.iload 5, 2) := by decide +kernel
theorem dX9_put_32 : decode cX9_put 32 = .ok (.ifCond .eq 10, 3) := by decide +kernel
theorem dX9_put_35 : decode cX9_put 35 = .ok (.aload_n 0, 1) := by decide +kernel
theorem dX9_put_36 : decode cX9_put 36 = .ok (.iload 5, 2) := by decide +kernel
theorem dX9_put_38 : decode cX9_put 38 = .ok (.invokevirtual 112, 3) := by decide +kernel
theorem dX9_put_41 : decode cX9_put 41 = .ok (.ireturn, 1) := by decide +kernel
theorem dX9_put_42 : decode cX9_put 42 = .ok (.aload_n 0, 1) := by decide +kernel
theorem dX9_put_43 : decode cX9_put 43 = .ok (.getfield 81, 3) := by decide +kernel
theorem dX9_put_46 : decode cX9_put 46 = .ok (.iload_n 1, 1) := by decide +kernel
theorem dX9_put_47 : decode cX9_put 47 = .ok (.aaload, 1) := by decide +kernel
theorem dX9_put_48 : decode cX9_put 48 = .ok (.iload_n 3, 1) := by decide +kernel
theorem dX9_put_49 : decode cX9_put 49 = .ok (.iload 4, 2) := by decide +kernel
theorem dX9_put_51 : decode cX9_put 51 = .ok (.invokevirtual 271, 3) := by decide +kernel
theorem dX9_put_54 : decode cX9_put 54 = .ok (.iconst 1, 1) := by decide +kernel
theorem dX9_put_55 : decode cX9_put 55 = .ok (.ireturn, 1) := by decide +kernel
theorem dX9_get_0 : decode cX9_get 0 = .ok (.iload_n 1, 1) := by decide +kernel
theorem dX9_get_1 : decode cX9_get 1 = .ok (.invokestatic 105, 3) := by decide +kernel
theorem dX9_get_4 : decode cX9_get 4 = .ok (.ifCond .eq 10, 3) := by decide +kernel
theorem dX9_get_7 : decode cX9_get 7 = .ok (.iload_n 2, 1) := by decide +kernel
theorem dX9_get_8 : decode cX9_get 8 = .ok (.invokestatic 262, 3) := by decide +kernel
theorem dX9_get_11 : decode cX9_get 11 = .ok (.ifCond .ne 7, 3) := by decide +kernel
theorem dX9_get_14 : decode cX9_get 14 = .ok (.ldc_w 274, 3) := by decide +kernel
theorem dX9_get_17 : decode cX9_get 17 = .ok (.ireturn, 1) := by decide +kernel
theorem dX9_get_18 : decode cX9_get 18 = .ok (.aload_n 0, 1) := by decide +kernel
theorem dX9_get_19 : decode cX9_get 19 = .ok (.getfield 81, 3) := by decide +kernel
theorem dX9_get_22 : decode cX9_get 22 = .ok (.iload_n 1, 1) := by decide +kernel
theorem dX9_get_23 : decode cX9_get 23 = .ok (.aaload, 1) := by decide +kernel
theorem dX9_get_24 : decode cX9_get 24 = .ok (.iload_n 2, 1) := by decide +kernel
theorem dX9_get_25 : decode cX9_get 25 = .ok (.iload_n 3, 1) := by decide +kernel
theorem dX9_get_26 : decode cX9_get 26 = .ok (.invokevirtual 268, 3) := by decide +kernel
theorem dX9_get_29 : decode cX9_get 29 = .ok (.istore 4, 2) := by decide +kernel
theorem dX9_get_31 : decode cX9_get 31 = .ok (.iload 4, 2) := by decide +kernel
theorem dX9_get_33 : decode cX9_get 33 = .ok (.ifCond .eq 13, 3) := by decide +kernel
theorem dX9_get_36 : decode cX9_get 36 = .ok (.aload_n 0, 1) := by decide +kernel
theorem dX9_get_37 : decode cX9_get 37 = .ok (.iload 4, 2) := by decide +kernel
theorem dX9_get_39 : decode cX9_get 39 = .ok (.putfield 89, 3) := by decide +kernel
theorem dX9_get_42 : decode cX9_get 42 = .ok (.ldc_w 274, 3) := by decide +kernel
theorem dX9_get_45 : decode cX9_get 45 = .ok (.ireturn, 1) := by decide +kernel
theorem dX9_get_46 : decode cX9_get 46 = .ok (.aload_n 0, 1) := by decide +kernel
theorem dX9_get_47 : decode cX9_get 47 = .ok (.getfield 81, 3) := by decide +kernel
theorem dX9_get_50 : decode cX9_get 50 = .ok (.iload_n 1, 1) := by decide +kernel
theorem dX9_get_51 : decode cX9_get 51 = .ok (.aaload, 1) := by decide +kernel
theorem dX9_get_52 : decode cX9_get 52 = .ok (.getfield 125, 3) := by decide +kernel
theorem dX9_get_55 : decode cX9_get 55 = .ok (.iload_n 3, 1) := by decide +kernel
theorem dX9_get_56 : decode cX9_get 56 = .ok (.iaload, 1) := by decide +kernel
theorem dX9_get_57 : decode cX9_get 57 = .ok (.ireturn, 1) := by decide +kernel
theorem dX9_copy_0 : decode cX9_copy 0 = .ok (.iload_n 1, 1) := by decide +kernel
theorem dX9_copy_1 : decode cX9_copy 1 = .ok (.invokestatic 105, 3) := by decide +kernel
theorem dX9_copy_4 : decode cX9_copy 4 = .ok (.ifCond .eq 10, 3) := by decide +kernel
theorem dX9_copy_7 : decode cX9_copy 7 = .ok (.iload_n 3, 1) := by decide +kernel
theorem dX9_copy_8 : decode cX9_copy 8 = .ok (.invokestatic 105, 3) := by decide +kernel
theorem dX9_copy_11 : decode cX9_copy 11 = .ok (.ifCond .ne 6, 3) := by decide +kernel
theorem dX9_copy_14 : decode cX9_copy 14 = .ok (.bipush (-2), 2) := by decide +kernel
theorem dX9_copy_16 : decode cX9_copy 16 = .ok (.ireturn, 1) := by decide +kernel
theorem dX9_copy_17 : decode cX9_copy 17 = .ok (.aload_n 0, 1) := by decide +kernel
theorem dX9_copy_18 : decode cX9_copy 18 = .ok (.getfield 81, 3) := by decide +kernel
theorem dX9_copy_21 : decode cX9_copy 21 = .ok (.iload_n 1, 1) := by decide +kernel
theorem dX9_copy_22 : decode cX9_copy 22 = .ok (.aaload, 1) := by decide +kernel
theorem dX9_copy_23 : decode cX9_copy 23 = .ok (.astore 6, 2) := by decide +kernel
theorem dX9_copy_25 : decode cX9_copy 25 = .ok (.aload_n 0, 1) := by decide +kernel
theorem dX9_copy_26 : decode cX9_copy 26 = .ok (.getfield 81, 3) := by decide +kernel
theorem dX9_copy_29 : decode cX9_copy 29 = .ok (.iload_n 3, 1) := by decide +kernel
theorem dX9_copy_30 : decode cX9_copy 30 = .ok (.aaload, 1) := by decide +kernel
theorem dX9_copy_31 : decode cX9_copy 31 = .ok (.astore 7, 2) := by decide +kernel
theorem dX9_copy_33 : decode cX9_copy 33 = .ok (.aload 6, 2) := by decide +kernel
theorem dX9_copy_35 : decode cX9_copy 35 = .ok (.getfield 108, 3) := by decide +kernel
theorem dX9_copy_38 : decode cX9_copy 38 = .ok (.ifCond .ne 11, 3) := by decide +kernel
theorem dX9_copy_41 : decode cX9_copy 41 = .ok (.aload 7, 2) := by decide +kernel
theorem dX9_copy_43 : decode cX9_copy 43 = .ok (.getfield 108, 3) := by decide +kernel
theorem dX9_copy_46 : decode cX9_copy 46 = .ok (.ifCond .eq 9, 3) := by decide +kernel
theorem dX9_copy_49 : decode cX9_copy 49 = .ok (.aload_n 0, 1) := by decide +kernel
theorem dX9_copy_50 : decode cX9_copy 50 = .ok (.iconst 1, 1) := by decide +kernel
theorem dX9_copy_51 : decode cX9_copy 51 = .ok (.invokevirtual 112, 3) := by decide +kernel
theorem dX9_copy_54 : decode cX9_copy 54 = .ok (.ireturn, 1) := by decide +kernel
theorem dX9_copy_55 : decode cX9_copy 55 = .ok (.aload 6, 2) := by decide +kernel
theorem dX9_copy_57 : decode cX9_copy 57 = .ok (.getfield 275, 3) := by decide +kernel
theorem dX9_copy_60 : decode cX9_copy 60 = .ok (.aload 7, 2) := by decide +kernel
theorem dX9_copy_62 : decode cX9_copy 62 = .ok (.getfield 275, 3) := by decide +kernel
theorem dX9_copy_65 : decode cX9_copy 65 = .ok (.if_icmp .eq 9, 3) := by decide +kernel
theorem dX9_copy_68 : decode cX9_copy 68 = .ok (.aload_n 0, 1) := by decide +kernel
theorem dX9_copy_69 : decode cX9_copy 69 = .ok (.iconst 4, 1) := by decide +kernel
theorem dX9_copy_70 : decode cX9_copy 70 = .ok (.invokevirtual 112, 3) := by decide +kernel
theorem dX9_copy_73 : decode cX9_copy 73 = .ok (.ireturn, 1) := by decide +kernel
theorem dX9_copy_74 : decode cX9_copy 74 = .ok (.aload 6, 2) := by decide +kernel
theorem dX9_copy_76 : decode cX9_copy 76 = .ok (.iload_n 2, 1) := by decide +kernel
theorem dX9_copy_77 : decode cX9_copy 77 = .ok (.iload 5, 2) := by decide +kernel
theorem dX9_copy_79 : decode cX9_copy 79 = .ok (.invokevirtual 278, 3) := by decide +kernel
theorem dX9_copy_82 : decode cX9_copy 82 = .ok (.ifCond .eq 15, 3) := by decide +kernel
theorem dX9_copy_85 : decode cX9_copy 85 = .ok (.aload 7, 2) := by decide +kernel
theorem dX9_copy_87 : decode cX9_copy 87 = .ok (.iload 4, 2) := by decide +kernel
theorem dX9_copy_89 : decode cX9_copy 89 = .ok (.iload 5, 2) := by decide +kernel
theorem dX9_copy_91 : decode cX9_copy 91 = .ok (.invokevirtual 278, 3) := by decide +kernel
theorem dX9_copy_94 : decode cX9_copy 94 = .ok (.ifCond .ne 9, 3) := by decide +kernel
theorem dX9_copy_97 : decode cX9_copy 97 = .ok (.aload_n 0, 1) := by decide +kernel
theorem dX9_copy_98 : decode cX9_copy 98 = .ok (.iconst 2, 1) := by decide +kernel
theorem dX9_copy_99 : decode cX9_copy 99 = .ok (.invokevirtual 112, 3) := by decide +kernel
theorem dX9_copy_102 : decode cX9_copy 102 = .ok (.ireturn, 1) := by decide +kernel
theorem dX9_copy_103 : decode cX9_copy 103 = .ok (.aload 6, 2) := by decide +kernel
theorem dX9_copy_105 : decode cX9_copy 105 = .ok (.getfield 125, 3) := by decide +kernel
theorem dX9_copy_108 : decode cX9_copy 108 = .ok (.iload_n 2, 1) := by decide +kernel
theorem dX9_copy_109 : decode cX9_copy 109 = .ok (.aload 7, 2) := by decide +kernel
theorem dX9_copy_111 : decode cX9_copy 111 = .ok (.getfield 125, 3) := by decide +kernel
theorem dX9_copy_114 : decode cX9_copy 114 = .ok (.iload 4, 2) := by decide +kernel
theorem dX9_copy_116 : decode cX9_copy 116 = .ok (.iload 5, 2) := by decide +kernel
theorem dX9_copy_118 : decode cX9_copy 118 = .ok (.invokestatic 281, 3) := by decide +kernel
theorem dX9_copy_121 : decode cX9_copy 121 = .ok (.iconst 1, 1) := by decide +kernel
theorem dX9_copy_122 : decode cX9_copy 122 = .ok (.ireturn, 1) := by decide +kernel
theorem dX9_write_0 : decode cX9_write 0 = .ok (.iload_n 1, 1) := by decide +kernel
theorem dX9_write_1 : decode cX9_write 1 = .ok (.bipush 40, 2) := by decide +kernel
theorem dX9_write_3 : decode cX9_write 3 = .ok (.invokestatic 97, 3) := by decide +kernel
theorem dX9_write_6 : decode cX9_write 6 = .ok (.ifCond .eq 10, 3) := by decide +kernel
theorem dX9_write_9 : decode cX9_write 9 = .ok (.iload_n 2, 1) := by decide +kernel
theorem dX9_write_10 : decode cX9_write 10 = .ok (.invokestatic 105, 3) := by decide +kernel
theorem dX9_write_13 : decode cX9_write 13 = .ok (.ifCond .ne 6, 3) := by decide +kernel
theorem dX9_write_16 : decode cX9_write 16 = .ok (.bipush (-2), 2) := by decide +kernel
theorem dX9_write_18 : decode cX9_write 18 = .ok (.ireturn, 1) := by decide +kernel
theorem dX9_write_19 : decode cX9_write 19 = .ok (.aload_n 0, 1) := by decide +kernel
theorem dX9_write_20 : decode cX9_write 20 = .ok (.getfield 81, 3) := by decide +kernel
theorem dX9_write_23 : decode cX9_write 23 = .ok (.iload_n 2, 1) := by decide +kernel
theorem dX9_write_24 : decode cX9_write 24 = .ok (.aaload, 1) := by decide +kernel
theorem dX9_write_25 : decode cX9_write 25 = .ok (.astore_n 3, 1) := by decide +kernel
theorem dX9_write_26 : decode cX9_write 26 = .ok (.aload_n 3, 1) := by decide +kernel
theorem dX9_write_27 : decode cX9_write 27 = .ok (.getfield 108, 3) := by decide +kernel
theorem dX9_write_30 : decode cX9_write 30 = .ok (.ifCond .eq 9, 3) := by decide +kernel
theorem dX9_write_33 : decode cX9_write 33 = .ok (.aload_n 0, 1) := by decide +kernel
theorem dX9_write_34 : decode cX9_write 34 = .ok (.iconst 1, 1) := by decide +kernel
theorem dX9_write_35 : decode cX9_write 35 = .ok (.invokevirtual 112, 3) := by decide +kernel
theorem dX9_write_38 : decode cX9_write 38 = .ok (.ireturn, 1) := by decide +kernel
theorem dX9_write_39 : decode cX9_write 39 = .ok (.aload_n 3, 1) := by decide +kernel
theorem dX9_write_40 : decode cX9_write 40 = .ok (.getfield 116, 3) := by decide +kernel
theorem dX9_write_43 : decode cX9_write 43 = .ok (.aload_n 0, 1) := by decide +kernel
theorem dX9_write_44 : decode cX9_write 44 = .ok (.getfield 22, 3) := by decide +kernel
theorem dX9_write_47 : decode cX9_write 47 = .ok (.getfield 287, 3) := by decide +kernel
theorem dX9_write_50 : decode cX9_write 50 = .ok (.invokestatic 119, 3) := by decide +kernel
theorem dX9_write_53 : decode cX9_write 53 = .ok (.istore 4, 2) := by decide +kernel
theorem dX9_write_55 : decode cX9_write 55 = .ok (.iconst 0, 1) := by decide +kernel
theorem dX9_write_56 : decode cX9_write 56 = .ok (.istore 5, 2) := by decide +kernel
theorem dX9_write_58 : decode cX9_write 58 = .ok (.iload 5, 2) := by decide +kernel
theorem dX9_write_60 : decode cX9_write 60 = .ok (.iload 4, 2) := by decide +kernel
theorem dX9_write_62 : decode cX9_write 62 = .ok (.if_icmp .ge 29, 3) := by decide +kernel
theorem dX9_write_65 : decode cX9_write 65 = .ok (.aload_n 3, 1) := by decide +kernel
theorem dX9_write_66 : decode cX9_write 66 = .ok (.iload 5, 2) := by decide +kernel
theorem dX9_write_68 : decode cX9_write 68 = .ok (.aload_n 0, 1) := by decide +kernel
theorem dX9_write_69 : decode cX9_write 69 = .ok (.getfield 36, 3) := by decide +kernel
theorem dX9_write_72 : decode cX9_write 72 = .ok (.aload_n 0, 1) := by decide +kernel
theorem dX9_write_73 : decode cX9_write 73 = .ok (.getfield 22, 3) := by decide +kernel
theorem dX9_write_76 : decode cX9_write 76 = .ok (.iload_n 1, 1) := by decide +kernel
theorem dX9_write_77 : decode cX9_write 77 = .ok (.iload 5, 2) := by decide +kernel
theorem dX9_write_79 : decode cX9_write 79 = .ok (.invokevirtual 191, 3) := by decide +kernel
theorem dX9_write_82 : decode cX9_write 82 = .ok (.invokevirtual 271, 3) := by decide +kernel
theorem dX9_write_85 : decode cX9_write 85 = .ok (.iinc 5 1, 3) := by decide +kernel
theorem dX9_write_88 : decode cX9_write 88 = .ok (.goto (-30), 3) := by decide +kernel
theorem dX9_write_91 : decode cX9_write 91 = .ok (.iload 4, 2) := by decide +kernel
theorem dX9_write_93 : decode cX9_write 93 = .ok (.ireturn, 1) := by decide +kernel
theorem dX9_count_0 : decode cX9_count 0 = .ok (.iload_n 1, 1) := by decide +kernel
theorem dX9_count_1 : decode cX9_count 1 = .ok (.tableswitch 117 0 8 #[51, 59, 67, 75, 83, 91, 99, 107, 112], 51) := by decide +kernel
theorem dX9_count_52 : decode cX9_count 52 = .ok (.aload_n 0, 1) := by decide +kernel
theorem dX9_count_53 : decode cX9_count 53 = .ok (.getfield 22, 3) := by decide +kernel
theorem dX9_count_56 : decode cX9_count 56 = .ok (.getfield 287, 3) := by decide +kernel
theorem dX9_count_59 : decode cX9_count 59 = .ok (.ireturn, 1) := by decide +kernel
theorem dX9_count_60 : decode cX9_count 60 = .ok (.aload_n 0, 1) := by decide +kernel
theorem dX9_count_61 : decode cX9_count 61 = .ok (.getfield 10, 3) := by decide +kernel
theorem dX9_count_64 : decode cX9_count 64 = .ok (.getfield 141, 3) := by decide +kernel
theorem dX9_count_67 : decode cX9_count 67 = .ok (.ireturn, 1) := by decide +kernel
theorem dX9_count_68 : decode cX9_count 68 = .ok (.aload_n 0, 1) := by decide +kernel
theorem dX9_count_69 : decode cX9_count 69 = .ok (.getfield 16, 3) := by decide +kernel
theorem dX9_count_72 : decode cX9_count 72 = .ok (.getfield 141, 3) := by decide +kernel
theorem dX9_count_75 : decode cX9_count 75 = .ok (.ireturn, 1) := by decide +kernel
theorem dX9_count_76 : decode cX9_count 76 = .ok (.aload_n 0, 1) := by decide +kernel
theorem dX9_count_77 : decode cX9_count 77 = .ok (.getfield 29, 3) := by decide +kernel
theorem dX9_count_80 : decode cX9_count 80 = .ok (.getfield 179, 3) := by decide +kernel
theorem dX9_count_83 : decode cX9_count 83 = .ok (.ireturn, 1) := by decide +kernel
theorem dX9_count_84 : decode cX9_count 84 = .ok (.aload_n 0, 1) := by decide +kernel
theorem dX9_count_85 : decode cX9_count 85 = .ok (.getfield 63, 3) := by decide +kernel
theorem dX9_count_88 : decode cX9_count 88 = .ok (.getfield 208, 3) := by decide +kernel
theorem dX9_count_91 : decode cX9_count 91 = .ok (.ireturn, 1) := by decide +kernel
theorem dX9_count_92 : decode cX9_count 92 = .ok (.aload_n 0, 1) := by decide +kernel
theorem dX9_count_93 : decode cX9_count 93 = .ok (.getfield 72, 3) := by decide +kernel
theorem dX9_count_96 : decode cX9_count 96 = .ok (.getfield 223, 3) := by decide +kernel
theorem dX9_count_99 : decode cX9_count 99 = .ok (.ireturn, 1) := by decide +kernel
theorem dX9_count_100 : decode cX9_count 100 = .ok (.aload_n 0, 1) := by decide +kernel
theorem dX9_count_101 : decode cX9_count 101 = .ok (.getfield 76, 3) := by decide +kernel
theorem dX9_count_104 : decode cX9_count 104 = .ok (.getfield 223, 3) := by decide +kernel
theorem dX9_count_107 : decode cX9_count 107 = .ok (.ireturn, 1) := by decide +kernel
theorem dX9_count_108 : decode cX9_count 108 = .ok (.aload_n 0, 1) := by decide +kernel
theorem dX9_count_109 : decode cX9_count 109 = .ok (.getfield 85, 3) := by decide +kernel
theorem dX9_count_112 : decode cX9_count 112 = .ok (.ireturn, 1) := by decide +kernel
theorem dX9_count_113 : decode cX9_count 113 = .ok (.aload_n 0, 1) := by decide +kernel
theorem dX9_count_114 : decode cX9_count 114 = .ok (.getfield 89, 3) := by decide +kernel
theorem dX9_count_117 : decode cX9_count 117 = .ok (.ireturn, 1) := by decide +kernel
theorem dX9_count_118 : decode cX9_count 118 = .ok (.bipush (-2), 2) := by decide +kernel
theorem dX9_count_120 : decode cX9_count 120 = .ok (.ireturn, 1) := by decide +kernel
theorem dX9_digest_0 : decode cX9_digest 0 = .ok (.ldc2_w 288, 3) := by decide +kernel
theorem dX9_digest_3 : decode cX9_digest 3 = .ok (.lstore_n 1, 1) := by decide +kernel
theorem dX9_digest_4 : decode cX9_digest 4 = .ok (.iconst 0, 1) := by decide +kernel
theorem dX9_digest_5 : decode cX9_digest 5 = .ok (.istore_n 3, 1) := by decide +kernel
theorem dX9_digest_6 : decode cX9_digest 6 = .ok (.iload_n 3, 1) := by decide +kernel
theorem dX9_digest_7 : decode cX9_digest 7 = .ok (.bipush 7, 2) := by decide +kernel
theorem dX9_digest_9 : decode cX9_digest 9 = .ok (.if_icmp .gt 20, 3) := by decide +kernel
theorem dX9_digest_12 : decode cX9_digest 12 = .ok (.lload_n 1, 1) := by decide +kernel
theorem dX9_digest_13 : decode cX9_digest 13 = .ok (.aload_n 0, 1) := by decide +kernel
theorem dX9_digest_14 : decode cX9_digest 14 = .ok (.iload_n 3, 1) := by decide +kernel
theorem dX9_digest_15 : decode cX9_digest 15 = .ok (.invokevirtual 290, 3) := by decide +kernel
theorem dX9_digest_18 : decode cX9_digest 18 = .ok (.i2l, 1) := by decide +kernel
theorem dX9_digest_19 : decode cX9_digest 19 = .ok (.invokestatic 293, 3) := by decide +kernel
theorem dX9_digest_22 : decode cX9_digest 22 = .ok (.lstore_n 1, 1) := by decide +kernel
theorem dX9_digest_23 : decode cX9_digest 23 = .ok (.iinc 3 1, 3) := by decide +kernel
theorem dX9_digest_26 : decode cX9_digest 26 = .ok (.goto (-20), 3) := by decide +kernel
theorem dX9_digest_29 : decode cX9_digest 29 = .ok (.iconst 0, 1) := by decide +kernel
theorem dX9_digest_30 : decode cX9_digest 30 = .ok (.istore_n 3, 1) := by decide +kernel
theorem dX9_digest_31 : decode cX9_digest 31 = .ok (.iload_n 3, 1) := by decide +kernel
theorem dX9_digest_32 : decode cX9_digest 32 = .ok (.iconst 2, 1) := by decide +kernel
theorem dX9_digest_33 : decode cX9_digest 33 = .ok (.if_icmp .ge 20, 3) := by decide +kernel
theorem dX9_digest_36 : decode cX9_digest 36 = .ok (.lload_n 1, 1) := by decide +kernel
theorem dX9_digest_37 : decode cX9_digest 37 = .ok (.aload_n 0, 1) := by decide +kernel
theorem dX9_digest_38 : decode cX9_digest 38 = .ok (.iload_n 3, 1) := by decide +kernel
theorem dX9_digest_39 : decode cX9_digest 39 = .ok (.invokevirtual 296, 3) := by decide +kernel
theorem dX9_digest_42 : decode cX9_digest 42 = .ok (.i2l, 1) := by decide +kernel
theorem dX9_digest_43 : decode cX9_digest 43 = .ok (.invokestatic 293, 3) := by decide +kernel
theorem dX9_digest_46 : decode cX9_digest 46 = .ok (.lstore_n 1, 1) := by decide +kernel
theorem dX9_digest_47 : decode cX9_digest 47 = .ok (.iinc 3 1, 3) := by decide +kernel
theorem dX9_digest_50 : decode cX9_digest 50 = .ok (.goto (-19), 3) := by decide +kernel
theorem dX9_digest_53 : decode cX9_digest 53 = .ok (.iconst 0, 1) := by decide +kernel
theorem dX9_digest_54 : decode cX9_digest 54 = .ok (.istore_n 3, 1) := by decide +kernel
theorem dX9_digest_55 : decode cX9_digest 55 = .ok (.iload_n 3, 1) := by decide +kernel
theorem dX9_digest_56 : decode cX9_digest 56 = .ok (.aload_n 0, 1) := by decide +kernel
theorem dX9_digest_57 : decode cX9_digest 57 = .ok (.getfield 22, 3) := by decide +kernel
theorem dX9_digest_60 : decode cX9_digest 60 = .ok (.getfield 287, 3) := by decide +kernel
theorem dX9_digest_63 : decode cX9_digest 63 = .ok (.if_icmp .ge 16, 3) := by decide +kernel
theorem dX9_digest_66 : decode cX9_digest 66 = .ok (.aload_n 0, 1) := by decide +kernel
theorem dX9_digest_67 : decode cX9_digest 67 = .ok (.lload_n 1, 1) := by decide +kernel
theorem dX9_digest_68 : decode cX9_digest 68 = .ok (.iload_n 3, 1) := by decide +kernel
theorem dX9_digest_69 : decode cX9_digest 69 = .ok (.invokevirtual 299, 3) := by decide +kernel
theorem dX9_digest_72 : decode cX9_digest 72 = .ok (.lstore_n 1, 1) := by decide +kernel
theorem dX9_digest_73 : decode cX9_digest 73 = .ok (.iinc 3 1, 3) := by decide +kernel
theorem dX9_digest_76 : decode cX9_digest 76 = .ok (.goto (-21), 3) := by decide +kernel
theorem dX9_digest_79 : decode cX9_digest 79 = .ok (.lload_n 1, 1) := by decide +kernel
theorem dX9_digest_80 : decode cX9_digest 80 = .ok (.aload_n 0, 1) := by decide +kernel
theorem dX9_digest_81 : decode cX9_digest 81 = .ok (.iconst 0, 1) := by decide +kernel
theorem dX9_digest_82 : decode cX9_digest 82 = .ok (.invokevirtual 303, 3) := by decide +kernel
theorem dX9_digest_85 : decode cX9_digest 85 = .ok (.i2l, 1) := by decide +kernel
theorem dX9_digest_86 : decode cX9_digest 86 = .ok (.invokestatic 293, 3) := by decide +kernel
theorem dX9_digest_89 : decode cX9_digest 89 = .ok (.lstore_n 1, 1) := by decide +kernel
theorem dX9_digest_90 : decode cX9_digest 90 = .ok (.lload_n 1, 1) := by decide +kernel
theorem dX9_digest_91 : decode cX9_digest 91 = .ok (.aload_n 0, 1) := by decide +kernel
theorem dX9_digest_92 : decode cX9_digest 92 = .ok (.iconst 1, 1) := by decide +kernel
theorem dX9_digest_93 : decode cX9_digest 93 = .ok (.invokevirtual 303, 3) := by decide +kernel
theorem dX9_digest_96 : decode cX9_digest 96 = .ok (.i2l, 1) := by decide +kernel
theorem dX9_digest_97 : decode cX9_digest 97 = .ok (.invokestatic 293, 3) := by decide +kernel
theorem dX9_digest_100 : decode cX9_digest 100 = .ok (.lstore_n 1, 1) := by decide +kernel
theorem dX9_digest_101 : decode cX9_digest 101 = .ok (.iconst 0, 1) := by decide +kernel
theorem dX9_digest_102 : decode cX9_digest 102 = .ok (.istore_n 3, 1) := by decide +kernel
theorem dX9_digest_103 : decode cX9_digest 103 = .ok (.iload_n 3, 1) := by decide +kernel
theorem dX9_digest_104 : decode cX9_digest 104 = .ok (.bipush 20, 2) := by decide +kernel
theorem dX9_digest_106 : decode cX9_digest 106 = .ok (.if_icmp .gt 16, 3) := by decide +kernel
theorem dX9_digest_109 : decode cX9_digest 109 = .ok (.aload_n 0, 1) := by decide +kernel
theorem dX9_digest_110 : decode cX9_digest 110 = .ok (.lload_n 1, 1) := by decide +kernel
theorem dX9_digest_111 : decode cX9_digest 111 = .ok (.iload_n 3, 1) := by decide +kernel
theorem dX9_digest_112 : decode cX9_digest 112 = .ok (.invokevirtual 306, 3) := by decide +kernel
theorem dX9_digest_115 : decode cX9_digest 115 = .ok (.lstore_n 1, 1) := by decide +kernel
theorem dX9_digest_116 : decode cX9_digest 116 = .ok (.iinc 3 10, 3) := by decide +kernel
theorem dX9_digest_119 : decode cX9_digest 119 = .ok (.goto (-16), 3) := by decide +kernel
theorem dX9_digest_122 : decode cX9_digest 122 = .ok (.lload_n 1, 1) := by decide +kernel
theorem dX9_digest_123 : decode cX9_digest 123 = .ok (.aload_n 0, 1) := by decide +kernel
theorem dX9_digest_124 : decode cX9_digest 124 = .ok (.bipush 20, 2) := by decide +kernel
theorem dX9_digest_126 : decode cX9_digest 126 = .ok (.iconst 0, 1) := by decide +kernel
theorem dX9_digest_127 : decode cX9_digest 127 = .ok (.invokevirtual 309, 3) := by decide +kernel
theorem dX9_digest_130 : decode cX9_digest 130 = .ok (.i2l, 1) := by decide +kernel
theorem dX9_digest_131 : decode cX9_digest 131 = .ok (.invokestatic 293, 3) := by decide +kernel
theorem dX9_digest_134 : decode cX9_digest 134 = .ok (.lstore_n 1, 1) := by decide +kernel
theorem dX9_digest_135 : decode cX9_digest 135 = .ok (.lload_n 1, 1) := by decide +kernel
theorem dX9_digest_136 : decode cX9_digest 136 = .ok (.aload_n 0, 1) := by decide +kernel
theorem dX9_digest_137 : decode cX9_digest 137 = .ok (.bipush 20, 2) := by decide +kernel
theorem dX9_digest_139 : decode cX9_digest 139 = .ok (.iconst 5, 1) := by decide +kernel
theorem dX9_digest_140 : decode cX9_digest 140 = .ok (.invokevirtual 309, 3) := by decide +kernel
theorem dX9_digest_143 : decode cX9_digest 143 = .ok (.i2l, 1) := by decide +kernel
theorem dX9_digest_144 : decode cX9_digest 144 = .ok (.invokestatic 293, 3) := by decide +kernel
theorem dX9_digest_147 : decode cX9_digest 147 = .ok (.lstore_n 1, 1) := by decide +kernel
theorem dX9_digest_148 : decode cX9_digest 148 = .ok (.lload_n 1, 1) := by decide +kernel
theorem dX9_digest_149 : decode cX9_digest 149 = .ok (.aload_n 0, 1) := by decide +kernel
theorem dX9_digest_150 : decode cX9_digest 150 = .ok (.bipush 9, 2) := by decide +kernel
theorem dX9_digest_152 : decode cX9_digest 152 = .ok (.iconst (-1), 1) := by decide +kernel
theorem dX9_digest_153 : decode cX9_digest 153 = .ok (.invokevirtual 312, 3) := by decide +kernel
theorem dX9_digest_156 : decode cX9_digest 156 = .ok (.i2l, 1) := by decide +kernel
theorem dX9_digest_157 : decode cX9_digest 157 = .ok (.invokestatic 293, 3) := by decide +kernel
theorem dX9_digest_160 : decode cX9_digest 160 = .ok (.lstore_n 1, 1) := by decide +kernel
theorem dX9_digest_161 : decode cX9_digest 161 = .ok (.lload_n 1, 1) := by decide +kernel
theorem dX9_digest_162 : decode cX9_digest 162 = .ok (.aload_n 0, 1) := by decide +kernel
theorem dX9_digest_163 : decode cX9_digest 163 = .ok (.bipush 12, 2) := by decide +kernel
theorem dX9_digest_165 : decode cX9_digest 165 = .ok (.iconst 0, 1) := by decide +kernel
theorem dX9_digest_166 : decode cX9_digest 166 = .ok (.invokevirtual 315, 3) := by decide +kernel
theorem dX9_digest_169 : decode cX9_digest 169 = .ok (.i2l, 1) := by decide +kernel
theorem dX9_digest_170 : decode cX9_digest 170 = .ok (.invokestatic 293, 3) := by decide +kernel
theorem dX9_digest_173 : decode cX9_digest 173 = .ok (.lstore_n 1, 1) := by decide +kernel
theorem dX9_digest_174 : decode cX9_digest 174 = .ok (.lload_n 1, 1) := by decide +kernel
theorem dX9_digest_175 : decode cX9_digest 175 = .ok (.aload_n 0, 1) := by decide +kernel
theorem dX9_digest_176 : decode cX9_digest 176 = .ok (.bipush 12, 2) := by decide +kernel
theorem dX9_digest_178 : decode cX9_digest 178 = .ok (.iconst 1, 1) := by decide +kernel
theorem dX9_digest_179 : decode cX9_digest 179 = .ok (.invokevirtual 315, 3) := by decide +kernel
theorem dX9_digest_182 : decode cX9_digest 182 = .ok (.i2l, 1) := by decide +kernel
theorem dX9_digest_183 : decode cX9_digest 183 = .ok (.invokestatic 293, 3) := by decide +kernel
theorem dX9_digest_186 : decode cX9_digest 186 = .ok (.lstore_n 1, 1) := by decide +kernel
theorem dX9_digest_187 : decode cX9_digest 187 = .ok (.aload_n 0, 1) := by decide +kernel
theorem dX9_digest_188 : decode cX9_digest 188 = .ok (.getfield 22, 3) := by decide +kernel
theorem dX9_digest_191 : decode cX9_digest 191 = .ok (.getfield 287, 3) := by decide +kernel
theorem dX9_digest_194 : decode cX9_digest 194 = .ok (.iconst 2, 1) := by decide +kernel
theorem dX9_digest_195 : decode cX9_digest 195 = .ok (.if_icmp .ge 7, 3) := by decide +kernel
theorem dX9_digest_198 : decode cX9_digest 198 = .ok (.lload_n 1, 1) := by decide +kernel
theorem dX9_digest_199 : decode cX9_digest 199 = .ok (.goto 16, 3) := by decide +kernel
theorem dX9_digest_202 : decode cX9_digest 202 = .ok (.lload_n 1, 1) := by decide +kernel
theorem dX9_digest_203 : decode cX9_digest 203 = .ok (.aload_n 0, 1) := by decide +kernel
theorem dX9_digest_204 : decode cX9_digest 204 = .ok (.iconst 0, 1) := by decide +kernel
theorem dX9_digest_205 : decode cX9_digest 205 = .ok (.iconst 1, 1) := by decide +kernel
theorem dX9_digest_206 : decode cX9_digest 206 = .ok (.bipush 20, 2) := by decide +kernel
theorem dX9_digest_208 : decode cX9_digest 208 = .ok (.invokevirtual 318, 3) := by decide +kernel
theorem dX9_digest_211 : decode cX9_digest 211 = .ok (.i2l, 1) := by decide +kernel
theorem dX9_digest_212 : decode cX9_digest 212 = .ok (.invokestatic 293, 3) := by decide +kernel
theorem dX9_digest_215 : decode cX9_digest 215 = .ok (.lreturn, 1) := by decide +kernel
theorem dX9_withHouse_0 : decode cX9_withHouse 0 = .ok (.lload_n 1, 1) := by decide +kernel
theorem dX9_withHouse_1 : decode cX9_withHouse 1 = .ok (.lstore 4, 2) := by decide +kernel
theorem dX9_withHouse_3 : decode cX9_withHouse 3 = .ok (.iconst 0, 1) := by decide +kernel
theorem dX9_withHouse_4 : decode cX9_withHouse 4 = .ok (.istore 6, 2) := by decide +kernel
theorem dX9_withHouse_6 : decode cX9_withHouse 6 = .ok (.iload 6, 2) := by decide +kernel
theorem dX9_withHouse_8 : decode cX9_withHouse 8 = .ok (.iconst 2, 1) := by decide +kernel
theorem dX9_withHouse_9 : decode cX9_withHouse 9 = .ok (.if_icmp .gt 24, 3) := by decide +kernel
theorem dX9_withHouse_12 : decode cX9_withHouse 12 = .ok (.lload 4, 2) := by decide +kernel
theorem dX9_withHouse_14 : decode cX9_withHouse 14 = .ok (.aload_n 0, 1) := by decide +kernel
theorem dX9_withHouse_15 : decode cX9_withHouse 15 = .ok (.iload_n 3, 1) := by decide +kernel
theorem dX9_withHouse_16 : decode cX9_withHouse 16 = .ok (.iload 6, 2) := by decide +kernel
theorem dX9_withHouse_18 : decode cX9_withHouse 18 = .ok (.invokevirtual 321, 3) := by decide +kernel
theorem dX9_withHouse_21 : decode cX9_withHouse 21 = .ok (.i2l, 1) := by decide +kernel
theorem dX9_withHouse_22 : decode cX9_withHouse 22 = .ok (.invokestatic 293, 3) := by decide +kernel
theorem dX9_withHouse_25 : decode cX9_withHouse 25 = .ok (.lstore 4, 2) := by decide +kernel
theorem dX9_withHouse_27 : decode cX9_withHouse 27 = .ok (.iinc 6 1, 3) := by decide +kernel
theorem dX9_withHouse_30 : decode cX9_withHouse 30 = .ok (.goto (-24), 3) := by decide +kernel
theorem dX9_withHouse_33 : decode cX9_withHouse 33 = .ok (.lload 4, 2) := by decide +kernel
theorem dX9_withHouse_35 : decode cX9_withHouse 35 = .ok (.aload_n 0, 1) := by decide +kernel
theorem dX9_withHouse_36 : decode cX9_withHouse 36 = .ok (.iload_n 3, 1) := by decide +kernel
theorem dX9_withHouse_37 : decode cX9_withHouse 37 = .ok (.invokevirtual 324, 3) := by decide +kernel
theorem dX9_withHouse_40 : decode cX9_withHouse 40 = .ok (.i2l, 1) := by decide +kernel
theorem dX9_withHouse_41 : decode cX9_withHouse 41 = .ok (.invokestatic 293, 3) := by decide +kernel
theorem dX9_withHouse_44 : decode cX9_withHouse 44 = .ok (.lstore 4, 2) := by decide +kernel
theorem dX9_withHouse_46 : decode cX9_withHouse 46 = .ok (.lload 4, 2) := by decide +kernel
theorem dX9_withHouse_48 : decode cX9_withHouse 48 = .ok (.aload_n 0, 1) := by decide +kernel
theorem dX9_withHouse_49 : decode cX9_withHouse 49 = .ok (.bipush 9, 2) := by decide +kernel
theorem dX9_withHouse_51 : decode cX9_withHouse 51 = .ok (.iload_n 3, 1) := by decide +kernel
theorem dX9_withHouse_52 : decode cX9_withHouse 52 = .ok (.invokevirtual 312, 3) := by decide +kernel
theorem dX9_withHouse_55 : decode cX9_withHouse 55 = .ok (.i2l, 1) := by decide +kernel
theorem dX9_withHouse_56 : decode cX9_withHouse 56 = .ok (.invokestatic 293, 3) := by decide +kernel
theorem dX9_withHouse_59 : decode cX9_withHouse 59 = .ok (.lstore 4, 2) := by decide +kernel
theorem dX9_withHouse_61 : decode cX9_withHouse 61 = .ok (.lload 4, 2) := by decide +kernel
theorem dX9_withHouse_63 : decode cX9_withHouse 63 = .ok (.aload_n 0, 1) := by decide +kernel
theorem dX9_withHouse_64 : decode cX9_withHouse 64 = .ok (.iload_n 3, 1) := by decide +kernel
theorem dX9_withHouse_65 : decode cX9_withHouse 65 = .ok (.bipush 10, 2) := by decide +kernel
theorem dX9_withHouse_67 : decode cX9_withHouse 67 = .ok (.invokevirtual 327, 3) := by decide +kernel
theorem dX9_withHouse_70 : decode cX9_withHouse 70 = .ok (.i2l, 1) := by decide +kernel
theorem dX9_withHouse_71 : decode cX9_withHouse 71 = .ok (.invokestatic 293, 3) := by decide +kernel
theorem dX9_withHouse_74 : decode cX9_withHouse 74 = .ok (.lreturn, 1) := by decide +kernel
theorem dX9_withWeek_0 : decode cX9_withWeek 0 = .ok (.lload_n 1, 1) := by decide +kernel
theorem dX9_withWeek_1 : decode cX9_withWeek 1 = .ok (.aload_n 0, 1) := by decide +kernel
theorem dX9_withWeek_2 : decode cX9_withWeek 2 = .ok (.iload_n 3, 1) := by decide +kernel
theorem dX9_withWeek_3 : decode cX9_withWeek 3 = .ok (.invokevirtual 330, 3) := by decide +kernel
theorem dX9_withWeek_6 : decode cX9_withWeek 6 = .ok (.i2l, 1) := by decide +kernel
theorem dX9_withWeek_7 : decode cX9_withWeek 7 = .ok (.invokestatic 293, 3) := by decide +kernel
theorem dX9_withWeek_10 : decode cX9_withWeek 10 = .ok (.lstore 4, 2) := by decide +kernel
theorem dX9_withWeek_12 : decode cX9_withWeek 12 = .ok (.lload 4, 2) := by decide +kernel
theorem dX9_withWeek_14 : decode cX9_withWeek 14 = .ok (.aload_n 0, 1) := by decide +kernel
theorem dX9_withWeek_15 : decode cX9_withWeek 15 = .ok (.iload_n 3, 1) := by decide +kernel
theorem dX9_withWeek_16 : decode cX9_withWeek 16 = .ok (.invokevirtual 333, 3) := by decide +kernel
theorem dX9_withWeek_19 : decode cX9_withWeek 19 = .ok (.i2l, 1) := by decide +kernel
theorem dX9_withWeek_20 : decode cX9_withWeek 20 = .ok (.invokestatic 293, 3) := by decide +kernel
theorem dX9_withWeek_23 : decode cX9_withWeek 23 = .ok (.lstore 4, 2) := by decide +kernel
theorem dX9_withWeek_25 : decode cX9_withWeek 25 = .ok (.lload 4, 2) := by decide +kernel
theorem dX9_withWeek_27 : decode cX9_withWeek 27 = .ok (.aload_n 0, 1) := by decide +kernel
theorem dX9_withWeek_28 : decode cX9_withWeek 28 = .ok (.iload_n 3, 1) := by decide +kernel
theorem dX9_withWeek_29 : decode cX9_withWeek 29 = .ok (.invokevirtual 336, 3) := by decide +kernel
theorem dX9_withWeek_32 : decode cX9_withWeek 32 = .ok (.i2l, 1) := by decide +kernel
theorem dX9_withWeek_33 : decode cX9_withWeek 33 = .ok (.invokestatic 293, 3) := by decide +kernel
theorem dX9_withWeek_36 : decode cX9_withWeek 36 = .ok (.lstore 4, 2) := by decide +kernel
theorem dX9_withWeek_38 : decode cX9_withWeek 38 = .ok (.lload 4, 2) := by decide +kernel
theorem dX9_withWeek_40 : decode cX9_withWeek 40 = .ok (.aload_n 0, 1) := by decide +kernel
theorem dX9_withWeek_41 : decode cX9_withWeek 41 = .ok (.iload_n 3, 1) := by decide +kernel
theorem dX9_withWeek_42 : decode cX9_withWeek 42 = .ok (.invokevirtual 339, 3) := by decide +kernel
theorem dX9_withWeek_45 : decode cX9_withWeek 45 = .ok (.i2l, 1) := by decide +kernel
theorem dX9_withWeek_46 : decode cX9_withWeek 46 = .ok (.invokestatic 293, 3) := by decide +kernel
theorem dX9_withWeek_49 : decode cX9_withWeek 49 = .ok (.lstore 4, 2) := by decide +kernel
theorem dX9_withWeek_51 : decode cX9_withWeek 51 = .ok (.lload 4, 2) := by decide +kernel
theorem dX9_withWeek_53 : decode cX9_withWeek 53 = .ok (.aload_n 0, 1) := by decide +kernel
theorem dX9_withWeek_54 : decode cX9_withWeek 54 = .ok (.iload_n 3, 1) := by decide +kernel
theorem dX9_withWeek_55 : decode cX9_withWeek 55 = .ok (.invokevirtual 342, 3) := by decide +kernel
theorem dX9_withWeek_58 : decode cX9_withWeek 58 = .ok (.i2l, 1) := by decide +kernel
theorem dX9_withWeek_59 : decode cX9_withWeek 59 = .ok (.invokestatic 293, 3) := by decide +kernel
theorem dX9_withWeek_62 : decode cX9_withWeek 62 = .ok (.lstore 4, 2) := by decide +kernel
theorem dX9_withWeek_64 : decode cX9_withWeek 64 = .ok (.lload 4, 2) := by decide +kernel
theorem dX9_withWeek_66 : decode cX9_withWeek 66 = .ok (.aload_n 0, 1) := by decide +kernel
theorem dX9_withWeek_67 : decode cX9_withWeek 67 = .ok (.iload_n 3, 1) := by decide +kernel
theorem dX9_withWeek_68 : decode cX9_withWeek 68 = .ok (.invokevirtual 345, 3) := by decide +kernel
theorem dX9_withWeek_71 : decode cX9_withWeek 71 = .ok (.i2l, 1) := by decide +kernel
theorem dX9_withWeek_72 : decode cX9_withWeek 72 = .ok (.invokestatic 293, 3) := by decide +kernel
theorem dX9_withWeek_75 : decode cX9_withWeek 75 = .ok (.lreturn, 1) := by decide +kernel
theorem dX9_mixed_0 : decode cX9_mixed 0 = .ok (.ldc2_w 348, 3) := by decide +kernel
theorem dX9_mixed_3 : decode cX9_mixed 3 = .ok (.lload_n 0, 1) := by decide +kernel
theorem dX9_mixed_4 : decode cX9_mixed 4 = .ok (.lmul, 1) := by decide +kernel
theorem dX9_mixed_5 : decode cX9_mixed 5 = .ok (.lload_n 2, 1) := by decide +kernel
theorem dX9_mixed_6 : decode cX9_mixed 6 = .ok (.ladd, 1) := by decide +kernel
theorem dX9_mixed_7 : decode cX9_mixed 7 = .ok (.lreturn, 1) := by decide +kernel
theorem dX9_isWithin_0 : decode cX9_isWithin 0 = .ok (.iload_n 0, 1) := by decide +kernel
theorem dX9_isWithin_1 : decode cX9_isWithin 1 = .ok (.ifCond .lt 12, 3) := by decide +kernel
theorem dX9_isWithin_4 : decode cX9_isWithin 4 = .ok (.iload_n 0, 1) := by decide +kernel
theorem dX9_isWithin_5 : decode cX9_isWithin 5 = .ok (.iload_n 1, 1) := by decide +kernel
theorem dX9_isWithin_6 : decode cX9_isWithin 6 = .ok (.if_icmp .gt 7, 3) := by decide +kernel
theorem dX9_isWithin_9 : decode cX9_isWithin 9 = .ok (.iconst 1, 1) := by decide +kernel
theorem dX9_isWithin_10 : decode cX9_isWithin 10 = .ok (.goto 4, 3) := by decide +kernel
theorem dX9_isWithin_13 : decode cX9_isWithin 13 = .ok (.iconst 0, 1) := by decide +kernel
theorem dX9_isWithin_14 : decode cX9_isWithin 14 = .ok (.ireturn, 1) := by decide +kernel
theorem dX9_isWeek_0 : decode cX9_isWeek 0 = .ok (.iload_n 0, 1) := by decide +kernel
theorem dX9_isWeek_1 : decode cX9_isWeek 1 = .ok (.bipush 51, 2) := by decide +kernel
theorem dX9_isWeek_3 : decode cX9_isWeek 3 = .ok (.invokestatic 97, 3) := by decide +kernel
theorem dX9_isWeek_6 : decode cX9_isWeek 6 = .ok (.ireturn, 1) := by decide +kernel
theorem dX9_isText_0 : decode cX9_isText 0 = .ok (.iload_n 0, 1) := by decide +kernel
theorem dX9_isText_1 : decode cX9_isText 1 = .ok (.iconst 1, 1) := by decide +kernel
theorem dX9_isText_2 : decode cX9_isText 2 = .ok (.invokestatic 97, 3) := by decide +kernel
theorem dX9_isText_5 : decode cX9_isText 5 = .ok (.ireturn, 1) := by decide +kernel
theorem dX9_isSheet_0 : decode cX9_isSheet 0 = .ok (.iload_n 0, 1) := by decide +kernel
theorem dX9_isSheet_1 : decode cX9_isSheet 1 = .ok (.iconst 3, 1) := by decide +kernel
theorem dX9_isSheet_2 : decode cX9_isSheet 2 = .ok (.invokestatic 97, 3) := by decide +kernel
theorem dX9_isSheet_5 : decode cX9_isSheet 5 = .ok (.ireturn, 1) := by decide +kernel
theorem dX9_isForm_0 : decode cX9_isForm 0 = .ok (.iload_n 0, 1) := by decide +kernel
theorem dX9_isForm_1 : decode cX9_isForm 1 = .ok (.iconst 2, 1) := by decide +kernel
theorem dX9_isForm_2 : decode cX9_isForm 2 = .ok (.invokestatic 97, 3) := by decide +kernel
theorem dX9_isForm_5 : decode cX9_isForm 5 = .ok (.ireturn, 1) := by decide +kernel
theorem dX9_isPlot_0 : decode cX9_isPlot 0 = .ok (.iload_n 0, 1) := by decide +kernel
theorem dX9_isPlot_1 : decode cX9_isPlot 1 = .ok (.iconst 3, 1) := by decide +kernel
theorem dX9_isPlot_2 : decode cX9_isPlot 2 = .ok (.invokestatic 97, 3) := by decide +kernel
theorem dX9_isPlot_5 : decode cX9_isPlot 5 = .ok (.ifCond .eq 16, 3) := by decide +kernel
theorem dX9_isPlot_8 : decode cX9_isPlot 8 = .ok (.iload_n 1, 1) := by decide +kernel
theorem dX9_isPlot_9 : decode cX9_isPlot 9 = .ok (.bipush 99, 2) := by decide +kernel
theorem dX9_isPlot_11 : decode cX9_isPlot 11 = .ok (.invokestatic 97, 3) := by decide +kernel
theorem dX9_isPlot_14 : decode cX9_isPlot 14 = .ok (.ifCond .eq 7, 3) := by decide +kernel
theorem dX9_isPlot_17 : decode cX9_isPlot 17 = .ok (.iconst 1, 1) := by decide +kernel
theorem dX9_isPlot_18 : decode cX9_isPlot 18 = .ok (.goto 4, 3) := by decide +kernel
theorem dX9_isPlot_21 : decode cX9_isPlot 21 = .ok (.iconst 0, 1) := by decide +kernel
theorem dX9_isPlot_22 : decode cX9_isPlot 22 = .ok (.ireturn, 1) := by decide +kernel
theorem dX9_isHouse_0 : decode cX9_isHouse 0 = .ok (.iload_n 1, 1) := by decide +kernel
theorem dX9_isHouse_1 : decode cX9_isHouse 1 = .ok (.aload_n 0, 1) := by decide +kernel
theorem dX9_isHouse_2 : decode cX9_isHouse 2 = .ok (.getfield 22, 3) := by decide +kernel
theorem dX9_isHouse_5 : decode cX9_isHouse 5 = .ok (.getfield 287, 3) := by decide +kernel
theorem dX9_isHouse_8 : decode cX9_isHouse 8 = .ok (.iconst 1, 1) := by decide +kernel
theorem dX9_isHouse_9 : decode cX9_isHouse 9 = .ok (.isub, 1) := by decide +kernel
theorem dX9_isHouse_10 : decode cX9_isHouse 10 = .ok (.invokestatic 97, 3) := by decide +kernel
theorem dX9_isHouse_13 : decode cX9_isHouse 13 = .ok (.ireturn, 1) := by decide +kernel
theorem dX9_textOf_0 : decode cX9_textOf 0 = .ok (.iload_n 1, 1) := by decide +kernel
theorem dX9_textOf_1 : decode cX9_textOf 1 = .ok (.ifCond .ne 10, 3) := by decide +kernel
theorem dX9_textOf_4 : decode cX9_textOf 4 = .ok (.aload_n 0, 1) := by decide +kernel
theorem dX9_textOf_5 : decode cX9_textOf 5 = .ok (.getfield 10, 3) := by decide +kernel
theorem dX9_textOf_8 : decode cX9_textOf 8 = .ok (.goto 7, 3) := by decide +kernel
theorem dX9_textOf_11 : decode cX9_textOf 11 = .ok (.aload_n 0, 1) := by decide +kernel
theorem dX9_textOf_12 : decode cX9_textOf 12 = .ok (.getfield 16, 3) := by decide +kernel
theorem dX9_textOf_15 : decode cX9_textOf 15 = .ok (.areturn, 1) := by decide +kernel
theorem dX9_found_0 : decode cX9_found 0 = .ok (.aload_n 0, 1) := by decide +kernel
theorem dX9_found_1 : decode cX9_found 1 = .ok (.iload_n 1, 1) := by decide +kernel
theorem dX9_found_2 : decode cX9_found 2 = .ok (.putfield 89, 3) := by decide +kernel
theorem dX9_found_5 : decode cX9_found 5 = .ok (.bipush (-10), 2) := by decide +kernel
theorem dX9_found_7 : decode cX9_found 7 = .ok (.iload_n 1, 1) := by decide +kernel
theorem dX9_found_8 : decode cX9_found 8 = .ok (.isub, 1) := by decide +kernel
theorem dX9_found_9 : decode cX9_found 9 = .ok (.ireturn, 1) := by decide +kernel
theorem dX9_readAgain_0 : decode cX9_readAgain 0 = .ok (.iload_n 1, 1) := by decide +kernel
theorem dX9_readAgain_1 : decode cX9_readAgain 1 = .ok (.ifCond .ne 25, 3) := by decide +kernel
theorem dX9_readAgain_4 : decode cX9_readAgain 4 = .ok (.aload_n 0, 1) := by decide +kernel
theorem dX9_readAgain_5 : decode cX9_readAgain 5 = .ok (.getfield 22, 3) := by decide +kernel
theorem dX9_readAgain_8 : decode cX9_readAgain 8 = .ok (.aload_n 0, 1) := by decide +kernel
theorem dX9_readAgain_9 : decode cX9_readAgain 9 = .ok (.getfield 10, 3) := by decide +kernel
theorem dX9_readAgain_12 : decode cX9_readAgain 12 = .ok (.invokevirtual 350, 3) := by decide +kernel
theorem dX9_readAgain_15 : decode cX9_readAgain 15 = .ok (.aload_n 0, 1) := by decide +kernel
theorem dX9_readAgain_16 : decode cX9_readAgain 16 = .ok (.getfield 36, 3) := by decide +kernel
theorem dX9_readAgain_19 : decode cX9_readAgain 19 = .ok (.aload_n 0, 1) := by decide +kernel
theorem dX9_readAgain_20 : decode cX9_readAgain 20 = .ok (.getfield 22, 3) := by decide +kernel
theorem dX9_readAgain_23 : decode cX9_readAgain 23 = .ok (.invokevirtual 234, 3) := by decide +kernel
theorem dX9_readAgain_26 : decode cX9_readAgain 26 = .ok (.aload_n 0, 1) := by decide +kernel
theorem dX9_readAgain_27 : decode cX9_readAgain 27 = .ok (.getfield 29, 3) := by decide +kernel
theorem dX9_readAgain_30 : decode cX9_readAgain 30 = .ok (.aload_n 0, 1) := by decide +kernel
theorem dX9_readAgain_31 : decode cX9_readAgain 31 = .ok (.getfield 16, 3) := by decide +kernel
theorem dX9_readAgain_34 : decode cX9_readAgain 34 = .ok (.aload_n 0, 1) := by decide +kernel
theorem dX9_readAgain_35 : decode cX9_readAgain 35 = .ok (.getfield 22, 3) := by decide +kernel
theorem dX9_readAgain_38 : decode cX9_readAgain 38 = .ok (.getfield 287, 3) := by decide +kernel
theorem dX9_readAgain_41 : decode cX9_readAgain 41 = .ok (.invokevirtual 354, 3) := by decide +kernel
theorem dX9_readAgain_44 : decode cX9_readAgain 44 = .ok (.return_, 1) := by decide +kernel
theorem dX9_whyWrong_0 : decode cX9_whyWrong 0 = .ok (.iconst 0, 1) := by decide +kernel
theorem dX9_whyWrong_1 : decode cX9_whyWrong 1 = .ok (.istore 4, 2) := by decide +kernel
theorem dX9_whyWrong_3 : decode cX9_whyWrong 3 = .ok (.iload_n 1, 1) := by decide +kernel
theorem dX9_whyWrong_4 : decode cX9_whyWrong 4 = .ok (.istore 5, 2) := by decide +kernel
theorem dX9_whyWrong_6 : decode cX9_whyWrong 6 = .ok (.iload 5, 2) := by decide +kernel
theorem dX9_whyWrong_8 : decode cX9_whyWrong 8 = .ok (.iload_n 2, 1) := by decide +kernel
theorem dX9_whyWrong_9 : decode cX9_whyWrong 9 = .ok (.if_icmp .ge 48, 3) := by decide +kernel
theorem dX9_whyWrong_12 : decode cX9_whyWrong 12 = .ok (.aload_n 0, 1) := by decide +kernel
theorem dX9_whyWrong_13 : decode cX9_whyWrong 13 = .ok (.getfield 49, 3) := by decide +kernel
theorem dX9_whyWrong_16 : decode cX9_whyWrong 16 = .ok (.aload_n 0, 1) := by decide +kernel
theorem dX9_whyWrong_17 : decode cX9_whyWrong 17 = .ok (.getfield 22, 3) := by decide +kernel
theorem dX9_whyWrong_20 : decode cX9_whyWrong 20 = .ok (.aload_n 0, 1) := by decide +kernel
theorem dX9_whyWrong_21 : decode cX9_whyWrong 21 = .ok (.getfield 29, 3) := by decide +kernel
theorem dX9_whyWrong_24 : decode cX9_whyWrong 24 = .ok (.getfield 180, 3) := by decide +kernel
theorem dX9_whyWrong_27 : decode cX9_whyWrong 27 = .ok (.iload 5, 2) := by decide +kernel
theorem dX9_whyWrong_29 : decode cX9_whyWrong 29 = .ok (.iaload, 1) := by decide +kernel
theorem dX9_whyWrong_30 : decode cX9_whyWrong 30 = .ok (.invokevirtual 183, 3) := by decide +kernel
theorem dX9_whyWrong_33 : decode cX9_whyWrong 33 = .ok (.istore 6, 2) := by decide +kernel
theorem dX9_whyWrong_35 : decode cX9_whyWrong 35 = .ok (.iload 6, 2) := by decide +kernel
theorem dX9_whyWrong_37 : decode cX9_whyWrong 37 = .ok (.bipush (-3), 2) := by decide +kernel
theorem dX9_whyWrong_39 : decode cX9_whyWrong 39 = .ok (.if_icmp .ne 5, 3) := by decide +kernel
theorem dX9_whyWrong_42 : decode cX9_whyWrong 42 = .ok (.iconst 3, 1) := by decide +kernel
theorem dX9_whyWrong_43 : decode cX9_whyWrong 43 = .ok (.ireturn, 1) := by decide +kernel
theorem dX9_whyWrong_44 : decode cX9_whyWrong 44 = .ok (.iload 4, 2) := by decide +kernel
theorem dX9_whyWrong_46 : decode cX9_whyWrong 46 = .ok (.iload 6, 2) := by decide +kernel
theorem dX9_whyWrong_48 : decode cX9_whyWrong 48 = .ok (.iadd, 1) := by decide +kernel
theorem dX9_whyWrong_49 : decode cX9_whyWrong 49 = .ok (.istore 4, 2) := by decide +kernel
theorem dX9_whyWrong_51 : decode cX9_whyWrong 51 = .ok (.iinc 5 1, 3) := by decide +kernel
theorem dX9_whyWrong_54 : decode cX9_whyWrong 54 = .ok (.goto (-48), 3) := by decide +kernel
theorem dX9_whyWrong_57 : decode cX9_whyWrong 57 = .ok (.iload 4, 2) := by decide +kernel
theorem dX9_whyWrong_59 : decode cX9_whyWrong 59 = .ok (.aload_n 0, 1) := by decide +kernel
theorem dX9_whyWrong_60 : decode cX9_whyWrong 60 = .ok (.getfield 85, 3) := by decide +kernel
theorem dX9_whyWrong_63 : decode cX9_whyWrong 63 = .ok (.if_icmp .le 5, 3) := by decide +kernel
theorem dX9_whyWrong_66 : decode cX9_whyWrong 66 = .ok (.iconst 2, 1) := by decide +kernel
theorem dX9_whyWrong_67 : decode cX9_whyWrong 67 = .ok (.ireturn, 1) := by decide +kernel
theorem dX9_whyWrong_68 : decode cX9_whyWrong 68 = .ok (.aload_n 0, 1) := by decide +kernel
theorem dX9_whyWrong_69 : decode cX9_whyWrong 69 = .ok (.getfield 49, 3) := by decide +kernel
theorem dX9_whyWrong_72 : decode cX9_whyWrong 72 = .ok (.iload_n 3, 1) := by decide +kernel
theorem dX9_whyWrong_73 : decode cX9_whyWrong 73 = .ok (.invokevirtual 357, 3) := by decide +kernel
theorem dX9_whyWrong_76 : decode cX9_whyWrong 76 = .ok (.ifCond .eq 7, 3) := by decide +kernel
theorem dX9_whyWrong_79 : decode cX9_whyWrong 79 = .ok (.iconst 1, 1) := by decide +kernel
theorem dX9_whyWrong_80 : decode cX9_whyWrong 80 = .ok (.goto 4, 3) := by decide +kernel
theorem dX9_whyWrong_83 : decode cX9_whyWrong 83 = .ok (.iconst 0, 1) := by decide +kernel
theorem dX9_whyWrong_84 : decode cX9_whyWrong 84 = .ok (.ireturn, 1) := by decide +kernel
theorem dX9_fewestHands_0 : decode cX9_fewestHands 0 = .ok (.aload_n 1, 1) := by decide +kernel
theorem dX9_fewestHands_1 : decode cX9_fewestHands 1 = .ok (.aload_n 0, 1) := by decide +kernel
theorem dX9_fewestHands_2 : decode cX9_fewestHands 2 = .ok (.getfield 56, 3) := by decide +kernel
theorem dX9_fewestHands_5 : decode cX9_fewestHands 5 = .ok (.iload_n 2, 1) := by decide +kernel
theorem dX9_fewestHands_6 : decode cX9_fewestHands 6 = .ok (.invokevirtual 131, 3) := by decide +kernel
theorem dX9_fewestHands_9 : decode cX9_fewestHands 9 = .ok (.invokevirtual 195, 3) := by decide +kernel
theorem dX9_fewestHands_12 : decode cX9_fewestHands 12 = .ok (.istore_n 3, 1) := by decide +kernel
theorem dX9_fewestHands_13 : decode cX9_fewestHands 13 = .ok (.iload_n 3, 1) := by decide +kernel
theorem dX9_fewestHands_14 : decode cX9_fewestHands 14 = .ok (.bipush (-3), 2) := by decide +kernel
theorem dX9_fewestHands_16 : decode cX9_fewestHands 16 = .ok (.if_icmp .ne 6, 3) := by decide +kernel
theorem dX9_fewestHands_19 : decode cX9_fewestHands 19 = .ok (.bipush (-3), 2) := by decide +kernel
theorem dX9_fewestHands_21 : decode cX9_fewestHands 21 = .ok (.ireturn, 1) := by decide +kernel
theorem dX9_fewestHands_22 : decode cX9_fewestHands 22 = .ok (.iconst 0, 1) := by decide +kernel
theorem dX9_fewestHands_23 : decode cX9_fewestHands 23 = .ok (.istore 4, 2) := by decide +kernel
theorem dX9_fewestHands_25 : decode cX9_fewestHands 25 = .ok (.aload_n 1, 1) := by decide +kernel
theorem dX9_fewestHands_26 : decode cX9_fewestHands 26 = .ok (.iload_n 3, 1) := by decide +kernel
theorem dX9_fewestHands_27 : decode cX9_fewestHands 27 = .ok (.invokevirtual 360, 3) := by decide +kernel
theorem dX9_fewestHands_30 : decode cX9_fewestHands 30 = .ok (.istore 5, 2) := by decide +kernel
theorem dX9_fewestHands_32 : decode cX9_fewestHands 32 = .ok (.iconst 0, 1) := by decide +kernel
theorem dX9_fewestHands_33 : decode cX9_fewestHands 33 = .ok (.istore 6, 2) := by decide +kernel
theorem dX9_fewestHands_35 : decode cX9_fewestHands 35 = .ok (.iload 6, 2) := by decide +kernel
theorem dX9_fewestHands_37 : decode cX9_fewestHands 37 = .ok (.bipush 32, 2) := by decide +kernel
theorem dX9_fewestHands_39 : decode cX9_fewestHands 39 = .ok (.if_icmp .ge 50, 3) := by decide +kernel
theorem dX9_fewestHands_42 : decode cX9_fewestHands 42 = .ok (.iload 4, 2) := by decide +kernel
theorem dX9_fewestHands_44 : decode cX9_fewestHands 44 = .ok (.iload 5, 2) := by decide +kernel
theorem dX9_fewestHands_46 : decode cX9_fewestHands 46 = .ok (.if_icmp .ge 43, 3) := by decide +kernel
theorem dX9_fewestHands_49 : decode cX9_fewestHands 49 = .ok (.iload 4, 2) := by decide +kernel
theorem dX9_fewestHands_51 : decode cX9_fewestHands 51 = .ok (.iload 5, 2) := by decide +kernel
theorem dX9_fewestHands_53 : decode cX9_fewestHands 53 = .ok (.iadd, 1) := by decide +kernel
theorem dX9_fewestHands_54 : decode cX9_fewestHands 54 = .ok (.iconst 2, 1) := by decide +kernel
theorem dX9_fewestHands_55 : decode cX9_fewestHands 55 = .ok (.idiv, 1) := by decide +kernel
theorem dX9_fewestHands_56 : decode cX9_fewestHands 56 = .ok (.istore 7, 2) := by decide +kernel
theorem dX9_fewestHands_58 : decode cX9_fewestHands 58 = .ok (.aload_n 0, 1) := by decide +kernel
theorem dX9_fewestHands_59 : decode cX9_fewestHands 59 = .ok (.aload_n 1, 1) := by decide +kernel
theorem dX9_fewestHands_60 : decode cX9_fewestHands 60 = .ok (.iload_n 2, 1) := by decide +kernel
theorem dX9_fewestHands_61 : decode cX9_fewestHands 61 = .ok (.iload_n 3, 1) := by decide +kernel
theorem dX9_fewestHands_62 : decode cX9_fewestHands 62 = .ok (.iload 7, 2) := by decide +kernel
theorem dX9_fewestHands_64 : decode cX9_fewestHands 64 = .ok (.invokevirtual 363, 3) := by decide +kernel
theorem dX9_fewestHands_67 : decode cX9_fewestHands 67 = .ok (.ifCond .eq 10, 3) := by decide +kernel
theorem dX9_fewestHands_70 : decode cX9_fewestHands 70 = .ok (.iload 7, 2) := by decide +kernel
theorem dX9_fewestHands_72 : decode cX9_fewestHands 72 = .ok (.istore 5, 2) := by decide +kernel
theorem dX9_fewestHands_74 : decode cX9_fewestHands 74 = .ok (.goto 9, 3) := by decide +kernel
theorem dX9_fewestHands_77 : decode cX9_fewestHands 77 = .ok (.iload 7, 2) := by decide +kernel
theorem dX9_fewestHands_79 : decode cX9_fewestHands 79 = .ok (.iconst 1, 1) := by decide +kernel
theorem dX9_fewestHands_80 : decode cX9_fewestHands 80 = .ok (.iadd, 1) := by decide +kernel
theorem dX9_fewestHands_81 : decode cX9_fewestHands 81 = .ok (.istore 4, 2) := by decide +kernel
theorem dX9_fewestHands_83 : decode cX9_fewestHands 83 = .ok (.iinc 6 1, 3) := by decide +kernel
theorem dX9_fewestHands_86 : decode cX9_fewestHands 86 = .ok (.goto (-51), 3) := by decide +kernel
theorem dX9_fewestHands_89 : decode cX9_fewestHands 89 = .ok (.iload 4, 2) := by decide +kernel
theorem dX9_fewestHands_91 : decode cX9_fewestHands 91 = .ok (.ireturn, 1) := by decide +kernel
theorem dX9_keepsAhead_0 : decode cX9_keepsAhead 0 = .ok (.aload_n 0, 1) := by decide +kernel
theorem dX9_keepsAhead_1 : decode cX9_keepsAhead 1 = .ok (.getfield 56, 3) := by decide +kernel
theorem dX9_keepsAhead_4 : decode cX9_keepsAhead 4 = .ok (.getfield 128, 3) := by decide +kernel
theorem dX9_keepsAhead_7 : decode cX9_keepsAhead 7 = .ok (.istore 5, 2) := by decide +kernel
theorem dX9_keepsAhead_9 : decode cX9_keepsAhead 9 = .ok (.iconst 0, 1) := by decide +kernel
theorem dX9_keepsAhead_10 : decode cX9_keepsAhead 10 = .ok (.istore 6, 2) := by decide +kernel
theorem dX9_keepsAhead_12 : decode cX9_keepsAhead 12 = .ok (.iconst 0, 1) := by decide +kernel
theorem dX9_keepsAhead_13 : decode cX9_keepsAhead 13 = .ok (.istore 7, 2) := by decide +kernel
theorem dX9_keepsAhead_15 : decode cX9_keepsAhead 15 = .ok (.iconst 0, 1) := by decide +kernel
theorem dX9_keepsAhead_16 : decode cX9_keepsAhead 16 = .ok (.istore 8, 2) := by decide +kernel
theorem dX9_keepsAhead_18 : decode cX9_keepsAhead 18 = .ok (.iload 8, 2) := by decide +kernel
theorem dX9_keepsAhead_20 : decode cX9_keepsAhead 20 = .ok (.iload_n 2, 1) := by decide +kernel
theorem dX9_keepsAhead_21 : decode cX9_keepsAhead 21 = .ok (.if_icmp .gt 55, 3) := by decide +kernel
theorem dX9_keepsAhead_24 : decode cX9_keepsAhead 24 = .ok (.iload 5, 2) := by decide +kernel
theorem dX9_keepsAhead_26 : decode cX9_keepsAhead 26 = .ok (.aload_n 0, 1) := by decide +kernel
theorem dX9_keepsAhead_27 : decode cX9_keepsAhead 27 = .ok (.getfield 56, 3) := by decide +kernel
theorem dX9_keepsAhead_30 : decode cX9_keepsAhead 30 = .ok (.getfield 101, 3) := by decide +kernel
theorem dX9_keepsAhead_33 : decode cX9_keepsAhead 33 = .ok (.iload 8, 2) := by decide +kernel
theorem dX9_keepsAhead_35 : decode cX9_keepsAhead 35 = .ok (.iaload, 1) := by decide +kernel
theorem dX9_keepsAhead_36 : decode cX9_keepsAhead 36 = .ok (.iadd, 1) := by decide +kernel
theorem dX9_keepsAhead_37 : decode cX9_keepsAhead 37 = .ok (.istore 5, 2) := by decide +kernel
theorem dX9_keepsAhead_39 : decode cX9_keepsAhead 39 = .ok (.aload_n 1, 1) := by decide +kernel
theorem dX9_keepsAhead_40 : decode cX9_keepsAhead 40 = .ok (.iload 6, 2) := by decide +kernel
theorem dX9_keepsAhead_42 : decode cX9_keepsAhead 42 = .ok (.iload_n 3, 1) := by decide +kernel
theorem dX9_keepsAhead_43 : decode cX9_keepsAhead 43 = .ok (.iload 4, 2) := by decide +kernel
theorem dX9_keepsAhead_45 : decode cX9_keepsAhead 45 = .ok (.invokevirtual 202, 3) := by decide +kernel
theorem dX9_keepsAhead_48 : decode cX9_keepsAhead 48 = .ok (.istore 6, 2) := by decide +kernel
theorem dX9_keepsAhead_50 : decode cX9_keepsAhead 50 = .ok (.aload_n 1, 1) := by decide +kernel
theorem dX9_keepsAhead_51 : decode cX9_keepsAhead 51 = .ok (.iload 7, 2) := by decide +kernel
theorem dX9_keepsAhead_53 : decode cX9_keepsAhead 53 = .ok (.iload_n 3, 1) := by decide +kernel
theorem dX9_keepsAhead_54 : decode cX9_keepsAhead 54 = .ok (.iload 5, 2) := by decide +kernel
theorem dX9_keepsAhead_56 : decode cX9_keepsAhead 56 = .ok (.invokevirtual 367, 3) := by decide +kernel
theorem dX9_keepsAhead_59 : decode cX9_keepsAhead 59 = .ok (.istore 7, 2) := by decide +kernel
theorem dX9_keepsAhead_61 : decode cX9_keepsAhead 61 = .ok (.iload 6, 2) := by decide +kernel
theorem dX9_keepsAhead_63 : decode cX9_keepsAhead 63 = .ok (.iload 7, 2) := by decide +kernel
theorem dX9_keepsAhead_65 : decode cX9_keepsAhead 65 = .ok (.if_icmp .ge 5, 3) := by decide +kernel
theorem dX9_keepsAhead_68 : decode cX9_keepsAhead 68 = .ok (.iconst 0, 1) := by decide +kernel
theorem dX9_keepsAhead_69 : decode cX9_keepsAhead 69 = .ok (.ireturn, 1) := by decide +kernel
theorem dX9_keepsAhead_70 : decode cX9_keepsAhead 70 = .ok (.iinc 8 1, 3) := by decide +kernel
theorem dX9_keepsAhead_73 : decode cX9_keepsAhead 73 = .ok (.goto (-55), 3) := by decide +kernel
theorem dX9_keepsAhead_76 : decode cX9_keepsAhead 76 = .ok (.iconst 1, 1) := by decide +kernel
theorem dX9_keepsAhead_77 : decode cX9_keepsAhead 77 = .ok (.ireturn, 1) := by decide +kernel
theorem dX9_wellsMet_0 : decode cX9_wellsMet 0 = .ok (.aload_n 0, 1) := by decide +kernel
theorem dX9_wellsMet_1 : decode cX9_wellsMet 1 = .ok (.getfield 36, 3) := by decide +kernel
theorem dX9_wellsMet_4 : decode cX9_wellsMet 4 = .ok (.iload_n 1, 1) := by decide +kernel
theorem dX9_wellsMet_5 : decode cX9_wellsMet 5 = .ok (.invokevirtual 195, 3) := by decide +kernel
theorem dX9_wellsMet_8 : decode cX9_wellsMet 8 = .ok (.istore_n 2, 1) := by decide +kernel
theorem dX9_wellsMet_9 : decode cX9_wellsMet 9 = .ok (.iload_n 2, 1) := by decide +kernel
theorem dX9_wellsMet_10 : decode cX9_wellsMet 10 = .ok (.bipush (-3), 2) := by decide +kernel
theorem dX9_wellsMet_12 : decode cX9_wellsMet 12 = .ok (.if_icmp .ne 8, 3) := by decide +kernel
theorem dX9_wellsMet_15 : decode cX9_wellsMet 15 = .ok (.bipush (-3), 2) := by decide +kernel
theorem dX9_wellsMet_17 : decode cX9_wellsMet 17 = .ok (.goto 20, 3) := by decide +kernel
theorem dX9_wellsMet_20 : decode cX9_wellsMet 20 = .ok (.aload_n 0, 1) := by decide +kernel
theorem dX9_wellsMet_21 : decode cX9_wellsMet 21 = .ok (.getfield 72, 3) := by decide +kernel
theorem dX9_wellsMet_24 : decode cX9_wellsMet 24 = .ok (.iload_n 1, 1) := by decide +kernel
theorem dX9_wellsMet_25 : decode cX9_wellsMet 25 = .ok (.aload_n 0, 1) := by decide +kernel
theorem dX9_wellsMet_26 : decode cX9_wellsMet 26 = .ok (.getfield 36, 3) := by decide +kernel
theorem dX9_wellsMet_29 : decode cX9_wellsMet 29 = .ok (.getfield 370, 3) := by decide +kernel
theorem dX9_wellsMet_32 : decode cX9_wellsMet 32 = .ok (.iload_n 2, 1) := by decide +kernel
theorem dX9_wellsMet_33 : decode cX9_wellsMet 33 = .ok (.iaload, 1) := by decide +kernel
theorem dX9_wellsMet_34 : decode cX9_wellsMet 34 = .ok (.invokevirtual 373, 3) := by decide +kernel
theorem dX9_wellsMet_37 : decode cX9_wellsMet 37 = .ok (.ireturn, 1) := by decide +kernel
theorem dX9_roundedUp_0 : decode cX9_roundedUp 0 = .ok (.iconst 1, 1) := by decide +kernel
theorem dX9_roundedUp_1 : decode cX9_roundedUp 1 = .ok (.iload_n 1, 1) := by decide +kernel
theorem dX9_roundedUp_2 : decode cX9_roundedUp 2 = .ok (.invokestatic 227, 3) := by decide +kernel
theorem dX9_roundedUp_5 : decode cX9_roundedUp 5 = .ok (.istore_n 2, 1) := by decide +kernel
theorem dX9_roundedUp_6 : decode cX9_roundedUp 6 = .ok (.iload_n 0, 1) := by decide +kernel
theorem dX9_roundedUp_7 : decode cX9_roundedUp 7 = .ok (.iload_n 2, 1) := by decide +kernel
theorem dX9_roundedUp_8 : decode cX9_roundedUp 8 = .ok (.iadd, 1) := by decide +kernel
theorem dX9_roundedUp_9 : decode cX9_roundedUp 9 = .ok (.iconst 1, 1) := by decide +kernel
theorem dX9_roundedUp_10 : decode cX9_roundedUp 10 = .ok (.isub, 1) := by decide +kernel
theorem dX9_roundedUp_11 : decode cX9_roundedUp 11 = .ok (.iload_n 2, 1) := by decide +kernel
theorem dX9_roundedUp_12 : decode cX9_roundedUp 12 = .ok (.idiv, 1) := by decide +kernel
theorem dX9_roundedUp_13 : decode cX9_roundedUp 13 = .ok (.ireturn, 1) := by decide +kernel
theorem dX9_commonDivisor_0 : decode cX9_commonDivisor 0 = .ok (.lload_n 0, 1) := by decide +kernel
theorem dX9_commonDivisor_1 : decode cX9_commonDivisor 1 = .ok (.lstore 4, 2) := by decide +kernel
theorem dX9_commonDivisor_3 : decode cX9_commonDivisor 3 = .ok (.lload_n 2, 1) := by decide +kernel
theorem dX9_commonDivisor_4 : decode cX9_commonDivisor 4 = .ok (.lstore 6, 2) := by decide +kernel
theorem dX9_commonDivisor_6 : decode cX9_commonDivisor 6 = .ok (.iconst 0, 1) := by decide +kernel
theorem dX9_commonDivisor_7 : decode cX9_commonDivisor 7 = .ok (.istore 8, 2) := by decide +kernel
theorem dX9_commonDivisor_9 : decode cX9_commonDivisor 9 = .ok (.iload 8, 2) := by decide +kernel
theorem dX9_commonDivisor_11 : decode cX9_commonDivisor 11 = .ok (.sipush 200, 3) := by decide +kernel
theorem dX9_commonDivisor_14 : decode cX9_commonDivisor 14 = .ok (.if_icmp .ge 31, 3) := by decide +kernel
theorem dX9_commonDivisor_17 : decode cX9_commonDivisor 17 = .ok (.lload 6, 2) := by decide +kernel
theorem dX9_commonDivisor_19 : decode cX9_commonDivisor 19 = .ok (.lconst 0, 1) := by decide +kernel
theorem dX9_commonDivisor_20 : decode cX9_commonDivisor 20 = .ok (.lcmp, 1) := by decide +kernel
theorem dX9_commonDivisor_21 : decode cX9_commonDivisor 21 = .ok (.ifCond .eq 24, 3) := by decide +kernel
theorem dX9_commonDivisor_24 : decode cX9_commonDivisor 24 = .ok (.lload 4, 2) := by decide +kernel
theorem dX9_commonDivisor_26 : decode cX9_commonDivisor 26 = .ok (.lload 6, 2) := by decide +kernel
theorem dX9_commonDivisor_28 : decode cX9_commonDivisor 28 = .ok (.lrem, 1) := by decide +kernel
theorem dX9_commonDivisor_29 : decode cX9_commonDivisor 29 = .ok (.lstore 9, 2) := by decide +kernel
theorem dX9_commonDivisor_31 : decode cX9_commonDivisor 31 = .ok (.lload 6, 2) := by decide +kernel
theorem dX9_commonDivisor_33 : decode cX9_commonDivisor 33 = .ok (.lstore 4, 2) := by decide +kernel
theorem dX9_commonDivisor_35 : decode cX9_commonDivisor 35 = .ok (.lload 9, 2) := by decide +kernel
theorem dX9_commonDivisor_37 : decode cX9_commonDivisor 37 = .ok (.lstore 6, 2) := by decide +kernel
theorem dX9_commonDivisor_39 : decode cX9_commonDivisor 39 = .ok (.iinc 8 1, 3) := by decide +kernel
theorem dX9_commonDivisor_42 : decode cX9_commonDivisor 42 = .ok (.goto (-33), 3) := by decide +kernel
theorem dX9_commonDivisor_45 : decode cX9_commonDivisor 45 = .ok (.lload 4, 2) := by decide +kernel
theorem dX9_commonDivisor_47 : decode cX9_commonDivisor 47 = .ok (.lreturn, 1) := by decide +kernel
