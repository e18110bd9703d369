theorem dX4_carryOut_88 : decode cX4_carryOut 88 = .ok (.aload_n 0, 1) := by decide +kernel
theorem dX4_carryOut_89 : decode cX4_carryOut 89 = .ok (.iload_n 2, 1) := by decide +kernel
theorem dX4_carryOut_90 : decode cX4_carryOut 90 = .ok (.iconst 2, 1) := by decide +kernel
theorem dX4_carryOut_91 : decode cX4_carryOut 91 = .ok (.iadd, 1) := by decide +kernel
theorem dX4_carryOut_92 : decode cX4_carryOut 92 = .ok (.iconst 1, 1) := by decide +kernel
theorem dX4_carryOut_93 : decode cX4_carryOut 93 = .ok (.invokevirtual 42, 3) := by decide +kernel
theorem dX4_carryOut_96 : decode cX4_carryOut 96 = .ok (.aload_n 0, 1) := by decide +kernel
theorem dX4_carryOut_97 : decode cX4_carryOut 97 = .ok (.iload_n 2, 1) := by decide +kernel
theorem dX4_carryOut_98 : decode cX4_carryOut 98 = .ok (.iconst 3, 1) := by decide +kernel
theorem dX4_carryOut_99 : decode cX4_carryOut 99 = .ok (.iadd, 1) := by decide +kernel
theorem dX4_carryOut_100 : decode cX4_carryOut 100 = .ok (.iconst 3, 1) := by decide +kernel
theorem dX4_carryOut_101 : decode cX4_carryOut 101 = .ok (.invokevirtual 42, 3) := by decide +kernel
theorem dX4_carryOut_104 : decode cX4_carryOut 104 = .ok (.aload_n 0, 1) := by decide +kernel
theorem dX4_carryOut_105 : decode cX4_carryOut 105 = .ok (.iload_n 2, 1) := by decide +kernel
theorem dX4_carryOut_106 : decode cX4_carryOut 106 = .ok (.bipush 6, 2) := by decide +kernel
theorem dX4_carryOut_108 : decode cX4_carryOut 108 = .ok (.iadd, 1) := by decide +kernel
theorem dX4_carryOut_109 : decode cX4_carryOut 109 = .ok (.iconst 1, 1) := by decide +kernel
theorem dX4_carryOut_110 : decode cX4_carryOut 110 = .ok (.invokevirtual 42, 3) := by decide +kernel
theorem dX4_carryOut_113 : decode cX4_carryOut 113 = .ok (.aload_n 0, 1) := by decide +kernel
theorem dX4_carryOut_114 : decode cX4_carryOut 114 = .ok (.iload_n 2, 1) := by decide +kernel
theorem dX4_carryOut_115 : decode cX4_carryOut 115 = .ok (.bipush 7, 2) := by decide +kernel
theorem dX4_carryOut_117 : decode cX4_carryOut 117 = .ok (.iadd, 1) := by decide +kernel
theorem dX4_carryOut_118 : decode cX4_carryOut 118 = .ok (.iconst 2, 1) := by decide +kernel
theorem dX4_carryOut_119 : decode cX4_carryOut 119 = .ok (.invokevirtual 42, 3) := by decide +kernel
theorem dX4_carryOut_122 : decode cX4_carryOut 122 = .ok (.invokevirtual 54, 3) := by decide +kernel
theorem dX4_carryOut_125 : decode cX4_carryOut 125 = .ok (.ireturn, 1) := by decide +kernel
theorem dX4_carryOut_126 : decode cX4_carryOut 126 = .ok (.aload_n 0, 1) := by decide +kernel
theorem dX4_carryOut_127 : decode cX4_carryOut 127 = .ok (.iload_n 2, 1) := by decide +kernel
theorem dX4_carryOut_128 : decode cX4_carryOut 128 = .ok (.iconst 1, 1) := by decide +kernel
theorem dX4_carryOut_129 : decode cX4_carryOut 129 = .ok (.iadd, 1) := by decide +kernel
theorem dX4_carryOut_130 : decode cX4_carryOut 130 = .ok (.iconst 1, 1) := by decide +kernel
theorem dX4_carryOut_131 : decode cX4_carryOut 131 = .ok (.invokevirtual 42, 3) := by decide +kernel
theorem dX4_carryOut_134 : decode cX4_carryOut 134 = .ok (.istore_n 3, 1) := by decide +kernel
theorem dX4_carryOut_135 : decode cX4_carryOut 135 = .ok (.aload_n 0, 1) := by decide +kernel
theorem dX4_carryOut_136 : decode cX4_carryOut 136 = .ok (.iload_n 2, 1) := by decide +kernel
theorem dX4_carryOut_137 : decode cX4_carryOut 137 = .ok (.iconst 2, 1) := by decide +kernel
theorem dX4_carryOut_138 : decode cX4_carryOut 138 = .ok (.iadd, 1) := by decide +kernel
theorem dX4_carryOut_139 : decode cX4_carryOut 139 = .ok (.iconst 1, 1) := by decide +kernel
theorem dX4_carryOut_140 : decode cX4_carryOut 140 = .ok (.invokevirtual 42, 3) := by decide +kernel
theorem dX4_carryOut_143 : decode cX4_carryOut 143 = .ok (.istore 4, 2) := by decide +kernel
theorem dX4_carryOut_145 : decode cX4_carryOut 145 = .ok (.aload_n 1, 1) := by decide +kernel
theorem dX4_carryOut_146 : decode cX4_carryOut 146 = .ok (.iload_n 3, 1) := by decide +kernel
theorem dX4_carryOut_147 : decode cX4_carryOut 147 = .ok (.invokevirtual 58, 3) := by decide +kernel
theorem dX4_carryOut_150 : decode cX4_carryOut 150 = .ok (.ifCond .eq 14, 3) := by decide +kernel
theorem dX4_carryOut_153 : decode cX4_carryOut 153 = .ok (.iload 4, 2) := by decide +kernel
theorem dX4_carryOut_155 : decode cX4_carryOut 155 = .ok (.bipush 7, 2) := by decide +kernel
theorem dX4_carryOut_157 : decode cX4_carryOut 157 = .ok (.if_icmp .ge 7, 3) := by decide +kernel
theorem dX4_carryOut_160 : decode cX4_carryOut 160 = .ok (.iconst 1, 1) := by decide +kernel
theorem dX4_carryOut_161 : decode cX4_carryOut 161 = .ok (.goto 4, 3) := by decide +kernel
theorem dX4_carryOut_164 : decode cX4_carryOut 164 = .ok (.iconst 0, 1) := by decide +kernel
theorem dX4_carryOut_165 : decode cX4_carryOut 165 = .ok (.istore 5, 2) := by decide +kernel
theorem dX4_carryOut_167 : decode cX4_carryOut 167 = .ok (.iload 5, 2) := by decide +kernel
theorem dX4_carryOut_169 : decode cX4_carryOut 169 = .ok (.ifCond .eq 22, 3) := by decide +kernel
theorem dX4_carryOut_172 : decode cX4_carryOut 172 = .ok (.aload_n 1, 1) := by decide +kernel
theorem dX4_carryOut_173 : decode cX4_carryOut 173 = .ok (.getfield 61, 3) := by decide +kernel
theorem dX4_carryOut_176 : decode cX4_carryOut 176 = .ok (.iload_n 3, 1) := by decide +kernel
theorem dX4_carryOut_177 : decode cX4_carryOut 177 = .ok (.aaload, 1) := by decide +kernel
theorem dX4_carryOut_178 : decode cX4_carryOut 178 = .ok (.iload 4, 2) := by decide +kernel
theorem dX4_carryOut_180 : decode cX4_carryOut 180 = .ok (.aload_n 0, 1) := by decide +kernel
theorem dX4_carryOut_181 : decode cX4_carryOut 181 = .ok (.iload_n 2, 1) := by decide +kernel
theorem dX4_carryOut_182 : decode cX4_carryOut 182 = .ok (.iconst 3, 1) := by decide +kernel
theorem dX4_carryOut_183 : decode cX4_carryOut 183 = .ok (.iadd, 1) := by decide +kernel
theorem dX4_carryOut_184 : decode cX4_carryOut 184 = .ok (.iconst 1, 1) := by decide +kernel
theorem dX4_carryOut_185 : decode cX4_carryOut 185 = .ok (.invokevirtual 42, 3) := by decide +kernel
theorem dX4_carryOut_188 : decode cX4_carryOut 188 = .ok (.invokevirtual 65, 3) := by decide +kernel
theorem dX4_carryOut_191 : decode cX4_carryOut 191 = .ok (.iload 5, 2) := by decide +kernel
theorem dX4_carryOut_193 : decode cX4_carryOut 193 = .ok (.ireturn, 1) := by decide +kernel
theorem dX4_number_0 : decode cX4_number 0 = .ok (.iconst 0, 1) := by decide +kernel
theorem dX4_number_1 : decode cX4_number 1 = .ok (.istore_n 3, 1) := by decide +kernel
theorem dX4_number_2 : decode cX4_number 2 = .ok (.iconst 0, 1) := by decide +kernel
theorem dX4_number_3 : decode cX4_number 3 = .ok (.istore 4, 2) := by decide +kernel
theorem dX4_number_5 : decode cX4_number 5 = .ok (.iload 4, 2) := by decide +kernel
theorem dX4_number_7 : decode cX4_number 7 = .ok (.iload_n 2, 1) := by decide +kernel
theorem dX4_number_8 : decode cX4_number 8 = .ok (.if_icmp .ge 26, 3) := by decide +kernel
theorem dX4_number_11 : decode cX4_number 11 = .ok (.iload_n 3, 1) := by decide +kernel
theorem dX4_number_12 : decode cX4_number 12 = .ok (.bipush 10, 2) := by decide +kernel
theorem dX4_number_14 : decode cX4_number 14 = .ok (.imul, 1) := by decide +kernel
theorem dX4_number_15 : decode cX4_number 15 = .ok (.aload_n 0, 1) := by decide +kernel
theorem dX4_number_16 : decode cX4_number 16 = .ok (.iload_n 1, 1) := by decide +kernel
theorem dX4_number_17 : decode cX4_number 17 = .ok (.iload 4, 2) := by decide +kernel
theorem dX4_number_19 : decode cX4_number 19 = .ok (.iadd, 1) := by decide +kernel
theorem dX4_number_20 : decode cX4_number 20 = .ok (.invokevirtual 38, 3) := by decide +kernel
theorem dX4_number_23 : decode cX4_number 23 = .ok (.iadd, 1) := by decide +kernel
theorem dX4_number_24 : decode cX4_number 24 = .ok (.bipush 48, 2) := by decide +kernel
theorem dX4_number_26 : decode cX4_number 26 = .ok (.isub, 1) := by decide +kernel
theorem dX4_number_27 : decode cX4_number 27 = .ok (.istore_n 3, 1) := by decide +kernel
theorem dX4_number_28 : decode cX4_number 28 = .ok (.iinc 4 1, 3) := by decide +kernel
theorem dX4_number_31 : decode cX4_number 31 = .ok (.goto (-26), 3) := by decide +kernel
theorem dX4_number_34 : decode cX4_number 34 = .ok (.iload_n 3, 1) := by decide +kernel
theorem dX4_number_35 : decode cX4_number 35 = .ok (.ireturn, 1) := by decide +kernel
theorem dX4_letterAt_0 : decode cX4_letterAt 0 = .ok (.iload_n 1, 1) := by decide +kernel
theorem dX4_letterAt_1 : decode cX4_letterAt 1 = .ok (.ifCond .lt 29, 3) := by decide +kernel
theorem dX4_letterAt_4 : decode cX4_letterAt 4 = .ok (.iload_n 1, 1) := by decide +kernel
theorem dX4_letterAt_5 : decode cX4_letterAt 5 = .ok (.aload_n 0, 1) := by decide +kernel
theorem dX4_letterAt_6 : decode cX4_letterAt 6 = .ok (.getfield 15, 3) := by decide +kernel
theorem dX4_letterAt_9 : decode cX4_letterAt 9 = .ok (.if_icmp .ge 21, 3) := by decide +kernel
theorem dX4_letterAt_12 : decode cX4_letterAt 12 = .ok (.iload_n 1, 1) := by decide +kernel
theorem dX4_letterAt_13 : decode cX4_letterAt 13 = .ok (.aload_n 0, 1) := by decide +kernel
theorem dX4_letterAt_14 : decode cX4_letterAt 14 = .ok (.getfield 9, 3) := by decide +kernel
theorem dX4_letterAt_17 : decode cX4_letterAt 17 = .ok (.arraylength, 1) := by decide +kernel
theorem dX4_letterAt_18 : decode cX4_letterAt 18 = .ok (.if_icmp .ge 12, 3) := by decide +kernel
theorem dX4_letterAt_21 : decode cX4_letterAt 21 = .ok (.aload_n 0, 1) := by decide +kernel
theorem dX4_letterAt_22 : decode cX4_letterAt 22 = .ok (.getfield 9, 3) := by decide +kernel
theorem dX4_letterAt_25 : decode cX4_letterAt 25 = .ok (.iload_n 1, 1) := by decide +kernel
theorem dX4_letterAt_26 : decode cX4_letterAt 26 = .ok (.iaload, 1) := by decide +kernel
theorem dX4_letterAt_27 : decode cX4_letterAt 27 = .ok (.goto 5, 3) := by decide +kernel
theorem dX4_letterAt_30 : decode cX4_letterAt 30 = .ok (.bipush (-9), 2) := by decide +kernel
theorem dX4_letterAt_32 : decode cX4_letterAt 32 = .ok (.ireturn, 1) := by decide +kernel
theorem dX5_init_0 : decode cX5_init 0 = .ok (.aload_n 0, 1) := by decide +kernel
theorem dX5_init_1 : decode cX5_init 1 = .ok (.invokespecial 3, 3) := by decide +kernel
theorem dX5_init_4 : decode cX5_init 4 = .ok (.aload_n 0, 1) := by decide +kernel
theorem dX5_init_5 : decode cX5_init 5 = .ok (.new 9, 3) := by decide +kernel
theorem dX5_init_8 : decode cX5_init 8 = .ok (.dup, 1) := by decide +kernel
theorem dX5_init_9 : decode cX5_init 9 = .ok (.invokespecial 11, 3) := by decide +kernel
theorem dX5_init_12 : decode cX5_init 12 = .ok (.putfield 12, 3) := by decide +kernel
theorem dX5_init_15 : decode cX5_init 15 = .ok (.return_, 1) := by decide +kernel
theorem dX5_take_0 : decode cX5_take 0 = .ok (.aload_n 0, 1) := by decide +kernel
theorem dX5_take_1 : decode cX5_take 1 = .ok (.getfield 12, 3) := by decide +kernel
theorem dX5_take_4 : decode cX5_take 4 = .ok (.aload_n 1, 1) := by decide +kernel
theorem dX5_take_5 : decode cX5_take 5 = .ok (.invokevirtual 18, 3) := by decide +kernel
theorem dX5_take_8 : decode cX5_take 8 = .ok (.return_, 1) := by decide +kernel
theorem dX5_restOfDay_0 : decode cX5_restOfDay 0 = .ok (.aload_n 0, 1) := by decide +kernel
theorem dX5_restOfDay_1 : decode cX5_restOfDay 1 = .ok (.getfield 12, 3) := by decide +kernel
theorem dX5_restOfDay_4 : decode cX5_restOfDay 4 = .ok (.iconst 0, 1) := by decide +kernel
theorem dX5_restOfDay_5 : decode cX5_restOfDay 5 = .ok (.putfield 22, 3) := by decide +kernel
theorem dX5_restOfDay_8 : decode cX5_restOfDay 8 = .ok (.aload_n 0, 1) := by decide +kernel
theorem dX5_restOfDay_9 : decode cX5_restOfDay 9 = .ok (.getfield 12, 3) := by decide +kernel
theorem dX5_restOfDay_12 : decode cX5_restOfDay 12 = .ok (.sipush 180, 3) := by decide +kernel
theorem dX5_restOfDay_15 : decode cX5_restOfDay 15 = .ok (.invokevirtual 26, 3) := by decide +kernel
theorem dX5_restOfDay_18 : decode cX5_restOfDay 18 = .ok (.iload_n 1, 1) := by decide +kernel
theorem dX5_restOfDay_19 : decode cX5_restOfDay 19 = .ok (.tableswitch 62 0 3 #[29, 37, 46, 54], 29) := by decide +kernel
theorem dX5_restOfDay_48 : decode cX5_restOfDay 48 = .ok (.aload_n 0, 1) := by decide +kernel
theorem dX5_restOfDay_49 : decode cX5_restOfDay 49 = .ok (.getfield 12, 3) := by decide +kernel
theorem dX5_restOfDay_52 : decode cX5_restOfDay 52 = .ok (.invokevirtual 30, 3) := by decide +kernel
theorem dX5_restOfDay_55 : decode cX5_restOfDay 55 = .ok (.ireturn, 1) := by decide +kernel
theorem dX5_restOfDay_56 : decode cX5_restOfDay 56 = .ok (.aload_n 0, 1) := by decide +kernel
theorem dX5_restOfDay_57 : decode cX5_restOfDay 57 = .ok (.getfield 12, 3) := by decide +kernel
theorem dX5_restOfDay_60 : decode cX5_restOfDay 60 = .ok (.iconst 3, 1) := by decide +kernel
theorem dX5_restOfDay_61 : decode cX5_restOfDay 61 = .ok (.invokevirtual 34, 3) := by decide +kernel
theorem dX5_restOfDay_64 : decode cX5_restOfDay 64 = .ok (.ireturn, 1) := by decide +kernel
theorem dX5_restOfDay_65 : decode cX5_restOfDay 65 = .ok (.aload_n 0, 1) := by decide +kernel
theorem dX5_restOfDay_66 : decode cX5_restOfDay 66 = .ok (.getfield 12, 3) := by decide +kernel
theorem dX5_restOfDay_69 : decode cX5_restOfDay 69 = .ok (.getfield 22, 3) := by decide +kernel
theorem dX5_restOfDay_72 : decode cX5_restOfDay 72 = .ok (.ireturn, 1) := by decide +kernel
theorem dX5_restOfDay_73 : decode cX5_restOfDay 73 = .ok (.aload_n 0, 1) := by decide +kernel
theorem dX5_restOfDay_74 : decode cX5_restOfDay 74 = .ok (.getfield 12, 3) := by decide +kernel
theorem dX5_restOfDay_77 : decode cX5_restOfDay 77 = .ok (.invokevirtual 38, 3) := by decide +kernel
theorem dX5_restOfDay_80 : decode cX5_restOfDay 80 = .ok (.ireturn, 1) := by decide +kernel
theorem dX5_restOfDay_81 : decode cX5_restOfDay 81 = .ok (.aload_n 0, 1) := by decide +kernel
theorem dX5_restOfDay_82 : decode cX5_restOfDay 82 = .ok (.getfield 12, 3) := by decide +kernel
theorem dX5_restOfDay_85 : decode cX5_restOfDay 85 = .ok (.invokevirtual 41, 3) := by decide +kernel
theorem dX5_restOfDay_88 : decode cX5_restOfDay 88 = .ok (.ireturn, 1) := by decide +kernel
theorem dX5_servedAt_0 : decode cX5_servedAt 0 = .ok (.aload_n 0, 1) := by decide +kernel
theorem dX5_servedAt_1 : decode cX5_servedAt 1 = .ok (.getfield 12, 3) := by decide +kernel
theorem dX5_servedAt_4 : decode cX5_servedAt 4 = .ok (.sipush 180, 3) := by decide +kernel
theorem dX5_servedAt_7 : decode cX5_servedAt 7 = .ok (.invokevirtual 26, 3) := by decide +kernel
theorem dX5_servedAt_10 : decode cX5_servedAt 10 = .ok (.aload_n 0, 1) := by decide +kernel
theorem dX5_servedAt_11 : decode cX5_servedAt 11 = .ok (.getfield 12, 3) := by decide +kernel
theorem dX5_servedAt_14 : decode cX5_servedAt 14 = .ok (.getfield 44, 3) := by decide +kernel
theorem dX5_servedAt_17 : decode cX5_servedAt 17 = .ok (.iload_n 1, 1) := by decide +kernel
theorem dX5_servedAt_18 : decode cX5_servedAt 18 = .ok (.aaload, 1) := by decide +kernel
theorem dX5_servedAt_19 : decode cX5_servedAt 19 = .ok (.astore_n 2, 1) := by decide +kernel
theorem dX5_servedAt_20 : decode cX5_servedAt 20 = .ok (.aload_n 2, 1) := by decide +kernel
theorem dX5_servedAt_21 : decode cX5_servedAt 21 = .ok (.getfield 48, 3) := by decide +kernel
theorem dX5_servedAt_24 : decode cX5_servedAt 24 = .ok (.iconst 2, 1) := by decide +kernel
theorem dX5_servedAt_25 : decode cX5_servedAt 25 = .ok (.if_icmp .ne 10, 3) := by decide +kernel
theorem dX5_servedAt_28 : decode cX5_servedAt 28 = .ok (.aload_n 2, 1) := by decide +kernel
theorem dX5_servedAt_29 : decode cX5_servedAt 29 = .ok (.getfield 53, 3) := by decide +kernel
theorem dX5_servedAt_32 : decode cX5_servedAt 32 = .ok (.goto 5, 3) := by decide +kernel
theorem dX5_servedAt_35 : decode cX5_servedAt 35 = .ok (.bipush (-9), 2) := by decide +kernel
theorem dX5_servedAt_37 : decode cX5_servedAt 37 = .ok (.ireturn, 1) := by decide +kernel
theorem dX5_costAnew_0 : decode cX5_costAnew 0 = .ok (.aload_n 0, 1) := by decide +kernel
theorem dX5_costAnew_1 : decode cX5_costAnew 1 = .ok (.getfield 12, 3) := by decide +kernel
theorem dX5_costAnew_4 : decode cX5_costAnew 4 = .ok (.invokevirtual 56, 3) := by decide +kernel
theorem dX5_costAnew_7 : decode cX5_costAnew 7 = .ok (.iconst 0, 1) := by decide +kernel
theorem dX5_costAnew_8 : decode cX5_costAnew 8 = .ok (.istore_n 1, 1) := by decide +kernel
theorem dX5_costAnew_9 : decode cX5_costAnew 9 = .ok (.iload_n 1, 1) := by decide +kernel
theorem dX5_costAnew_10 : decode cX5_costAnew 10 = .ok (.sipush 180, 3) := by decide +kernel
theorem dX5_costAnew_13 : decode cX5_costAnew 13 = .ok (.if_icmp .ge 26, 3) := by decide +kernel
theorem dX5_costAnew_16 : decode cX5_costAnew 16 = .ok (.aload_n 0, 1) := by decide +kernel
theorem dX5_costAnew_17 : decode cX5_costAnew 17 = .ok (.getfield 12, 3) := by decide +kernel
theorem dX5_costAnew_20 : decode cX5_costAnew 20 = .ok (.invokevirtual 59, 3) := by decide +kernel
theorem dX5_costAnew_23 : decode cX5_costAnew 23 = .ok (.ifCond .ne 16, 3) := by decide +kernel
theorem dX5_costAnew_26 : decode cX5_costAnew 26 = .ok (.aload_n 0, 1) := by decide +kernel
theorem dX5_costAnew_27 : decode cX5_costAnew 27 = .ok (.getfield 12, 3) := by decide +kernel
theorem dX5_costAnew_30 : decode cX5_costAnew 30 = .ok (.invokevirtual 63, 3) := by decide +kernel
theorem dX5_costAnew_33 : decode cX5_costAnew 33 = .ok (.iinc 1 1, 3) := by decide +kernel
theorem dX5_costAnew_36 : decode cX5_costAnew 36 = .ok (.goto (-27), 3) := by decide +kernel
theorem dX5_costAnew_39 : decode cX5_costAnew 39 = .ok (.aload_n 0, 1) := by decide +kernel
theorem dX5_costAnew_40 : decode cX5_costAnew 40 = .ok (.getfield 12, 3) := by decide +kernel
theorem dX5_costAnew_43 : decode cX5_costAnew 43 = .ok (.invokevirtual 41, 3) := by decide +kernel
theorem dX5_costAnew_46 : decode cX5_costAnew 46 = .ok (.ireturn, 1) := by decide +kernel
theorem dX5_bestKind_0 : decode cX5_bestKind 0 = .ok (.aload_n 0, 1) := by decide +kernel
theorem dX5_bestKind_1 : decode cX5_bestKind 1 = .ok (.getfield 12, 3) := by decide +kernel
theorem dX5_bestKind_4 : decode cX5_bestKind 4 = .ok (.getfield 44, 3) := by decide +kernel
theorem dX5_bestKind_7 : decode cX5_bestKind 7 = .ok (.iload_n 1, 1) := by decide +kernel
theorem dX5_bestKind_8 : decode cX5_bestKind 8 = .ok (.aaload, 1) := by decide +kernel
theorem dX5_bestKind_9 : decode cX5_bestKind 9 = .ok (.astore_n 3, 1) := by decide +kernel
theorem dX5_bestKind_10 : decode cX5_bestKind 10 = .ok (.aload_n 3, 1) := by decide +kernel
theorem dX5_bestKind_11 : decode cX5_bestKind 11 = .ok (.getfield 66, 3) := by decide +kernel
theorem dX5_bestKind_14 : decode cX5_bestKind 14 = .ok (.istore 4, 2) := by decide +kernel
theorem dX5_bestKind_16 : decode cX5_bestKind 16 = .ok (.iconst 0, 1) := by decide +kernel
theorem dX5_bestKind_17 : decode cX5_bestKind 17 = .ok (.istore 5, 2) := by decide +kernel
theorem dX5_bestKind_19 : decode cX5_bestKind 19 = .ok (.ldc 69, 2) := by decide +kernel
theorem dX5_bestKind_21 : decode cX5_bestKind 21 = .ok (.istore 6, 2) := by decide +kernel
theorem dX5_bestKind_23 : decode cX5_bestKind 23 = .ok (.iconst 0, 1) := by decide +kernel
theorem dX5_bestKind_24 : decode cX5_bestKind 24 = .ok (.istore 7, 2) := by decide +kernel
theorem dX5_bestKind_26 : decode cX5_bestKind 26 = .ok (.iload 7, 2) := by decide +kernel
theorem dX5_bestKind_28 : decode cX5_bestKind 28 = .ok (.bipush 7, 2) := by decide +kernel
theorem dX5_bestKind_30 : decode cX5_bestKind 30 = .ok (.if_icmp .ge 59, 3) := by decide +kernel
theorem dX5_bestKind_33 : decode cX5_bestKind 33 = .ok (.aload_n 3, 1) := by decide +kernel
theorem dX5_bestKind_34 : decode cX5_bestKind 34 = .ok (.iload 7, 2) := by decide +kernel
theorem dX5_bestKind_36 : decode cX5_bestKind 36 = .ok (.putfield 66, 3) := by decide +kernel
theorem dX5_bestKind_39 : decode cX5_bestKind 39 = .ok (.aload_n 0, 1) := by decide +kernel
theorem dX5_bestKind_40 : decode cX5_bestKind 40 = .ok (.invokevirtual 70, 3) := by decide +kernel
theorem dX5_bestKind_43 : decode cX5_bestKind 43 = .ok (.istore 8, 2) := by decide +kernel
theorem dX5_bestKind_45 : decode cX5_bestKind 45 = .ok (.iload_n 2, 1) := by decide +kernel
theorem dX5_bestKind_46 : decode cX5_bestKind 46 = .ok (.ifCond .eq 22, 3) := by decide +kernel
theorem dX5_bestKind_49 : decode cX5_bestKind 49 = .ok (.aload_n 3, 1) := by decide +kernel
theorem dX5_bestKind_50 : decode cX5_bestKind 50 = .ok (.getfield 48, 3) := by decide +kernel
theorem dX5_bestKind_53 : decode cX5_bestKind 53 = .ok (.iconst 2, 1) := by decide +kernel
theorem dX5_bestKind_54 : decode cX5_bestKind 54 = .ok (.if_icmp .ne 10, 3) := by decide +kernel
theorem dX5_bestKind_57 : decode cX5_bestKind 57 = .ok (.aload_n 3, 1) := by decide +kernel
theorem dX5_bestKind_58 : decode cX5_bestKind 58 = .ok (.invokevirtual 73, 3) := by decide +kernel
theorem dX5_bestKind_61 : decode cX5_bestKind 61 = .ok (.goto 5, 3) := by decide +kernel
theorem dX5_bestKind_64 : decode cX5_bestKind 64 = .ok (.bipush 99, 2) := by decide +kernel
theorem dX5_bestKind_66 : decode cX5_bestKind 66 = .ok (.istore 8, 2) := by decide +kernel
theorem dX5_bestKind_68 : decode cX5_bestKind 68 = .ok (.iload 8, 2) := by decide +kernel
theorem dX5_bestKind_70 : decode cX5_bestKind 70 = .ok (.iload 6, 2) := by decide +kernel
theorem dX5_bestKind_72 : decode cX5_bestKind 72 = .ok (.if_icmp .ge 11, 3) := by decide +kernel
theorem dX5_bestKind_75 : decode cX5_bestKind 75 = .ok (.iload 8, 2) := by decide +kernel
theorem dX5_bestKind_77 : decode cX5_bestKind 77 = .ok (.istore 6, 2) := by decide +kernel
theorem dX5_bestKind_79 : decode cX5_bestKind 79 = .ok (.iload 7, 2) := by decide +kernel
theorem dX5_bestKind_81 : decode cX5_bestKind 81 = .ok (.istore 5, 2) := by decide +kernel
theorem dX5_bestKind_83 : decode cX5_bestKind 83 = .ok (.iinc 7 1, 3) := by decide +kernel
theorem dX5_bestKind_86 : decode cX5_bestKind 86 = .ok (.goto (-60), 3) := by decide +kernel
theorem dX5_bestKind_89 : decode cX5_bestKind 89 = .ok (.aload_n 3, 1) := by decide +kernel
theorem dX5_bestKind_90 : decode cX5_bestKind 90 = .ok (.iload 4, 2) := by decide +kernel
theorem dX5_bestKind_92 : decode cX5_bestKind 92 = .ok (.putfield 66, 3) := by decide +kernel
theorem dX5_bestKind_95 : decode cX5_bestKind 95 = .ok (.iload 5, 2) := by decide +kernel
theorem dX5_bestKind_97 : decode cX5_bestKind 97 = .ok (.ireturn, 1) := by decide +kernel
theorem dX5_playRounds_0 : decode cX5_playRounds 0 = .ok (.iconst 1, 1) := by decide +kernel
theorem dX5_playRounds_1 : decode cX5_playRounds 1 = .ok (.istore_n 1, 1) := by decide +kernel
theorem dX5_playRounds_2 : decode cX5_playRounds 2 = .ok (.iconst 0, 1) := by decide +kernel
theorem dX5_playRounds_3 : decode cX5_playRounds 3 = .ok (.istore_n 2, 1) := by decide +kernel
theorem dX5_playRounds_4 : decode cX5_playRounds 4 = .ok (.iload_n 1, 1) := by decide +kernel
theorem dX5_playRounds_5 : decode cX5_playRounds 5 = .ok (.ifCond .eq 85, 3) := by decide +kernel
theorem dX5_playRounds_8 : decode cX5_playRounds 8 = .ok (.iload_n 2, 1) := by decide +kernel
theorem dX5_playRounds_9 : decode cX5_playRounds 9 = .ok (.bipush 20, 2) := by decide +kernel
theorem dX5_playRounds_11 : decode cX5_playRounds 11 = .ok (.if_icmp .ge 79, 3) := by decide +kernel
theorem dX5_playRounds_14 : decode cX5_playRounds 14 = .ok (.iconst 0, 1) := by decide +kernel
theorem dX5_playRounds_15 : decode cX5_playRounds 15 = .ok (.istore_n 1, 1) := by decide +kernel
theorem dX5_playRounds_16 : decode cX5_playRounds 16 = .ok (.iconst 0, 1) := by decide +kernel
theorem dX5_playRounds_17 : decode cX5_playRounds 17 = .ok (.istore_n 3, 1) := by decide +kernel
theorem dX5_playRounds_18 : decode cX5_playRounds 18 = .ok (.iload_n 3, 1) := by decide +kernel
theorem dX5_playRounds_19 : decode cX5_playRounds 19 = .ok (.aload_n 0, 1) := by decide +kernel
theorem dX5_playRounds_20 : decode cX5_playRounds 20 = .ok (.getfield 12, 3) := by decide +kernel
theorem dX5_playRounds_23 : decode cX5_playRounds 23 = .ok (.getfield 76, 3) := by decide +kernel
theorem dX5_playRounds_26 : decode cX5_playRounds 26 = .ok (.if_icmp .ge 58, 3) := by decide +kernel
theorem dX5_playRounds_29 : decode cX5_playRounds 29 = .ok (.aload_n 0, 1) := by decide +kernel
theorem dX5_playRounds_30 : decode cX5_playRounds 30 = .ok (.iload_n 3, 1) := by decide +kernel
theorem dX5_playRounds_31 : decode cX5_playRounds 31 = .ok (.iconst 1, 1) := by decide +kernel
theorem dX5_playRounds_32 : decode cX5_playRounds 32 = .ok (.invokevirtual 79, 3) := by decide +kernel
theorem dX5_playRounds_35 : decode cX5_playRounds 35 = .ok (.istore 4, 2) := by decide +kernel
theorem dX5_playRounds_37 : decode cX5_playRounds 37 = .ok (.iload_n 1, 1) := by decide +kernel
theorem dX5_playRounds_38 : decode cX5_playRounds 38 = .ok (.ifCond .ne 20, 3) := by decide +kernel
theorem dX5_playRounds_41 : decode cX5_playRounds 41 = .ok (.iload 4, 2) := by decide +kernel
theorem dX5_playRounds_43 : decode cX5_playRounds 43 = .ok (.aload_n 0, 1) := by decide +kernel
theorem dX5_playRounds_44 : decode cX5_playRounds 44 = .ok (.getfield 12, 3) := by decide +kernel
theorem dX5_playRounds_47 : decode cX5_playRounds 47 = .ok (.getfield 44, 3) := by decide +kernel
theorem dX5_playRounds_50 : decode cX5_playRounds 50 = .ok (.iload_n 3, 1) := by decide +kernel
theorem dX5_playRounds_51 : decode cX5_playRounds 51 = .ok (.aaload, 1) := by decide +kernel
theorem dX5_playRounds_52 : decode cX5_playRounds 52 = .ok (.getfield 66, 3) := by decide +kernel
theorem dX5_playRounds_55 : decode cX5_playRounds 55 = .ok (.if_icmp .eq 7, 3) := by decide +kernel
theorem dX5_playRounds_58 : decode cX5_playRounds 58 = .ok (.iconst 1, 1) := by decide +kernel
theorem dX5_playRounds_59 : decode cX5_playRounds 59 = .ok (.goto 4, 3) := by decide +kernel
theorem dX5_playRounds_62 : decode cX5_playRounds 62 = .ok (.iconst 0, 1) := by decide +kernel
theorem dX5_playRounds_63 : decode cX5_playRounds 63 = .ok (.istore_n 1, 1) := by decide +kernel
theorem dX5_playRounds_64 : decode cX5_playRounds 64 = .ok (.aload_n 0, 1) := by decide +kernel
theorem dX5_playRounds_65 : decode cX5_playRounds 65 = .ok (.getfield 12, 3) := by decide +kernel
theorem dX5_playRounds_68 : decode cX5_playRounds 68 = .ok (.getfield 44, 3) := by decide +kernel
theorem dX5_playRounds_71 : decode cX5_playRounds 71 = .ok (.iload_n 3, 1) := by decide +kernel
theorem dX5_playRounds_72 : decode cX5_playRounds 72 = .ok (.aaload, 1) := by decide +kernel
theorem dX5_playRounds_73 : decode cX5_playRounds 73 = .ok (.iload 4, 2) := by decide +kernel
theorem dX5_playRounds_75 : decode cX5_playRounds 75 = .ok (.putfield 66, 3) := by decide +kernel
theorem dX5_playRounds_78 : decode cX5_playRounds 78 = .ok (.iinc 3 1, 3) := by decide +kernel
theorem dX5_playRounds_81 : decode cX5_playRounds 81 = .ok (.goto (-63), 3) := by decide +kernel
theorem dX5_playRounds_84 : decode cX5_playRounds 84 = .ok (.iinc 2 1, 3) := by decide +kernel
theorem dX5_playRounds_87 : decode cX5_playRounds 87 = .ok (.goto (-83), 3) := by decide +kernel
theorem dX5_playRounds_90 : decode cX5_playRounds 90 = .ok (.iload_n 2, 1) := by decide +kernel
theorem dX5_playRounds_91 : decode cX5_playRounds 91 = .ok (.ireturn, 1) := by decide +kernel
theorem dX5_kindDigits_0 : decode cX5_kindDigits 0 = .ok (.iconst 0, 1) := by decide +kernel
theorem dX5_kindDigits_1 : decode cX5_kindDigits 1 = .ok (.istore_n 1, 1) := by decide +kernel
theorem dX5_kindDigits_2 : decode cX5_kindDigits 2 = .ok (.aload_n 0, 1) := by decide +kernel
theorem dX5_kindDigits_3 : decode cX5_kindDigits 3 = .ok (.getfield 12, 3) := by decide +kernel
theorem dX5_kindDigits_6 : decode cX5_kindDigits 6 = .ok (.getfield 76, 3) := by decide +kernel
theorem dX5_kindDigits_9 : decode cX5_kindDigits 9 = .ok (.iconst 1, 1) := by decide +kernel
theorem dX5_kindDigits_10 : decode cX5_kindDigits 10 = .ok (.isub, 1) := by decide +kernel
theorem dX5_kindDigits_11 : decode cX5_kindDigits 11 = .ok (.istore_n 2, 1) := by decide +kernel
theorem dX5_kindDigits_12 : decode cX5_kindDigits 12 = .ok (.iload_n 2, 1) := by decide +kernel
theorem dX5_kindDigits_13 : decode cX5_kindDigits 13 = .ok (.ifCond .lt 27, 3) := by decide +kernel
theorem dX5_kindDigits_16 : decode cX5_kindDigits 16 = .ok (.iload_n 1, 1) := by decide +kernel
theorem dX5_kindDigits_17 : decode cX5_kindDigits 17 = .ok (.bipush 10, 2) := by decide +kernel
theorem dX5_kindDigits_19 : decode cX5_kindDigits 19 = .ok (.imul, 1) := by decide +kernel
theorem dX5_kindDigits_20 : decode cX5_kindDigits 20 = .ok (.aload_n 0, 1) := by decide +kernel
theorem dX5_kindDigits_21 : decode cX5_kindDigits 21 = .ok (.getfield 12, 3) := by decide +kernel
theorem dX5_kindDigits_24 : decode cX5_kindDigits 24 = .ok (.getfield 44, 3) := by decide +kernel
theorem dX5_kindDigits_27 : decode cX5_kindDigits 27 = .ok (.iload_n 2, 1) := by decide +kernel
theorem dX5_kindDigits_28 : decode cX5_kindDigits 28 = .ok (.aaload, 1) := by decide +kernel
theorem dX5_kindDigits_29 : decode cX5_kindDigits 29 = .ok (.getfield 66, 3) := by decide +kernel
theorem dX5_kindDigits_32 : decode cX5_kindDigits 32 = .ok (.iadd, 1) := by decide +kernel
theorem dX5_kindDigits_33 : decode cX5_kindDigits 33 = .ok (.istore_n 1, 1) := by decide +kernel
theorem dX5_kindDigits_34 : decode cX5_kindDigits 34 = .ok (.iinc 2 (-1), 3) := by decide +kernel
theorem dX5_kindDigits_37 : decode cX5_kindDigits 37 = .ok (.goto (-25), 3) := by decide +kernel
theorem dX5_kindDigits_40 : decode cX5_kindDigits 40 = .ok (.iload_n 1, 1) := by decide +kernel
theorem dX5_kindDigits_41 : decode cX5_kindDigits 41 = .ok (.ireturn, 1) := by decide +kernel
theorem dX5_lostByKinds_0 : decode cX5_lostByKinds 0 = .ok (.aload_n 0, 1) := by decide +kernel
theorem dX5_lostByKinds_1 : decode cX5_lostByKinds 1 = .ok (.invokevirtual 70, 3) := by decide +kernel
theorem dX5_lostByKinds_4 : decode cX5_lostByKinds 4 = .ok (.istore_n 1, 1) := by decide +kernel
theorem dX5_lostByKinds_5 : decode cX5_lostByKinds 5 = .ok (.ldc 69, 2) := by decide +kernel
theorem dX5_lostByKinds_7 : decode cX5_lostByKinds 7 = .ok (.istore_n 2, 1) := by decide +kernel
theorem dX5_lostByKinds_8 : decode cX5_lostByKinds 8 = .ok (.iconst 0, 1) := by decide +kernel
theorem dX5_lostByKinds_9 : decode cX5_lostByKinds 9 = .ok (.istore_n 3, 1) := by decide +kernel
theorem dX5_lostByKinds_10 : decode cX5_lostByKinds 10 = .ok (.iload_n 3, 1) := by decide +kernel
theorem dX5_lostByKinds_11 : decode cX5_lostByKinds 11 = .ok (.bipush 7, 2) := by decide +kernel
theorem dX5_lostByKinds_13 : decode cX5_lostByKinds 13 = .ok (.if_icmp .ge 53, 3) := by decide +kernel
theorem dX5_lostByKinds_16 : decode cX5_lostByKinds 16 = .ok (.iconst 0, 1) := by decide +kernel
theorem dX5_lostByKinds_17 : decode cX5_lostByKinds 17 = .ok (.istore 4, 2) := by decide +kernel
theorem dX5_lostByKinds_19 : decode cX5_lostByKinds 19 = .ok (.iload 4, 2) := by decide +kernel
theorem dX5_lostByKinds_21 : decode cX5_lostByKinds 21 = .ok (.aload_n 0, 1) := by decide +kernel
theorem dX5_lostByKinds_22 : decode cX5_lostByKinds 22 = .ok (.getfield 12, 3) := by decide +kernel
theorem dX5_lostByKinds_25 : decode cX5_lostByKinds 25 = .ok (.getfield 76, 3) := by decide +kernel
theorem dX5_lostByKinds_28 : decode cX5_lostByKinds 28 = .ok (.if_icmp .ge 23, 3) := by decide +kernel
theorem dX5_lostByKinds_31 : decode cX5_lostByKinds 31 = .ok (.aload_n 0, 1) := by decide +kernel
theorem dX5_lostByKinds_32 : decode cX5_lostByKinds 32 = .ok (.getfield 12, 3) := by decide +kernel
theorem dX5_lostByKinds_35 : decode cX5_lostByKinds 35 = .ok (.getfield 44, 3) := by decide +kernel
theorem dX5_lostByKinds_38 : decode cX5_lostByKinds 38 = .ok (.iload 4, 2) := by decide +kernel
theorem dX5_lostByKinds_40 : decode cX5_lostByKinds 40 = .ok (.aaload, 1) := by decide +kernel
theorem dX5_lostByKinds_41 : decode cX5_lostByKinds 41 = .ok (.iload_n 3, 1) := by decide +kernel
theorem dX5_lostByKinds_42 : decode cX5_lostByKinds 42 = .ok (.putfield 66, 3) := by decide +kernel
theorem dX5_lostByKinds_45 : decode cX5_lostByKinds 45 = .ok (.iinc 4 1, 3) := by decide +kernel
theorem dX5_lostByKinds_48 : decode cX5_lostByKinds 48 = .ok (.goto (-29), 3) := by decide +kernel
theorem dX5_lostByKinds_51 : decode cX5_lostByKinds 51 = .ok (.iload_n 2, 1) := by decide +kernel
theorem dX5_lostByKinds_52 : decode cX5_lostByKinds 52 = .ok (.aload_n 0, 1) := by decide +kernel
theorem dX5_lostByKinds_53 : decode cX5_lostByKinds 53 = .ok (.invokevirtual 70, 3) := by decide +kernel
theorem dX5_lostByKinds_56 : decode cX5_lostByKinds 56 = .ok (.invokestatic 83, 3) := by decide +kernel
theorem dX5_lostByKinds_59 : decode cX5_lostByKinds 59 = .ok (.istore_n 2, 1) := by decide +kernel
theorem dX5_lostByKinds_60 : decode cX5_lostByKinds 60 = .ok (.iinc 3 1, 3) := by decide +kernel
theorem dX5_lostByKinds_63 : decode cX5_lostByKinds 63 = .ok (.goto (-53), 3) := by decide +kernel
theorem dX5_lostByKinds_66 : decode cX5_lostByKinds 66 = .ok (.iload_n 1, 1) := by decide +kernel
theorem dX5_lostByKinds_67 : decode cX5_lostByKinds 67 = .ok (.iload_n 2, 1) := by decide +kernel
theorem dX5_lostByKinds_68 : decode cX5_lostByKinds 68 = .ok (.isub, 1) := by decide +kernel
theorem dX5_lostByKinds_69 : decode cX5_lostByKinds 69 = .ok (.ireturn, 1) := by decide +kernel
theorem dX5_bestMark_0 : decode cX5_bestMark 0 = .ok (.iconst 0, 1) := by decide +kernel
theorem dX5_bestMark_1 : decode cX5_bestMark 1 = .ok (.istore_n 2, 1) := by decide +kernel
theorem dX5_bestMark_2 : decode cX5_bestMark 2 = .ok (.ldc 69, 2) := by decide +kernel
theorem dX5_bestMark_4 : decode cX5_bestMark 4 = .ok (.istore_n 3, 1) := by decide +kernel
theorem dX5_bestMark_5 : decode cX5_bestMark 5 = .ok (.iconst 0, 1) := by decide +kernel
theorem dX5_bestMark_6 : decode cX5_bestMark 6 = .ok (.istore 4, 2) := by decide +kernel
theorem dX5_bestMark_8 : decode cX5_bestMark 8 = .ok (.iload 4, 2) := by decide +kernel
theorem dX5_bestMark_10 : decode cX5_bestMark 10 = .ok (.aload_n 0, 1) := by decide +kernel
theorem dX5_bestMark_11 : decode cX5_bestMark 11 = .ok (.getfield 12, 3) := by decide +kernel
theorem dX5_bestMark_14 : decode cX5_bestMark 14 = .ok (.getfield 89, 3) := by decide +kernel
theorem dX5_bestMark_17 : decode cX5_bestMark 17 = .ok (.iconst 0, 1) := by decide +kernel
theorem dX5_bestMark_18 : decode cX5_bestMark 18 = .ok (.iaload, 1) := by decide +kernel
theorem dX5_bestMark_19 : decode cX5_bestMark 19 = .ok (.if_icmp .gt 39, 3) := by decide +kernel
theorem dX5_bestMark_22 : decode cX5_bestMark 22 = .ok (.aload_n 0, 1) := by decide +kernel
theorem dX5_bestMark_23 : decode cX5_bestMark 23 = .ok (.getfield 12, 3) := by decide +kernel
theorem dX5_bestMark_26 : decode cX5_bestMark 26 = .ok (.getfield 89, 3) := by decide +kernel
theorem dX5_bestMark_29 : decode cX5_bestMark 29 = .ok (.bipush 6, 2) := by decide +kernel
theorem dX5_bestMark_31 : decode cX5_bestMark 31 = .ok (.iload 4, 2) := by decide +kernel
theorem dX5_bestMark_33 : decode cX5_bestMark 33 = .ok (.iastore, 1) := by decide +kernel
theorem dX5_bestMark_34 : decode cX5_bestMark 34 = .ok (.aload_n 0, 1) := by decide +kernel
theorem dX5_bestMark_35 : decode cX5_bestMark 35 = .ok (.invokevirtual 70, 3) := by decide +kernel
theorem dX5_bestMark_38 : decode cX5_bestMark 38 = .ok (.istore 5, 2) := by decide +kernel
theorem dX5_bestMark_40 : decode cX5_bestMark 40 = .ok (.iload 5, 2) := by decide +kernel
theorem dX5_bestMark_42 : decode cX5_bestMark 42 = .ok (.iload_n 3, 1) := by decide +kernel
theorem dX5_bestMark_43 : decode cX5_bestMark 43 = .ok (.if_icmp .ge 9, 3) := by decide +kernel
theorem dX5_bestMark_46 : decode cX5_bestMark 46 = .ok (.iload 5, 2) := by decide +kernel
theorem dX5_bestMark_48 : decode cX5_bestMark 48 = .ok (.istore_n 3, 1) := by decide +kernel
theorem dX5_bestMark_49 : decode cX5_bestMark 49 = .ok (.iload 4, 2) := by decide +kernel
theorem dX5_bestMark_51 : decode cX5_bestMark 51 = .ok (.istore_n 2, 1) := by decide +kernel
theorem dX5_bestMark_52 : decode cX5_bestMark 52 = .ok (.iinc 4 1, 3) := by decide +kernel
theorem dX5_bestMark_55 : decode cX5_bestMark 55 = .ok (.goto (-47), 3) := by decide +kernel
theorem dX5_bestMark_58 : decode cX5_bestMark 58 = .ok (.iload_n 1, 1) := by decide +kernel
theorem dX5_bestMark_59 : decode cX5_bestMark 59 = .ok (.ifCond .eq 7, 3) := by decide +kernel
theorem dX5_bestMark_62 : decode cX5_bestMark 62 = .ok (.iload_n 2, 1) := by decide +kernel
theorem dX5_bestMark_63 : decode cX5_bestMark 63 = .ok (.goto 4, 3) := by decide +kernel
theorem dX5_bestMark_66 : decode cX5_bestMark 66 = .ok (.iload_n 3, 1) := by decide +kernel
theorem dX5_bestMark_67 : decode cX5_bestMark 67 = .ok (.ireturn, 1) := by decide +kernel
theorem dX5_savedBySecond_0 : decode cX5_savedBySecond 0 = .ok (.aload_n 0, 1) := by decide +kernel
theorem dX5_savedBySecond_1 : decode cX5_savedBySecond 1 = .ok (.getfield 12, 3) := by decide +kernel
theorem dX5_savedBySecond_4 : decode cX5_savedBySecond 4 = .ok (.getfield 89, 3) := by decide +kernel
theorem dX5_savedBySecond_7 : decode cX5_savedBySecond 7 = .ok (.bipush 7, 2) := by decide +kernel
theorem dX5_savedBySecond_9 : decode cX5_savedBySecond 9 = .ok (.iconst 1, 1) := by decide +kernel
theorem dX5_savedBySecond_10 : decode cX5_savedBySecond 10 = .ok (.iastore, 1) := by decide +kernel
theorem dX5_savedBySecond_11 : decode cX5_savedBySecond 11 = .ok (.aload_n 0, 1) := by decide +kernel
theorem dX5_savedBySecond_12 : decode cX5_savedBySecond 12 = .ok (.invokevirtual 70, 3) := by decide +kernel
theorem dX5_savedBySecond_15 : decode cX5_savedBySecond 15 = .ok (.istore_n 1, 1) := by decide +kernel
theorem dX5_savedBySecond_16 : decode cX5_savedBySecond 16 = .ok (.aload_n 0, 1) := by decide +kernel
theorem dX5_savedBySecond_17 : decode cX5_savedBySecond 17 = .ok (.getfield 12, 3) := by decide +kernel
theorem dX5_savedBySecond_20 : decode cX5_savedBySecond 20 = .ok (.getfield 89, 3) := by decide +kernel
theorem dX5_savedBySecond_23 : decode cX5_savedBySecond 23 = .ok (.bipush 7, 2) := by decide +kernel
theorem dX5_savedBySecond_25 : decode cX5_savedBySecond 25 = .ok (.iconst 2, 1) := by decide +kernel
theorem dX5_savedBySecond_26 : decode cX5_savedBySecond 26 = .ok (.iastore, 1) := by decide +kernel
theorem dX5_savedBySecond_27 : decode cX5_savedBySecond 27 = .ok (.iload_n 1, 1) := by decide +kernel
theorem dX5_savedBySecond_28 : decode cX5_savedBySecond 28 = .ok (.aload_n 0, 1) := by decide +kernel
theorem dX5_savedBySecond_29 : decode cX5_savedBySecond 29 = .ok (.invokevirtual 70, 3) := by decide +kernel
theorem dX5_savedBySecond_32 : decode cX5_savedBySecond 32 = .ok (.isub, 1) := by decide +kernel
theorem dX5_savedBySecond_33 : decode cX5_savedBySecond 33 = .ok (.ireturn, 1) := by decide +kernel
theorem dX5_comerToFollow_0 : decode cX5_comerToFollow 0 = .ok (.bipush (-9), 2) := by decide +kernel
theorem dX5_comerToFollow_2 : decode cX5_comerToFollow 2 = .ok (.istore_n 2, 1) := by decide +kernel
theorem dX5_comerToFollow_3 : decode cX5_comerToFollow 3 = .ok (.ldc 69, 2) := by decide +kernel
theorem dX5_comerToFollow_5 : decode cX5_comerToFollow 5 = .ok (.istore_n 3, 1) := by decide +kernel
theorem dX5_comerToFollow_6 : decode cX5_comerToFollow 6 = .ok (.iconst 0, 1) := by decide +kernel
theorem dX5_comerToFollow_7 : decode cX5_comerToFollow 7 = .ok (.istore 4, 2) := by decide +kernel
theorem dX5_comerToFollow_9 : decode cX5_comerToFollow 9 = .ok (.iload 4, 2) := by decide +kernel
theorem dX5_comerToFollow_11 : decode cX5_comerToFollow 11 = .ok (.aload_n 1, 1) := by decide +kernel
theorem dX5_comerToFollow_12 : decode cX5_comerToFollow 12 = .ok (.getfield 76, 3) := by decide +kernel
theorem dX5_comerToFollow_15 : decode cX5_comerToFollow 15 = .ok (.if_icmp .ge 80, 3) := by decide +kernel
theorem dX5_comerToFollow_18 : decode cX5_comerToFollow 18 = .ok (.aload_n 1, 1) := by decide +kernel
theorem dX5_comerToFollow_19 : decode cX5_comerToFollow 19 = .ok (.getfield 44, 3) := by decide +kernel
theorem dX5_comerToFollow_22 : decode cX5_comerToFollow 22 = .ok (.iload 4, 2) := by decide +kernel
theorem dX5_comerToFollow_24 : decode cX5_comerToFollow 24 = .ok (.aaload, 1) := by decide +kernel
theorem dX5_comerToFollow_25 : decode cX5_comerToFollow 25 = .ok (.astore 5, 2) := by decide +kernel
theorem dX5_comerToFollow_27 : decode cX5_comerToFollow 27 = .ok (.iconst 0, 1) := by decide +kernel
theorem dX5_comerToFollow_28 : decode cX5_comerToFollow 28 = .ok (.istore 6, 2) := by decide +kernel
theorem dX5_comerToFollow_30 : decode cX5_comerToFollow 30 = .ok (.iload 6, 2) := by decide +kernel
theorem dX5_comerToFollow_32 : decode cX5_comerToFollow 32 = .ok (.aload_n 0, 1) := by decide +kernel
theorem dX5_comerToFollow_33 : decode cX5_comerToFollow 33 = .ok (.getfield 12, 3) := by decide +kernel
theorem dX5_comerToFollow_36 : decode cX5_comerToFollow 36 = .ok (.getfield 76, 3) := by decide +kernel
theorem dX5_comerToFollow_39 : decode cX5_comerToFollow 39 = .ok (.if_icmp .ge 32, 3) := by decide +kernel
theorem dX5_comerToFollow_42 : decode cX5_comerToFollow 42 = .ok (.aload_n 0, 1) := by decide +kernel
theorem dX5_comerToFollow_43 : decode cX5_comerToFollow 43 = .ok (.getfield 12, 3) := by decide +kernel
theorem dX5_comerToFollow_46 : decode cX5_comerToFollow 46 = .ok (.getfield 44, 3) := by decide +kernel
theorem dX5_comerToFollow_49 : decode cX5_comerToFollow 49 = .ok (.iload 6, 2) := by decide +kernel
theorem dX5_comerToFollow_51 : decode cX5_comerToFollow 51 = .ok (.aaload, 1) := by decide +kernel
theorem dX5_comerToFollow_52 : decode cX5_comerToFollow 52 = .ok (.aload 5, 2) := by decide +kernel
theorem dX5_comerToFollow_54 : decode cX5_comerToFollow 54 = .ok (.getfield 66, 3) := by decide +kernel
theorem dX5_comerToFollow_57 : decode cX5_comerToFollow 57 = .ok (.aload 5, 2) := by decide +kernel
theorem dX5_comerToFollow_59 : decode cX5_comerToFollow 59 = .ok (.getfield 93, 3) := by decide +kernel
theorem dX5_comerToFollow_62 : decode cX5_comerToFollow 62 = .ok (.invokevirtual 96, 3) := by decide +kernel
theorem dX5_comerToFollow_65 : decode cX5_comerToFollow 65 = .ok (.iinc 6 1, 3) := by decide +kernel
theorem dX5_comerToFollow_68 : decode cX5_comerToFollow 68 = .ok (.goto (-38), 3) := by decide +kernel
theorem dX5_comerToFollow_71 : decode cX5_comerToFollow 71 = .ok (.aload_n 0, 1) := by decide +kernel
theorem dX5_comerToFollow_72 : decode cX5_comerToFollow 72 = .ok (.invokevirtual 70, 3) := by decide +kernel
theorem dX5_comerToFollow_75 : decode cX5_comerToFollow 75 = .ok (.istore 6, 2) := by decide +kernel
theorem dX5_comerToFollow_77 : decode cX5_comerToFollow 77 = .ok (.iload 6, 2) := by decide +kernel
theorem dX5_comerToFollow_79 : decode cX5_comerToFollow 79 = .ok (.iload_n 3, 1) := by decide +kernel
theorem dX5_comerToFollow_80 : decode cX5_comerToFollow 80 = .ok (.if_icmp .ge 9, 3) := by decide +kernel
theorem dX5_comerToFollow_83 : decode cX5_comerToFollow 83 = .ok (.iload 6, 2) := by decide +kernel
theorem dX5_comerToFollow_85 : decode cX5_comerToFollow 85 = .ok (.istore_n 3, 1) := by decide +kernel
theorem dX5_comerToFollow_86 : decode cX5_comerToFollow 86 = .ok (.iload 4, 2) := by decide +kernel
theorem dX5_comerToFollow_88 : decode cX5_comerToFollow 88 = .ok (.istore_n 2, 1) := by decide +kernel
theorem dX5_comerToFollow_89 : decode cX5_comerToFollow 89 = .ok (.iinc 4 1, 3) := by decide +kernel
theorem dX5_comerToFollow_92 : decode cX5_comerToFollow 92 = .ok (.goto (-83), 3) := by decide +kernel
theorem dX5_comerToFollow_95 : decode cX5_comerToFollow 95 = .ok (.iload_n 2, 1) := by decide +kernel
theorem dX5_comerToFollow_96 : decode cX5_comerToFollow 96 = .ok (.ireturn, 1) := by decide +kernel
theorem dX5_firstOtherLevel_0 : decode cX5_firstOtherLevel 0 = .ok (.iconst 0, 1) := by decide +kernel
theorem dX5_firstOtherLevel_1 : decode cX5_firstOtherLevel 1 = .ok (.istore_n 3, 1) := by decide +kernel
theorem dX5_firstOtherLevel_2 : decode cX5_firstOtherLevel 2 = .ok (.iload_n 3, 1) := by decide +kernel
theorem dX5_firstOtherLevel_3 : decode cX5_firstOtherLevel 3 = .ok (.iload_n 2, 1) := by decide +kernel
theorem dX5_firstOtherLevel_4 : decode cX5_firstOtherLevel 4 = .ok (.if_icmp .ge 43, 3) := by decide +kernel
theorem dX5_firstOtherLevel_7 : decode cX5_firstOtherLevel 7 = .ok (.iload_n 3, 1) := by decide +kernel
theorem dX5_firstOtherLevel_8 : decode cX5_firstOtherLevel 8 = .ok (.aload_n 1, 1) := by decide +kernel
theorem dX5_firstOtherLevel_9 : decode cX5_firstOtherLevel 9 = .ok (.arraylength, 1) := by decide +kernel
theorem dX5_firstOtherLevel_10 : decode cX5_firstOtherLevel 10 = .ok (.if_icmp .ge 37, 3) := by decide +kernel
theorem dX5_firstOtherLevel_13 : decode cX5_firstOtherLevel 13 = .ok (.aload_n 0, 1) := by decide +kernel
theorem dX5_firstOtherLevel_14 : decode cX5_firstOtherLevel 14 = .ok (.getfield 12, 3) := by decide +kernel
theorem dX5_firstOtherLevel_17 : decode cX5_firstOtherLevel 17 = .ok (.iconst 1, 1) := by decide +kernel
theorem dX5_firstOtherLevel_18 : decode cX5_firstOtherLevel 18 = .ok (.invokevirtual 26, 3) := by decide +kernel
theorem dX5_firstOtherLevel_21 : decode cX5_firstOtherLevel 21 = .ok (.aload_n 0, 1) := by decide +kernel
theorem dX5_firstOtherLevel_22 : decode cX5_firstOtherLevel 22 = .ok (.getfield 12, 3) := by decide +kernel
theorem dX5_firstOtherLevel_25 : decode cX5_firstOtherLevel 25 = .ok (.getfield 100, 3) := by decide +kernel
theorem dX5_firstOtherLevel_28 : decode cX5_firstOtherLevel 28 = .ok (.iconst 0, 1) := by decide +kernel
theorem dX5_firstOtherLevel_29 : decode cX5_firstOtherLevel 29 = .ok (.aaload, 1) := by decide +kernel
theorem dX5_firstOtherLevel_30 : decode cX5_firstOtherLevel 30 = .ok (.getfield 104, 3) := by decide +kernel
theorem dX5_firstOtherLevel_33 : decode cX5_firstOtherLevel 33 = .ok (.aload_n 1, 1) := by decide +kernel
theorem dX5_firstOtherLevel_34 : decode cX5_firstOtherLevel 34 = .ok (.iload_n 3, 1) := by decide +kernel
theorem dX5_firstOtherLevel_35 : decode cX5_firstOtherLevel 35 = .ok (.iaload, 1) := by decide +kernel
theorem dX5_firstOtherLevel_36 : decode cX5_firstOtherLevel 36 = .ok (.if_icmp .eq 5, 3) := by decide +kernel
theorem dX5_firstOtherLevel_39 : decode cX5_firstOtherLevel 39 = .ok (.iload_n 3, 1) := by decide +kernel
theorem dX5_firstOtherLevel_40 : decode cX5_firstOtherLevel 40 = .ok (.ireturn, 1) := by decide +kernel
theorem dX5_firstOtherLevel_41 : decode cX5_firstOtherLevel 41 = .ok (.iinc 3 1, 3) := by decide +kernel
theorem dX5_firstOtherLevel_44 : decode cX5_firstOtherLevel 44 = .ok (.goto (-42), 3) := by decide +kernel
theorem dX5_firstOtherLevel_47 : decode cX5_firstOtherLevel 47 = .ok (.bipush (-9), 2) := by decide +kernel
theorem dX5_firstOtherLevel_49 : decode cX5_firstOtherLevel 49 = .ok (.ireturn, 1) := by decide +kernel
theorem dX5_drawnDays_0 : decode cX5_drawnDays 0 = .ok (.aload_n 0, 1) := by decide +kernel
theorem dX5_drawnDays_1 : decode cX5_drawnDays 1 = .ok (.iload_n 2, 1) := by decide +kernel
theorem dX5_drawnDays_2 : decode cX5_drawnDays 2 = .ok (.putfield 109, 3) := by decide +kernel
theorem dX5_drawnDays_5 : decode cX5_drawnDays 5 = .ok (.iconst 0, 1) := by decide +kernel
theorem dX5_drawnDays_6 : decode cX5_drawnDays 6 = .ok (.istore 4, 2) := by decide +kernel
theorem dX5_drawnDays_8 : decode cX5_drawnDays 8 = .ok (.iconst 0, 1) := by decide +kernel
theorem dX5_drawnDays_9 : decode cX5_drawnDays 9 = .ok (.istore 5, 2) := by decide +kernel
theorem dX5_drawnDays_11 : decode cX5_drawnDays 11 = .ok (.iconst 0, 1) := by decide +kernel
theorem dX5_drawnDays_12 : decode cX5_drawnDays 12 = .ok (.istore 6, 2) := by decide +kernel
theorem dX5_drawnDays_14 : decode cX5_drawnDays 14 = .ok (.iload 6, 2) := by decide +kernel
theorem dX5_drawnDays_16 : decode cX5_drawnDays 16 = .ok (.iload_n 1, 1) := by decide +kernel
theorem dX5_drawnDays_17 : decode cX5_drawnDays 17 = .ok (.if_icmp .ge 71, 3) := by decide +kernel
theorem dX5_drawnDays_20 : decode cX5_drawnDays 20 = .ok (.iconst 0, 1) := by decide +kernel
theorem dX5_drawnDays_21 : decode cX5_drawnDays 21 = .ok (.istore 7, 2) := by decide +kernel
theorem dX5_drawnDays_23 : decode cX5_drawnDays 23 = .ok (.iload 7, 2) := by decide +kernel
theorem dX5_drawnDays_25 : decode cX5_drawnDays 25 = .ok (.aload_n 0, 1) := by decide +kernel
theorem dX5_drawnDays_26 : decode cX5_drawnDays 26 = .ok (.getfield 12, 3) := by decide +kernel
theorem dX5_drawnDays_29 : decode cX5_drawnDays 29 = .ok (.getfield 76, 3) := by decide +kernel
theorem dX5_drawnDays_32 : decode cX5_drawnDays 32 = .ok (.if_icmp .ge 28, 3) := by decide +kernel
theorem dX5_drawnDays_35 : decode cX5_drawnDays 35 = .ok (.aload_n 0, 1) := by decide +kernel
theorem dX5_drawnDays_36 : decode cX5_drawnDays 36 = .ok (.getfield 12, 3) := by decide +kernel
theorem dX5_drawnDays_39 : decode cX5_drawnDays 39 = .ok (.getfield 44, 3) := by decide +kernel
theorem dX5_drawnDays_42 : decode cX5_drawnDays 42 = .ok (.iload 7, 2) := by decide +kernel
theorem dX5_drawnDays_44 : decode cX5_drawnDays 44 = .ok (.aaload, 1) := by decide +kernel
theorem dX5_drawnDays_45 : decode cX5_drawnDays 45 = .ok (.aload_n 0, 1) := by decide +kernel
theorem dX5_drawnDays_46 : decode cX5_drawnDays 46 = .ok (.bipush 120, 2) := by decide +kernel
theorem dX5_drawnDays_48 : decode cX5_drawnDays 48 = .ok (.invokevirtual 112, 3) := by decide +kernel
theorem dX5_drawnDays_51 : decode cX5_drawnDays 51 = .ok (.putfield 115, 3) := by decide +kernel
theorem dX5_drawnDays_54 : decode cX5_drawnDays 54 = .ok (.iinc 7 1, 3) := by decide +kernel
theorem dX5_drawnDays_57 : decode cX5_drawnDays 57 = .ok (.goto (-34), 3) := by decide +kernel
theorem dX5_drawnDays_60 : decode cX5_drawnDays 60 = .ok (.iload 4, 2) := by decide +kernel
theorem dX5_drawnDays_62 : decode cX5_drawnDays 62 = .ok (.aload_n 0, 1) := by decide +kernel
theorem dX5_drawnDays_63 : decode cX5_drawnDays 63 = .ok (.invokevirtual 70, 3) := by decide +kernel
theorem dX5_drawnDays_66 : decode cX5_drawnDays 66 = .ok (.iadd, 1) := by decide +kernel
theorem dX5_drawnDays_67 : decode cX5_drawnDays 67 = .ok (.istore 4, 2) := by decide +kernel
theorem dX5_drawnDays_69 : decode cX5_drawnDays 69 = .ok (.iload 5, 2) := by decide +kernel
theorem dX5_drawnDays_71 : decode cX5_drawnDays 71 = .ok (.aload_n 0, 1) := by decide +kernel
theorem dX5_drawnDays_72 : decode cX5_drawnDays 72 = .ok (.getfield 12, 3) := by decide +kernel
theorem dX5_drawnDays_75 : decode cX5_drawnDays 75 = .ok (.iconst 3, 1) := by decide +kernel
theorem dX5_drawnDays_76 : decode cX5_drawnDays 76 = .ok (.invokevirtual 34, 3) := by decide +kernel
theorem dX5_drawnDays_79 : decode cX5_drawnDays 79 = .ok (.iadd, 1) := by decide +kernel
theorem dX5_drawnDays_80 : decode cX5_drawnDays 80 = .ok (.istore 5, 2) := by decide +kernel
theorem dX5_drawnDays_82 : decode cX5_drawnDays 82 = .ok (.iinc 6 1, 3) := by decide +kernel
theorem dX5_drawnDays_85 : decode cX5_drawnDays 85 = .ok (.goto (-71), 3) := by decide +kernel
theorem dX5_drawnDays_88 : decode cX5_drawnDays 88 = .ok (.iload_n 3, 1) := by decide +kernel
theorem dX5_drawnDays_89 : decode cX5_drawnDays 89 = .ok (.ifCond .eq 8, 3) := by decide +kernel
theorem dX5_drawnDays_92 : decode cX5_drawnDays 92 = .ok (.iload 4, 2) := by decide +kernel
theorem dX5_drawnDays_94 : decode cX5_drawnDays 94 = .ok (.goto 5, 3) := by decide +kernel
theorem dX5_drawnDays_97 : decode cX5_drawnDays 97 = .ok (.iload 5, 2) := by decide +kernel
theorem dX5_drawnDays_99 : decode cX5_drawnDays 99 = .ok (.ireturn, 1) := by decide +kernel
theorem dX5_draw_0 : decode cX5_draw 0 = .ok (.aload_n 0, 1) := by decide +kernel
theorem dX5_draw_1 : decode cX5_draw 1 = .ok (.aload_n 0, 1) := by decide +kernel
theorem dX5_draw_2 : decode cX5_draw 2 = .ok (.getfield 109, 3) := by decide +kernel
theorem dX5_draw_5 : decode cX5_draw 5 = .ok (.ldc 118, 2) := by decide +kernel
theorem dX5_draw_7 : decode cX5_draw 7 = .ok (.imul, 1) := by decide +kernel
theorem dX5_draw_8 : decode cX5_draw 8 = .ok (.sipush 12345, 3) := by decide +kernel
theorem dX5_draw_11 : decode cX5_draw 11 = .ok (.iadd, 1) := by decide +kernel
theorem dX5_draw_12 : decode cX5_draw 12 = .ok (.putfield 109, 3) := by decide +kernel
theorem dX5_draw_15 : decode cX5_draw 15 = .ok (.iload_n 1, 1) := by decide +kernel
theorem dX5_draw_16 : decode cX5_draw 16 = .ok (.ifCond .le 18, 3) := by decide +kernel
theorem dX5_draw_19 : decode cX5_draw 19 = .ok (.aload_n 0, 1) := by decide +kernel
theorem dX5_draw_20 : decode cX5_draw 20 = .ok (.getfield 109, 3) := by decide +kernel
theorem dX5_draw_23 : decode cX5_draw 23 = .ok (.ldc 69, 2) := by decide +kernel
theorem dX5_draw_25 : decode cX5_draw 25 = .ok (.iand, 1) := by decide +kernel
theorem dX5_draw_26 : decode cX5_draw 26 = .ok (.ldc 119, 2) := by decide +kernel
theorem dX5_draw_28 : decode cX5_draw 28 = .ok (.idiv, 1) := by decide +kernel
theorem dX5_draw_29 : decode cX5_draw 29 = .ok (.iload_n 1, 1) := by decide +kernel
theorem dX5_draw_30 : decode cX5_draw 30 = .ok (.irem, 1) := by decide +kernel
theorem dX5_draw_31 : decode cX5_draw 31 = .ok (.goto 4, 3) := by decide +kernel
theorem dX5_draw_34 : decode cX5_draw 34 = .ok (.iconst 0, 1) := by decide +kernel
theorem dX5_draw_35 : decode cX5_draw 35 = .ok (.ireturn, 1) := by decide +kernel
theorem dX6_init_0 : decode cX6_init 0 = .ok (.aload_n 0, 1) := by decide +kernel
theorem dX6_init_1 : decode cX6_init 1 = .ok (.invokespecial 1, 3) := by decide +kernel
theorem dX6_init_4 : decode cX6_init 4 = .ok (.aload_n 0, 1) := by decide +kernel
theorem dX6_init_5 : decode cX6_init 5 = .ok (.new 7, 3) := by decide +kernel
theorem dX6_init_8 : decode cX6_init 8 = .ok (.dup, 1) := by decide +kernel
theorem dX6_init_9 : decode cX6_init 9 = .ok (.invokespecial 9, 3) := by decide +kernel
theorem dX6_init_12 : decode cX6_init 12 = .ok (.putfield 10, 3) := by decide +kernel
theorem dX6_init_15 : decode cX6_init 15 = .ok (.aload_n 0, 1) := by decide +kernel
theorem dX6_init_16 : decode cX6_init 16 = .ok (.new 7, 3) := by decide +kernel
theorem dX6_init_19 : decode cX6_init 19 = .ok (.dup, 1) := by decide +kernel
theorem dX6_init_20 : decode cX6_init 20 = .ok (.invokespecial 9, 3) := by decide +kernel
theorem dX6_init_23 : decode cX6_init 23 = .ok (.putfield 16, 3) := by decide +kernel
theorem dX6_init_26 : decode cX6_init 26 = .ok (.aload_n 0, 1) := by decide +kernel
theorem dX6_init_27 : decode cX6_init 27 = .ok (.new 19, 3) := by decide +kernel
theorem dX6_init_30 : decode cX6_init 30 = .ok (.dup, 1) := by decide +kernel
theorem dX6_init_31 : decode cX6_init 31 = .ok (.invokespecial 21, 3) := by decide +kernel
theorem dX6_init_34 : decode cX6_init 34 = .ok (.putfield 22, 3) := by decide +kernel
theorem dX6_init_37 : decode cX6_init 37 = .ok (.aload_n 0, 1) := by decide +kernel
theorem dX6_init_38 : decode cX6_init 38 = .ok (.new 26, 3) := by decide +kernel
theorem dX6_init_41 : decode cX6_init 41 = .ok (.dup, 1) := by decide +kernel
theorem dX6_init_42 : decode cX6_init 42 = .ok (.invokespecial 28, 3) := by decide +kernel
theorem dX6_init_45 : decode cX6_init 45 = .ok (.putfield 29, 3) := by decide +kernel
theorem dX6_init_48 : decode cX6_init 48 = .ok (.aload_n 0, 1) := by decide +kernel
theorem dX6_init_49 : decode cX6_init 49 = .ok (.new 33, 3) := by decide +kernel
theorem dX6_init_52 : decode cX6_init 52 = .ok (.dup, 1) := by decide +kernel
theorem dX6_init_53 : decode cX6_init 53 = .ok (.invokespecial 35, 3) := by decide +kernel
theorem dX6_init_56 : decode cX6_init 56 = .ok (.putfield 36, 3) := by decide +kernel
theorem dX6_init_59 : decode cX6_init 59 = .ok (.aload_n 0, 1) := by decide +kernel
theorem dX6_init_60 : decode cX6_init 60 = .ok (.bipush 12, 2) := by decide +kernel
theorem dX6_init_62 : decode cX6_init 62 = .ok (.newarray .int, 2) := by decide +kernel
theorem dX6_init_64 : decode cX6_init 64 = .ok (.putfield 40, 3) := by decide +kernel
theorem dX6_init_67 : decode cX6_init 67 = .ok (.aload_n 0, 1) := by decide +kernel
theorem dX6_init_68 : decode cX6_init 68 = .ok (.bipush 7, 2) := by decide +kernel
theorem dX6_init_70 : decode cX6_init 70 = .ok (.newarray .int, 2) := by decide +kernel
theorem dX6_init_72 : decode cX6_init 72 = .ok (.putfield 44, 3) := by decide +kernel
theorem dX6_init_75 : decode cX6_init 75 = .ok (.return_, 1) := by decide +kernel
theorem dX6_feed_0 : decode cX6_feed 0 = .ok (.iload_n 1, 1) := by decide +kernel
theorem dX6_feed_1 : decode cX6_feed 1 = .ok (.ifCond .ge 10, 3) := by decide +kernel
theorem dX6_feed_4 : decode cX6_feed 4 = .ok (.aload_n 0, 1) := by decide +kernel
theorem dX6_feed_5 : decode cX6_feed 5 = .ok (.bipush (-4), 2) := by decide +kernel
theorem dX6_feed_7 : decode cX6_feed 7 = .ok (.invokevirtual 47, 3) := by decide +kernel
theorem dX6_feed_10 : decode cX6_feed 10 = .ok (.ireturn, 1) := by decide +kernel
theorem dX6_feed_11 : decode cX6_feed 11 = .ok (.iload_n 1, 1) := by decide +kernel
theorem dX6_feed_12 : decode cX6_feed 12 = .ok (.sipush 255, 3) := by decide +kernel
theorem dX6_feed_15 : decode cX6_feed 15 = .ok (.if_icmp .gt 15, 3) := by decide +kernel
theorem dX6_feed_18 : decode cX6_feed 18 = .ok (.aload_n 0, 1) := by decide +kernel
theorem dX6_feed_19 : decode cX6_feed 19 = .ok (.getfield 36, 3) := by decide +kernel
theorem dX6_feed_22 : decode cX6_feed 22 = .ok (.getfield 51, 3) := by decide +kernel
theorem dX6_feed_25 : decode cX6_feed 25 = .ok (.bipush 96, 2) := by decide +kernel
theorem dX6_feed_27 : decode cX6_feed 27 = .ok (.if_icmp .lt 10, 3) := by decide +kernel
theorem dX6_feed_30 : decode cX6_feed 30 = .ok (.aload_n 0, 1) := by decide +kernel
theorem dX6_feed_31 : decode cX6_feed 31 = .ok (.bipush (-6), 2) := by decide +kernel
theorem dX6_feed_33 : decode cX6_feed 33 = .ok (.invokevirtual 47, 3) := by decide +kernel
theorem dX6_feed_36 : decode cX6_feed 36 = .ok (.ireturn, 1) := by decide +kernel
theorem dX6_feed_37 : decode cX6_feed 37 = .ok (.aload_n 0, 1) := by decide +kernel
theorem dX6_feed_38 : decode cX6_feed 38 = .ok (.getfield 36, 3) := by decide +kernel
theorem dX6_feed_41 : decode cX6_feed 41 = .ok (.iload_n 1, 1) := by decide +kernel
theorem dX6_feed_42 : decode cX6_feed 42 = .ok (.invokevirtual 55, 3) := by decide +kernel
theorem dX6_feed_45 : decode cX6_feed 45 = .ok (.ireturn, 1) := by decide +kernel
theorem dX6_office_0 : decode cX6_office 0 = .ok (.aload_n 0, 1) := by decide +kernel
theorem dX6_office_1 : decode cX6_office 1 = .ok (.getfield 22, 3) := by decide +kernel
theorem dX6_office_4 : decode cX6_office 4 = .ok (.aload_n 0, 1) := by decide +kernel
theorem dX6_office_5 : decode cX6_office 5 = .ok (.getfield 10, 3) := by decide +kernel
theorem dX6_office_8 : decode cX6_office 8 = .ok (.invokevirtual 58, 3) := by decide +kernel
theorem dX6_office_11 : decode cX6_office 11 = .ok (.aload_n 0, 1) := by decide +kernel
theorem dX6_office_12 : decode cX6_office 12 = .ok (.getfield 36, 3) := by decide +kernel
theorem dX6_office_15 : decode cX6_office 15 = .ok (.aload_n 0, 1) := by decide +kernel
theorem dX6_office_16 : decode cX6_office 16 = .ok (.getfield 22, 3) := by decide +kernel
theorem dX6_office_19 : decode cX6_office 19 = .ok (.getfield 62, 3) := by decide +kernel
theorem dX6_office_22 : decode cX6_office 22 = .ok (.invokevirtual 65, 3) := by decide +kernel
theorem dX6_office_25 : decode cX6_office 25 = .ok (.istore_n 1, 1) := by decide +kernel
theorem dX6_office_26 : decode cX6_office 26 = .ok (.iload_n 1, 1) := by decide +kernel
theorem dX6_office_27 : decode cX6_office 27 = .ok (.ifCond .le 17, 3) := by decide +kernel
theorem dX6_office_30 : decode cX6_office 30 = .ok (.aload_n 0, 1) := by decide +kernel
theorem dX6_office_31 : decode cX6_office 31 = .ok (.getfield 10, 3) := by decide +kernel
theorem dX6_office_34 : decode cX6_office 34 = .ok (.aload_n 0, 1) := by decide +kernel
theorem dX6_office_35 : decode cX6_office 35 = .ok (.getfield 22, 3) := by decide +kernel
theorem dX6_office_38 : decode cX6_office 38 = .ok (.getfield 62, 3) := by decide +kernel
theorem dX6_office_41 : decode cX6_office 41 = .ok (.invokevirtual 69, 3) := by decide +kernel
theorem dX6_office_44 : decode cX6_office 44 = .ok (.aload_n 0, 1) := by decide +kernel
theorem dX6_office_45 : decode cX6_office 45 = .ok (.getfield 36, 3) := by decide +kernel
theorem dX6_office_48 : decode cX6_office 48 = .ok (.iconst 0, 1) := by decide +kernel
theorem dX6_office_49 : decode cX6_office 49 = .ok (.putfield 51, 3) := by decide +kernel
theorem dX6_office_52 : decode cX6_office 52 = .ok (.iload_n 1, 1) := by decide +kernel
theorem dX6_office_53 : decode cX6_office 53 = .ok (.ireturn, 1) := by decide +kernel
theorem dX6_comer_0 : decode cX6_comer 0 = .ok (.aload_n 0, 1) := by decide +kernel
theorem dX6_comer_1 : decode cX6_comer 1 = .ok (.getfield 10, 3) := by decide +kernel
theorem dX6_comer_4 : decode cX6_comer 4 = .ok (.iload_n 1, 1) := by decide +kernel
theorem dX6_comer_5 : decode cX6_comer 5 = .ok (.invokevirtual 72, 3) := by decide +kernel
theorem dX6_comer_8 : decode cX6_comer 8 = .ok (.ifCond .ne 9, 3) := by decide +kernel
theorem dX6_comer_11 : decode cX6_comer 11 = .ok (.aload_n 0, 1) := by decide +kernel
theorem dX6_comer_12 : decode cX6_comer 12 = .ok (.iconst (-1), 1) := by decide +kernel
theorem dX6_comer_13 : decode cX6_comer 13 = .ok (.invokevirtual 47, 3) := by decide +kernel
theorem dX6_comer_16 : decode cX6_comer 16 = .ok (.ireturn, 1) := by decide +kernel
theorem dX6_comer_17 : decode cX6_comer 17 = .ok (.iload_n 2, 1) := by decide +kernel
theorem dX6_comer_18 : decode cX6_comer 18 = .ok (.ifCond .lt 9, 3) := by decide +kernel
theorem dX6_comer_21 : decode cX6_comer 21 = .ok (.iload_n 2, 1) := by decide +kernel
theorem dX6_comer_22 : decode cX6_comer 22 = .ok (.bipush 7, 2) := by decide +kernel
theorem dX6_comer_24 : decode cX6_comer 24 = .ok (.if_icmp .le 10, 3) := by decide +kernel
theorem dX6_comer_27 : decode cX6_comer 27 = .ok (.aload_n 0, 1) := by decide +kernel
theorem dX6_comer_28 : decode cX6_comer 28 = .ok (.bipush (-2), 2) := by decide +kernel
theorem dX6_comer_30 : decode cX6_comer 30 = .ok (.invokevirtual 47, 3) := by decide +kernel
theorem dX6_comer_33 : decode cX6_comer 33 = .ok (.ireturn, 1) := by decide +kernel
theorem dX6_comer_34 : decode cX6_comer 34 = .ok (.aload_n 0, 1) := by decide +kernel
theorem dX6_comer_35 : decode cX6_comer 35 = .ok (.getfield 10, 3) := by decide +kernel
theorem dX6_comer_38 : decode cX6_comer 38 = .ok (.getfield 76, 3) := by decide +kernel
theorem dX6_comer_41 : decode cX6_comer 41 = .ok (.iload_n 1, 1) := by decide +kernel
theorem dX6_comer_42 : decode cX6_comer 42 = .ok (.aaload, 1) := by decide +kernel
theorem dX6_comer_43 : decode cX6_comer 43 = .ok (.astore_n 3, 1) := by decide +kernel
theorem dX6_comer_44 : decode cX6_comer 44 = .ok (.iload_n 2, 1) := by decide +kernel
theorem dX6_comer_45 : decode cX6_comer 45 = .ok (.bipush 7, 2) := by decide +kernel
theorem dX6_comer_47 : decode cX6_comer 47 = .ok (.if_icmp .ne 18, 3) := by decide +kernel
theorem dX6_comer_50 : decode cX6_comer 50 = .ok (.aload_n 0, 1) := by decide +kernel
theorem dX6_comer_51 : decode cX6_comer 51 = .ok (.getfield 10, 3) := by decide +kernel
theorem dX6_comer_54 : decode cX6_comer 54 = .ok (.aload_n 3, 1) := by decide +kernel
theorem dX6_comer_55 : decode cX6_comer 55 = .ok (.aload_n 3, 1) := by decide +kernel
theorem dX6_comer_56 : decode cX6_comer 56 = .ok (.getfield 80, 3) := by decide +kernel
theorem dX6_comer_59 : decode cX6_comer 59 = .ok (.invokevirtual 85, 3) := by decide +kernel
theorem dX6_comer_62 : decode cX6_comer 62 = .ok (.goto 8, 3) := by decide +kernel
theorem dX6_comer_65 : decode cX6_comer 65 = .ok (.aload_n 3, 1) := by decide +kernel
theorem dX6_comer_66 : decode cX6_comer 66 = .ok (.iload_n 2, 1) := by decide +kernel
theorem dX6_comer_67 : decode cX6_comer 67 = .ok (.invokevirtual 89, 3) := by decide +kernel
theorem dX6_comer_70 : decode cX6_comer 70 = .ok (.ireturn, 1) := by decide +kernel
theorem dX6_kind_0 : decode cX6_kind 0 = .ok (.aload_n 0, 1) := by decide +kernel
theorem dX6_kind_1 : decode cX6_kind 1 = .ok (.getfield 10, 3) := by decide +kernel
theorem dX6_kind_4 : decode cX6_kind 4 = .ok (.iload_n 1, 1) := by decide +kernel
theorem dX6_kind_5 : decode cX6_kind 5 = .ok (.invokevirtual 72, 3) := by decide +kernel
theorem dX6_kind_8 : decode cX6_kind 8 = .ok (.ifCond .ne 9, 3) := by decide +kernel
theorem dX6_kind_11 : decode cX6_kind 11 = .ok (.aload_n 0, 1) := by decide +kernel
theorem dX6_kind_12 : decode cX6_kind 12 = .ok (.iconst (-1), 1) := by decide +kernel
theorem dX6_kind_13 : decode cX6_kind 13 = .ok (.invokevirtual 47, 3) := by decide +kernel
theorem dX6_kind_16 : decode cX6_kind 16 = .ok (.ireturn, 1) := by decide +kernel
theorem dX6_kind_17 : decode cX6_kind 17 = .ok (.iload_n 2, 1) := by decide +kernel
theorem dX6_kind_18 : decode cX6_kind 18 = .ok (.ifCond .lt 9, 3) := by decide +kernel
theorem dX6_kind_21 : decode cX6_kind 21 = .ok (.iload_n 2, 1) := by decide +kernel
theorem dX6_kind_22 : decode cX6_kind 22 = .ok (.bipush 7, 2) := by decide +kernel
theorem dX6_kind_24 : decode cX6_kind 24 = .ok (.if_icmp .lt 10, 3) := by decide +kernel
theorem dX6_kind_27 : decode cX6_kind 27 = .ok (.aload_n 0, 1) := by decide +kernel
theorem dX6_kind_28 : decode cX6_kind 28 = .ok (.bipush (-2), 2) := by decide +kernel
theorem dX6_kind_30 : decode cX6_kind 30 = .ok (.invokevirtual 47, 3) := by decide +kernel
theorem dX6_kind_33 : decode cX6_kind 33 = .ok (.ireturn, 1) := by decide +kernel
theorem dX6_kind_34 : decode cX6_kind 34 = .ok (.iload_n 3, 1) := by decide +kernel
theorem dX6_kind_35 : decode cX6_kind 35 = .ok (.ifCond .ge 10, 3) := by decide +kernel
theorem dX6_kind_38 : decode cX6_kind 38 = .ok (.aload_n 0, 1) := by decide +kernel
theorem dX6_kind_39 : decode cX6_kind 39 = .ok (.bipush (-4), 2) := by decide +kernel
theorem dX6_kind_41 : decode cX6_kind 41 = .ok (.invokevirtual 47, 3) := by decide +kernel
theorem dX6_kind_44 : decode cX6_kind 44 = .ok (.ireturn, 1) := by decide +kernel
theorem dX6_kind_45 : decode cX6_kind 45 = .ok (.iload_n 3, 1) := by decide +kernel
theorem dX6_kind_46 : decode cX6_kind 46 = .ok (.bipush 9, 2) := by decide +kernel
theorem dX6_kind_48 : decode cX6_kind 48 = .ok (.if_icmp .le 10, 3) := by decide +kernel
theorem dX6_kind_51 : decode cX6_kind 51 = .ok (.aload_n 0, 1) := by decide +kernel
theorem dX6_kind_52 : decode cX6_kind 52 = .ok (.bipush (-6), 2) := by decide +kernel
theorem dX6_kind_54 : decode cX6_kind 54 = .ok (.invokevirtual 47, 3) := by decide +kernel
theorem dX6_kind_57 : decode cX6_kind 57 = .ok (.ireturn, 1) := by decide +kernel
theorem dX6_kind_58 : decode cX6_kind 58 = .ok (.aload_n 0, 1) := by decide +kernel
theorem dX6_kind_59 : decode cX6_kind 59 = .ok (.getfield 10, 3) := by decide +kernel
theorem dX6_kind_62 : decode cX6_kind 62 = .ok (.getfield 76, 3) := by decide +kernel
theorem dX6_kind_65 : decode cX6_kind 65 = .ok (.iload_n 1, 1) := by decide +kernel
theorem dX6_kind_66 : decode cX6_kind 66 = .ok (.aaload, 1) := by decide +kernel
theorem dX6_kind_67 : decode cX6_kind 67 = .ok (.astore 4, 2) := by decide +kernel
theorem dX6_kind_69 : decode cX6_kind 69 = .ok (.bipush 10, 2) := by decide +kernel
theorem dX6_kind_71 : decode cX6_kind 71 = .ok (.aload 4, 2) := by decide +kernel
theorem dX6_kind_73 : decode cX6_kind 73 = .ok (.getfield 80, 3) := by decide +kernel
theorem dX6_kind_76 : decode cX6_kind 76 = .ok (.imul, 1) := by decide +kernel
theorem dX6_kind_77 : decode cX6_kind 77 = .ok (.aload 4, 2) := by decide +kernel
theorem dX6_kind_79 : decode cX6_kind 79 = .ok (.getfield 92, 3) := by decide +kernel
theorem dX6_kind_82 : decode cX6_kind 82 = .ok (.iadd, 1) := by decide +kernel
theorem dX6_kind_83 : decode cX6_kind 83 = .ok (.istore 5, 2) := by decide +kernel
theorem dX6_kind_85 : decode cX6_kind 85 = .ok (.aload 4, 2) := by decide +kernel
theorem dX6_kind_87 : decode cX6_kind 87 = .ok (.iload_n 2, 1) := by decide +kernel
theorem dX6_kind_88 : decode cX6_kind 88 = .ok (.iload_n 3, 1) := by decide +kernel
theorem dX6_kind_89 : decode cX6_kind 89 = .ok (.invokevirtual 95, 3) := by decide +kernel
theorem dX6_kind_92 : decode cX6_kind 92 = .ok (.iload 5, 2) := by decide +kernel
theorem dX6_kind_94 : decode cX6_kind 94 = .ok (.ireturn, 1) := by decide +kernel
theorem dX6_kettle_0 : decode cX6_kettle 0 = .ok (.iload_n 1, 1) := by decide +kernel
theorem dX6_kettle_1 : decode cX6_kettle 1 = .ok (.ifCond .lt 14, 3) := by decide +kernel
theorem dX6_kettle_4 : decode cX6_kettle 4 = .ok (.iload_n 1, 1) := by decide +kernel
theorem dX6_kettle_5 : decode cX6_kettle 5 = .ok (.aload_n 0, 1) := by decide +kernel
theorem dX6_kettle_6 : decode cX6_kettle 6 = .ok (.getfield 10, 3) := by decide +kernel
theorem dX6_kettle_9 : decode cX6_kettle 9 = .ok (.invokevirtual 99, 3) := by decide +kernel
theorem dX6_kettle_12 : decode cX6_kettle 12 = .ok (.if_icmp .lt 9, 3) := by decide +kernel
theorem dX6_kettle_15 : decode cX6_kettle 15 = .ok (.aload_n 0, 1) := by decide +kernel
theorem dX6_kettle_16 : decode cX6_kettle 16 = .ok (.iconst (-1), 1) := by decide +kernel
theorem dX6_kettle_17 : decode cX6_kettle 17 = .ok (.invokevirtual 47, 3) := by decide +kernel
theorem dX6_kettle_20 : decode cX6_kettle 20 = .ok (.ireturn, 1) := by decide +kernel
theorem dX6_kettle_21 : decode cX6_kettle 21 = .ok (.iload_n 2, 1) := by decide +kernel
theorem dX6_kettle_22 : decode cX6_kettle 22 = .ok (.ifCond .lt 8, 3) := by decide +kernel
theorem dX6_kettle_25 : decode cX6_kettle 25 = .ok (.iload_n 2, 1) := by decide +kernel
theorem dX6_kettle_26 : decode cX6_kettle 26 = .ok (.iconst 3, 1) := by decide +kernel
theorem dX6_kettle_27 : decode cX6_kettle 27 = .ok (.if_icmp .le 10, 3) := by decide +kernel
theorem dX6_kettle_30 : decode cX6_kettle 30 = .ok (.aload_n 0, 1) := by decide +kernel
theorem dX6_kettle_31 : decode cX6_kettle 31 = .ok (.bipush (-2), 2) := by decide +kernel
theorem dX6_kettle_33 : decode cX6_kettle 33 = .ok (.invokevirtual 47, 3) := by decide +kernel
theorem dX6_kettle_36 : decode cX6_kettle 36 = .ok (.ireturn, 1) := by decide +kernel
theorem dX6_kettle_37 : decode cX6_kettle 37 = .ok (.aload_n 0, 1) := by decide +kernel
theorem dX6_kettle_38 : decode cX6_kettle 38 = .ok (.getfield 10, 3) := by decide +kernel
theorem dX6_kettle_41 : decode cX6_kettle 41 = .ok (.getfield 103, 3) := by decide +kernel
theorem dX6_kettle_44 : decode cX6_kettle 44 = .ok (.iload_n 1, 1) := by decide +kernel
theorem dX6_kettle_45 : decode cX6_kettle 45 = .ok (.aaload, 1) := by decide +kernel
theorem dX6_kettle_46 : decode cX6_kettle 46 = .ok (.iload_n 2, 1) := by decide +kernel
theorem dX6_kettle_47 : decode cX6_kettle 47 = .ok (.aload_n 0, 1) := by decide +kernel
theorem dX6_kettle_48 : decode cX6_kettle 48 = .ok (.getfield 10, 3) := by decide +kernel
theorem dX6_kettle_51 : decode cX6_kettle 51 = .ok (.getfield 107, 3) := by decide +kernel
theorem dX6_kettle_54 : decode cX6_kettle 54 = .ok (.invokevirtual 110, 3) := by decide +kernel
theorem dX6_kettle_57 : decode cX6_kettle 57 = .ok (.ireturn, 1) := by decide +kernel
theorem dX6_set_0 : decode cX6_set 0 = .ok (.aload_n 0, 1) := by decide +kernel
theorem dX6_set_1 : decode cX6_set 1 = .ok (.getfield 10, 3) := by decide +kernel
theorem dX6_set_4 : decode cX6_set 4 = .ok (.iload_n 1, 1) := by decide +kernel
theorem dX6_set_5 : decode cX6_set 5 = .ok (.iload_n 2, 1) := by decide +kernel
theorem dX6_set_6 : decode cX6_set 6 = .ok (.invokevirtual 115, 3) := by decide +kernel
theorem dX6_set_9 : decode cX6_set 9 = .ok (.istore_n 3, 1) := by decide +kernel
theorem dX6_set_10 : decode cX6_set 10 = .ok (.iload_n 3, 1) := by decide +kernel
theorem dX6_set_11 : decode cX6_set 11 = .ok (.ifCond .eq 11, 3) := by decide +kernel
theorem dX6_set_14 : decode cX6_set 14 = .ok (.aload_n 0, 1) := by decide +kernel
theorem dX6_set_15 : decode cX6_set 15 = .ok (.iload_n 3, 1) := by decide +kernel
theorem dX6_set_16 : decode cX6_set 16 = .ok (.invokevirtual 47, 3) := by decide +kernel
theorem dX6_set_19 : decode cX6_set 19 = .ok (.goto 12, 3) := by decide +kernel
theorem dX6_set_22 : decode cX6_set 22 = .ok (.aload_n 0, 1) := by decide +kernel
theorem dX6_set_23 : decode cX6_set 23 = .ok (.getfield 10, 3) := by decide +kernel
theorem dX6_set_26 : decode cX6_set 26 = .ok (.iload_n 1, 1) := by decide +kernel
theorem dX6_set_27 : decode cX6_set 27 = .ok (.iload_n 2, 1) := by decide +kernel
theorem dX6_set_28 : decode cX6_set 28 = .ok (.invokevirtual 118, 3) := by decide +kernel
theorem dX6_set_31 : decode cX6_set 31 = .ok (.ireturn, 1) := by decide +kernel
theorem dX6_go_0 : decode cX6_go 0 = .ok (.iload_n 1, 1) := by decide +kernel
theorem dX6_go_1 : decode cX6_go 1 = .ok (.iconst 1, 1) := by decide +kernel
theorem dX6_go_2 : decode cX6_go 2 = .ok (.if_icmp .ge 10, 3) := by decide +kernel
theorem dX6_go_5 : decode cX6_go 5 = .ok (.aload_n 0, 1) := by decide +kernel
theorem dX6_go_6 : decode cX6_go 6 = .ok (.bipush (-4), 2) := by decide +kernel
theorem dX6_go_8 : decode cX6_go 8 = .ok (.invokevirtual 47, 3) := by decide +kernel
theorem dX6_go_11 : decode cX6_go 11 = .ok (.ireturn, 1) := by decide +kernel
theorem dX6_go_12 : decode cX6_go 12 = .ok (.iload_n 1, 1) := by decide +kernel
theorem dX6_go_13 : decode cX6_go 13 = .ok (.bipush 60, 2) := by decide +kernel
theorem dX6_go_15 : decode cX6_go 15 = .ok (.if_icmp .le 10, 3) := by decide +kernel
theorem dX6_go_18 : decode cX6_go 18 = .ok (.aload_n 0, 1) := by decide +kernel
theorem dX6_go_19 : decode cX6_go 19 = .ok (.bipush (-6), 2) := by decide +kernel
theorem dX6_go_21 : decode cX6_go 21 = .ok (.invokevirtual 47, 3) := by decide +kernel
theorem dX6_go_24 : decode cX6_go 24 = .ok (.ireturn, 1) := by decide +kernel
theorem dX6_go_25 : decode cX6_go 25 = .ok (.aload_n 0, 1) := by decide +kernel
theorem dX6_go_26 : decode cX6_go 26 = .ok (.getfield 10, 3) := by decide +kernel
theorem dX6_go_29 : decode cX6_go 29 = .ok (.invokevirtual 121, 3) := by decide +kernel
theorem dX6_go_32 : decode cX6_go 32 = .ok (.ifCond .eq 10, 3) := by decide +kernel
theorem dX6_go_35 : decode cX6_go 35 = .ok (.aload_n 0, 1) := by decide +kernel
theorem dX6_go_36 : decode cX6_go 36 = .ok (.bipush (-3), 2) := by decide +kernel
theorem dX6_go_38 : decode cX6_go 38 = .ok (.invokevirtual 47, 3) := by decide +kernel
theorem dX6_go_41 : decode cX6_go 41 = .ok (.ireturn, 1) := by decide +kernel
theorem dX6_go_42 : decode cX6_go 42 = .ok (.aload_n 0, 1) := by decide +kernel
theorem dX6_go_43 : decode cX6_go 43 = .ok (.getfield 10, 3) := by decide +kernel
theorem dX6_go_46 : decode cX6_go 46 = .ok (.iload_n 1, 1) := by decide +kernel
theorem dX6_go_47 : decode cX6_go 47 = .ok (.invokevirtual 125, 3) := by decide +kernel
theorem dX6_go_50 : decode cX6_go 50 = .ok (.aload_n 0, 1) := by decide +kernel
theorem dX6_go_51 : decode cX6_go 51 = .ok (.getfield 10, 3) := by decide +kernel
theorem dX6_go_54 : decode cX6_go 54 = .ok (.getfield 107, 3) := by decide +kernel
theorem dX6_go_57 : decode cX6_go 57 = .ok (.ireturn, 1) := by decide +kernel
theorem dX6_anew_0 : decode cX6_anew 0 = .ok (.aload_n 0, 1) := by decide +kernel
theorem dX6_anew_1 : decode cX6_anew 1 = .ok (.getfield 10, 3) := by decide +kernel
theorem dX6_anew_4 : decode cX6_anew 4 = .ok (.getfield 107, 3) := by decide +kernel
theorem dX6_anew_7 : decode cX6_anew 7 = .ok (.istore_n 1, 1) := by decide +kernel
theorem dX6_anew_8 : decode cX6_anew 8 = .ok (.aload_n 0, 1) := by decide +kernel
theorem dX6_anew_9 : decode cX6_anew 9 = .ok (.getfield 10, 3) := by decide +kernel
theorem dX6_anew_12 : decode cX6_anew 12 = .ok (.invokevirtual 129, 3) := by decide +kernel
theorem dX6_anew_15 : decode cX6_anew 15 = .ok (.iload_n 1, 1) := by decide +kernel
theorem dX6_anew_16 : decode cX6_anew 16 = .ok (.ireturn, 1) := by decide +kernel
theorem dX6_line_0 : decode cX6_line 0 = .ok (.iload_n 1, 1) := by decide +kernel
theorem dX6_line_1 : decode cX6_line 1 = .ok (.ifCond .ge 10, 3) := by decide +kernel
theorem dX6_line_4 : decode cX6_line 4 = .ok (.aload_n 0, 1) := by decide +kernel
theorem dX6_line_5 : decode cX6_line 5 = .ok (.bipush (-4), 2) := by decide +kernel
theorem dX6_line_7 : decode cX6_line 7 = .ok (.invokevirtual 47, 3) := by decide +kernel
theorem dX6_line_10 : decode cX6_line 10 = .ok (.ireturn, 1) := by decide +kernel
theorem dX6_line_11 : decode cX6_line 11 = .ok (.iload_n 1, 1) := by decide +kernel
theorem dX6_line_12 : decode cX6_line 12 = .ok (.aload_n 0, 1) := by decide +kernel
theorem dX6_line_13 : decode cX6_line 13 = .ok (.getfield 10, 3) := by decide +kernel
theorem dX6_line_16 : decode cX6_line 16 = .ok (.getfield 132, 3) := by decide +kernel
theorem dX6_line_19 : decode cX6_line 19 = .ok (.if_icmp .ge 15, 3) := by decide +kernel
theorem dX6_line_22 : decode cX6_line 22 = .ok (.aload_n 0, 1) := by decide +kernel
theorem dX6_line_23 : decode cX6_line 23 = .ok (.getfield 10, 3) := by decide +kernel
theorem dX6_line_26 : decode cX6_line 26 = .ok (.getfield 135, 3) := by decide +kernel
theorem dX6_line_29 : decode cX6_line 29 = .ok (.iload_n 1, 1) := by decide +kernel
theorem dX6_line_30 : decode cX6_line 30 = .ok (.iaload, 1) := by decide +kernel
theorem dX6_line_31 : decode cX6_line 31 = .ok (.goto 5, 3) := by decide +kernel
theorem dX6_line_34 : decode cX6_line 34 = .ok (.bipush (-9), 2) := by decide +kernel
theorem dX6_line_36 : decode cX6_line 36 = .ok (.ireturn, 1) := by decide +kernel
theorem dX6_rest_0 : decode cX6_rest 0 = .ok (.iload_n 1, 1) := by decide +kernel
theorem dX6_rest_1 : decode cX6_rest 1 = .ok (.ifCond .lt 8, 3) := by decide +kernel
theorem dX6_rest_4 : decode cX6_rest 4 = .ok (.iload_n 1, 1) := by decide +kernel
theorem dX6_rest_5 : decode cX6_rest 5 = .ok (.iconst 4, 1) := by decide +kernel
theorem dX6_rest_6 : decode cX6_rest 6 = .ok (.if_icmp .le 10, 3) := by decide +kernel
theorem dX6_rest_9 : decode cX6_rest 9 = .ok (.aload_n 0, 1) := by decide +kernel
theorem dX6_rest_10 : decode cX6_rest 10 = .ok (.bipush (-2), 2) := by decide +kernel
theorem dX6_rest_12 : decode cX6_rest 12 = .ok (.invokevirtual 47, 3) := by decide +kernel
theorem dX6_rest_15 : decode cX6_rest 15 = .ok (.ireturn, 1) := by decide +kernel
theorem dX6_rest_16 : decode cX6_rest 16 = .ok (.aload_n 0, 1) := by decide +kernel
theorem dX6_rest_17 : decode cX6_rest 17 = .ok (.getfield 22, 3) := by decide +kernel
theorem dX6_rest_20 : decode cX6_rest 20 = .ok (.aload_n 0, 1) := by decide +kernel
theorem dX6_rest_21 : decode cX6_rest 21 = .ok (.getfield 10, 3) := by decide +kernel
theorem dX6_rest_24 : decode cX6_rest 24 = .ok (.invokevirtual 58, 3) := by decide +kernel
theorem dX6_rest_27 : decode cX6_rest 27 = .ok (.aload_n 0, 1) := by decide +kernel
theorem dX6_rest_28 : decode cX6_rest 28 = .ok (.getfield 22, 3) := by decide +kernel
theorem dX6_rest_31 : decode cX6_rest 31 = .ok (.iload_n 1, 1) := by decide +kernel
theorem dX6_rest_32 : decode cX6_rest 32 = .ok (.invokevirtual 138, 3) := by decide +kernel
theorem dX6_rest_35 : decode cX6_rest 35 = .ok (.ireturn, 1) := by decide +kernel
theorem dX6_when_0 : decode cX6_when 0 = .ok (.aload_n 0, 1) := by decide +kernel
theorem dX6_when_1 : decode cX6_when 1 = .ok (.getfield 10, 3) := by decide +kernel
theorem dX6_when_4 : decode cX6_when 4 = .ok (.iload_n 1, 1) := by decide +kernel
theorem dX6_when_5 : decode cX6_when 5 = .ok (.invokevirtual 72, 3) := by decide +kernel
theorem dX6_when_8 : decode cX6_when 8 = .ok (.ifCond .ne 9, 3) := by decide +kernel
theorem dX6_when_11 : decode cX6_when 11 = .ok (.aload_n 0, 1) := by decide +kernel
theorem dX6_when_12 : decode cX6_when 12 = .ok (.iconst (-1), 1) := by decide +kernel
theorem dX6_when_13 : decode cX6_when 13 = .ok (.invokevirtual 47, 3) := by decide +kernel
theorem dX6_when_16 : decode cX6_when 16 = .ok (.ireturn, 1) := by decide +kernel
theorem dX6_when_17 : decode cX6_when 17 = .ok (.aload_n 0, 1) := by decide +kernel
theorem dX6_when_18 : decode cX6_when 18 = .ok (.getfield 22, 3) := by decide +kernel
theorem dX6_when_21 : decode cX6_when 21 = .ok (.aload_n 0, 1) := by decide +kernel
theorem dX6_when_22 : decode cX6_when 22 = .ok (.getfield 10, 3) := by decide +kernel
theorem dX6_when_25 : decode cX6_when 25 = .ok (.invokevirtual 58, 3) := by decide +kernel
theorem dX6_when_28 : decode cX6_when 28 = .ok (.aload_n 0, 1) := by decide +kernel
theorem dX6_when_29 : decode cX6_when 29 = .ok (.getfield 22, 3) := by decide +kernel
theorem dX6_when_32 : decode cX6_when 32 = .ok (.iload_n 1, 1) := by decide +kernel
theorem dX6_when_33 : decode cX6_when 33 = .ok (.invokevirtual 141, 3) := by decide +kernel
theorem dX6_when_36 : decode cX6_when 36 = .ok (.ireturn, 1) := by decide +kernel
theorem dX6_best_0 : decode cX6_best 0 = .ok (.aload_n 0, 1) := by decide +kernel
theorem dX6_best_1 : decode cX6_best 1 = .ok (.getfield 10, 3) := by decide +kernel
theorem dX6_best_4 : decode cX6_best 4 = .ok (.iload_n 1, 1) := by decide +kernel
theorem dX6_best_5 : decode cX6_best 5 = .ok (.invokevirtual 72, 3) := by decide +kernel
theorem dX6_best_8 : decode cX6_best 8 = .ok (.ifCond .ne 9, 3) := by decide +kernel
theorem dX6_best_11 : decode cX6_best 11 = .ok (.aload_n 0, 1) := by decide +kernel
theorem dX6_best_12 : decode cX6_best 12 = .ok (.iconst (-1), 1) := by decide +kernel
theorem dX6_best_13 : decode cX6_best 13 = .ok (.invokevirtual 47, 3) := by decide +kernel
theorem dX6_best_16 : decode cX6_best 16 = .ok (.ireturn, 1) := by decide +kernel
theorem dX6_best_17 : decode cX6_best 17 = .ok (.iload_n 2, 1) := by decide +kernel
theorem dX6_best_18 : decode cX6_best 18 = .ok (.ifCond .eq 15, 3) := by decide +kernel
theorem dX6_best_21 : decode cX6_best 21 = .ok (.iload_n 2, 1) := by decide +kernel
theorem dX6_best_22 : decode cX6_best 22 = .ok (.iconst 1, 1) := by decide +kernel
theorem dX6_best_23 : decode cX6_best 23 = .ok (.if_icmp .eq 10, 3) := by decide +kernel
theorem dX6_best_26 : decode cX6_best 26 = .ok (.aload_n 0, 1) := by decide +kernel
theorem dX6_best_27 : decode cX6_best 27 = .ok (.bipush (-2), 2) := by decide +kernel
theorem dX6_best_29 : decode cX6_best 29 = .ok (.invokevirtual 47, 3) := by decide +kernel
theorem dX6_best_32 : decode cX6_best 32 = .ok (.ireturn, 1) := by decide +kernel
theorem dX6_best_33 : decode cX6_best 33 = .ok (.aload_n 0, 1) := by decide +kernel
theorem dX6_best_34 : decode cX6_best 34 = .ok (.getfield 22, 3) := by decide +kernel
theorem dX6_best_37 : decode cX6_best 37 = .ok (.aload_n 0, 1) := by decide +kernel
theorem dX6_best_38 : decode cX6_best 38 = .ok (.getfield 10, 3) := by decide +kernel
theorem dX6_best_41 : decode cX6_best 41 = .ok (.invokevirtual 58, 3) := by decide +kernel
theorem dX6_best_44 : decode cX6_best 44 = .ok (.aload_n 0, 1) := by decide +kernel
theorem dX6_best_45 : decode cX6_best 45 = .ok (.getfield 22, 3) := by decide +kernel
theorem dX6_best_48 : decode cX6_best 48 = .ok (.iload_n 1, 1) := by decide +kernel
theorem dX6_best_49 : decode cX6_best 49 = .ok (.iload_n 2, 1) := by decide +kernel
theorem dX6_best_50 : decode cX6_best 50 = .ok (.ifCond .ne 7, 3) := by decide +kernel
theorem dX6_best_53 : decode cX6_best 53 = .ok (.iconst 1, 1) := by decide +kernel
theorem dX6_best_54 : decode cX6_best 54 = .ok (.goto 4, 3) := by decide +kernel
theorem dX6_best_57 : decode cX6_best 57 = .ok (.iconst 0, 1) := by decide +kernel
theorem dX6_best_58 : decode cX6_best 58 = .ok (.invokevirtual 144, 3) := by decide +kernel
theorem dX6_best_61 : decode cX6_best 61 = .ok (.ireturn, 1) := by decide +kernel
theorem dX6_rounds_0 : decode cX6_rounds 0 = .ok (.iload_n 1, 1) := by decide +kernel
theorem dX6_rounds_1 : decode cX6_rounds 1 = .ok (.ifCond .lt 8, 3) := by decide +kernel
theorem dX6_rounds_4 : decode cX6_rounds 4 = .ok (.iload_n 1, 1) := by decide +kernel
theorem dX6_rounds_5 : decode cX6_rounds 5 = .ok (.iconst 3, 1) := by decide +kernel
theorem dX6_rounds_6 : decode cX6_rounds 6 = .ok (.if_icmp .le 13, 3) := by decide +kernel
theorem dX6_rounds_9 : decode cX6_rounds 9 = .ok (.ldc 148, 2) := by decide +kernel
theorem dX6_rounds_11 : decode cX6_rounds 11 = .ok (.aload_n 0, 1) := by decide +kernel
theorem dX6_rounds_12 : decode cX6_rounds 12 = .ok (.bipush (-2), 2) := by decide +kernel
theorem dX6_rounds_14 : decode cX6_rounds 14 = .ok (.invokevirtual 47, 3) := by decide +kernel
theorem dX6_rounds_17 : decode cX6_rounds 17 = .ok (.isub, 1) := by decide +kernel
theorem dX6_rounds_18 : decode cX6_rounds 18 = .ok (.ireturn, 1) := by decide +kernel
theorem dX6_rounds_19 : decode cX6_rounds 19 = .ok (.aload_n 0, 1) := by decide +kernel
theorem dX6_rounds_20 : decode cX6_rounds 20 = .ok (.getfield 22, 3) := by decide +kernel
theorem dX6_rounds_23 : decode cX6_rounds 23 = .ok (.aload_n 0, 1) := by decide +kernel
theorem dX6_rounds_24 : decode cX6_rounds 24 = .ok (.getfield 10, 3) := by decide +kernel
theorem dX6_rounds_27 : decode cX6_rounds 27 = .ok (.invokevirtual 58, 3) := by decide +kernel
theorem dX6_rounds_30 : decode cX6_rounds 30 = .ok (.aload_n 0, 1) := by decide +kernel
theorem dX6_rounds_31 : decode cX6_rounds 31 = .ok (.getfield 22, 3) := by decide +kernel
theorem dX6_rounds_34 : decode cX6_rounds 34 = .ok (.invokevirtual 149, 3) := by decide +kernel
theorem dX6_rounds_37 : decode cX6_rounds 37 = .ok (.istore_n 2, 1) := by decide +kernel
theorem dX6_rounds_38 : decode cX6_rounds 38 = .ok (.iload_n 1, 1) := by decide +kernel
theorem dX6_rounds_39 : decode cX6_rounds 39 = .ok (.ifCond .ne 5, 3) := by decide +kernel
theorem dX6_rounds_42 : decode cX6_rounds 42 = .ok (.iload_n 2, 1) := by decide +kernel
theorem dX6_rounds_43 : decode cX6_rounds 43 = .ok (.ireturn, 1) := by decide +kernel
theorem dX6_rounds_44 : decode cX6_rounds 44 = .ok (.iload_n 1, 1) := by decide +kernel
theorem dX6_rounds_45 : decode cX6_rounds 45 = .ok (.iconst 1, 1) := by decide +kernel
theorem dX6_rounds_46 : decode cX6_rounds 46 = .ok (.if_icmp .ne 11, 3) := by decide +kernel
theorem dX6_rounds_49 : decode cX6_rounds 49 = .ok (.aload_n 0, 1) := by decide +kernel
theorem dX6_rounds_50 : decode cX6_rounds 50 = .ok (.getfield 22, 3) := by decide +kernel
theorem dX6_rounds_53 : decode cX6_rounds 53 = .ok (.invokevirtual 152, 3) := by decide +kernel
theorem dX6_rounds_56 : decode cX6_rounds 56 = .ok (.ireturn, 1) := by decide +kernel
theorem dX6_rounds_57 : decode cX6_rounds 57 = .ok (.iload_n 1, 1) := by decide +kernel
theorem dX6_rounds_58 : decode cX6_rounds 58 = .ok (.iconst 2, 1) := by decide +kernel
theorem dX6_rounds_59 : decode cX6_rounds 59 = .ok (.if_icmp .ne 13, 3) := by decide +kernel
theorem dX6_rounds_62 : decode cX6_rounds 62 = .ok (.aload_n 0, 1) := by decide +kernel
theorem dX6_rounds_63 : decode cX6_rounds 63 = .ok (.getfield 22, 3) := by decide +kernel
theorem dX6_rounds_66 : decode cX6_rounds 66 = .ok (.invokevirtual 155, 3) := by decide +kernel
theorem dX6_rounds_69 : decode cX6_rounds 69 = .ok (.goto 10, 3) := by decide +kernel
theorem dX6_rounds_72 : decode cX6_rounds 72 = .ok (.aload_n 0, 1) := by decide +kernel
theorem dX6_rounds_73 : decode cX6_rounds 73 = .ok (.getfield 22, 3) := by decide +kernel
theorem dX6_rounds_76 : decode cX6_rounds 76 = .ok (.invokevirtual 158, 3) := by decide +kernel
theorem dX6_rounds_79 : decode cX6_rounds 79 = .ok (.ireturn, 1) := by decide +kernel
theorem dX6_marks_0 : decode cX6_marks 0 = .ok (.iload_n 1, 1) := by decide +kernel
theorem dX6_marks_1 : decode cX6_marks 1 = .ok (.ifCond .eq 15, 3) := by decide +kernel
theorem dX6_marks_4 : decode cX6_marks 4 = .ok (.iload_n 1, 1) := by decide +kernel
theorem dX6_marks_5 : decode cX6_marks 5 = .ok (.iconst 1, 1) := by decide +kernel
theorem dX6_marks_6 : decode cX6_marks 6 = .ok (.if_icmp .eq 10, 3) := by decide +kernel
theorem dX6_marks_9 : decode cX6_marks 9 = .ok (.aload_n 0, 1) := by decide +kernel
theorem dX6_marks_10 : decode cX6_marks 10 = .ok (.bipush (-2), 2) := by decide +kernel
theorem dX6_marks_12 : decode cX6_marks 12 = .ok (.invokevirtual 47, 3) := by decide +kernel
theorem dX6_marks_15 : decode cX6_marks 15 = .ok (.ireturn, 1) := by decide +kernel
theorem dX6_marks_16 : decode cX6_marks 16 = .ok (.aload_n 0, 1) := by decide +kernel
theorem dX6_marks_17 : decode cX6_marks 17 = .ok (.getfield 22, 3) := by decide +kernel
theorem dX6_marks_20 : decode cX6_marks 20 = .ok (.aload_n 0, 1) := by decide +kernel
theorem dX6_marks_21 : decode cX6_marks 21 = .ok (.getfield 10, 3) := by decide +kernel
theorem dX6_marks_24 : decode cX6_marks 24 = .ok (.invokevirtual 58, 3) := by decide +kernel
theorem dX6_marks_27 : decode cX6_marks 27 = .ok (.aload_n 0, 1) := by decide +kernel
theorem dX6_marks_28 : decode cX6_marks 28 = .ok (.getfield 22, 3) := by decide +kernel
theorem dX6_marks_31 : decode cX6_marks 31 = .ok (.iload_n 1, 1) := by decide +kernel
theorem dX6_marks_32 : decode cX6_marks 32 = .ok (.ifCond .ne 7, 3) := by decide +kernel
theorem dX6_marks_35 : decode cX6_marks 35 = .ok (.iconst 1, 1) := by decide +kernel
theorem dX6_marks_36 : decode cX6_marks 36 = .ok (.goto 4, 3) := by decide +kernel
theorem dX6_marks_39 : decode cX6_marks 39 = .ok (.iconst 0, 1) := by decide +kernel
theorem dX6_marks_40 : decode cX6_marks 40 = .ok (.invokevirtual 161, 3) := by decide +kernel
theorem dX6_marks_43 : decode cX6_marks 43 = .ok (.ireturn, 1) := by decide +kernel
theorem dX6_second_0 : decode cX6_second 0 = .ok (.aload_n 0, 1) := by decide +kernel
theorem dX6_second_1 : decode cX6_second 1 = .ok (.getfield 22, 3) := by decide +kernel
theorem dX6_second_4 : decode cX6_second 4 = .ok (.aload_n 0, 1) := by decide +kernel
theorem dX6_second_5 : decode cX6_second 5 = .ok (.getfield 10, 3) := by decide +kernel
theorem dX6_second_8 : decode cX6_second 8 = .ok (.invokevirtual 58, 3) := by decide +kernel
theorem dX6_second_11 : decode cX6_second 11 = .ok (.aload_n 0, 1) := by decide +kernel
theorem dX6_second_12 : decode cX6_second 12 = .ok (.getfield 22, 3) := by decide +kernel
theorem dX6_second_15 : decode cX6_second 15 = .ok (.invokevirtual 165, 3) := by decide +kernel
theorem dX6_second_18 : decode cX6_second 18 = .ok (.ireturn, 1) := by decide +kernel
theorem dX6_urn_0 : decode cX6_urn 0 = .ok (.iload_n 1, 1) := by decide +kernel
theorem dX6_urn_1 : decode cX6_urn 1 = .ok (.ifCond .ge 10, 3) := by decide +kernel
theorem dX6_urn_4 : decode cX6_urn 4 = .ok (.aload_n 0, 1) := by decide +kernel
theorem dX6_urn_5 : decode cX6_urn 5 = .ok (.bipush (-4), 2) := by decide +kernel
theorem dX6_urn_7 : decode cX6_urn 7 = .ok (.invokevirtual 47, 3) := by decide +kernel
theorem dX6_urn_10 : decode cX6_urn 10 = .ok (.ireturn, 1) := by decide +kernel
theorem dX6_urn_11 : decode cX6_urn 11 = .ok (.iload_n 1, 1) := by decide +kernel
theorem dX6_urn_12 : decode cX6_urn 12 = .ok (.bipush 99, 2) := by decide +kernel
theorem dX6_urn_14 : decode cX6_urn 14 = .ok (.if_icmp .le 10, 3) := by decide +kernel
theorem dX6_urn_17 : decode cX6_urn 17 = .ok (.aload_n 0, 1) := by decide +kernel
theorem dX6_urn_18 : decode cX6_urn 18 = .ok (.bipush (-6), 2) := by decide +kernel
theorem dX6_urn_20 : decode cX6_urn 20 = .ok (.invokevirtual 47, 3) := by decide +kernel
theorem dX6_urn_23 : decode cX6_urn 23 = .ok (.ireturn, 1) := by decide +kernel
theorem dX6_urn_24 : decode cX6_urn 24 = .ok (.aload_n 0, 1) := by decide +kernel
theorem dX6_urn_25 : decode cX6_urn 25 = .ok (.getfield 22, 3) := by decide +kernel
theorem dX6_urn_28 : decode cX6_urn 28 = .ok (.aload_n 0, 1) := by decide +kernel
theorem dX6_urn_29 : decode cX6_urn 29 = .ok (.getfield 10, 3) := by decide +kernel
theorem dX6_urn_32 : decode cX6_urn 32 = .ok (.invokevirtual 58, 3) := by decide +kernel
theorem dX6_urn_35 : decode cX6_urn 35 = .ok (.aload_n 0, 1) := by decide +kernel
theorem dX6_urn_36 : decode cX6_urn 36 = .ok (.getfield 29, 3) := by decide +kernel
theorem dX6_urn_39 : decode cX6_urn 39 = .ok (.aload_n 0, 1) := by decide +kernel
theorem dX6_urn_40 : decode cX6_urn 40 = .ok (.getfield 10, 3) := by decide +kernel
theorem dX6_urn_43 : decode cX6_urn 43 = .ok (.invokevirtual 168, 3) := by decide +kernel
theorem dX6_urn_46 : decode cX6_urn 46 = .ok (.aload_n 0, 1) := by decide +kernel
theorem dX6_urn_47 : decode cX6_urn 47 = .ok (.getfield 29, 3) := by decide +kernel
theorem dX6_urn_50 : decode cX6_urn 50 = .ok (.invokevirtual 169, 3) := by decide +kernel
theorem dX6_urn_53 : decode cX6_urn 53 = .ok (.iload_n 1, 1) := by decide +kernel
theorem dX6_urn_54 : decode cX6_urn 54 = .ok (.imul, 1) := by decide +kernel
theorem dX6_urn_55 : decode cX6_urn 55 = .ok (.aload_n 0, 1) := by decide +kernel
theorem dX6_urn_56 : decode cX6_urn 56 = .ok (.getfield 22, 3) := by decide +kernel
theorem dX6_urn_59 : decode cX6_urn 59 = .ok (.invokevirtual 155, 3) := by decide +kernel
theorem dX6_urn_62 : decode cX6_urn 62 = .ok (.if_icmp .ge 7, 3) := by decide +kernel
theorem dX6_urn_65 : decode cX6_urn 65 = .ok (.iconst 1, 1) := by decide +kernel
theorem dX6_urn_66 : decode cX6_urn 66 = .ok (.goto 4, 3) := by decide +kernel
theorem dX6_urn_69 : decode cX6_urn 69 = .ok (.iconst 0, 1) := by decide +kernel
theorem dX6_urn_70 : decode cX6_urn 70 = .ok (.ireturn, 1) := by decide +kernel
theorem dX6_least_0 : decode cX6_least 0 = .ok (.iload_n 1, 1) := by decide +kernel
theorem dX6_least_1 : decode cX6_least 1 = .ok (.ifCond .eq 15, 3) := by decide +kernel
theorem dX6_least_4 : decode cX6_least 4 = .ok (.iload_n 1, 1) := by decide +kernel
theorem dX6_least_5 : decode cX6_least 5 = .ok (.iconst 1, 1) := by decide +kernel
theorem dX6_least_6 : decode cX6_least 6 = .ok (.if_icmp .eq 10, 3) := by decide +kernel
theorem dX6_least_9 : decode cX6_least 9 = .ok (.aload_n 0, 1) := by decide +kernel
theorem dX6_least_10 : decode cX6_least 10 = .ok (.bipush (-2), 2) := by decide +kernel
theorem dX6_least_12 : decode cX6_least 12 = .ok (.invokevirtual 47, 3) := by decide +kernel
theorem dX6_least_15 : decode cX6_least 15 = .ok (.ireturn, 1) := by decide +kernel
theorem dX6_least_16 : decode cX6_least 16 = .ok (.aload_n 0, 1) := by decide +kernel
theorem dX6_least_17 : decode cX6_least 17 = .ok (.getfield 10, 3) := by decide +kernel
theorem dX6_least_20 : decode cX6_least 20 = .ok (.invokevirtual 172, 3) := by decide +kernel
theorem dX6_least_23 : decode cX6_least 23 = .ok (.ifCond .eq 10, 3) := by decide +kernel
theorem dX6_least_26 : decode cX6_least 26 = .ok (.aload_n 0, 1) := by decide +kernel
theorem dX6_least_27 : decode cX6_least 27 = .ok (.bipush (-3), 2) := by decide +kernel
theorem dX6_least_29 : decode cX6_least 29 = .ok (.invokevirtual 47, 3) := by decide +kernel
theorem dX6_least_32 : decode cX6_least 32 = .ok (.ireturn, 1) := by decide +kernel
theorem dX6_least_33 : decode cX6_least 33 = .ok (.aload_n 0, 1) := by decide +kernel
theorem dX6_least_34 : decode cX6_least 34 = .ok (.getfield 29, 3) := by decide +kernel
theorem dX6_least_37 : decode cX6_least 37 = .ok (.aload_n 0, 1) := by decide +kernel
theorem dX6_least_38 : decode cX6_least 38 = .ok (.getfield 10, 3) := by decide +kernel
theorem dX6_least_41 : decode cX6_least 41 = .ok (.invokevirtual 168, 3) := by decide +kernel
theorem dX6_least_44 : decode cX6_least 44 = .ok (.aload_n 0, 1) := by decide +kernel
theorem dX6_least_45 : decode cX6_least 45 = .ok (.getfield 29, 3) := by decide +kernel
theorem dX6_least_48 : decode cX6_least 48 = .ok (.aload_n 0, 1) := by decide +kernel
theorem dX6_least_49 : decode cX6_least 49 = .ok (.getfield 10, 3) := by decide +kernel
theorem dX6_least_52 : decode cX6_least 52 = .ok (.iload_n 1, 1) := by decide +kernel
theorem dX6_least_53 : decode cX6_least 53 = .ok (.ifCond .ne 7, 3) := by decide +kernel
theorem dX6_least_56 : decode cX6_least 56 = .ok (.iconst 1, 1) := by decide +kernel
theorem dX6_least_57 : decode cX6_least 57 = .ok (.goto 4, 3) := by decide +kernel
theorem dX6_least_60 : decode cX6_least 60 = .ok (.iconst 0, 1) := by decide +kernel
theorem dX6_least_61 : decode cX6_least 61 = .ok (.invokevirtual 175, 3) := by decide +kernel
theorem dX6_least_64 : decode cX6_least 64 = .ok (.ireturn, 1) := by decide +kernel
theorem dX6_ferry_0 : decode cX6_ferry 0 = .ok (.iload_n 1, 1) := by decide +kernel
theorem dX6_ferry_1 : decode cX6_ferry 1 = .ok (.iconst 1, 1) := by decide +kernel
theorem dX6_ferry_2 : decode cX6_ferry 2 = .ok (.if_icmp .lt 7, 3) := by decide +kernel
theorem dX6_ferry_5 : decode cX6_ferry 5 = .ok (.iload_n 2, 1) := by decide +kernel
theorem dX6_ferry_6 : decode cX6_ferry 6 = .ok (.ifCond .ge 10, 3) := by decide +kernel
theorem dX6_ferry_9 : decode cX6_ferry 9 = .ok (.aload_n 0, 1) := by decide +kernel
theorem dX6_ferry_10 : decode cX6_ferry 10 = .ok (.bipush (-4), 2) := by decide +kernel
theorem dX6_ferry_12 : decode cX6_ferry 12 = .ok (.invokevirtual 47, 3) := by decide +kernel
theorem dX6_ferry_15 : decode cX6_ferry 15 = .ok (.ireturn, 1) := by decide +kernel
theorem dX6_ferry_16 : decode cX6_ferry 16 = .ok (.iload_n 1, 1) := by decide +kernel
theorem dX6_ferry_17 : decode cX6_ferry 17 = .ok (.bipush 8, 2) := by decide +kernel
theorem dX6_ferry_19 : decode cX6_ferry 19 = .ok (.if_icmp .gt 9, 3) := by decide +kernel
theorem dX6_ferry_22 : decode cX6_ferry 22 = .ok (.iload_n 2, 1) := by decide +kernel
theorem dX6_ferry_23 : decode cX6_ferry 23 = .ok (.bipush 60, 2) := by decide +kernel
theorem dX6_ferry_25 : decode cX6_ferry 25 = .ok (.if_icmp .le 10, 3) := by decide +kernel
theorem dX6_ferry_28 : decode cX6_ferry 28 = .ok (.aload_n 0, 1) := by decide +kernel
theorem dX6_ferry_29 : decode cX6_ferry 29 = .ok (.bipush (-6), 2) := by decide +kernel
theorem dX6_ferry_31 : decode cX6_ferry 31 = .ok (.invokevirtual 47, 3) := by decide +kernel
theorem dX6_ferry_34 : decode cX6_ferry 34 = .ok (.ireturn, 1) := by decide +kernel
theorem dX6_ferry_35 : decode cX6_ferry 35 = .ok (.aload_n 0, 1) := by decide +kernel
theorem dX6_ferry_36 : decode cX6_ferry 36 = .ok (.getfield 29, 3) := by decide +kernel
theorem dX6_ferry_39 : decode cX6_ferry 39 = .ok (.aload_n 0, 1) := by decide +kernel
theorem dX6_ferry_40 : decode cX6_ferry 40 = .ok (.getfield 10, 3) := by decide +kernel
theorem dX6_ferry_43 : decode cX6_ferry 43 = .ok (.invokevirtual 168, 3) := by decide +kernel
theorem dX6_ferry_46 : decode cX6_ferry 46 = .ok (.aload_n 0, 1) := by decide +kernel
theorem dX6_ferry_47 : decode cX6_ferry 47 = .ok (.getfield 29, 3) := by decide +kernel
theorem dX6_ferry_50 : decode cX6_ferry 50 = .ok (.iload_n 1, 1) := by decide +kernel
theorem dX6_ferry_51 : decode cX6_ferry 51 = .ok (.iload_n 2, 1) := by decide +kernel
theorem dX6_ferry_52 : decode cX6_ferry 52 = .ok (.invokevirtual 179, 3) := by decide +kernel
theorem dX6_ferry_55 : decode cX6_ferry 55 = .ok (.ireturn, 1) := by decide +kernel
theorem dX6_times_0 : decode cX6_times 0 = .ok (.iload_n 1, 1) := by decide +kernel
theorem dX6_times_1 : decode cX6_times 1 = .ok (.iconst 1, 1) := by decide +kernel
theorem dX6_times_2 : decode cX6_times 2 = .ok (.if_icmp .ge 10, 3) := by decide +kernel
theorem dX6_times_5 : decode cX6_times 5 = .ok (.aload_n 0, 1) := by decide +kernel
theorem dX6_times_6 : decode cX6_times 6 = .ok (.bipush (-4), 2) := by decide +kernel
theorem dX6_times_8 : decode cX6_times 8 = .ok (.invokevirtual 47, 3) := by decide +kernel
theorem dX6_times_11 : decode cX6_times 11 = .ok (.ireturn, 1) := by decide +kernel
theorem dX6_times_12 : decode cX6_times 12 = .ok (.iload_n 1, 1) := by decide +kernel
theorem dX6_times_13 : decode cX6_times 13 = .ok (.bipush 60, 2) := by decide +kernel
theorem dX6_times_15 : decode cX6_times 15 = .ok (.if_icmp .le 10, 3) := by decide +kernel
theorem dX6_times_18 : decode cX6_times 18 = .ok (.aload_n 0, 1) := by decide +kernel
theorem dX6_times_19 : decode cX6_times 19 = .ok (.bipush (-6), 2) := by decide +kernel
theorem dX6_times_21 : decode cX6_times 21 = .ok (.invokevirtual 47, 3) := by decide +kernel
theorem dX6_times_24 : decode cX6_times 24 = .ok (.ireturn, 1) := by decide +kernel
theorem dX6_times_25 : decode cX6_times 25 = .ok (.aload_n 0, 1) := by decide +kernel
theorem dX6_times_26 : decode cX6_times 26 = .ok (.getfield 29, 3) := by decide +kernel
theorem dX6_times_29 : decode cX6_times 29 = .ok (.aload_n 0, 1) := by decide +kernel
theorem dX6_times_30 : decode cX6_times 30 = .ok (.getfield 10, 3) := by decide +kernel
theorem dX6_times_33 : decode cX6_times 33 = .ok (.invokevirtual 168, 3) := by decide +kernel
theorem dX6_times_36 : decode cX6_times 36 = .ok (.aload_n 0, 1) := by decide +kernel
theorem dX6_times_37 : decode cX6_times 37 = .ok (.getfield 29, 3) := by decide +kernel
theorem dX6_times_40 : decode cX6_times 40 = .ok (.iload_n 1, 1) := by decide +kernel
theorem dX6_times_41 : decode cX6_times 41 = .ok (.invokevirtual 182, 3) := by decide +kernel
theorem dX6_times_44 : decode cX6_times 44 = .ok (.ireturn, 1) := by decide +kernel
theorem dX6_better_0 : decode cX6_better 0 = .ok (.iload_n 1, 1) := by decide +kernel
theorem dX6_better_1 : decode cX6_better 1 = .ok (.iconst 1, 1) := by decide +kernel
theorem dX6_better_2 : decode cX6_better 2 = .ok (.if_icmp .ge 10, 3) := by decide +kernel
theorem dX6_better_5 : decode cX6_better 5 = .ok (.aload_n 0, 1) := by decide +kernel
theorem dX6_better_6 : decode cX6_better 6 = .ok (.bipush (-4), 2) := by decide +kernel
theorem dX6_better_8 : decode cX6_better 8 = .ok (.invokevirtual 47, 3) := by decide +kernel
theorem dX6_better_11 : decode cX6_better 11 = .ok (.ireturn, 1) := by decide +kernel
theorem dX6_better_12 : decode cX6_better 12 = .ok (.iload_n 1, 1) := by decide +kernel
theorem dX6_better_13 : decode cX6_better 13 = .ok (.bipush 60, 2) := by decide +kernel
theorem dX6_better_15 : decode cX6_better 15 = .ok (.if_icmp .le 10, 3) := by decide +kernel
theorem dX6_better_18 : decode cX6_better 18 = .ok (.aload_n 0, 1) := by decide +kernel
theorem dX6_better_19 : decode cX6_better 19 = .ok (.bipush (-6), 2) := by decide +kernel
theorem dX6_better_21 : decode cX6_better 21 = .ok (.invokevirtual 47, 3) := by decide +kernel
theorem dX6_better_24 : decode cX6_better 24 = .ok (.ireturn, 1) := by decide +kernel
theorem dX6_better_25 : decode cX6_better 25 = .ok (.aload_n 0, 1) := by decide +kernel
theorem dX6_better_26 : decode cX6_better 26 = .ok (.getfield 29, 3) := by decide +kernel
theorem dX6_better_29 : decode cX6_better 29 = .ok (.aload_n 0, 1) := by decide +kernel
theorem dX6_better_30 : decode cX6_better 30 = .ok (.getfield 10, 3) := by decide +kernel
theorem dX6_better_33 : decode cX6_better 33 = .ok (.invokevirtual 168, 3) := by decide +kernel
theorem dX6_better_36 : decode cX6_better 36 = .ok (.aload_n 0, 1) := by decide +kernel
theorem dX6_better_37 : decode cX6_better 37 = .ok (.getfield 29, 3) := by decide +kernel
theorem dX6_better_40 : decode cX6_better 40 = .ok (.iload_n 1, 1) := by decide +kernel
theorem dX6_better_41 : decode cX6_better 41 = .ok (.invokevirtual 185, 3) := by decide +kernel
theorem dX6_better_44 : decode cX6_better 44 = .ok (.ireturn, 1) := by decide +kernel
theorem dX6_follow_0 : decode cX6_follow 0 = .ok (.aload_n 0, 1) := by decide +kernel
theorem dX6_follow_1 : decode cX6_follow 1 = .ok (.getfield 22, 3) := by decide +kernel
theorem dX6_follow_4 : decode cX6_follow 4 = .ok (.aload_n 0, 1) := by decide +kernel
theorem dX6_follow_5 : decode cX6_follow 5 = .ok (.getfield 10, 3) := by decide +kernel
theorem dX6_follow_8 : decode cX6_follow 8 = .ok (.invokevirtual 58, 3) := by decide +kernel
theorem dX6_follow_11 : decode cX6_follow 11 = .ok (.aload_n 0, 1) := by decide +kernel
theorem dX6_follow_12 : decode cX6_follow 12 = .ok (.getfield 22, 3) := by decide +kernel
theorem dX6_follow_15 : decode cX6_follow 15 = .ok (.aload_n 0, 1) := by decide +kernel
theorem dX6_follow_16 : decode cX6_follow 16 = .ok (.getfield 10, 3) := by decide +kernel
theorem dX6_follow_19 : decode cX6_follow 19 = .ok (.invokevirtual 188, 3) := by decide +kernel
theorem dX6_follow_22 : decode cX6_follow 22 = .ok (.ireturn, 1) := by decide +kernel
theorem dX6_row_0 : decode cX6_row 0 = .ok (.iload_n 1, 1) := by decide +kernel
theorem dX6_row_1 : decode cX6_row 1 = .ok (.ifCond .ge 10, 3) := by decide +kernel
theorem dX6_row_4 : decode cX6_row 4 = .ok (.aload_n 0, 1) := by decide +kernel
theorem dX6_row_5 : decode cX6_row 5 = .ok (.bipush (-4), 2) := by decide +kernel
theorem dX6_row_7 : decode cX6_row 7 = .ok (.invokevirtual 47, 3) := by decide +kernel
theorem dX6_row_10 : decode cX6_row 10 = .ok (.ireturn, 1) := by decide +kernel
theorem dX6_row_11 : decode cX6_row 11 = .ok (.iload_n 1, 1) := by decide +kernel
theorem dX6_row_12 : decode cX6_row 12 = .ok (.bipush 99, 2) := by decide +kernel
theorem dX6_row_14 : decode cX6_row 14 = .ok (.if_icmp .gt 15, 3) := by decide +kernel
theorem dX6_row_17 : decode cX6_row 17 = .ok (.aload_n 0, 1) := by decide +kernel
theorem dX6_row_18 : decode cX6_row 18 = .ok (.getfield 191, 3) := by decide +kernel
theorem dX6_row_21 : decode cX6_row 21 = .ok (.aload_n 0, 1) := by decide +kernel
theorem dX6_row_22 : decode cX6_row 22 = .ok (.getfield 40, 3) := by decide +kernel
theorem dX6_row_25 : decode cX6_row 25 = .ok (.arraylength, 1) := by decide +kernel
theorem dX6_row_26 : decode cX6_row 26 = .ok (.if_icmp .lt 10, 3) := by decide +kernel
theorem dX6_row_29 : decode cX6_row 29 = .ok (.aload_n 0, 1) := by decide +kernel
theorem dX6_row_30 : decode cX6_row 30 = .ok (.bipush (-6), 2) := by decide +kernel
theorem dX6_row_32 : decode cX6_row 32 = .ok (.invokevirtual 47, 3) := by decide +kernel
theorem dX6_row_35 : decode cX6_row 35 = .ok (.ireturn, 1) := by decide +kernel
theorem dX6_row_36 : decode cX6_row 36 = .ok (.aload_n 0, 1) := by decide +kernel
theorem dX6_row_37 : decode cX6_row 37 = .ok (.getfield 40, 3) := by decide +kernel
theorem dX6_row_40 : decode cX6_row 40 = .ok (.aload_n 0, 1) := by decide +kernel
theorem dX6_row_41 : decode cX6_row 41 = .ok (.getfield 191, 3) := by decide +kernel
theorem dX6_row_44 : decode cX6_row 44 = .ok (.iload_n 1, 1) := by decide +kernel
theorem dX6_row_45 : decode cX6_row 45 = .ok (.iastore, 1) := by decide +kernel
theorem dX6_row_46 : decode cX6_row 46 = .ok (.aload_n 0, 1) := by decide +kernel
theorem dX6_row_47 : decode cX6_row 47 = .ok (.dup, 1) := by decide +kernel
theorem dX6_row_48 : decode cX6_row 48 = .ok (.getfield 191, 3) := by decide +kernel
theorem dX6_row_51 : decode cX6_row 51 = .ok (.iconst 1, 1) := by decide +kernel
theorem dX6_row_52 : decode cX6_row 52 = .ok (.iadd, 1) := by decide +kernel
theorem dX6_row_53 : decode cX6_row 53 = .ok (.putfield 191, 3) := by decide +kernel
theorem dX6_row_56 : decode cX6_row 56 = .ok (.aload_n 0, 1) := by decide +kernel
theorem dX6_row_57 : decode cX6_row 57 = .ok (.getfield 191, 3) := by decide +kernel
theorem dX6_row_60 : decode cX6_row 60 = .ok (.ireturn, 1) := by decide +kernel
theorem dX6_judge_0 : decode cX6_judge 0 = .ok (.aload_n 0, 1) := by decide +kernel
theorem dX6_judge_1 : decode cX6_judge 1 = .ok (.getfield 22, 3) := by decide +kernel
theorem dX6_judge_4 : decode cX6_judge 4 = .ok (.aload_n 0, 1) := by decide +kernel
theorem dX6_judge_5 : decode cX6_judge 5 = .ok (.getfield 10, 3) := by decide +kernel
theorem dX6_judge_8 : decode cX6_judge 8 = .ok (.invokevirtual 58, 3) := by decide +kernel
theorem dX6_judge_11 : decode cX6_judge 11 = .ok (.aload_n 0, 1) := by decide +kernel
theorem dX6_judge_12 : decode cX6_judge 12 = .ok (.getfield 22, 3) := by decide +kernel
theorem dX6_judge_15 : decode cX6_judge 15 = .ok (.aload_n 0, 1) := by decide +kernel
theorem dX6_judge_16 : decode cX6_judge 16 = .ok (.getfield 40, 3) := by decide +kernel
theorem dX6_judge_19 : decode cX6_judge 19 = .ok (.aload_n 0, 1) := by decide +kernel
theorem dX6_judge_20 : decode cX6_judge 20 = .ok (.getfield 191, 3) := by decide +kernel
theorem dX6_judge_23 : decode cX6_judge 23 = .ok (.invokevirtual 194, 3) := by decide +kernel
theorem dX6_judge_26 : decode cX6_judge 26 = .ok (.istore_n 1, 1) := by decide +kernel
theorem dX6_judge_27 : decode cX6_judge 27 = .ok (.aload_n 0, 1) := by decide +kernel
theorem dX6_judge_28 : decode cX6_judge 28 = .ok (.iconst 0, 1) := by decide +kernel
theorem dX6_judge_29 : decode cX6_judge 29 = .ok (.putfield 191, 3) := by decide +kernel
theorem dX6_judge_32 : decode cX6_judge 32 = .ok (.iload_n 1, 1) := by decide +kernel
theorem dX6_judge_33 : decode cX6_judge 33 = .ok (.ireturn, 1) := by decide +kernel
theorem dX6_fits_0 : decode cX6_fits 0 = .ok (.iload_n 1, 1) := by decide +kernel
theorem dX6_fits_1 : decode cX6_fits 1 = .ok (.ifCond .ge 10, 3) := by decide +kernel
theorem dX6_fits_4 : decode cX6_fits 4 = .ok (.aload_n 0, 1) := by decide +kernel
theorem dX6_fits_5 : decode cX6_fits 5 = .ok (.bipush (-4), 2) := by decide +kernel
theorem dX6_fits_7 : decode cX6_fits 7 = .ok (.invokevirtual 47, 3) := by decide +kernel
theorem dX6_fits_10 : decode cX6_fits 10 = .ok (.ireturn, 1) := by decide +kernel
theorem dX6_fits_11 : decode cX6_fits 11 = .ok (.iload_n 1, 1) := by decide +kernel
theorem dX6_fits_12 : decode cX6_fits 12 = .ok (.bipush 11, 2) := by decide +kernel
theorem dX6_fits_14 : decode cX6_fits 14 = .ok (.if_icmp .le 10, 3) := by decide +kernel
theorem dX6_fits_17 : decode cX6_fits 17 = .ok (.aload_n 0, 1) := by decide +kernel
theorem dX6_fits_18 : decode cX6_fits 18 = .ok (.bipush (-6), 2) := by decide +kernel
theorem dX6_fits_20 : decode cX6_fits 20 = .ok (.invokevirtual 47, 3) := by decide +kernel
theorem dX6_fits_23 : decode cX6_fits 23 = .ok (.ireturn, 1) := by decide +kernel
theorem dX6_fits_24 : decode cX6_fits 24 = .ok (.aload_n 0, 1) := by decide +kernel
theorem dX6_fits_25 : decode cX6_fits 25 = .ok (.getfield 10, 3) := by decide +kernel
theorem dX6_fits_28 : decode cX6_fits 28 = .ok (.iload_n 1, 1) := by decide +kernel
theorem dX6_fits_29 : decode cX6_fits 29 = .ok (.invokevirtual 198, 3) := by decide +kernel
theorem dX6_fits_32 : decode cX6_fits 32 = .ok (.ireturn, 1) := by decide +kernel
theorem dX6_seeds_0 : decode cX6_seeds 0 = .ok (.iload_n 1, 1) := by decide +kernel
theorem dX6_seeds_1 : decode cX6_seeds 1 = .ok (.iconst 1, 1) := by decide +kernel
theorem dX6_seeds_2 : decode cX6_seeds 2 = .ok (.if_icmp .ge 10, 3) := by decide +kernel
theorem dX6_seeds_5 : decode cX6_seeds 5 = .ok (.aload_n 0, 1) := by decide +kernel
theorem dX6_seeds_6 : decode cX6_seeds 6 = .ok (.bipush (-4), 2) := by decide +kernel
theorem dX6_seeds_8 : decode cX6_seeds 8 = .ok (.invokevirtual 47, 3) := by decide +kernel
theorem dX6_seeds_11 : decode cX6_seeds 11 = .ok (.ireturn, 1) := by decide +kernel
theorem dX6_seeds_12 : decode cX6_seeds 12 = .ok (.iload_n 1, 1) := by decide +kernel
theorem dX6_seeds_13 : decode cX6_seeds 13 = .ok (.bipush 20, 2) := by decide +kernel
theorem dX6_seeds_15 : decode cX6_seeds 15 = .ok (.if_icmp .le 10, 3) := by decide +kernel
theorem dX6_seeds_18 : decode cX6_seeds 18 = .ok (.aload_n 0, 1) := by decide +kernel
theorem dX6_seeds_19 : decode cX6_seeds 19 = .ok (.bipush (-6), 2) := by decide +kernel
theorem dX6_seeds_21 : decode cX6_seeds 21 = .ok (.invokevirtual 47, 3) := by decide +kernel
theorem dX6_seeds_24 : decode cX6_seeds 24 = .ok (.ireturn, 1) := by decide +kernel
theorem dX6_seeds_25 : decode cX6_seeds 25 = .ok (.iload_n 3, 1) := by decide +kernel
theorem dX6_seeds_26 : decode cX6_seeds 26 = .ok (.ifCond .eq 15, 3) := by decide +kernel
theorem dX6_seeds_29 : decode cX6_seeds 29 = .ok (.iload_n 3, 1) := by decide +kernel
theorem dX6_seeds_30 : decode cX6_seeds 30 = .ok (.iconst 1, 1) := by decide +kernel
theorem dX6_seeds_31 : decode cX6_seeds 31 = .ok (.if_icmp .eq 10, 3) := by decide +kernel
theorem dX6_seeds_34 : decode cX6_seeds 34 = .ok (.aload_n 0, 1) := by decide +kernel
theorem dX6_seeds_35 : decode cX6_seeds 35 = .ok (.bipush (-2), 2) := by decide +kernel
theorem dX6_seeds_37 : decode cX6_seeds 37 = .ok (.invokevirtual 47, 3) := by decide +kernel
theorem dX6_seeds_40 : decode cX6_seeds 40 = .ok (.ireturn, 1) := by decide +kernel
theorem dX6_seeds_41 : decode cX6_seeds 41 = .ok (.aload_n 0, 1) := by decide +kernel
theorem dX6_seeds_42 : decode cX6_seeds 42 = .ok (.getfield 22, 3) := by decide +kernel
theorem dX6_seeds_45 : decode cX6_seeds 45 = .ok (.aload_n 0, 1) := by decide +kernel
theorem dX6_seeds_46 : decode cX6_seeds 46 = .ok (.getfield 10, 3) := by decide +kernel
theorem dX6_seeds_49 : decode cX6_seeds 49 = .ok (.invokevirtual 58, 3) := by decide +kernel
theorem dX6_seeds_52 : decode cX6_seeds 52 = .ok (.aload_n 0, 1) := by decide +kernel
theorem dX6_seeds_53 : decode cX6_seeds 53 = .ok (.getfield 22, 3) := by decide +kernel
theorem dX6_seeds_56 : decode cX6_seeds 56 = .ok (.iload_n 1, 1) := by decide +kernel
theorem dX6_seeds_57 : decode cX6_seeds 57 = .ok (.iload_n 2, 1) := by decide +kernel
theorem dX6_seeds_58 : decode cX6_seeds 58 = .ok (.iload_n 3, 1) := by decide +kernel
theorem dX6_seeds_59 : decode cX6_seeds 59 = .ok (.ifCond .ne 7, 3) := by decide +kernel
theorem dX6_seeds_62 : decode cX6_seeds 62 = .ok (.iconst 1, 1) := by decide +kernel
theorem dX6_seeds_63 : decode cX6_seeds 63 = .ok (.goto 4, 3) := by decide +kernel
theorem dX6_seeds_66 : decode cX6_seeds 66 = .ok (.iconst 0, 1) := by decide +kernel
theorem dX6_seeds_67 : decode cX6_seeds 67 = .ok (.invokevirtual 201, 3) := by decide +kernel
theorem dX6_seeds_70 : decode cX6_seeds 70 = .ok (.ireturn, 1) := by decide +kernel
theorem dX6_image_0 : decode cX6_image 0 = .ok (.aload_n 0, 1) := by decide +kernel
theorem dX6_image_1 : decode cX6_image 1 = .ok (.getfield 16, 3) := by decide +kernel
theorem dX6_image_4 : decode cX6_image 4 = .ok (.aload_n 0, 1) := by decide +kernel
theorem dX6_image_5 : decode cX6_image 5 = .ok (.getfield 10, 3) := by decide +kernel
theorem dX6_image_8 : decode cX6_image 8 = .ok (.invokevirtual 69, 3) := by decide +kernel
theorem dX6_image_11 : decode cX6_image 11 = .ok (.aload_n 0, 1) := by decide +kernel
theorem dX6_image_12 : decode cX6_image 12 = .ok (.iconst 1, 1) := by decide +kernel
theorem dX6_image_13 : decode cX6_image 13 = .ok (.putfield 205, 3) := by decide +kernel
theorem dX6_image_16 : decode cX6_image 16 = .ok (.aload_n 0, 1) := by decide +kernel
theorem dX6_image_17 : decode cX6_image 17 = .ok (.getfield 10, 3) := by decide +kernel
theorem dX6_image_20 : decode cX6_image 20 = .ok (.getfield 107, 3) := by decide +kernel
theorem dX6_image_23 : decode cX6_image 23 = .ok (.ireturn, 1) := by decide +kernel
theorem dX6_restore_0 : decode cX6_restore 0 = .ok (.aload_n 0, 1) := by decide +kernel
theorem dX6_restore_1 : decode cX6_restore 1 = .ok (.getfield 205, 3) := by decide +kernel
theorem dX6_restore_4 : decode cX6_restore 4 = .ok (.ifCond .ne 10, 3) := by decide +kernel
theorem dX6_restore_7 : decode cX6_restore 7 = .ok (.aload_n 0, 1) := by decide +kernel
theorem dX6_restore_8 : decode cX6_restore 8 = .ok (.bipush (-3), 2) := by decide +kernel
theorem dX6_restore_10 : decode cX6_restore 10 = .ok (.invokevirtual 47, 3) := by decide +kernel
theorem dX6_restore_13 : decode cX6_restore 13 = .ok (.ireturn, 1) := by decide +kernel
theorem dX6_restore_14 : decode cX6_restore 14 = .ok (.aload_n 0, 1) := by decide +kernel
theorem dX6_restore_15 : decode cX6_restore 15 = .ok (.getfield 10, 3) := by decide +kernel
theorem dX6_restore_18 : decode cX6_restore 18 = .ok (.aload_n 0, 1) := by decide +kernel
theorem dX6_restore_19 : decode cX6_restore 19 = .ok (.getfield 16, 3) := by decide +kernel
theorem dX6_restore_22 : decode cX6_restore 22 = .ok (.invokevirtual 69, 3) := by decide +kernel
theorem dX6_restore_25 : decode cX6_restore 25 = .ok (.aload_n 0, 1) := by decide +kernel
theorem dX6_restore_26 : decode cX6_restore 26 = .ok (.getfield 10, 3) := by decide +kernel
theorem dX6_restore_29 : decode cX6_restore 29 = .ok (.getfield 107, 3) := by decide +kernel
theorem dX6_restore_32 : decode cX6_restore 32 = .ok (.ireturn, 1) := by decide +kernel
theorem dX6_count_0 : decode cX6_count 0 = .ok (.iload_n 1, 1) := by decide +kernel
theorem dX6_count_1 : decode cX6_count 1 = .ok (.bipush 11, 2) := by decide +kernel
theorem dX6_count_3 : decode cX6_count 3 = .ok (.if_icmp .lt 19, 3) := by decide +kernel
theorem dX6_count_6 : decode cX6_count 6 = .ok (.iload_n 1, 1) := by decide +kernel
theorem dX6_count_7 : decode cX6_count 7 = .ok (.bipush 16, 2) := by decide +kernel
theorem dX6_count_9 : decode cX6_count 9 = .ok (.if_icmp .gt 13, 3) := by decide +kernel
theorem dX6_count_12 : decode cX6_count 12 = .ok (.aload_n 0, 1) := by decide +kernel
theorem dX6_count_13 : decode cX6_count 13 = .ok (.getfield 44, 3) := by decide +kernel
theorem dX6_count_16 : decode cX6_count 16 = .ok (.iload_n 1, 1) := by decide +kernel
theorem dX6_count_17 : decode cX6_count 17 = .ok (.bipush 10, 2) := by decide +kernel
theorem dX6_count_19 : decode cX6_count 19 = .ok (.isub, 1) := by decide +kernel
theorem dX6_count_20 : decode cX6_count 20 = .ok (.iaload, 1) := by decide +kernel
theorem dX6_count_21 : decode cX6_count 21 = .ok (.ireturn, 1) := by decide +kernel
theorem dX6_count_22 : decode cX6_count 22 = .ok (.iload_n 1, 1) := by decide +kernel
theorem dX6_count_23 : decode cX6_count 23 = .ok (.bipush 20, 2) := by decide +kernel
theorem dX6_count_25 : decode cX6_count 25 = .ok (.if_icmp .lt 22, 3) := by decide +kernel
theorem dX6_count_28 : decode cX6_count 28 = .ok (.iload_n 1, 1) := by decide +kernel
theorem dX6_count_29 : decode cX6_count 29 = .ok (.bipush 27, 2) := by decide +kernel
theorem dX6_count_31 : decode cX6_count 31 = .ok (.if_icmp .gt 16, 3) := by decide +kernel
theorem dX6_count_34 : decode cX6_count 34 = .ok (.aload_n 0, 1) := by decide +kernel
theorem dX6_count_35 : decode cX6_count 35 = .ok (.getfield 10, 3) := by decide +kernel
theorem dX6_count_38 : decode cX6_count 38 = .ok (.getfield 209, 3) := by decide +kernel
theorem dX6_count_41 : decode cX6_count 41 = .ok (.iload_n 1, 1) := by decide +kernel
theorem dX6_count_42 : decode cX6_count 42 = .ok (.bipush 20, 2) := by decide +kernel
theorem dX6_count_44 : decode cX6_count 44 = .ok (.isub, 1) := by decide +kernel
theorem dX6_count_45 : decode cX6_count 45 = .ok (.iaload, 1) := by decide +kernel
theorem dX6_count_46 : decode cX6_count 46 = .ok (.ireturn, 1) := by decide +kernel
theorem dX6_count_47 : decode cX6_count 47 = .ok (.iload_n 1, 1) := by decide +kernel
theorem dX6_count_48 : decode cX6_count 48 = .ok (.tableswitch 131 0 8 #[52, 60, 68, 76, 85, 94, 110, 118, 126], 52) := by decide +kernel
theorem dX6_count_100 : decode cX6_count 100 = .ok (.aload_n 0, 1) := by decide +kernel
theorem dX6_count_101 : decode cX6_count 101 = .ok (.getfield 10, 3) := by decide +kernel
theorem dX6_count_104 : decode cX6_count 104 = .ok (.getfield 212, 3) := by decide +kernel
theorem dX6_count_107 : decode cX6_count 107 = .ok (.ireturn, 1) := by decide +kernel
theorem dX6_count_108 : decode cX6_count 108 = .ok (.aload_n 0, 1) := by decide +kernel
theorem dX6_count_109 : decode cX6_count 109 = .ok (.getfield 10, 3) := by decide +kernel
theorem dX6_count_112 : decode cX6_count 112 = .ok (.getfield 107, 3) := by decide +kernel
theorem dX6_count_115 : decode cX6_count 115 = .ok (.ireturn, 1) := by decide +kernel
theorem dX6_count_116 : decode cX6_count 116 = .ok (.aload_n 0, 1) := by decide +kernel
theorem dX6_count_117 : decode cX6_count 117 = .ok (.getfield 10, 3) := by decide +kernel
theorem dX6_count_120 : decode cX6_count 120 = .ok (.getfield 132, 3) := by decide +kernel
theorem dX6_count_123 : decode cX6_count 123 = .ok (.ireturn, 1) := by decide +kernel
theorem dX6_count_124 : decode cX6_count 124 = .ok (.aload_n 0, 1) := by decide +kernel
theorem dX6_count_125 : decode cX6_count 125 = .ok (.getfield 10, 3) := by decide +kernel
theorem dX6_count_128 : decode cX6_count 128 = .ok (.iconst 2, 1) := by decide +kernel
theorem dX6_count_129 : decode cX6_count 129 = .ok (.invokevirtual 215, 3) := by decide +kernel
theorem dX6_count_132 : decode cX6_count 132 = .ok (.ireturn, 1) := by decide +kernel
theorem dX6_count_133 : decode cX6_count 133 = .ok (.aload_n 0, 1) := by decide +kernel
theorem dX6_count_134 : decode cX6_count 134 = .ok (.getfield 10, 3) := by decide +kernel
theorem dX6_count_137 : decode cX6_count 137 = .ok (.iconst 3, 1) := by decide +kernel
theorem dX6_count_138 : decode cX6_count 138 = .ok (.invokevirtual 215, 3) := by decide +kernel
theorem dX6_count_141 : decode cX6_count 141 = .ok (.ireturn, 1) := by decide +kernel
theorem dX6_count_142 : decode cX6_count 142 = .ok (.aload_n 0, 1) := by decide +kernel
theorem dX6_count_143 : decode cX6_count 143 = .ok (.getfield 10, 3) := by decide +kernel
theorem dX6_count_146 : decode cX6_count 146 = .ok (.invokevirtual 121, 3) := by decide +kernel
theorem dX6_count_149 : decode cX6_count 149 = .ok (.ifCond .eq 7, 3) := by decide +kernel
theorem dX6_count_152 : decode cX6_count 152 = .ok (.iconst 1, 1) := by decide +kernel
theorem dX6_count_153 : decode cX6_count 153 = .ok (.goto 4, 3) := by decide +kernel
theorem dX6_count_156 : decode cX6_count 156 = .ok (.iconst 0, 1) := by decide +kernel
theorem dX6_count_157 : decode cX6_count 157 = .ok (.ireturn, 1) := by decide +kernel
theorem dX6_count_158 : decode cX6_count 158 = .ok (.aload_n 0, 1) := by decide +kernel
theorem dX6_count_159 : decode cX6_count 159 = .ok (.getfield 10, 3) := by decide +kernel
theorem dX6_count_162 : decode cX6_count 162 = .ok (.invokevirtual 218, 3) := by decide +kernel
theorem dX6_count_165 : decode cX6_count 165 = .ok (.ireturn, 1) := by decide +kernel
theorem dX6_count_166 : decode cX6_count 166 = .ok (.aload_n 0, 1) := by decide +kernel
theorem dX6_count_167 : decode cX6_count 167 = .ok (.getfield 36, 3) := by decide +kernel
theorem dX6_count_170 : decode cX6_count 170 = .ok (.getfield 51, 3) := by decide +kernel
theorem dX6_count_173 : decode cX6_count 173 = .ok (.ireturn, 1) := by decide +kernel
theorem dX6_count_174 : decode cX6_count 174 = .ok (.aload_n 0, 1) := by decide +kernel
theorem dX6_count_175 : decode cX6_count 175 = .ok (.getfield 191, 3) := by decide +kernel
theorem dX6_count_178 : decode cX6_count 178 = .ok (.ireturn, 1) := by decide +kernel
theorem dX6_count_179 : decode cX6_count 179 = .ok (.bipush (-9), 2) := by decide +kernel
theorem dX6_count_181 : decode cX6_count 181 = .ok (.ireturn, 1) := by decide +kernel
theorem dX6_refuse_0 : decode cX6_refuse 0 = .ok (.iload_n 1, 1) := by decide +kernel
theorem dX6_refuse_1 : decode cX6_refuse 1 = .ok (.ineg, 1) := by decide +kernel
theorem dX6_refuse_2 : decode cX6_refuse 2 = .ok (.istore_n 2, 1) := by decide +kernel
theorem dX6_refuse_3 : decode cX6_refuse 3 = .ok (.iload_n 2, 1) := by decide +kernel
theorem dX6_refuse_4 : decode cX6_refuse 4 = .ok (.ifCond .le 22, 3) := by decide +kernel
theorem dX6_refuse_7 : decode cX6_refuse 7 = .ok (.iload_n 2, 1) := by decide +kernel
theorem dX6_refuse_8 : decode cX6_refuse 8 = .ok (.aload_n 0, 1) := by decide +kernel
theorem dX6_refuse_9 : decode cX6_refuse 9 = .ok (.getfield 44, 3) := by decide +kernel
theorem dX6_refuse_12 : decode cX6_refuse 12 = .ok (.arraylength, 1) := by decide +kernel
theorem dX6_refuse_13 : decode cX6_refuse 13 = .ok (.if_icmp .ge 13, 3) := by decide +kernel
theorem dX6_refuse_16 : decode cX6_refuse 16 = .ok (.aload_n 0, 1) := by decide +kernel
theorem dX6_refuse_17 : decode cX6_refuse 17 = .ok (.getfield 44, 3) := by decide +kernel
theorem dX6_refuse_20 : decode cX6_refuse 20 = .ok (.iload_n 2, 1) := by decide +kernel
theorem dX6_refuse_21 : decode cX6_refuse 21 = .ok (.dup2, 1) := by decide +kernel
theorem dX6_refuse_22 : decode cX6_refuse 22 = .ok (.iaload, 1) := by decide +kernel
theorem dX6_refuse_23 : decode cX6_refuse 23 = .ok (.iconst 1, 1) := by decide +kernel
theorem dX6_refuse_24 : decode cX6_refuse 24 = .ok (.iadd, 1) := by decide +kernel
theorem dX6_refuse_25 : decode cX6_refuse 25 = .ok (.iastore, 1) := by decide +kernel
theorem dX6_refuse_26 : decode cX6_refuse 26 = .ok (.iload_n 1, 1) := by decide +kernel
theorem dX6_refuse_27 : decode cX6_refuse 27 = .ok (.ireturn, 1) := by decide +kernel
theorem dX6_heatingMinutes_0 : decode cX6_heatingMinutes 0 = .ok (.iload_n 0, 1) := by decide +kernel
theorem dX6_heatingMinutes_1 : decode cX6_heatingMinutes 1 = .ok (.iload_n 1, 1) := by decide +kernel
theorem dX6_heatingMinutes_2 : decode cX6_heatingMinutes 2 = .ok (.imul, 1) := by decide +kernel
theorem dX6_heatingMinutes_3 : decode cX6_heatingMinutes 3 = .ok (.iload_n 2, 1) := by decide +kernel
theorem dX6_heatingMinutes_4 : decode cX6_heatingMinutes 4 = .ok (.imul, 1) := by decide +kernel
theorem dX6_heatingMinutes_5 : decode cX6_heatingMinutes 5 = .ok (.istore_n 3, 1) := by decide +kernel
theorem dX6_heatingMinutes_6 : decode cX6_heatingMinutes 6 = .ok (.iload_n 3, 1) := by decide +kernel
theorem dX6_heatingMinutes_7 : decode cX6_heatingMinutes 7 = .ok (.ifCond .le 13, 3) := by decide +kernel
theorem dX6_heatingMinutes_10 : decode cX6_heatingMinutes 10 = .ok (.iload_n 3, 1) := by decide +kernel
theorem dX6_heatingMinutes_11 : decode cX6_heatingMinutes 11 = .ok (.bipush 99, 2) := by decide +kernel
theorem dX6_heatingMinutes_13 : decode cX6_heatingMinutes 13 = .ok (.iadd, 1) := by decide +kernel
theorem dX6_heatingMinutes_14 : decode cX6_heatingMinutes 14 = .ok (.bipush 100, 2) := by decide +kernel
theorem dX6_heatingMinutes_16 : decode cX6_heatingMinutes 16 = .ok (.idiv, 1) := by decide +kernel
theorem dX6_heatingMinutes_17 : decode cX6_heatingMinutes 17 = .ok (.goto 4, 3) := by decide +kernel
theorem dX6_heatingMinutes_20 : decode cX6_heatingMinutes 20 = .ok (.iconst 1, 1) := by decide +kernel
theorem dX6_heatingMinutes_21 : decode cX6_heatingMinutes 21 = .ok (.ireturn, 1) := by decide +kernel
theorem dX7_init_0 : decode cX7_init 0 = .ok (.aload_n 0, 1) := by decide +kernel
theorem dX7_init_1 : decode cX7_init 1 = .ok (.invokespecial 1, 3) := by decide +kernel
theorem dX7_init_4 : decode cX7_init 4 = .ok (.aload_n 0, 1) := by decide +kernel
theorem dX7_init_5 : decode cX7_init 5 = .ok (.bipush 7, 2) := by decide +kernel
theorem dX7_init_7 : decode cX7_init 7 = .ok (.newarray .int, 2) := by decide +kernel
theorem dX7_init_9 : decode cX7_init 9 = .ok (.putfield 7, 3) := by decide +kernel
theorem dX7_init_12 : decode cX7_init 12 = .ok (.aload_n 0, 1) := by decide +kernel
theorem dX7_init_13 : decode cX7_init 13 = .ok (.bipush 8, 2) := by decide +kernel
theorem dX7_init_15 : decode cX7_init 15 = .ok (.newarray .int, 2) := by decide +kernel
theorem dX7_init_17 : decode cX7_init 17 = .ok (.putfield 13, 3) := by decide +kernel
theorem dX7_init_20 : decode cX7_init 20 = .ok (.aload_n 0, 1) := by decide +kernel
theorem dX7_init_21 : decode cX7_init 21 = .ok (.bipush 8, 2) := by decide +kernel
theorem dX7_init_23 : decode cX7_init 23 = .ok (.newarray .int, 2) := by decide +kernel
theorem dX7_init_25 : decode cX7_init 25 = .ok (.putfield 16, 3) := by decide +kernel
theorem dX7_init_28 : decode cX7_init 28 = .ok (.aload_n 0, 1) := by decide +kernel
theorem dX7_init_29 : decode cX7_init 29 = .ok (.bipush 8, 2) := by decide +kernel
theorem dX7_init_31 : decode cX7_init 31 = .ok (.newarray .int, 2) := by decide +kernel
theorem dX7_init_33 : decode cX7_init 33 = .ok (.putfield 19, 3) := by decide +kernel
theorem dX7_init_36 : decode cX7_init 36 = .ok (.aload_n 0, 1) := by decide +kernel
theorem dX7_init_37 : decode cX7_init 37 = .ok (.bipush 8, 2) := by decide +kernel
theorem dX7_init_39 : decode cX7_init 39 = .ok (.newarray .int, 2) := by decide +kernel
theorem dX7_init_41 : decode cX7_init 41 = .ok (.putfield 22, 3) := by decide +kernel
theorem dX7_init_44 : decode cX7_init 44 = .ok (.aload_n 0, 1) := by decide +kernel
theorem dX7_init_45 : decode cX7_init 45 = .ok (.bipush 8, 2) := by decide +kernel
theorem dX7_init_47 : decode cX7_init 47 = .ok (.newarray .int, 2) := by decide +kernel
theorem dX7_init_49 : decode cX7_init 49 = .ok (.putfield 25, 3) := by decide +kernel
theorem dX7_init_52 : decode cX7_init 52 = .ok (.aload_n 0, 1) := by decide +kernel
theorem dX7_init_53 : decode cX7_init 53 = .ok (.bipush 8, 2) := by decide +kernel
theorem dX7_init_55 : decode cX7_init 55 = .ok (.newarray .int, 2) := by decide +kernel
theorem dX7_init_57 : decode cX7_init 57 = .ok (.putfield 28, 3) := by decide +kernel
theorem dX7_init_60 : decode cX7_init 60 = .ok (.aload_n 0, 1) := by decide +kernel
theorem dX7_init_61 : decode cX7_init 61 = .ok (.bipush 8, 2) := by decide +kernel
theorem dX7_init_63 : decode cX7_init 63 = .ok (.newarray .int, 2) := by decide +kernel
theorem dX7_init_65 : decode cX7_init 65 = .ok (.putfield 31, 3) := by decide +kernel
theorem dX7_init_68 : decode cX7_init 68 = .ok (.aload_n 0, 1) := by decide +kernel
theorem dX7_init_69 : decode cX7_init 69 = .ok (.bipush 8, 2) := by decide +kernel
theorem dX7_init_71 : decode cX7_init 71 = .ok (.newarray .int, 2) := by decide +kernel
theorem dX7_init_73 : decode cX7_init 73 = .ok (.putfield 34, 3) := by decide +kernel
theorem dX7_init_76 : decode cX7_init 76 = .ok (.aload_n 0, 1) := by decide +kernel
theorem dX7_init_77 : decode cX7_init 77 = .ok (.bipush 8, 2) := by decide +kernel
theorem dX7_init_79 : decode cX7_init 79 = .ok (.newarray .int, 2) := by decide +kernel
theorem dX7_init_81 : decode cX7_init 81 = .ok (.putfield 37, 3) := by decide +kernel
theorem dX7_init_84 : decode cX7_init 84 = .ok (.aload_n 0, 1) := by decide +kernel
theorem dX7_init_85 : decode cX7_init 85 = .ok (.iconst 2, 1) := by decide +kernel
theorem dX7_init_86 : decode cX7_init 86 = .ok (.newarray .int, 2) := by decide +kernel
theorem dX7_init_88 : decode cX7_init 88 = .ok (.putfield 40, 3) := by decide +kernel
theorem dX7_init_91 : decode cX7_init 91 = .ok (.aload_n 0, 1) := by decide +kernel
theorem dX7_init_92 : decode cX7_init 92 = .ok (.iconst 2, 1) := by decide +kernel
theorem dX7_init_93 : decode cX7_init 93 = .ok (.newarray .int, 2) := by decide +kernel
theorem dX7_init_95 : decode cX7_init 95 = .ok (.putfield 43, 3) := by decide +kernel
theorem dX7_init_98 : decode cX7_init 98 = .ok (.aload_n 0, 1) := by decide +kernel
theorem dX7_init_99 : decode cX7_init 99 = .ok (.iconst 2, 1) := by decide +kernel
theorem dX7_init_100 : decode cX7_init 100 = .ok (.newarray .int, 2) := by decide +kernel
theorem dX7_init_102 : decode cX7_init 102 = .ok (.putfield 46, 3) := by decide +kernel
theorem dX7_init_105 : decode cX7_init 105 = .ok (.aload_n 0, 1) := by decide +kernel
theorem dX7_init_106 : decode cX7_init 106 = .ok (.iconst 2, 1) := by decide +kernel
theorem dX7_init_107 : decode cX7_init 107 = .ok (.newarray .int, 2) := by decide +kernel
theorem dX7_init_109 : decode cX7_init 109 = .ok (.putfield 49, 3) := by decide +kernel
theorem dX7_init_112 : decode cX7_init 112 = .ok (.aload_n 0, 1) := by decide +kernel
theorem dX7_init_113 : decode cX7_init 113 = .ok (.iconst 2, 1) := by decide +kernel
theorem dX7_init_114 : decode cX7_init 114 = .ok (.newarray .int, 2) := by decide +kernel
theorem dX7_init_116 : decode cX7_init 116 = .ok (.putfield 52, 3) := by decide +kernel
theorem dX7_init_119 : decode cX7_init 119 = .ok (.aload_n 0, 1) := by decide +kernel
theorem dX7_init_120 : decode cX7_init 120 = .ok (.bipush 96, 2) := by decide +kernel
theorem dX7_init_122 : decode cX7_init 122 = .ok (.newarray .int, 2) := by decide +kernel
theorem dX7_init_124 : decode cX7_init 124 = .ok (.putfield 55, 3) := by decide +kernel
theorem dX7_init_127 : decode cX7_init 127 = .ok (.aload_n 0, 1) := by decide +kernel
theorem dX7_init_128 : decode cX7_init 128 = .ok (.bipush 48, 2) := by decide +kernel
theorem dX7_init_130 : decode cX7_init 130 = .ok (.newarray .int, 2) := by decide +kernel
theorem dX7_init_132 : decode cX7_init 132 = .ok (.putfield 58, 3) := by decide +kernel
theorem dX7_init_135 : decode cX7_init 135 = .ok (.aload_n 0, 1) := by decide +kernel
theorem dX7_init_136 : decode cX7_init 136 = .ok (.bipush 48, 2) := by decide +kernel
theorem dX7_init_138 : decode cX7_init 138 = .ok (.newarray .int, 2) := by decide +kernel
theorem dX7_init_140 : decode cX7_init 140 = .ok (.putfield 61, 3) := by decide +kernel
theorem dX7_init_143 : decode cX7_init 143 = .ok (.aload_n 0, 1) := by decide +kernel
theorem dX7_init_144 : decode cX7_init 144 = .ok (.sipush 240, 3) := by decide +kernel
theorem dX7_init_147 : decode cX7_init 147 = .ok (.newarray .int, 2) := by decide +kernel
theorem dX7_init_149 : decode cX7_init 149 = .ok (.putfield 64, 3) := by decide +kernel
theorem dX7_init_152 : decode cX7_init 152 = .ok (.aload_n 0, 1) := by decide +kernel
theorem dX7_init_153 : decode cX7_init 153 = .ok (.sipush 300, 3) := by decide +kernel
theorem dX7_init_156 : decode cX7_init 156 = .ok (.newarray .int, 2) := by decide +kernel
theorem dX7_init_158 : decode cX7_init 158 = .ok (.putfield 67, 3) := by decide +kernel
theorem dX7_init_161 : decode cX7_init 161 = .ok (.aload_n 0, 1) := by decide +kernel
theorem dX7_init_162 : decode cX7_init 162 = .ok (.bipush 8, 2) := by decide +kernel
theorem dX7_init_164 : decode cX7_init 164 = .ok (.newarray .int, 2) := by decide +kernel
theorem dX7_init_166 : decode cX7_init 166 = .ok (.putfield 70, 3) := by decide +kernel
theorem dX7_init_169 : decode cX7_init 169 = .ok (.aload_n 0, 1) := by decide +kernel
theorem dX7_init_170 : decode cX7_init 170 = .ok (.bipush 12, 2) := by decide +kernel
theorem dX7_init_172 : decode cX7_init 172 = .ok (.newarray .int, 2) := by decide +kernel
theorem dX7_init_174 : decode cX7_init 174 = .ok (.putfield 73, 3) := by decide +kernel
theorem dX7_init_177 : decode cX7_init 177 = .ok (.aload_n 0, 1) := by decide +kernel
theorem dX7_init_178 : decode cX7_init 178 = .ok (.getfield 13, 3) := by decide +kernel
theorem dX7_init_181 : decode cX7_init 181 = .ok (.iconst 0, 1) := by decide +kernel
theorem dX7_init_182 : decode cX7_init 182 = .ok (.bipush 8, 2) := by decide +kernel
theorem dX7_init_184 : decode cX7_init 184 = .ok (.iastore, 1) := by decide +kernel
theorem dX7_init_185 : decode cX7_init 185 = .ok (.aload_n 0, 1) := by decide +kernel
theorem dX7_init_186 : decode cX7_init 186 = .ok (.getfield 13, 3) := by decide +kernel
theorem dX7_init_189 : decode cX7_init 189 = .ok (.iconst 1, 1) := by decide +kernel
theorem dX7_init_190 : decode cX7_init 190 = .ok (.iconst 1, 1) := by decide +kernel
theorem dX7_init_191 : decode cX7_init 191 = .ok (.iastore, 1) := by decide +kernel
theorem dX7_init_192 : decode cX7_init 192 = .ok (.aload_n 0, 1) := by decide +kernel
theorem dX7_init_193 : decode cX7_init 193 = .ok (.getfield 13, 3) := by decide +kernel
theorem dX7_init_196 : decode cX7_init 196 = .ok (.iconst 2, 1) := by decide +kernel
theorem dX7_init_197 : decode cX7_init 197 = .ok (.iconst 4, 1) := by decide +kernel
theorem dX7_init_198 : decode cX7_init 198 = .ok (.iastore, 1) := by decide +kernel
theorem dX7_init_199 : decode cX7_init 199 = .ok (.aload_n 0, 1) := by decide +kernel
theorem dX7_init_200 : decode cX7_init 200 = .ok (.getfield 13, 3) := by decide +kernel
theorem dX7_init_203 : decode cX7_init 203 = .ok (.iconst 3, 1) := by decide +kernel
theorem dX7_init_204 : decode cX7_init 204 = .ok (.iconst 3, 1) := by decide +kernel
theorem dX7_init_205 : decode cX7_init 205 = .ok (.iastore, 1) := by decide +kernel
theorem dX7_init_206 : decode cX7_init 206 = .ok (.aload_n 0, 1) := by decide +kernel
theorem dX7_init_207 : decode cX7_init 207 = .ok (.getfield 13, 3) := by decide +kernel
theorem dX7_init_210 : decode cX7_init 210 = .ok (.iconst 4, 1) := by decide +kernel
theorem dX7_init_211 : decode cX7_init 211 = .ok (.iconst 1, 1) := by decide +kernel
theorem dX7_init_212 : decode cX7_init 212 = .ok (.iastore, 1) := by decide +kernel
theorem dX7_init_213 : decode cX7_init 213 = .ok (.aload_n 0, 1) := by decide +kernel
theorem dX7_init_214 : decode cX7_init 214 = .ok (.getfield 13, 3) := by decide +kernel
theorem dX7_init_217 : decode cX7_init 217 = .ok (.iconst 5, 1) := by decide +kernel
theorem dX7_init_218 : decode cX7_init 218 = .ok (.iconst 2, 1) := by decide +kernel
theorem dX7_init_219 : decode cX7_init 219 = .ok (.iastore, 1) := by decide +kernel
theorem dX7_init_220 : decode cX7_init 220 = .ok (.aload_n 0, 1) := by decide +kernel
theorem dX7_init_221 : decode cX7_init 221 = .ok (.getfield 13, 3) := by decide +kernel
theorem dX7_init_224 : decode cX7_init 224 = .ok (.bipush 6, 2) := by decide +kernel
theorem dX7_init_226 : decode cX7_init 226 = .ok (.iconst 3, 1) := by decide +kernel
theorem dX7_init_227 : decode cX7_init 227 = .ok (.iastore, 1) := by decide +kernel
theorem dX7_init_228 : decode cX7_init 228 = .ok (.aload_n 0, 1) := by decide +kernel
theorem dX7_init_229 : decode cX7_init 229 = .ok (.getfield 13, 3) := by decide +kernel
theorem dX7_init_232 : decode cX7_init 232 = .ok (.bipush 7, 2) := by decide +kernel
theorem dX7_init_234 : decode cX7_init 234 = .ok (.iconst 1, 1) := by decide +kernel
theorem dX7_init_235 : decode cX7_init 235 = .ok (.iastore, 1) := by decide +kernel
theorem dX7_init_236 : decode cX7_init 236 = .ok (.return_, 1) := by decide +kernel
theorem dX7_no_0 : decode cX7_no 0 = .ok (.aload_n 0, 1) := by decide +kernel
theorem dX7_no_1 : decode cX7_no 1 = .ok (.getfield 7, 3) := by decide +kernel
theorem dX7_no_4 : decode cX7_no 4 = .ok (.iload_n 1, 1) := by decide +kernel
theorem dX7_no_5 : decode cX7_no 5 = .ok (.ineg, 1) := by decide +kernel
theorem dX7_no_6 : decode cX7_no 6 = .ok (.dup2, 1) := by decide +kernel
theorem dX7_no_7 : decode cX7_no 7 = .ok (.iaload, 1) := by decide +kernel
theorem dX7_no_8 : decode cX7_no 8 = .ok (.iconst 1, 1) := by decide +kernel
theorem dX7_no_9 : decode cX7_no 9 = .ok (.iadd, 1) := by decide +kernel
theorem dX7_no_10 : decode cX7_no 10 = .ok (.iastore, 1) := by decide +kernel
theorem dX7_no_11 : decode cX7_no 11 = .ok (.iload_n 1, 1) := by decide +kernel
theorem dX7_no_12 : decode cX7_no 12 = .ok (.ireturn, 1) := by decide +kernel
theorem dX7_lower_0 : decode cX7_lower 0 = .ok (.aload_n 0, 1) := by decide +kernel
theorem dX7_lower_1 : decode cX7_lower 1 = .ok (.getfield 7, 3) := by decide +kernel
theorem dX7_lower_4 : decode cX7_lower 4 = .ok (.iload_n 1, 1) := by decide +kernel
theorem dX7_lower_5 : decode cX7_lower 5 = .ok (.ineg, 1) := by decide +kernel
theorem dX7_lower_6 : decode cX7_lower 6 = .ok (.dup2, 1) := by decide +kernel
theorem dX7_lower_7 : decode cX7_lower 7 = .ok (.iaload, 1) := by decide +kernel
theorem dX7_lower_8 : decode cX7_lower 8 = .ok (.iconst 1, 1) := by decide +kernel
theorem dX7_lower_9 : decode cX7_lower 9 = .ok (.iadd, 1) := by decide +kernel
theorem dX7_lower_10 : decode cX7_lower 10 = .ok (.iastore, 1) := by decide +kernel
theorem dX7_lower_11 : decode cX7_lower 11 = .ok (.ldc 76, 2) := by decide +kernel
theorem dX7_lower_13 : decode cX7_lower 13 = .ok (.iload_n 1, 1) := by decide +kernel
theorem dX7_lower_14 : decode cX7_lower 14 = .ok (.isub, 1) := by decide +kernel
theorem dX7_lower_15 : decode cX7_lower 15 = .ok (.ireturn, 1) := by decide +kernel
theorem dX7_isIn_0 : decode cX7_isIn 0 = .ok (.iload_n 0, 1) := by decide +kernel
theorem dX7_isIn_1 : decode cX7_isIn 1 = .ok (.iload_n 1, 1) := by decide +kernel
theorem dX7_isIn_2 : decode cX7_isIn 2 = .ok (.if_icmp .lt 12, 3) := by decide +kernel
theorem dX7_isIn_5 : decode cX7_isIn 5 = .ok (.iload_n 0, 1) := by decide +kernel
theorem dX7_isIn_6 : decode cX7_isIn 6 = .ok (.iload_n 2, 1) := by decide +kernel
theorem dX7_isIn_7 : decode cX7_isIn 7 = .ok (.if_icmp .gt 7, 3) := by decide +kernel
theorem dX7_isIn_10 : decode cX7_isIn 10 = .ok (.iconst 1, 1) := by decide +kernel
theorem dX7_isIn_11 : decode cX7_isIn 11 = .ok (.goto 4, 3) := by decide +kernel
theorem dX7_isIn_14 : decode cX7_isIn 14 = .ok (.iconst 0, 1) := by decide +kernel
theorem dX7_isIn_15 : decode cX7_isIn 15 = .ok (.ireturn, 1) := by decide +kernel
theorem dX7_bound_0 : decode cX7_bound 0 = .ok (.iload_n 0, 1) := by decide +kernel
theorem dX7_bound_1 : decode cX7_bound 1 = .ok (.iload_n 1, 1) := by decide +kernel
theorem dX7_bound_2 : decode cX7_bound 2 = .ok (.if_icmp .ge 8, 3) := by decide +kernel
theorem dX7_bound_5 : decode cX7_bound 5 = .ok (.bipush (-4), 2) := by decide +kernel
theorem dX7_bound_7 : decode cX7_bound 7 = .ok (.goto 14, 3) := by decide +kernel
theorem dX7_bound_10 : decode cX7_bound 10 = .ok (.iload_n 0, 1) := by decide +kernel
theorem dX7_bound_11 : decode cX7_bound 11 = .ok (.iload_n 2, 1) := by decide +kernel
theorem dX7_bound_12 : decode cX7_bound 12 = .ok (.if_icmp .le 8, 3) := by decide +kernel
theorem dX7_bound_15 : decode cX7_bound 15 = .ok (.bipush (-6), 2) := by decide +kernel
theorem dX7_bound_17 : decode cX7_bound 17 = .ok (.goto 4, 3) := by decide +kernel
theorem dX7_bound_20 : decode cX7_bound 20 = .ok (.iconst 0, 1) := by decide +kernel
theorem dX7_bound_21 : decode cX7_bound 21 = .ok (.ireturn, 1) := by decide +kernel
theorem dX7_leastOf_0 : decode cX7_leastOf 0 = .ok (.iload_n 0, 1) := by decide +kernel
theorem dX7_leastOf_1 : decode cX7_leastOf 1 = .ok (.ifCond .ne 7, 3) := by decide +kernel
theorem dX7_leastOf_4 : decode cX7_leastOf 4 = .ok (.iconst 2, 1) := by decide +kernel
theorem dX7_leastOf_5 : decode cX7_leastOf 5 = .ok (.goto 24, 3) := by decide +kernel
theorem dX7_leastOf_8 : decode cX7_leastOf 8 = .ok (.iload_n 0, 1) := by decide +kernel
theorem dX7_leastOf_9 : decode cX7_leastOf 9 = .ok (.iconst 2, 1) := by decide +kernel
theorem dX7_leastOf_10 : decode cX7_leastOf 10 = .ok (.if_icmp .eq 14, 3) := by decide +kernel
theorem dX7_leastOf_13 : decode cX7_leastOf 13 = .ok (.iload_n 0, 1) := by decide +kernel
theorem dX7_leastOf_14 : decode cX7_leastOf 14 = .ok (.iconst 3, 1) := by decide +kernel
theorem dX7_leastOf_15 : decode cX7_leastOf 15 = .ok (.if_icmp .eq 9, 3) := by decide +kernel
theorem dX7_leastOf_18 : decode cX7_leastOf 18 = .ok (.iload_n 0, 1) := by decide +kernel
theorem dX7_leastOf_19 : decode cX7_leastOf 19 = .ok (.bipush 7, 2) := by decide +kernel
theorem dX7_leastOf_21 : decode cX7_leastOf 21 = .ok (.if_icmp .ne 7, 3) := by decide +kernel
theorem dX7_leastOf_24 : decode cX7_leastOf 24 = .ok (.iconst 1, 1) := by decide +kernel
theorem dX7_leastOf_25 : decode cX7_leastOf 25 = .ok (.goto 4, 3) := by decide +kernel
theorem dX7_leastOf_28 : decode cX7_leastOf 28 = .ok (.iconst 0, 1) := by decide +kernel
theorem dX7_leastOf_29 : decode cX7_leastOf 29 = .ok (.ireturn, 1) := by decide +kernel
theorem dX7_mostOf_0 : decode cX7_mostOf 0 = .ok (.iload_n 0, 1) := by decide +kernel
theorem dX7_mostOf_1 : decode cX7_mostOf 1 = .ok (.ifCond .eq 9, 3) := by decide +kernel
theorem dX7_mostOf_4 : decode cX7_mostOf 4 = .ok (.iload_n 0, 1) := by decide +kernel
theorem dX7_mostOf_5 : decode cX7_mostOf 5 = .ok (.bipush 6, 2) := by decide +kernel
theorem dX7_mostOf_7 : decode cX7_mostOf 7 = .ok (.if_icmp .ne 8, 3) := by decide +kernel
theorem dX7_mostOf_10 : decode cX7_mostOf 10 = .ok (.bipush 11, 2) := by decide +kernel
theorem dX7_mostOf_12 : decode cX7_mostOf 12 = .ok (.goto 25, 3) := by decide +kernel
theorem dX7_mostOf_15 : decode cX7_mostOf 15 = .ok (.iload_n 0, 1) := by decide +kernel
theorem dX7_mostOf_16 : decode cX7_mostOf 16 = .ok (.iconst 2, 1) := by decide +kernel
theorem dX7_mostOf_17 : decode cX7_mostOf 17 = .ok (.if_icmp .ne 8, 3) := by decide +kernel
theorem dX7_mostOf_20 : decode cX7_mostOf 20 = .ok (.bipush 20, 2) := by decide +kernel
theorem dX7_mostOf_22 : decode cX7_mostOf 22 = .ok (.goto 15, 3) := by decide +kernel
theorem dX7_mostOf_25 : decode cX7_mostOf 25 = .ok (.iload_n 0, 1) := by decide +kernel
theorem dX7_mostOf_26 : decode cX7_mostOf 26 = .ok (.bipush 7, 2) := by decide +kernel
theorem dX7_mostOf_28 : decode cX7_mostOf 28 = .ok (.if_icmp .ne 7, 3) := by decide +kernel
theorem dX7_mostOf_31 : decode cX7_mostOf 31 = .ok (.iconst 2, 1) := by decide +kernel
theorem dX7_mostOf_32 : decode cX7_mostOf 32 = .ok (.goto 5, 3) := by decide +kernel
theorem dX7_mostOf_35 : decode cX7_mostOf 35 = .ok (.bipush 9, 2) := by decide +kernel
theorem dX7_mostOf_37 : decode cX7_mostOf 37 = .ok (.ireturn, 1) := by decide +kernel
theorem dX7_isComer_0 : decode cX7_isComer 0 = .ok (.iload_n 1, 1) := by decide +kernel
theorem dX7_isComer_1 : decode cX7_isComer 1 = .ok (.ifCond .lt 15, 3) := by decide +kernel
theorem dX7_isComer_4 : decode cX7_isComer 4 = .ok (.iload_n 1, 1) := by decide +kernel
theorem dX7_isComer_5 : decode cX7_isComer 5 = .ok (.aload_n 0, 1) := by decide +kernel
theorem dX7_isComer_6 : decode cX7_isComer 6 = .ok (.getfield 77, 3) := by decide +kernel
theorem dX7_isComer_9 : decode cX7_isComer 9 = .ok (.if_icmp .ge 7, 3) := by decide +kernel
theorem dX7_isComer_12 : decode cX7_isComer 12 = .ok (.iconst 1, 1) := by decide +kernel
theorem dX7_isComer_13 : decode cX7_isComer 13 = .ok (.goto 4, 3) := by decide +kernel
theorem dX7_isComer_16 : decode cX7_isComer 16 = .ok (.iconst 0, 1) := by decide +kernel
theorem dX7_isComer_17 : decode cX7_isComer 17 = .ok (.ireturn, 1) := by decide +kernel
theorem dX7_feed_0 : decode cX7_feed 0 = .ok (.iload_n 1, 1) := by decide +kernel
theorem dX7_feed_1 : decode cX7_feed 1 = .ok (.iconst 0, 1) := by decide +kernel
theorem dX7_feed_2 : decode cX7_feed 2 = .ok (.sipush 255, 3) := by decide +kernel
theorem dX7_feed_5 : decode cX7_feed 5 = .ok (.invokestatic 81, 3) := by decide +kernel
theorem dX7_feed_8 : decode cX7_feed 8 = .ok (.istore_n 2, 1) := by decide +kernel
theorem dX7_feed_9 : decode cX7_feed 9 = .ok (.iload_n 2, 1) := by decide +kernel
theorem dX7_feed_10 : decode cX7_feed 10 = .ok (.ifCond .ne 15, 3) := by decide +kernel
theorem dX7_feed_13 : decode cX7_feed 13 = .ok (.aload_n 0, 1) := by decide +kernel
theorem dX7_feed_14 : decode cX7_feed 14 = .ok (.getfield 85, 3) := by decide +kernel
theorem dX7_feed_17 : decode cX7_feed 17 = .ok (.bipush 96, 2) := by decide +kernel
theorem dX7_feed_19 : decode cX7_feed 19 = .ok (.if_icmp .ne 6, 3) := by decide +kernel
theorem dX7_feed_22 : decode cX7_feed 22 = .ok (.bipush (-6), 2) := by decide +kernel
theorem dX7_feed_24 : decode cX7_feed 24 = .ok (.istore_n 2, 1) := by decide +kernel
theorem dX7_feed_25 : decode cX7_feed 25 = .ok (.iload_n 2, 1) := by decide +kernel
theorem dX7_feed_26 : decode cX7_feed 26 = .ok (.ifCond .eq 9, 3) := by decide +kernel
theorem dX7_feed_29 : decode cX7_feed 29 = .ok (.aload_n 0, 1) := by decide +kernel
theorem dX7_feed_30 : decode cX7_feed 30 = .ok (.iload_n 2, 1) := by decide +kernel
theorem dX7_feed_31 : decode cX7_feed 31 = .ok (.invokevirtual 88, 3) := by decide +kernel
theorem dX7_feed_34 : decode cX7_feed 34 = .ok (.ireturn, 1) := by decide +kernel
theorem dX7_feed_35 : decode cX7_feed 35 = .ok (.aload_n 0, 1) := by decide +kernel
theorem dX7_feed_36 : decode cX7_feed 36 = .ok (.getfield 55, 3) := by decide +kernel
theorem dX7_feed_39 : decode cX7_feed 39 = .ok (.aload_n 0, 1) := by decide +kernel
theorem dX7_feed_40 : decode cX7_feed 40 = .ok (.getfield 85, 3) := by decide +kernel
theorem dX7_feed_43 : decode cX7_feed 43 = .ok (.iload_n 1, 1) := by decide +kernel
theorem dX7_feed_44 : decode cX7_feed 44 = .ok (.iastore, 1) := by decide +kernel
theorem dX7_feed_45 : decode cX7_feed 45 = .ok (.aload_n 0, 1) := by decide +kernel
theorem dX7_feed_46 : decode cX7_feed 46 = .ok (.dup, 1) := by decide +kernel
theorem dX7_feed_47 : decode cX7_feed 47 = .ok (.getfield 85, 3) := by decide +kernel
theorem dX7_feed_50 : decode cX7_feed 50 = .ok (.iconst 1, 1) := by decide +kernel
theorem dX7_feed_51 : decode cX7_feed 51 = .ok (.iadd, 1) := by decide +kernel
theorem dX7_feed_52 : decode cX7_feed 52 = .ok (.putfield 85, 3) := by decide +kernel
theorem dX7_feed_55 : decode cX7_feed 55 = .ok (.aload_n 0, 1) := by decide +kernel
theorem dX7_feed_56 : decode cX7_feed 56 = .ok (.getfield 85, 3) := by decide +kernel
theorem dX7_feed_59 : decode cX7_feed 59 = .ok (.ireturn, 1) := by decide +kernel
theorem dX7_next_0 : decode cX7_next 0 = .ok (.aload_n 0, 1) := by decide +kernel
theorem dX7_next_1 : decode cX7_next 1 = .ok (.getfield 92, 3) := by decide +kernel
theorem dX7_next_4 : decode cX7_next 4 = .ok (.aload_n 0, 1) := by decide +kernel
theorem dX7_next_5 : decode cX7_next 5 = .ok (.getfield 85, 3) := by decide +kernel
theorem dX7_next_8 : decode cX7_next 8 = .ok (.if_icmp .ge 15, 3) := by decide +kernel
theorem dX7_next_11 : decode cX7_next 11 = .ok (.aload_n 0, 1) := by decide +kernel
theorem dX7_next_12 : decode cX7_next 12 = .ok (.getfield 55, 3) := by decide +kernel
theorem dX7_next_15 : decode cX7_next 15 = .ok (.aload_n 0, 1) := by decide +kernel
theorem dX7_next_16 : decode cX7_next 16 = .ok (.getfield 92, 3) := by decide +kernel
theorem dX7_next_19 : decode cX7_next 19 = .ok (.iaload, 1) := by decide +kernel
theorem dX7_next_20 : decode cX7_next 20 = .ok (.goto 4, 3) := by decide +kernel
theorem dX7_next_23 : decode cX7_next 23 = .ok (.iconst (-1), 1) := by decide +kernel
theorem dX7_next_24 : decode cX7_next 24 = .ok (.ireturn, 1) := by decide +kernel
theorem dX7_readsNumber_0 : decode cX7_readsNumber 0 = .ok (.iconst 0, 1) := by decide +kernel
theorem dX7_readsNumber_1 : decode cX7_readsNumber 1 = .ok (.istore 4, 2) := by decide +kernel
theorem dX7_readsNumber_3 : decode cX7_readsNumber 3 = .ok (.iconst 0, 1) := by decide +kernel
theorem dX7_readsNumber_4 : decode cX7_readsNumber 4 = .ok (.istore 5, 2) := by decide +kernel
theorem dX7_readsNumber_6 : decode cX7_readsNumber 6 = .ok (.iload 5, 2) := by decide +kernel
theorem dX7_readsNumber_8 : decode cX7_readsNumber 8 = .ok (.iload_n 3, 1) := by decide +kernel
theorem dX7_readsNumber_9 : decode cX7_readsNumber 9 = .ok (.if_icmp .ge 48, 3) := by decide +kernel
theorem dX7_readsNumber_12 : decode cX7_readsNumber 12 = .ok (.aload_n 0, 1) := by decide +kernel
theorem dX7_readsNumber_13 : decode cX7_readsNumber 13 = .ok (.invokevirtual 95, 3) := by decide +kernel
theorem dX7_readsNumber_16 : decode cX7_readsNumber 16 = .ok (.bipush 48, 2) := by decide +kernel
theorem dX7_readsNumber_18 : decode cX7_readsNumber 18 = .ok (.bipush 57, 2) := by decide +kernel
theorem dX7_readsNumber_20 : decode cX7_readsNumber 20 = .ok (.invokestatic 99, 3) := by decide +kernel
theorem dX7_readsNumber_23 : decode cX7_readsNumber 23 = .ok (.ifCond .eq 34, 3) := by decide +kernel
theorem dX7_readsNumber_26 : decode cX7_readsNumber 26 = .ok (.bipush 10, 2) := by decide +kernel
theorem dX7_readsNumber_28 : decode cX7_readsNumber 28 = .ok (.iload 4, 2) := by decide +kernel
theorem dX7_readsNumber_30 : decode cX7_readsNumber 30 = .ok (.imul, 1) := by decide +kernel
theorem dX7_readsNumber_31 : decode cX7_readsNumber 31 = .ok (.aload_n 0, 1) := by decide +kernel
theorem dX7_readsNumber_32 : decode cX7_readsNumber 32 = .ok (.invokevirtual 95, 3) := by decide +kernel
theorem dX7_readsNumber_35 : decode cX7_readsNumber 35 = .ok (.iadd, 1) := by decide +kernel
theorem dX7_readsNumber_36 : decode cX7_readsNumber 36 = .ok (.bipush 48, 2) := by decide +kernel
theorem dX7_readsNumber_38 : decode cX7_readsNumber 38 = .ok (.isub, 1) := by decide +kernel
theorem dX7_readsNumber_39 : decode cX7_readsNumber 39 = .ok (.istore 4, 2) := by decide +kernel
theorem dX7_readsNumber_41 : decode cX7_readsNumber 41 = .ok (.aload_n 0, 1) := by decide +kernel
theorem dX7_readsNumber_42 : decode cX7_readsNumber 42 = .ok (.dup, 1) := by decide +kernel
theorem dX7_readsNumber_43 : decode cX7_readsNumber 43 = .ok (.getfield 92, 3) := by decide +kernel
theorem dX7_readsNumber_46 : decode cX7_readsNumber 46 = .ok (.iconst 1, 1) := by decide +kernel
theorem dX7_readsNumber_47 : decode cX7_readsNumber 47 = .ok (.iadd, 1) := by decide +kernel
theorem dX7_readsNumber_48 : decode cX7_readsNumber 48 = .ok (.putfield 92, 3) := by decide +kernel
theorem dX7_readsNumber_51 : decode cX7_readsNumber 51 = .ok (.iinc 5 1, 3) := by decide +kernel
theorem dX7_readsNumber_54 : decode cX7_readsNumber 54 = .ok (.goto (-48), 3) := by decide +kernel
theorem dX7_readsNumber_57 : decode cX7_readsNumber 57 = .ok (.aload_n 0, 1) := by decide +kernel
theorem dX7_readsNumber_58 : decode cX7_readsNumber 58 = .ok (.getfield 64, 3) := by decide +kernel
theorem dX7_readsNumber_61 : decode cX7_readsNumber 61 = .ok (.iload_n 1, 1) := by decide +kernel
theorem dX7_readsNumber_62 : decode cX7_readsNumber 62 = .ok (.iload 4, 2) := by decide +kernel
theorem dX7_readsNumber_64 : decode cX7_readsNumber 64 = .ok (.iastore, 1) := by decide +kernel
theorem dX7_readsNumber_65 : decode cX7_readsNumber 65 = .ok (.iload 5, 2) := by decide +kernel
theorem dX7_readsNumber_67 : decode cX7_readsNumber 67 = .ok (.iload_n 2, 1) := by decide +kernel
theorem dX7_readsNumber_68 : decode cX7_readsNumber 68 = .ok (.if_icmp .lt 7, 3) := by decide +kernel
theorem dX7_readsNumber_71 : decode cX7_readsNumber 71 = .ok (.iconst 1, 1) := by decide +kernel
theorem dX7_readsNumber_72 : decode cX7_readsNumber 72 = .ok (.goto 4, 3) := by decide +kernel
theorem dX7_readsNumber_75 : decode cX7_readsNumber 75 = .ok (.iconst 0, 1) := by decide +kernel
theorem dX7_readsNumber_76 : decode cX7_readsNumber 76 = .ok (.ireturn, 1) := by decide +kernel
theorem dX7_readsSetting_0 : decode cX7_readsSetting 0 = .ok (.aload_n 0, 1) := by decide +kernel
theorem dX7_readsSetting_1 : decode cX7_readsSetting 1 = .ok (.iload_n 1, 1) := by decide +kernel
theorem dX7_readsSetting_2 : decode cX7_readsSetting 2 = .ok (.iconst 1, 1) := by decide +kernel
theorem dX7_readsSetting_3 : decode cX7_readsSetting 3 = .ok (.iconst 1, 1) := by decide +kernel
theorem dX7_readsSetting_4 : decode cX7_readsSetting 4 = .ok (.invokevirtual 103, 3) := by decide +kernel
theorem dX7_readsSetting_7 : decode cX7_readsSetting 7 = .ok (.ifCond .eq 12, 3) := by decide +kernel
theorem dX7_readsSetting_10 : decode cX7_readsSetting 10 = .ok (.aload_n 0, 1) := by decide +kernel
theorem dX7_readsSetting_11 : decode cX7_readsSetting 11 = .ok (.invokevirtual 95, 3) := by decide +kernel
theorem dX7_readsSetting_14 : decode cX7_readsSetting 14 = .ok (.bipush 61, 2) := by decide +kernel
theorem dX7_readsSetting_16 : decode cX7_readsSetting 16 = .ok (.if_icmp .eq 5, 3) := by decide +kernel
theorem dX7_readsSetting_19 : decode cX7_readsSetting 19 = .ok (.iconst 0, 1) := by decide +kernel
theorem dX7_readsSetting_20 : decode cX7_readsSetting 20 = .ok (.ireturn, 1) := by decide +kernel
theorem dX7_readsSetting_21 : decode cX7_readsSetting 21 = .ok (.aload_n 0, 1) := by decide +kernel
theorem dX7_readsSetting_22 : decode cX7_readsSetting 22 = .ok (.dup, 1) := by decide +kernel
theorem dX7_readsSetting_23 : decode cX7_readsSetting 23 = .ok (.getfield 92, 3) := by decide +kernel
theorem dX7_readsSetting_26 : decode cX7_readsSetting 26 = .ok (.iconst 1, 1) := by decide +kernel
theorem dX7_readsSetting_27 : decode cX7_readsSetting 27 = .ok (.iadd, 1) := by decide +kernel
theorem dX7_readsSetting_28 : decode cX7_readsSetting 28 = .ok (.putfield 92, 3) := by decide +kernel
theorem dX7_readsSetting_31 : decode cX7_readsSetting 31 = .ok (.aload_n 0, 1) := by decide +kernel
theorem dX7_readsSetting_32 : decode cX7_readsSetting 32 = .ok (.iload_n 1, 1) := by decide +kernel
theorem dX7_readsSetting_33 : decode cX7_readsSetting 33 = .ok (.iconst 1, 1) := by decide +kernel
theorem dX7_readsSetting_34 : decode cX7_readsSetting 34 = .ok (.iadd, 1) := by decide +kernel
theorem dX7_readsSetting_35 : decode cX7_readsSetting 35 = .ok (.iconst 1, 1) := by decide +kernel
theorem dX7_readsSetting_36 : decode cX7_readsSetting 36 = .ok (.iconst 2, 1) := by decide +kernel
theorem dX7_readsSetting_37 : decode cX7_readsSetting 37 = .ok (.invokevirtual 103, 3) := by decide +kernel
theorem dX7_readsSetting_40 : decode cX7_readsSetting 40 = .ok (.ireturn, 1) := by decide +kernel
theorem dX7_readsComer_0 : decode cX7_readsComer 0 = .ok (.aload_n 0, 1) := by decide +kernel
theorem dX7_readsComer_1 : decode cX7_readsComer 1 = .ok (.iload_n 1, 1) := by decide +kernel
theorem dX7_readsComer_2 : decode cX7_readsComer 2 = .ok (.iconst 1, 1) := by decide +kernel
theorem dX7_readsComer_3 : decode cX7_readsComer 3 = .ok (.iconst 1, 1) := by decide +kernel
theorem dX7_readsComer_4 : decode cX7_readsComer 4 = .ok (.invokevirtual 103, 3) := by decide +kernel
theorem dX7_readsComer_7 : decode cX7_readsComer 7 = .ok (.ifCond .eq 55, 3) := by decide +kernel
theorem dX7_readsComer_10 : decode cX7_readsComer 10 = .ok (.aload_n 0, 1) := by decide +kernel
theorem dX7_readsComer_11 : decode cX7_readsComer 11 = .ok (.iload_n 1, 1) := by decide +kernel
theorem dX7_readsComer_12 : decode cX7_readsComer 12 = .ok (.iconst 1, 1) := by decide +kernel
theorem dX7_readsComer_13 : decode cX7_readsComer 13 = .ok (.iadd, 1) := by decide +kernel
theorem dX7_readsComer_14 : decode cX7_readsComer 14 = .ok (.iconst 1, 1) := by decide +kernel
theorem dX7_readsComer_15 : decode cX7_readsComer 15 = .ok (.iconst 1, 1) := by decide +kernel
theorem dX7_readsComer_16 : decode cX7_readsComer 16 = .ok (.invokevirtual 103, 3) := by decide +kernel
theorem dX7_readsComer_19 : decode cX7_readsComer 19 = .ok (.ifCond .eq 43, 3) := by decide +kernel
theorem dX7_readsComer_22 : decode cX7_readsComer 22 = .ok (.aload_n 0, 1) := by decide +kernel
theorem dX7_readsComer_23 : decode cX7_readsComer 23 = .ok (.iload_n 1, 1) := by decide +kernel
theorem dX7_readsComer_24 : decode cX7_readsComer 24 = .ok (.iconst 2, 1) := by decide +kernel
theorem dX7_readsComer_25 : decode cX7_readsComer 25 = .ok (.iadd, 1) := by decide +kernel
theorem dX7_readsComer_26 : decode cX7_readsComer 26 = .ok (.iconst 3, 1) := by decide +kernel
theorem dX7_readsComer_27 : decode cX7_readsComer 27 = .ok (.iconst 3, 1) := by decide +kernel
theorem dX7_readsComer_28 : decode cX7_readsComer 28 = .ok (.invokevirtual 103, 3) := by decide +kernel
theorem dX7_readsComer_31 : decode cX7_readsComer 31 = .ok (.ifCond .eq 31, 3) := by decide +kernel
theorem dX7_readsComer_34 : decode cX7_readsComer 34 = .ok (.aload_n 0, 1) := by decide +kernel
theorem dX7_readsComer_35 : decode cX7_readsComer 35 = .ok (.iload_n 1, 1) := by decide +kernel
theorem dX7_readsComer_36 : decode cX7_readsComer 36 = .ok (.iconst 3, 1) := by decide +kernel
theorem dX7_readsComer_37 : decode cX7_readsComer 37 = .ok (.iadd, 1) := by decide +kernel
theorem dX7_readsComer_38 : decode cX7_readsComer 38 = .ok (.iconst 1, 1) := by decide +kernel
theorem dX7_readsComer_39 : decode cX7_readsComer 39 = .ok (.iconst 1, 1) := by decide +kernel
theorem dX7_readsComer_40 : decode cX7_readsComer 40 = .ok (.invokevirtual 103, 3) := by decide +kernel
theorem dX7_readsComer_43 : decode cX7_readsComer 43 = .ok (.ifCond .eq 19, 3) := by decide +kernel
theorem dX7_readsComer_46 : decode cX7_readsComer 46 = .ok (.aload_n 0, 1) := by decide +kernel
theorem dX7_readsComer_47 : decode cX7_readsComer 47 = .ok (.iload_n 1, 1) := by decide +kernel
theorem dX7_readsComer_48 : decode cX7_readsComer 48 = .ok (.iconst 4, 1) := by decide +kernel
theorem dX7_readsComer_49 : decode cX7_readsComer 49 = .ok (.iadd, 1) := by decide +kernel
theorem dX7_readsComer_50 : decode cX7_readsComer 50 = .ok (.iconst 2, 1) := by decide +kernel
theorem dX7_readsComer_51 : decode cX7_readsComer 51 = .ok (.iconst 2, 1) := by decide +kernel
theorem dX7_readsComer_52 : decode cX7_readsComer 52 = .ok (.invokevirtual 103, 3) := by decide +kernel
theorem dX7_readsComer_55 : decode cX7_readsComer 55 = .ok (.ifCond .eq 7, 3) := by decide +kernel
theorem dX7_readsComer_58 : decode cX7_readsComer 58 = .ok (.iconst 1, 1) := by decide +kernel
theorem dX7_readsComer_59 : decode cX7_readsComer 59 = .ok (.goto 4, 3) := by decide +kernel
theorem dX7_readsComer_62 : decode cX7_readsComer 62 = .ok (.iconst 0, 1) := by decide +kernel
theorem dX7_readsComer_63 : decode cX7_readsComer 63 = .ok (.ireturn, 1) := by decide +kernel
theorem dX7_statement_0 : decode cX7_statement 0 = .ok (.aload_n 0, 1) := by decide +kernel
theorem dX7_statement_1 : decode cX7_statement 1 = .ok (.invokevirtual 95, 3) := by decide +kernel
theorem dX7_statement_4 : decode cX7_statement 4 = .ok (.istore_n 1, 1) := by decide +kernel
theorem dX7_statement_5 : decode cX7_statement 5 = .ok (.iload_n 1, 1) := by decide +kernel
theorem dX7_statement_6 : decode cX7_statement 6 = .ok (.bipush 115, 2) := by decide +kernel
theorem dX7_statement_8 : decode cX7_statement 8 = .ok (.if_icmp .eq 17, 3) := by decide +kernel
theorem dX7_statement_11 : decode cX7_statement 11 = .ok (.iload_n 1, 1) := by decide +kernel
theorem dX7_statement_12 : decode cX7_statement 12 = .ok (.bipush 99, 2) := by decide +kernel
theorem dX7_statement_14 : decode cX7_statement 14 = .ok (.if_icmp .eq 11, 3) := by decide +kernel
theorem dX7_statement_17 : decode cX7_statement 17 = .ok (.iload_n 1, 1) := by decide +kernel
theorem dX7_statement_18 : decode cX7_statement 18 = .ok (.bipush 107, 2) := by decide +kernel
theorem dX7_statement_20 : decode cX7_statement 20 = .ok (.if_icmp .eq 5, 3) := by decide +kernel
theorem dX7_statement_23 : decode cX7_statement 23 = .ok (.iconst 0, 1) := by decide +kernel
theorem dX7_statement_24 : decode cX7_statement 24 = .ok (.ireturn, 1) := by decide +kernel
theorem dX7_statement_25 : decode cX7_statement 25 = .ok (.aload_n 0, 1) := by decide +kernel
theorem dX7_statement_26 : decode cX7_statement 26 = .ok (.getfield 58, 3) := by decide +kernel
theorem dX7_statement_29 : decode cX7_statement 29 = .ok (.aload_n 0, 1) := by decide +kernel
theorem dX7_statement_30 : decode cX7_statement 30 = .ok (.getfield 106, 3) := by decide +kernel
theorem dX7_statement_33 : decode cX7_statement 33 = .ok (.iload_n 1, 1) := by decide +kernel
theorem dX7_statement_34 : decode cX7_statement 34 = .ok (.iastore, 1) := by decide +kernel
theorem dX7_statement_35 : decode cX7_statement 35 = .ok (.aload_n 0, 1) := by decide +kernel
theorem dX7_statement_36 : decode cX7_statement 36 = .ok (.getfield 61, 3) := by decide +kernel
theorem dX7_statement_39 : decode cX7_statement 39 = .ok (.aload_n 0, 1) := by decide +kernel
theorem dX7_statement_40 : decode cX7_statement 40 = .ok (.getfield 106, 3) := by decide +kernel
theorem dX7_statement_43 : decode cX7_statement 43 = .ok (.aload_n 0, 1) := by decide +kernel
theorem dX7_statement_44 : decode cX7_statement 44 = .ok (.getfield 92, 3) := by decide +kernel
theorem dX7_statement_47 : decode cX7_statement 47 = .ok (.iastore, 1) := by decide +kernel
theorem dX7_statement_48 : decode cX7_statement 48 = .ok (.aload_n 0, 1) := by decide +kernel
theorem dX7_statement_49 : decode cX7_statement 49 = .ok (.dup, 1) := by decide +kernel
theorem dX7_statement_50 : decode cX7_statement 50 = .ok (.getfield 92, 3) := by decide +kernel
theorem dX7_statement_53 : decode cX7_statement 53 = .ok (.iconst 1, 1) := by decide +kernel
theorem dX7_statement_54 : decode cX7_statement 54 = .ok (.iadd, 1) := by decide +kernel
theorem dX7_statement_55 : decode cX7_statement 55 = .ok (.putfield 92, 3) := by decide +kernel
